theorem dX12_end_0 : decode cX12_end 0 = .ok (.iload_n 1, 1) := by decide +kernel
theorem dX12_end_1 : decode cX12_end 1 = .ok (.iconst 0, 1) := by decide +kernel
theorem dX12_end_2 : decode cX12_end 2 = .ok (.aload_n 0, 1) := by decide +kernel
theorem dX12_end_3 : decode cX12_end 3 = .ok (.getfield 174, 3) := by decide +kernel
theorem dX12_end_6 : decode cX12_end 6 = .ok (.invokestatic 106, 3) := by decide +kernel
theorem dX12_end_9 : decode cX12_end 9 = .ok (.ifCond .ne 5, 3) := by decide +kernel
theorem dX12_end_12 : decode cX12_end 12 = .ok (.iconst (-1), 1) := by decide +kernel
theorem dX12_end_13 : decode cX12_end 13 = .ok (.ireturn, 1) := by decide +kernel
theorem dX12_end_14 : decode cX12_end 14 = .ok (.aload_n 0, 1) := by decide +kernel
theorem dX12_end_15 : decode cX12_end 15 = .ok (.iload_n 1, 1) := by decide +kernel
theorem dX12_end_16 : decode cX12_end 16 = .ok (.putfield 174, 3) := by decide +kernel
theorem dX12_end_19 : decode cX12_end 19 = .ok (.iload_n 1, 1) := by decide +kernel
theorem dX12_end_20 : decode cX12_end 20 = .ok (.ireturn, 1) := by decide +kernel
set_option maxRecDepth 20000 in
theorem s_X12_end {w : Wd} {d : Nat} {P : Int → IM → LM → Prop} {i : IM} {l : LM} (p0 : Int)  (hd : 1 ≤ d) (h : ((rg p0) ∧ (((0 ≤ p0 ∧ p0 ≤ i 99 10) → P p0 (u2 i 99 10 p0) l) ∧ ((¬ (0 ≤ p0 ∧ p0 ≤ i 99 10)) → P (-1) i l)))) : gI w d X_X12_end P i l 0 [(0, vR (some 99)), (1, vI p0)] [] := by
  obtain ⟨ob2, h⟩ := h
  refine g_iload_n (pc' := 1) 1 dX12_end_0 rfl rfl ?_
  refine g_iconst (pc' := 2) dX12_end_1 rfl ?_
  refine g_aload_n (pc' := 3) 0 dX12_end_2 rfl rfl ?_
  refine g_getI (pc' := 6) (z := 10) rfl fl_X12_174 rfl rfl dX12_end_3 rfl (fun rg1 => ?_)
  refine g_pSI (pc' := 9) (vs := [vI p0, vI 0, vI (i 99 10)]) (st := []) (val := bI (0 ≤ p0 ∧ p0 ≤ i 99 10)) (sp_X12_lies (le_hd hd rfl) ob2 (rg_lit rfl) rg1) mk_X12_lies ms_X12_lies lk_X12_106 rfl (Nat.le_of_ble_eq_true rfl) (Nat.le_of_ble_eq_true rfl) rfl dX12_end_6 rfl z2 (fun rg3 => ?_)
  obtain ⟨hk6, hk7⟩ := h
  have hk6g : (0 ≤ p0 ∧ p0 ≤ i 99 10) → gI w d X_X12_end P i l 14 [(0, vR (some 99)), (1, vI p0)] [] := by
    intro hp
    have h := hk6 hp
    refine g_aload_n (pc' := 15) 0 dX12_end_14 rfl rfl ?_
    refine g_iload_n (pc' := 16) 1 dX12_end_15 rfl rfl ?_
    refine g_putI (pc' := 19) (z := 10) rfl fp_X12_174 rfl rfl ob2 dX12_end_16 rfl ?_
    refine g_iload_n (pc' := 20) 1 dX12_end_19 rfl rfl ?_
    exact g_retI rfl ob2 dX12_end_20 h
  have hk7g : (¬ (0 ≤ p0 ∧ p0 ≤ i 99 10)) → gI w d X_X12_end P i l 12 [(0, vR (some 99)), (1, vI p0)] [] := by
    intro hp
    have h := hk7 hp
    refine g_iconst (pc' := 13) dX12_end_12 rfl ?_
    exact g_retI rfl (rg_lit rfl) dX12_end_13 h
  refine g_if_ne (tgt := 14) (pc' := 12) rg3 (bI_eq _) dX12_end_9 rfl rfl (fun c5n => ?_) (fun c5 => ?_)
  · have c5 := Decidable.of_not_not c5n
    exact hk6g c5
  · exact hk7g c5
theorem e_X12_end {w : Wd} {d : Nat} {P : Int → IM → LM → Prop} {i : IM} {l : LM} {p0 : Int}  (h : gI w d X_X12_end P i l 0 [(0, vR (some 99)), (1, vI p0)] []) : cI w (d + 1) X_X12_end [vR (some 99), vI p0] i l P := CI_of (by decide +kernel) (Nat.le_of_ble_eq_true rfl) h

theorem dX12_wordOf_0 : decode cX12_wordOf 0 = .ok (.iconst 1, 1) := by decide +kernel
theorem dX12_wordOf_1 : decode cX12_wordOf 1 = .ok (.istore_n 3, 1) := by decide +kernel
theorem dX12_wordOf_2 : decode cX12_wordOf 2 = .ok (.iconst 0, 1) := by decide +kernel
theorem dX12_wordOf_3 : decode cX12_wordOf 3 = .ok (.istore 4, 2) := by decide +kernel
theorem dX12_wordOf_5 : decode cX12_wordOf 5 = .ok (.iload 4, 2) := by decide +kernel
theorem dX12_wordOf_7 : decode cX12_wordOf 7 = .ok (.aload_n 0, 1) := by decide +kernel
theorem dX12_wordOf_8 : decode cX12_wordOf 8 = .ok (.getfield 30, 3) := by decide +kernel
theorem dX12_wordOf_11 : decode cX12_wordOf 11 = .ok (.arraylength, 1) := by decide +kernel
theorem dX12_wordOf_12 : decode cX12_wordOf 12 = .ok (.if_icmp .ge 114, 3) := by decide +kernel
theorem dX12_wordOf_15 : decode cX12_wordOf 15 = .ok (.iconst 0, 1) := by decide +kernel
theorem dX12_wordOf_16 : decode cX12_wordOf 16 = .ok (.istore 5, 2) := by decide +kernel
theorem dX12_wordOf_18 : decode cX12_wordOf 18 = .ok (.aload_n 0, 1) := by decide +kernel
theorem dX12_wordOf_19 : decode cX12_wordOf 19 = .ok (.getfield 30, 3) := by decide +kernel
theorem dX12_wordOf_22 : decode cX12_wordOf 22 = .ok (.iload 4, 2) := by decide +kernel
theorem dX12_wordOf_24 : decode cX12_wordOf 24 = .ok (.iload 5, 2) := by decide +kernel
theorem dX12_wordOf_26 : decode cX12_wordOf 26 = .ok (.iadd, 1) := by decide +kernel
theorem dX12_wordOf_27 : decode cX12_wordOf 27 = .ok (.baload, 1) := by decide +kernel
theorem dX12_wordOf_28 : decode cX12_wordOf 28 = .ok (.bipush 32, 2) := by decide +kernel
theorem dX12_wordOf_30 : decode cX12_wordOf 30 = .ok (.if_icmp .eq 9, 3) := by decide +kernel
theorem dX12_wordOf_33 : decode cX12_wordOf 33 = .ok (.iinc 5 1, 3) := by decide +kernel
theorem dX12_wordOf_36 : decode cX12_wordOf 36 = .ok (.goto (-18), 3) := by decide +kernel
theorem dX12_wordOf_39 : decode cX12_wordOf 39 = .ok (.iload 5, 2) := by decide +kernel
theorem dX12_wordOf_41 : decode cX12_wordOf 41 = .ok (.iload_n 2, 1) := by decide +kernel
theorem dX12_wordOf_42 : decode cX12_wordOf 42 = .ok (.iload_n 1, 1) := by decide +kernel
theorem dX12_wordOf_43 : decode cX12_wordOf 43 = .ok (.isub, 1) := by decide +kernel
theorem dX12_wordOf_44 : decode cX12_wordOf 44 = .ok (.if_icmp .ne 7, 3) := by decide +kernel
theorem dX12_wordOf_47 : decode cX12_wordOf 47 = .ok (.iconst 1, 1) := by decide +kernel
theorem dX12_wordOf_48 : decode cX12_wordOf 48 = .ok (.goto 4, 3) := by decide +kernel
theorem dX12_wordOf_51 : decode cX12_wordOf 51 = .ok (.iconst 0, 1) := by decide +kernel
theorem dX12_wordOf_52 : decode cX12_wordOf 52 = .ok (.istore 6, 2) := by decide +kernel
theorem dX12_wordOf_54 : decode cX12_wordOf 54 = .ok (.iconst 0, 1) := by decide +kernel
theorem dX12_wordOf_55 : decode cX12_wordOf 55 = .ok (.istore 7, 2) := by decide +kernel
theorem dX12_wordOf_57 : decode cX12_wordOf 57 = .ok (.iload 7, 2) := by decide +kernel
theorem dX12_wordOf_59 : decode cX12_wordOf 59 = .ok (.iload 5, 2) := by decide +kernel
theorem dX12_wordOf_61 : decode cX12_wordOf 61 = .ok (.if_icmp .ge 43, 3) := by decide +kernel
theorem dX12_wordOf_64 : decode cX12_wordOf 64 = .ok (.iload 6, 2) := by decide +kernel
theorem dX12_wordOf_66 : decode cX12_wordOf 66 = .ok (.ifCond .eq 38, 3) := by decide +kernel
theorem dX12_wordOf_69 : decode cX12_wordOf 69 = .ok (.aload_n 0, 1) := by decide +kernel
theorem dX12_wordOf_70 : decode cX12_wordOf 70 = .ok (.getfield 30, 3) := by decide +kernel
theorem dX12_wordOf_73 : decode cX12_wordOf 73 = .ok (.iload 4, 2) := by decide +kernel
theorem dX12_wordOf_75 : decode cX12_wordOf 75 = .ok (.iload 7, 2) := by decide +kernel
theorem dX12_wordOf_77 : decode cX12_wordOf 77 = .ok (.iadd, 1) := by decide +kernel
theorem dX12_wordOf_78 : decode cX12_wordOf 78 = .ok (.baload, 1) := by decide +kernel
theorem dX12_wordOf_79 : decode cX12_wordOf 79 = .ok (.aload_n 0, 1) := by decide +kernel
theorem dX12_wordOf_80 : decode cX12_wordOf 80 = .ok (.getfield 34, 3) := by decide +kernel
theorem dX12_wordOf_83 : decode cX12_wordOf 83 = .ok (.iload_n 1, 1) := by decide +kernel
theorem dX12_wordOf_84 : decode cX12_wordOf 84 = .ok (.iload 7, 2) := by decide +kernel
theorem dX12_wordOf_86 : decode cX12_wordOf 86 = .ok (.iadd, 1) := by decide +kernel
theorem dX12_wordOf_87 : decode cX12_wordOf 87 = .ok (.baload, 1) := by decide +kernel
theorem dX12_wordOf_88 : decode cX12_wordOf 88 = .ok (.if_icmp .ne 7, 3) := by decide +kernel
theorem dX12_wordOf_91 : decode cX12_wordOf 91 = .ok (.iconst 1, 1) := by decide +kernel
theorem dX12_wordOf_92 : decode cX12_wordOf 92 = .ok (.goto 4, 3) := by decide +kernel
theorem dX12_wordOf_95 : decode cX12_wordOf 95 = .ok (.iconst 0, 1) := by decide +kernel
theorem dX12_wordOf_96 : decode cX12_wordOf 96 = .ok (.istore 6, 2) := by decide +kernel
theorem dX12_wordOf_98 : decode cX12_wordOf 98 = .ok (.iinc 7 1, 3) := by decide +kernel
theorem dX12_wordOf_101 : decode cX12_wordOf 101 = .ok (.goto (-44), 3) := by decide +kernel
theorem dX12_wordOf_104 : decode cX12_wordOf 104 = .ok (.iload 6, 2) := by decide +kernel
theorem dX12_wordOf_106 : decode cX12_wordOf 106 = .ok (.ifCond .eq 5, 3) := by decide +kernel
theorem dX12_wordOf_109 : decode cX12_wordOf 109 = .ok (.iload_n 3, 1) := by decide +kernel
theorem dX12_wordOf_110 : decode cX12_wordOf 110 = .ok (.ireturn, 1) := by decide +kernel
theorem dX12_wordOf_111 : decode cX12_wordOf 111 = .ok (.iload 4, 2) := by decide +kernel
theorem dX12_wordOf_113 : decode cX12_wordOf 113 = .ok (.iload 5, 2) := by decide +kernel
theorem dX12_wordOf_115 : decode cX12_wordOf 115 = .ok (.iconst 1, 1) := by decide +kernel
theorem dX12_wordOf_116 : decode cX12_wordOf 116 = .ok (.iadd, 1) := by decide +kernel
theorem dX12_wordOf_117 : decode cX12_wordOf 117 = .ok (.iadd, 1) := by decide +kernel
theorem dX12_wordOf_118 : decode cX12_wordOf 118 = .ok (.istore 4, 2) := by decide +kernel
theorem dX12_wordOf_120 : decode cX12_wordOf 120 = .ok (.iinc 3 1, 3) := by decide +kernel
theorem dX12_wordOf_123 : decode cX12_wordOf 123 = .ok (.goto (-118), 3) := by decide +kernel
theorem dX12_wordOf_126 : decode cX12_wordOf 126 = .ok (.iconst 0, 1) := by decide +kernel
theorem dX12_wordOf_127 : decode cX12_wordOf 127 = .ok (.ireturn, 1) := by decide +kernel
set_option maxRecDepth 20000 in
theorem s_X12_wordOf {w : Wd} {d : Nat} {P : Int → IM → LM → Prop} {i : IM} {l : LM} (p0 : Int) (p1 : Int)  (h : gI w d X_X12_wordOf P i l 5 [(0, vR (some 99)), (1, vI p0), (2, vI p1), (3, vI 1), (4, vI 0)] []) : gI w d X_X12_wordOf P i l 0 [(0, vR (some 99)), (1, vI p0), (2, vI p1)] [] := by
  refine g_iconst (pc' := 1) dX12_wordOf_0 rfl ?_
  refine g_istore_n (pc' := 2) (L' := [(3, vI 1), (0, vR (some 99)), (1, vI p0), (2, vI p1)]) dX12_wordOf_1 rfl (Nat.le_of_ble_eq_true rfl) rfl ?_
  refine g_iconst (pc' := 3) dX12_wordOf_2 rfl ?_
  refine g_istore (pc' := 5) (L' := [(4, vI 0), (3, vI 1), (0, vR (some 99)), (1, vI p0), (2, vI p1)]) dX12_wordOf_3 rfl (Nat.le_of_ble_eq_true rfl) rfl ?_
  refine g_sub (L' := [(0, vR (some 99)), (1, vI p0), (2, vI p1), (3, vI 1), (4, vI 0)]) [2, 3, 4, 1, 0] rfl ?_
  exact h
theorem e_X12_wordOf {w : Wd} {d : Nat} {P : Int → IM → LM → Prop} {i : IM} {l : LM} {p0 : Int} {p1 : Int}  (h : gI w d X_X12_wordOf P i l 0 [(0, vR (some 99)), (1, vI p0), (2, vI p1)] []) : cI w (d + 1) X_X12_wordOf [vR (some 99), vI p0, vI p1] i l P := CI_of (by decide +kernel) (Nat.le_of_ble_eq_true rfl) h
set_option maxRecDepth 20000 in
theorem s_X12_wordOf_5 {w : Wd} {d : Nat} {P : Int → IM → LM → Prop} {i : IM} {l : LM} (x1 : Int) (x2 : Int) (x3 : Int) (x4 : Int)  (h : ((rg x4) ∧ ((93 ≤ x4) → P 0 i l) ∧ ((¬ (93 ≤ x4)) → gI w d X_X12_wordOf P i l 18 [(0, vR (some 99)), (1, vI x1), (2, vI x2), (3, vI x3), (4, vI x4), (5, vI 0)] []))) : gI w d X_X12_wordOf P i l 5 [(0, vR (some 99)), (1, vI x1), (2, vI x2), (3, vI x3), (4, vI x4)] [] := by
  refine g_iload (pc' := 7) 4 dX12_wordOf_5 rfl rfl ?_
  refine g_aload_n (pc' := 8) 0 dX12_wordOf_7 rfl rfl ?_
  refine g_getR (pc' := 11) (o := some 104) fl_X12_30 rfl rfl rfl dX12_wordOf_8 rfl ?_
  refine g_alen (pc' := 12) (N := 93) rfl rfl (by decide) dX12_wordOf_11 rfl ?_
  obtain ⟨hob2, hk4, hk5⟩ := h
  refine g_icmp_ge (tgt := 126) (pc' := 15) (hob2) (rg_lit rfl) Iff.rfl dX12_wordOf_12 rfl rfl (fun c3 => ?_) (fun c3 => ?_)
  · have h := hk4 c3
    refine g_iconst (pc' := 127) dX12_wordOf_126 rfl ?_
    exact g_retI rfl (rg_lit rfl) dX12_wordOf_127 h
  · have h := hk5 c3
    refine g_iconst (pc' := 16) dX12_wordOf_15 rfl ?_
    refine g_istore (pc' := 18) (L' := [(5, vI 0), (0, vR (some 99)), (1, vI x1), (2, vI x2), (3, vI x3), (4, vI x4)]) dX12_wordOf_16 rfl (Nat.le_of_ble_eq_true rfl) rfl ?_
    refine g_sub (L' := [(0, vR (some 99)), (1, vI x1), (2, vI x2), (3, vI x3), (4, vI x4), (5, vI 0)]) [1, 2, 3, 4, 5, 0] rfl ?_
    exact h
set_option maxRecDepth 20000 in
theorem s_X12_wordOf_18 {w : Wd} {d : Nat} {P : Int → IM → LM → Prop} {i : IM} {l : LM} (x1 : Int) (x2 : Int) (x3 : Int) (x4 : Int) (x5 : Int)  (h : ((0 ≤ x4 + x5 ∧ x4 + x5 < 93) ∧ (((i 104 (x4 + x5) = 32) → ((rg x5) ∧ (rg (x2 - x1)) ∧ gI w d X_X12_wordOf P i l 57 [(0, vR (some 99)), (1, vI x1), (2, vI x2), (3, vI x3), (4, vI x4), (5, vI x5), (6, vI (bI (x5 = x2 - x1))), (7, vI 0)] [])) ∧ ((¬ (i 104 (x4 + x5) = 32)) → gI w d X_X12_wordOf P i l 18 [(0, vR (some 99)), (1, vI x1), (2, vI x2), (3, vI x3), (4, vI x4), (5, vI (x5 + 1))] [])))) : gI w d X_X12_wordOf P i l 18 [(0, vR (some 99)), (1, vI x1), (2, vI x2), (3, vI x3), (4, vI x4), (5, vI x5)] [] := by
  obtain ⟨ob6, h⟩ := h
  refine g_aload_n (pc' := 19) 0 dX12_wordOf_18 rfl rfl ?_
  refine g_getR (pc' := 22) (o := some 104) fl_X12_30 rfl rfl rfl dX12_wordOf_19 rfl ?_
  refine g_iload (pc' := 24) 4 dX12_wordOf_22 rfl rfl ?_
  refine g_iload (pc' := 26) 5 dX12_wordOf_24 rfl rfl ?_
  refine g_iadd (pc' := 27) dX12_wordOf_26 rfl ?_
  refine g_bald (pc' := 28) (N := 93) rfl rfl (Nat.lt_of_lt_of_le (Nat.lt_succ_self _) (Nat.le_of_ble_eq_true rfl)) ob6 dX12_wordOf_27 rfl (fun rg7 => ?_)
  refine g_bipush (pc' := 30) dX12_wordOf_28 rfl rfl ?_
  obtain ⟨hk30, hk31⟩ := h
  refine g_icmp_eq (tgt := 39) (pc' := 33) rg7 (rg_lit rfl) Iff.rfl dX12_wordOf_30 rfl rfl (fun c25 => ?_) (fun c25 => ?_)
  · have h := hk30 c25
    refine g_iload (pc' := 41) 5 dX12_wordOf_39 rfl rfl ?_
    refine g_iload_n (pc' := 42) 2 dX12_wordOf_41 rfl rfl ?_
    refine g_iload_n (pc' := 43) 1 dX12_wordOf_42 rfl rfl ?_
    refine g_isub (pc' := 44) dX12_wordOf_43 rfl ?_
    obtain ⟨hob27, hob28, h⟩ := h
    have hJ : gI w d X_X12_wordOf P i l 52 [(0, vR (some 99)), (1, vI x1), (2, vI x2), (3, vI x3), (4, vI x4), (5, vI x5)] [vI (bI (x5 = x2 - x1))] := by
      refine g_istore (pc' := 54) (L' := [(6, vI (bI (x5 = x2 - x1))), (0, vR (some 99)), (1, vI x1), (2, vI x2), (3, vI x3), (4, vI x4), (5, vI x5)]) dX12_wordOf_52 rfl (Nat.le_of_ble_eq_true rfl) rfl ?_
      refine g_iconst (pc' := 55) dX12_wordOf_54 rfl ?_
      refine g_istore (pc' := 57) (L' := [(7, vI 0), (6, vI (bI (x5 = x2 - x1))), (0, vR (some 99)), (1, vI x1), (2, vI x2), (3, vI x3), (4, vI x4), (5, vI x5)]) dX12_wordOf_55 rfl (Nat.le_of_ble_eq_true rfl) rfl ?_
      refine g_sub (L' := [(0, vR (some 99)), (1, vI x1), (2, vI x2), (3, vI x3), (4, vI x4), (5, vI x5), (6, vI (bI (x5 = x2 - x1))), (7, vI 0)]) [2, 3, 4, 5, 6, 7, 1, 0] rfl ?_
      exact h
    refine g_icmp_ne (tgt := 51) (pc' := 47) (hob27) (hob28) Iff.rfl dX12_wordOf_44 rfl rfl (fun c29 => ?_) (fun c29 => ?_)
    · refine g_iconst (pc' := 52) dX12_wordOf_51 rfl ?_
      rw [bI_f (p := (x5 = x2 - x1)) c29] at hJ
      exact hJ
    · refine g_iconst (pc' := 48) dX12_wordOf_47 rfl ?_
      refine g_goto (tgt := 52) dX12_wordOf_48 rfl ?_
      rw [bI_t (p := (x5 = x2 - x1)) c29] at hJ
      exact hJ
  · have h := hk31 c25
    refine g_iinc (pc' := 36) (L' := [(5, vI (x5 + 1)), (0, vR (some 99)), (1, vI x1), (2, vI x2), (3, vI x3), (4, vI x4)]) 5 dX12_wordOf_33 rfl (Nat.le_of_ble_eq_true rfl) rfl rfl ?_
    refine g_goto (tgt := 18) dX12_wordOf_36 rfl ?_
    refine g_sub (L' := [(0, vR (some 99)), (1, vI x1), (2, vI x2), (3, vI x3), (4, vI x4), (5, vI (x5 + 1))]) [1, 2, 3, 4, 5, 0] rfl ?_
    exact h
set_option maxRecDepth 20000 in
theorem s_X12_wordOf_57 {w : Wd} {d : Nat} {P : Int → IM → LM → Prop} {i : IM} {l : LM} (x1 : Int) (x2 : Int) (x3 : Int) (x4 : Int) (x5 : Int) (x6 : Int) (x7 : Int)  (h : ((rg x7) ∧ (rg x5) ∧ (¬ (x5 ≤ x7) → rg x6) ∧ (((x5 ≤ x7) ∨ (x6 = 0)) → ((rg x6) ∧ ((x6 = 0) → gI w d X_X12_wordOf P i l 5 [(0, vR (some 99)), (1, vI x1), (2, vI x2), (3, vI (x3 + 1)), (4, vI (x4 + (x5 + 1)))] []) ∧ ((¬ (x6 = 0)) → ((rg x3) ∧ P x3 i l)))) ∧ ((¬ ((x5 ≤ x7) ∨ (x6 = 0))) → ((0 ≤ x4 + x7 ∧ x4 + x7 < 93) ∧ (0 ≤ x1 + x7 ∧ x1 + x7 < 400) ∧ gI w d X_X12_wordOf P i l 57 [(0, vR (some 99)), (1, vI x1), (2, vI x2), (3, vI x3), (4, vI x4), (5, vI x5), (6, vI (bI (i 104 (x4 + x7) = i 105 (x1 + x7)))), (7, vI (x7 + 1))] [])))) : gI w d X_X12_wordOf P i l 57 [(0, vR (some 99)), (1, vI x1), (2, vI x2), (3, vI x3), (4, vI x4), (5, vI x5), (6, vI x6), (7, vI x7)] [] := by
  refine g_iload (pc' := 59) 7 dX12_wordOf_57 rfl rfl ?_
  refine g_iload (pc' := 61) 5 dX12_wordOf_59 rfl rfl ?_
  obtain ⟨hob63, hob64, hob66, hk84, hk85⟩ := h
  have hk84g : ((x5 ≤ x7) ∨ (x6 = 0)) → gI w d X_X12_wordOf P i l 104 [(0, vR (some 99)), (1, vI x1), (2, vI x2), (3, vI x3), (4, vI x4), (5, vI x5), (6, vI x6), (7, vI x7)] [] := by
    intro hp
    have h := hk84 hp
    refine g_iload (pc' := 106) 6 dX12_wordOf_104 rfl rfl ?_
    obtain ⟨hob73, hk76, hk77⟩ := h
    refine g_if_eq (tgt := 111) (pc' := 109) (hob73) Iff.rfl dX12_wordOf_106 rfl rfl (fun c74 => ?_) (fun c74 => ?_)
    · have h := hk76 c74
      refine g_iload (pc' := 113) 4 dX12_wordOf_111 rfl rfl ?_
      refine g_iload (pc' := 115) 5 dX12_wordOf_113 rfl rfl ?_
      refine g_iconst (pc' := 116) dX12_wordOf_115 rfl ?_
      refine g_iadd (pc' := 117) dX12_wordOf_116 rfl ?_
      refine g_iadd (pc' := 118) dX12_wordOf_117 rfl ?_
      refine g_istore (pc' := 120) (L' := [(4, vI (x4 + (x5 + 1))), (0, vR (some 99)), (1, vI x1), (2, vI x2), (3, vI x3), (5, vI x5), (6, vI x6), (7, vI x7)]) dX12_wordOf_118 rfl (Nat.le_of_ble_eq_true rfl) rfl ?_
      refine g_iinc (pc' := 123) (L' := [(3, vI (x3 + 1)), (4, vI (x4 + (x5 + 1))), (0, vR (some 99)), (1, vI x1), (2, vI x2), (5, vI x5), (6, vI x6), (7, vI x7)]) 4 dX12_wordOf_120 rfl (Nat.le_of_ble_eq_true rfl) rfl rfl ?_
      refine g_goto (tgt := 5) dX12_wordOf_123 rfl ?_
      refine g_sub (L' := [(0, vR (some 99)), (1, vI x1), (2, vI x2), (3, vI (x3 + 1)), (4, vI (x4 + (x5 + 1)))]) [2, 3, 4, 0, 1] rfl ?_
      exact h
    · have h := hk77 c74
      obtain ⟨ob75, h⟩ := h
      refine g_iload_n (pc' := 110) 3 dX12_wordOf_109 rfl rfl ?_
      exact g_retI rfl ob75 dX12_wordOf_110 h
  have hk85g : (¬ ((x5 ≤ x7) ∨ (x6 = 0))) → gI w d X_X12_wordOf P i l 69 [(0, vR (some 99)), (1, vI x1), (2, vI x2), (3, vI x3), (4, vI x4), (5, vI x5), (6, vI x6), (7, vI x7)] [] := by
    intro hp
    have h := hk85 hp
    obtain ⟨ob78, ob80, h⟩ := h
    refine g_aload_n (pc' := 70) 0 dX12_wordOf_69 rfl rfl ?_
    refine g_getR (pc' := 73) (o := some 104) fl_X12_30 rfl rfl rfl dX12_wordOf_70 rfl ?_
    refine g_iload (pc' := 75) 4 dX12_wordOf_73 rfl rfl ?_
    refine g_iload (pc' := 77) 7 dX12_wordOf_75 rfl rfl ?_
    refine g_iadd (pc' := 78) dX12_wordOf_77 rfl ?_
    refine g_bald (pc' := 79) (N := 93) rfl rfl (Nat.lt_of_lt_of_le (Nat.lt_succ_self _) (Nat.le_of_ble_eq_true rfl)) ob78 dX12_wordOf_78 rfl (fun rg79 => ?_)
    refine g_aload_n (pc' := 80) 0 dX12_wordOf_79 rfl rfl ?_
    refine g_getR (pc' := 83) (o := some 105) fl_X12_34 rfl rfl rfl dX12_wordOf_80 rfl ?_
    refine g_iload_n (pc' := 84) 1 dX12_wordOf_83 rfl rfl ?_
    refine g_iload (pc' := 86) 7 dX12_wordOf_84 rfl rfl ?_
    refine g_iadd (pc' := 87) dX12_wordOf_86 rfl ?_
    refine g_bald (pc' := 88) (N := 400) rfl rfl (Nat.lt_of_lt_of_le (Nat.lt_succ_self _) (Nat.le_of_ble_eq_true rfl)) ob80 dX12_wordOf_87 rfl (fun rg81 => ?_)
    have hJ : gI w d X_X12_wordOf P i l 96 [(0, vR (some 99)), (1, vI x1), (2, vI x2), (3, vI x3), (4, vI x4), (5, vI x5), (6, vI x6), (7, vI x7)] [vI (bI (i 104 (x4 + x7) = i 105 (x1 + x7)))] := by
      refine g_istore (pc' := 98) (L' := [(6, vI (bI (i 104 (x4 + x7) = i 105 (x1 + x7)))), (0, vR (some 99)), (1, vI x1), (2, vI x2), (3, vI x3), (4, vI x4), (5, vI x5), (7, vI x7)]) dX12_wordOf_96 rfl (Nat.le_of_ble_eq_true rfl) rfl ?_
      refine g_iinc (pc' := 101) (L' := [(7, vI (x7 + 1)), (6, vI (bI (i 104 (x4 + x7) = i 105 (x1 + x7)))), (0, vR (some 99)), (1, vI x1), (2, vI x2), (3, vI x3), (4, vI x4), (5, vI x5)]) 7 dX12_wordOf_98 rfl (Nat.le_of_ble_eq_true rfl) rfl rfl ?_
      refine g_goto (tgt := 57) dX12_wordOf_101 rfl ?_
      refine g_sub (L' := [(0, vR (some 99)), (1, vI x1), (2, vI x2), (3, vI x3), (4, vI x4), (5, vI x5), (6, vI (bI (i 104 (x4 + x7) = i 105 (x1 + x7)))), (7, vI (x7 + 1))]) [2, 3, 4, 5, 6, 7, 1, 0] rfl ?_
      exact h
    refine g_icmp_ne (tgt := 95) (pc' := 91) rg79 rg81 Iff.rfl dX12_wordOf_88 rfl rfl (fun c83 => ?_) (fun c83 => ?_)
    · refine g_iconst (pc' := 96) dX12_wordOf_95 rfl ?_
      rw [bI_f (p := (i 104 (x4 + x7) = i 105 (x1 + x7))) c83] at hJ
      exact hJ
    · refine g_iconst (pc' := 92) dX12_wordOf_91 rfl ?_
      refine g_goto (tgt := 96) dX12_wordOf_92 rfl ?_
      rw [bI_t (p := (i 104 (x4 + x7) = i 105 (x1 + x7))) c83] at hJ
      exact hJ
  refine g_icmp_ge (tgt := 104) (pc' := 64) (hob63) (hob64) Iff.rfl dX12_wordOf_61 rfl rfl (fun c65 => ?_) (fun c65 => ?_)
  · exact hk84g (Or.inl c65)
  · refine g_iload (pc' := 66) 6 dX12_wordOf_64 rfl rfl ?_
    refine g_if_eq (tgt := 104) (pc' := 69) (hob66 c65) Iff.rfl dX12_wordOf_66 rfl rfl (fun c67 => ?_) (fun c67 => ?_)
    · exact hk84g (Or.inr c67)
    · exact hk85g (fun q => q.elim c65 c67)

theorem dX12_splits_0 : decode cX12_splits 0 = .ok (.aload_n 0, 1) := by decide +kernel
theorem dX12_splits_1 : decode cX12_splits 1 = .ok (.iconst 0, 1) := by decide +kernel
theorem dX12_splits_2 : decode cX12_splits 2 = .ok (.putfield 180, 3) := by decide +kernel
theorem dX12_splits_5 : decode cX12_splits 5 = .ok (.iconst 0, 1) := by decide +kernel
theorem dX12_splits_6 : decode cX12_splits 6 = .ok (.istore_n 2, 1) := by decide +kernel
theorem dX12_splits_7 : decode cX12_splits 7 = .ok (.iload_n 2, 1) := by decide +kernel
theorem dX12_splits_8 : decode cX12_splits 8 = .ok (.iload_n 1, 1) := by decide +kernel
theorem dX12_splits_9 : decode cX12_splits 9 = .ok (.if_icmp .ge 254, 3) := by decide +kernel
theorem dX12_splits_12 : decode cX12_splits 12 = .ok (.aload_n 0, 1) := by decide +kernel
theorem dX12_splits_13 : decode cX12_splits 13 = .ok (.getfield 34, 3) := by decide +kernel
theorem dX12_splits_16 : decode cX12_splits 16 = .ok (.iload_n 2, 1) := by decide +kernel
theorem dX12_splits_17 : decode cX12_splits 17 = .ok (.baload, 1) := by decide +kernel
theorem dX12_splits_18 : decode cX12_splits 18 = .ok (.istore_n 3, 1) := by decide +kernel
theorem dX12_splits_19 : decode cX12_splits 19 = .ok (.iload_n 3, 1) := by decide +kernel
theorem dX12_splits_20 : decode cX12_splits 20 = .ok (.bipush 32, 2) := by decide +kernel
theorem dX12_splits_22 : decode cX12_splits 22 = .ok (.if_icmp .ne 9, 3) := by decide +kernel
theorem dX12_splits_25 : decode cX12_splits 25 = .ok (.iinc 2 1, 3) := by decide +kernel
theorem dX12_splits_28 : decode cX12_splits 28 = .ok (.goto (-21), 3) := by decide +kernel
theorem dX12_splits_31 : decode cX12_splits 31 = .ok (.iload_n 2, 1) := by decide +kernel
theorem dX12_splits_32 : decode cX12_splits 32 = .ok (.iconst 1, 1) := by decide +kernel
theorem dX12_splits_33 : decode cX12_splits 33 = .ok (.iadd, 1) := by decide +kernel
theorem dX12_splits_34 : decode cX12_splits 34 = .ok (.istore 4, 2) := by decide +kernel
theorem dX12_splits_36 : decode cX12_splits 36 = .ok (.iload_n 3, 1) := by decide +kernel
theorem dX12_splits_37 : decode cX12_splits 37 = .ok (.invokestatic 183, 3) := by decide +kernel
theorem dX12_splits_40 : decode cX12_splits 40 = .ok (.ifCond .eq 28, 3) := by decide +kernel
theorem dX12_splits_43 : decode cX12_splits 43 = .ok (.iload 4, 2) := by decide +kernel
theorem dX12_splits_45 : decode cX12_splits 45 = .ok (.iload_n 1, 1) := by decide +kernel
theorem dX12_splits_46 : decode cX12_splits 46 = .ok (.if_icmp .ge 22, 3) := by decide +kernel
theorem dX12_splits_49 : decode cX12_splits 49 = .ok (.aload_n 0, 1) := by decide +kernel
theorem dX12_splits_50 : decode cX12_splits 50 = .ok (.getfield 34, 3) := by decide +kernel
theorem dX12_splits_53 : decode cX12_splits 53 = .ok (.iload 4, 2) := by decide +kernel
theorem dX12_splits_55 : decode cX12_splits 55 = .ok (.baload, 1) := by decide +kernel
theorem dX12_splits_56 : decode cX12_splits 56 = .ok (.invokestatic 183, 3) := by decide +kernel
theorem dX12_splits_59 : decode cX12_splits 59 = .ok (.ifCond .eq 9, 3) := by decide +kernel
theorem dX12_splits_62 : decode cX12_splits 62 = .ok (.iinc 4 1, 3) := by decide +kernel
theorem dX12_splits_65 : decode cX12_splits 65 = .ok (.goto (-22), 3) := by decide +kernel
theorem dX12_splits_68 : decode cX12_splits 68 = .ok (.iload_n 3, 1) := by decide +kernel
theorem dX12_splits_69 : decode cX12_splits 69 = .ok (.invokestatic 186, 3) := by decide +kernel
theorem dX12_splits_72 : decode cX12_splits 72 = .ok (.ifCond .eq 28, 3) := by decide +kernel
theorem dX12_splits_75 : decode cX12_splits 75 = .ok (.iload 4, 2) := by decide +kernel
theorem dX12_splits_77 : decode cX12_splits 77 = .ok (.iload_n 1, 1) := by decide +kernel
theorem dX12_splits_78 : decode cX12_splits 78 = .ok (.if_icmp .ge 22, 3) := by decide +kernel
theorem dX12_splits_81 : decode cX12_splits 81 = .ok (.aload_n 0, 1) := by decide +kernel
theorem dX12_splits_82 : decode cX12_splits 82 = .ok (.getfield 34, 3) := by decide +kernel
theorem dX12_splits_85 : decode cX12_splits 85 = .ok (.iload 4, 2) := by decide +kernel
theorem dX12_splits_87 : decode cX12_splits 87 = .ok (.baload, 1) := by decide +kernel
theorem dX12_splits_88 : decode cX12_splits 88 = .ok (.invokestatic 186, 3) := by decide +kernel
theorem dX12_splits_91 : decode cX12_splits 91 = .ok (.ifCond .eq 9, 3) := by decide +kernel
theorem dX12_splits_94 : decode cX12_splits 94 = .ok (.iinc 4 1, 3) := by decide +kernel
theorem dX12_splits_97 : decode cX12_splits 97 = .ok (.goto (-22), 3) := by decide +kernel
theorem dX12_splits_100 : decode cX12_splits 100 = .ok (.aload_n 0, 1) := by decide +kernel
theorem dX12_splits_101 : decode cX12_splits 101 = .ok (.getfield 49, 3) := by decide +kernel
theorem dX12_splits_104 : decode cX12_splits 104 = .ok (.aload_n 0, 1) := by decide +kernel
theorem dX12_splits_105 : decode cX12_splits 105 = .ok (.getfield 180, 3) := by decide +kernel
theorem dX12_splits_108 : decode cX12_splits 108 = .ok (.iload_n 2, 1) := by decide +kernel
theorem dX12_splits_109 : decode cX12_splits 109 = .ok (.iastore, 1) := by decide +kernel
theorem dX12_splits_110 : decode cX12_splits 110 = .ok (.aload_n 0, 1) := by decide +kernel
theorem dX12_splits_111 : decode cX12_splits 111 = .ok (.getfield 46, 3) := by decide +kernel
theorem dX12_splits_114 : decode cX12_splits 114 = .ok (.aload_n 0, 1) := by decide +kernel
theorem dX12_splits_115 : decode cX12_splits 115 = .ok (.getfield 180, 3) := by decide +kernel
theorem dX12_splits_118 : decode cX12_splits 118 = .ok (.iconst 0, 1) := by decide +kernel
theorem dX12_splits_119 : decode cX12_splits 119 = .ok (.iastore, 1) := by decide +kernel
theorem dX12_splits_120 : decode cX12_splits 120 = .ok (.aload_n 0, 1) := by decide +kernel
theorem dX12_splits_121 : decode cX12_splits 121 = .ok (.getfield 43, 3) := by decide +kernel
theorem dX12_splits_124 : decode cX12_splits 124 = .ok (.aload_n 0, 1) := by decide +kernel
theorem dX12_splits_125 : decode cX12_splits 125 = .ok (.getfield 180, 3) := by decide +kernel
theorem dX12_splits_128 : decode cX12_splits 128 = .ok (.iload_n 3, 1) := by decide +kernel
theorem dX12_splits_129 : decode cX12_splits 129 = .ok (.invokestatic 183, 3) := by decide +kernel
theorem dX12_splits_132 : decode cX12_splits 132 = .ok (.ifCond .eq 13, 3) := by decide +kernel
theorem dX12_splits_135 : decode cX12_splits 135 = .ok (.aload_n 0, 1) := by decide +kernel
theorem dX12_splits_136 : decode cX12_splits 136 = .ok (.iload_n 2, 1) := by decide +kernel
theorem dX12_splits_137 : decode cX12_splits 137 = .ok (.iload 4, 2) := by decide +kernel
theorem dX12_splits_139 : decode cX12_splits 139 = .ok (.invokevirtual 189, 3) := by decide +kernel
theorem dX12_splits_142 : decode cX12_splits 142 = .ok (.goto 23, 3) := by decide +kernel
theorem dX12_splits_145 : decode cX12_splits 145 = .ok (.iload_n 3, 1) := by decide +kernel
theorem dX12_splits_146 : decode cX12_splits 146 = .ok (.invokestatic 186, 3) := by decide +kernel
theorem dX12_splits_149 : decode cX12_splits 149 = .ok (.ifCond .eq 8, 3) := by decide +kernel
theorem dX12_splits_152 : decode cX12_splits 152 = .ok (.bipush 50, 2) := by decide +kernel
theorem dX12_splits_154 : decode cX12_splits 154 = .ok (.goto 11, 3) := by decide +kernel
theorem dX12_splits_157 : decode cX12_splits 157 = .ok (.bipush 100, 2) := by decide +kernel
theorem dX12_splits_159 : decode cX12_splits 159 = .ok (.iload_n 3, 1) := by decide +kernel
theorem dX12_splits_160 : decode cX12_splits 160 = .ok (.sipush 255, 3) := by decide +kernel
theorem dX12_splits_163 : decode cX12_splits 163 = .ok (.iand, 1) := by decide +kernel
theorem dX12_splits_164 : decode cX12_splits 164 = .ok (.iadd, 1) := by decide +kernel
theorem dX12_splits_165 : decode cX12_splits 165 = .ok (.iastore, 1) := by decide +kernel
theorem dX12_splits_166 : decode cX12_splits 166 = .ok (.iload_n 2, 1) := by decide +kernel
theorem dX12_splits_167 : decode cX12_splits 167 = .ok (.istore 5, 2) := by decide +kernel
theorem dX12_splits_169 : decode cX12_splits 169 = .ok (.iload 5, 2) := by decide +kernel
theorem dX12_splits_171 : decode cX12_splits 171 = .ok (.iload 4, 2) := by decide +kernel
theorem dX12_splits_173 : decode cX12_splits 173 = .ok (.if_icmp .ge 74, 3) := by decide +kernel
theorem dX12_splits_176 : decode cX12_splits 176 = .ok (.iload_n 3, 1) := by decide +kernel
theorem dX12_splits_177 : decode cX12_splits 177 = .ok (.invokestatic 186, 3) := by decide +kernel
theorem dX12_splits_180 : decode cX12_splits 180 = .ok (.ifCond .eq 67, 3) := by decide +kernel
theorem dX12_splits_183 : decode cX12_splits 183 = .ok (.aload_n 0, 1) := by decide +kernel
theorem dX12_splits_184 : decode cX12_splits 184 = .ok (.getfield 46, 3) := by decide +kernel
theorem dX12_splits_187 : decode cX12_splits 187 = .ok (.aload_n 0, 1) := by decide +kernel
theorem dX12_splits_188 : decode cX12_splits 188 = .ok (.getfield 180, 3) := by decide +kernel
theorem dX12_splits_191 : decode cX12_splits 191 = .ok (.aload_n 0, 1) := by decide +kernel
theorem dX12_splits_192 : decode cX12_splits 192 = .ok (.getfield 46, 3) := by decide +kernel
theorem dX12_splits_195 : decode cX12_splits 195 = .ok (.aload_n 0, 1) := by decide +kernel
theorem dX12_splits_196 : decode cX12_splits 196 = .ok (.getfield 180, 3) := by decide +kernel
theorem dX12_splits_199 : decode cX12_splits 199 = .ok (.iaload, 1) := by decide +kernel
theorem dX12_splits_200 : decode cX12_splits 200 = .ok (.ldc 192, 2) := by decide +kernel
theorem dX12_splits_202 : decode cX12_splits 202 = .ok (.if_icmp .le 15, 3) := by decide +kernel
theorem dX12_splits_205 : decode cX12_splits 205 = .ok (.aload_n 0, 1) := by decide +kernel
theorem dX12_splits_206 : decode cX12_splits 206 = .ok (.getfield 46, 3) := by decide +kernel
theorem dX12_splits_209 : decode cX12_splits 209 = .ok (.aload_n 0, 1) := by decide +kernel
theorem dX12_splits_210 : decode cX12_splits 210 = .ok (.getfield 180, 3) := by decide +kernel
theorem dX12_splits_213 : decode cX12_splits 213 = .ok (.iaload, 1) := by decide +kernel
theorem dX12_splits_214 : decode cX12_splits 214 = .ok (.goto 26, 3) := by decide +kernel
theorem dX12_splits_217 : decode cX12_splits 217 = .ok (.bipush 10, 2) := by decide +kernel
theorem dX12_splits_219 : decode cX12_splits 219 = .ok (.aload_n 0, 1) := by decide +kernel
theorem dX12_splits_220 : decode cX12_splits 220 = .ok (.getfield 46, 3) := by decide +kernel
theorem dX12_splits_223 : decode cX12_splits 223 = .ok (.aload_n 0, 1) := by decide +kernel
theorem dX12_splits_224 : decode cX12_splits 224 = .ok (.getfield 180, 3) := by decide +kernel
theorem dX12_splits_227 : decode cX12_splits 227 = .ok (.iaload, 1) := by decide +kernel
theorem dX12_splits_228 : decode cX12_splits 228 = .ok (.imul, 1) := by decide +kernel
theorem dX12_splits_229 : decode cX12_splits 229 = .ok (.aload_n 0, 1) := by decide +kernel
theorem dX12_splits_230 : decode cX12_splits 230 = .ok (.getfield 34, 3) := by decide +kernel
theorem dX12_splits_233 : decode cX12_splits 233 = .ok (.iload 5, 2) := by decide +kernel
theorem dX12_splits_235 : decode cX12_splits 235 = .ok (.baload, 1) := by decide +kernel
theorem dX12_splits_236 : decode cX12_splits 236 = .ok (.iadd, 1) := by decide +kernel
theorem dX12_splits_237 : decode cX12_splits 237 = .ok (.bipush 48, 2) := by decide +kernel
theorem dX12_splits_239 : decode cX12_splits 239 = .ok (.isub, 1) := by decide +kernel
theorem dX12_splits_240 : decode cX12_splits 240 = .ok (.iastore, 1) := by decide +kernel
theorem dX12_splits_241 : decode cX12_splits 241 = .ok (.iinc 5 1, 3) := by decide +kernel
theorem dX12_splits_244 : decode cX12_splits 244 = .ok (.goto (-75), 3) := by decide +kernel
theorem dX12_splits_247 : decode cX12_splits 247 = .ok (.aload_n 0, 1) := by decide +kernel
theorem dX12_splits_248 : decode cX12_splits 248 = .ok (.dup, 1) := by decide +kernel
theorem dX12_splits_249 : decode cX12_splits 249 = .ok (.getfield 180, 3) := by decide +kernel
theorem dX12_splits_252 : decode cX12_splits 252 = .ok (.iconst 1, 1) := by decide +kernel
theorem dX12_splits_253 : decode cX12_splits 253 = .ok (.iadd, 1) := by decide +kernel
theorem dX12_splits_254 : decode cX12_splits 254 = .ok (.putfield 180, 3) := by decide +kernel
theorem dX12_splits_257 : decode cX12_splits 257 = .ok (.iload 4, 2) := by decide +kernel
theorem dX12_splits_259 : decode cX12_splits 259 = .ok (.istore_n 2, 1) := by decide +kernel
theorem dX12_splits_260 : decode cX12_splits 260 = .ok (.goto (-253), 3) := by decide +kernel
theorem dX12_splits_263 : decode cX12_splits 263 = .ok (.aload_n 0, 1) := by decide +kernel
theorem dX12_splits_264 : decode cX12_splits 264 = .ok (.getfield 49, 3) := by decide +kernel
theorem dX12_splits_267 : decode cX12_splits 267 = .ok (.aload_n 0, 1) := by decide +kernel
theorem dX12_splits_268 : decode cX12_splits 268 = .ok (.getfield 180, 3) := by decide +kernel
theorem dX12_splits_271 : decode cX12_splits 271 = .ok (.iload_n 1, 1) := by decide +kernel
theorem dX12_splits_272 : decode cX12_splits 272 = .ok (.iastore, 1) := by decide +kernel
theorem dX12_splits_273 : decode cX12_splits 273 = .ok (.aload_n 0, 1) := by decide +kernel
theorem dX12_splits_274 : decode cX12_splits 274 = .ok (.getfield 43, 3) := by decide +kernel
theorem dX12_splits_277 : decode cX12_splits 277 = .ok (.aload_n 0, 1) := by decide +kernel
theorem dX12_splits_278 : decode cX12_splits 278 = .ok (.getfield 180, 3) := by decide +kernel
theorem dX12_splits_281 : decode cX12_splits 281 = .ok (.iconst 0, 1) := by decide +kernel
theorem dX12_splits_282 : decode cX12_splits 282 = .ok (.iastore, 1) := by decide +kernel
theorem dX12_splits_283 : decode cX12_splits 283 = .ok (.aload_n 0, 1) := by decide +kernel
theorem dX12_splits_284 : decode cX12_splits 284 = .ok (.getfield 46, 3) := by decide +kernel
theorem dX12_splits_287 : decode cX12_splits 287 = .ok (.aload_n 0, 1) := by decide +kernel
theorem dX12_splits_288 : decode cX12_splits 288 = .ok (.getfield 180, 3) := by decide +kernel
theorem dX12_splits_291 : decode cX12_splits 291 = .ok (.iconst 0, 1) := by decide +kernel
theorem dX12_splits_292 : decode cX12_splits 292 = .ok (.iastore, 1) := by decide +kernel
theorem dX12_splits_293 : decode cX12_splits 293 = .ok (.return_, 1) := by decide +kernel
set_option maxRecDepth 20000 in
theorem s_X12_splits {w : Wd} {d : Nat} {P : IM → LM → Prop} {i : IM} {l : LM} (p0 : Int)  (h : gV w d X_X12_splits P (u2 i 99 15 0) l 7 [(0, vR (some 99)), (1, vI p0), (2, vI 0)] []) : gV w d X_X12_splits P i l 0 [(0, vR (some 99)), (1, vI p0)] [] := by
  refine g_aload_n (pc' := 1) 0 dX12_splits_0 rfl rfl ?_
  refine g_iconst (pc' := 2) dX12_splits_1 rfl ?_
  refine g_putI (pc' := 5) (z := 15) rfl fp_X12_180 rfl rfl (rg_lit rfl) dX12_splits_2 rfl ?_
  refine g_iconst (pc' := 6) dX12_splits_5 rfl ?_
  refine g_istore_n (pc' := 7) (L' := [(2, vI 0), (0, vR (some 99)), (1, vI p0)]) dX12_splits_6 rfl (Nat.le_of_ble_eq_true rfl) rfl ?_
  refine g_sub (L' := [(0, vR (some 99)), (1, vI p0), (2, vI 0)]) [1, 2, 0] rfl ?_
  exact h
theorem e_X12_splits {w : Wd} {d : Nat} {P : IM → LM → Prop} {i : IM} {l : LM} {p0 : Int}  (h : gV w d X_X12_splits P i l 0 [(0, vR (some 99)), (1, vI p0)] []) : cVd w (d + 1) X_X12_splits [vR (some 99), vI p0] i l P := CV_of (by decide +kernel) (Nat.le_of_ble_eq_true rfl) h
set_option maxRecDepth 20000 in
theorem s_X12_splits_7 {w : Wd} {d : Nat} {P : IM → LM → Prop} {i : IM} {l : LM} (x1 : Int) (x2 : Int)  (hd : 1 ≤ d) (h : ((rg x2) ∧ (rg x1) ∧ ((x1 ≤ x2) → ((0 ≤ i 99 15 ∧ i 99 15 < 401) ∧ (rg x1) ∧ (0 ≤ (u2 i 109 (i 99 15) x1) 99 15 ∧ (u2 i 109 (i 99 15) x1) 99 15 < 401) ∧ (0 ≤ (u2 (u2 i 109 (i 99 15) x1) 107 ((u2 i 109 (i 99 15) x1) 99 15) 0) 99 15 ∧ (u2 (u2 i 109 (i 99 15) x1) 107 ((u2 i 109 (i 99 15) x1) 99 15) 0) 99 15 < 401) ∧ P (u2 (u2 (u2 i 109 (i 99 15) x1) 107 ((u2 i 109 (i 99 15) x1) 99 15) 0) 108 ((u2 (u2 i 109 (i 99 15) x1) 107 ((u2 i 109 (i 99 15) x1) 99 15) 0) 99 15) 0) l)) ∧ ((¬ (x1 ≤ x2)) → ((0 ≤ x2 ∧ x2 < 400) ∧ (((i 105 x2 = 32) → gV w d X_X12_splits P i l 7 [(0, vR (some 99)), (1, vI x1), (2, vI (x2 + 1))] []) ∧ ((¬ (i 105 x2 = 32)) → (((97 ≤ i 105 x2 ∧ i 105 x2 ≤ 122) → gV w d X_X12_splits P i l 43 [(0, vR (some 99)), (1, vI x1), (2, vI x2), (3, vI (i 105 x2)), (4, vI (x2 + 1))] []) ∧ ((¬ (97 ≤ i 105 x2 ∧ i 105 x2 ≤ 122)) → gV w d X_X12_splits P i l 68 [(0, vR (some 99)), (1, vI x1), (2, vI x2), (3, vI (i 105 x2)), (4, vI (x2 + 1))] [])))))))) : gV w d X_X12_splits P i l 7 [(0, vR (some 99)), (1, vI x1), (2, vI x2)] [] := by
  refine g_iload_n (pc' := 8) 2 dX12_splits_7 rfl rfl ?_
  refine g_iload_n (pc' := 9) 1 dX12_splits_8 rfl rfl ?_
  obtain ⟨hob2, hob3, hk26, hk27⟩ := h
  refine g_icmp_ge (tgt := 263) (pc' := 12) (hob2) (hob3) Iff.rfl dX12_splits_9 rfl rfl (fun c4 => ?_) (fun c4 => ?_)
  · have h := hk26 c4
    obtain ⟨ob9, ob10, ob12, ob14, h⟩ := h
    refine g_aload_n (pc' := 264) 0 dX12_splits_263 rfl rfl ?_
    refine g_getR (pc' := 267) (o := some 109) fl_X12_49 rfl rfl rfl dX12_splits_264 rfl ?_
    refine g_aload_n (pc' := 268) 0 dX12_splits_267 rfl rfl ?_
    refine g_getI (pc' := 271) (z := 15) rfl fl_X12_180 rfl rfl dX12_splits_268 rfl (fun rg8 => ?_)
    refine g_iload_n (pc' := 272) 1 dX12_splits_271 rfl rfl ?_
    refine g_iast (pc' := 273) (N := 401) rfl rfl (Nat.lt_of_lt_of_le (Nat.lt_succ_self _) (Nat.le_of_ble_eq_true rfl)) ob9 ob10 dX12_splits_272 rfl ?_
    refine g_aload_n (pc' := 274) 0 dX12_splits_273 rfl rfl ?_
    refine g_getR (pc' := 277) (o := some 107) fl_X12_43 rfl rfl rfl dX12_splits_274 rfl ?_
    refine g_aload_n (pc' := 278) 0 dX12_splits_277 rfl rfl ?_
    refine g_getI (pc' := 281) (z := 15) rfl fl_X12_180 rfl rfl dX12_splits_278 rfl (fun rg11 => ?_)
    refine g_iconst (pc' := 282) dX12_splits_281 rfl ?_
    refine g_iast (pc' := 283) (N := 401) rfl rfl (Nat.lt_of_lt_of_le (Nat.lt_succ_self _) (Nat.le_of_ble_eq_true rfl)) ob12 (rg_lit rfl) dX12_splits_282 rfl ?_
    refine g_aload_n (pc' := 284) 0 dX12_splits_283 rfl rfl ?_
    refine g_getR (pc' := 287) (o := some 108) fl_X12_46 rfl rfl rfl dX12_splits_284 rfl ?_
    refine g_aload_n (pc' := 288) 0 dX12_splits_287 rfl rfl ?_
    refine g_getI (pc' := 291) (z := 15) rfl fl_X12_180 rfl rfl dX12_splits_288 rfl (fun rg13 => ?_)
    refine g_iconst (pc' := 292) dX12_splits_291 rfl ?_
    refine g_iast (pc' := 293) (N := 401) rfl rfl (Nat.lt_of_lt_of_le (Nat.lt_succ_self _) (Nat.le_of_ble_eq_true rfl)) ob14 (rg_lit rfl) dX12_splits_292 rfl ?_
    exact g_retV rfl dX12_splits_293 h
  · have h := hk27 c4
    obtain ⟨ob15, h⟩ := h
    refine g_aload_n (pc' := 13) 0 dX12_splits_12 rfl rfl ?_
    refine g_getR (pc' := 16) (o := some 105) fl_X12_34 rfl rfl rfl dX12_splits_13 rfl ?_
    refine g_iload_n (pc' := 17) 2 dX12_splits_16 rfl rfl ?_
    refine g_bald (pc' := 18) (N := 400) rfl rfl (Nat.lt_of_lt_of_le (Nat.lt_succ_self _) (Nat.le_of_ble_eq_true rfl)) ob15 dX12_splits_17 rfl (fun rg16 => ?_)
    refine g_istore_n (pc' := 19) (L' := [(3, vI (i 105 x2)), (0, vR (some 99)), (1, vI x1), (2, vI x2)]) dX12_splits_18 rfl (Nat.le_of_ble_eq_true rfl) rfl ?_
    refine g_iload_n (pc' := 20) 0 dX12_splits_19 rfl rfl ?_
    refine g_bipush (pc' := 22) dX12_splits_20 rfl rfl ?_
    obtain ⟨hk24, hk25⟩ := h
    refine g_icmp_ne (tgt := 31) (pc' := 25) rg16 (rg_lit rfl) Iff.rfl dX12_splits_22 rfl rfl (fun c18 => ?_) (fun c18 => ?_)
    · have h := hk25 c18
      refine g_iload_n (pc' := 32) 3 dX12_splits_31 rfl rfl ?_
      refine g_iconst (pc' := 33) dX12_splits_32 rfl ?_
      refine g_iadd (pc' := 34) dX12_splits_33 rfl ?_
      refine g_istore (pc' := 36) (L' := [(4, vI (x2 + 1)), (3, vI (i 105 x2)), (0, vR (some 99)), (1, vI x1), (2, vI x2)]) dX12_splits_34 rfl (Nat.le_of_ble_eq_true rfl) rfl ?_
      refine g_iload_n (pc' := 37) 1 dX12_splits_36 rfl rfl ?_
      refine g_pSI (pc' := 40) (vs := [vI (i 105 x2)]) (st := []) (val := bI (97 ≤ i 105 x2 ∧ i 105 x2 ≤ 122)) (sp_X12_isSmall (le_hd hd rfl) rg16) mk_X12_isSmall ms_X12_isSmall lk_X12_183 rfl (Nat.le_of_ble_eq_true rfl) (Nat.le_of_ble_eq_true rfl) rfl dX12_splits_37 rfl z2 (fun rg19 => ?_)
      obtain ⟨hk22, hk23⟩ := h
      have hk22g : (97 ≤ i 105 x2 ∧ i 105 x2 ≤ 122) → gV w d X_X12_splits P i l 43 [(4, vI (x2 + 1)), (3, vI (i 105 x2)), (0, vR (some 99)), (1, vI x1), (2, vI x2)] [] := by
        intro hp
        have h := hk22 hp
        refine g_sub (L' := [(0, vR (some 99)), (1, vI x1), (2, vI x2), (3, vI (i 105 x2)), (4, vI (x2 + 1))]) [2, 3, 4, 1, 0] rfl ?_
        exact h
      have hk23g : (¬ (97 ≤ i 105 x2 ∧ i 105 x2 ≤ 122)) → gV w d X_X12_splits P i l 68 [(4, vI (x2 + 1)), (3, vI (i 105 x2)), (0, vR (some 99)), (1, vI x1), (2, vI x2)] [] := by
        intro hp
        have h := hk23 hp
        refine g_sub (L' := [(0, vR (some 99)), (1, vI x1), (2, vI x2), (3, vI (i 105 x2)), (4, vI (x2 + 1))]) [2, 3, 4, 1, 0] rfl ?_
        exact h
      refine g_if_eq (tgt := 68) (pc' := 43) rg19 (bI_eq _) dX12_splits_40 rfl rfl (fun c21 => ?_) (fun c21n => ?_)
      · exact hk23g c21
      · have c21 := Decidable.of_not_not c21n
        exact hk22g c21
    · have h := hk24 c18
      refine g_iinc (pc' := 28) (L' := [(2, vI (x2 + 1)), (3, vI (i 105 x2)), (0, vR (some 99)), (1, vI x1)]) 3 dX12_splits_25 rfl (Nat.le_of_ble_eq_true rfl) rfl rfl ?_
      refine g_goto (tgt := 7) dX12_splits_28 rfl ?_
      refine g_sub (L' := [(0, vR (some 99)), (1, vI x1), (2, vI (x2 + 1))]) [2, 3, 0] rfl ?_
      exact h
set_option maxRecDepth 20000 in
theorem s_X12_splits_68 {w : Wd} {d : Nat} {P : IM → LM → Prop} {i : IM} {l : LM} (x1 : Int) (x2 : Int) (x3 : Int) (x4 : Int)  (hd : 1 ≤ d) (h : ((rg x3) ∧ (((48 ≤ x3 ∧ x3 ≤ 57) → gV w d X_X12_splits P i l 75 [(0, vR (some 99)), (1, vI x1), (2, vI x2), (3, vI x3), (4, vI x4)] []) ∧ ((¬ (48 ≤ x3 ∧ x3 ≤ 57)) → gV w d X_X12_splits P i l 100 [(0, vR (some 99)), (1, vI x1), (2, vI x2), (3, vI x3), (4, vI x4)] [])))) : gV w d X_X12_splits P i l 68 [(0, vR (some 99)), (1, vI x1), (2, vI x2), (3, vI x3), (4, vI x4)] [] := by
  obtain ⟨ob28, h⟩ := h
  refine g_iload_n (pc' := 69) 3 dX12_splits_68 rfl rfl ?_
  refine g_pSI (pc' := 72) (vs := [vI x3]) (st := []) (val := bI (48 ≤ x3 ∧ x3 ≤ 57)) (sp_X12_isDigit (le_hd hd rfl) ob28) mk_X12_isDigit ms_X12_isDigit lk_X12_186 rfl (Nat.le_of_ble_eq_true rfl) (Nat.le_of_ble_eq_true rfl) rfl dX12_splits_69 rfl z2 (fun rg29 => ?_)
  obtain ⟨hk32, hk33⟩ := h
  have hk32g : (48 ≤ x3 ∧ x3 ≤ 57) → gV w d X_X12_splits P i l 75 [(0, vR (some 99)), (1, vI x1), (2, vI x2), (3, vI x3), (4, vI x4)] [] := by
    intro hp
    have h := hk32 hp
    exact h
  have hk33g : (¬ (48 ≤ x3 ∧ x3 ≤ 57)) → gV w d X_X12_splits P i l 100 [(0, vR (some 99)), (1, vI x1), (2, vI x2), (3, vI x3), (4, vI x4)] [] := by
    intro hp
    have h := hk33 hp
    exact h
  refine g_if_eq (tgt := 100) (pc' := 75) rg29 (bI_eq _) dX12_splits_72 rfl rfl (fun c31 => ?_) (fun c31n => ?_)
  · exact hk33g c31
  · have c31 := Decidable.of_not_not c31n
    exact hk32g c31
set_option maxRecDepth 20000 in
theorem s_X12_splits_43 {w : Wd} {d : Nat} {P : IM → LM → Prop} {i : IM} {l : LM} (x1 : Int) (x2 : Int) (x3 : Int) (x4 : Int)  (hd : 1 ≤ d) (h : ((rg x4) ∧ (rg x1) ∧ (¬ (x1 ≤ x4) → 0 ≤ x4 ∧ x4 < 400) ∧ (((x1 ≤ x4) ∨ (¬ (97 ≤ i 105 x4 ∧ i 105 x4 ≤ 122))) → gV w d X_X12_splits P i l 68 [(0, vR (some 99)), (1, vI x1), (2, vI x2), (3, vI x3), (4, vI x4)] []) ∧ ((¬ ((x1 ≤ x4) ∨ (¬ (97 ≤ i 105 x4 ∧ i 105 x4 ≤ 122)))) → gV w d X_X12_splits P i l 43 [(0, vR (some 99)), (1, vI x1), (2, vI x2), (3, vI x3), (4, vI (x4 + 1))] []))) : gV w d X_X12_splits P i l 43 [(0, vR (some 99)), (1, vI x1), (2, vI x2), (3, vI x3), (4, vI x4)] [] := by
  refine g_iload (pc' := 45) 4 dX12_splits_43 rfl rfl ?_
  refine g_iload_n (pc' := 46) 1 dX12_splits_45 rfl rfl ?_
  obtain ⟨hob35, hob36, hob38, hk42, hk43⟩ := h
  have hk42g : ((x1 ≤ x4) ∨ (¬ (97 ≤ i 105 x4 ∧ i 105 x4 ≤ 122))) → gV w d X_X12_splits P i l 68 [(0, vR (some 99)), (1, vI x1), (2, vI x2), (3, vI x3), (4, vI x4)] [] := by
    intro hp
    have h := hk42 hp
    exact h
  have hk43g : (¬ ((x1 ≤ x4) ∨ (¬ (97 ≤ i 105 x4 ∧ i 105 x4 ≤ 122)))) → gV w d X_X12_splits P i l 62 [(0, vR (some 99)), (1, vI x1), (2, vI x2), (3, vI x3), (4, vI x4)] [] := by
    intro hp
    have h := hk43 hp
    refine g_iinc (pc' := 65) (L' := [(4, vI (x4 + 1)), (0, vR (some 99)), (1, vI x1), (2, vI x2), (3, vI x3)]) 4 dX12_splits_62 rfl (Nat.le_of_ble_eq_true rfl) rfl rfl ?_
    refine g_goto (tgt := 43) dX12_splits_65 rfl ?_
    refine g_sub (L' := [(0, vR (some 99)), (1, vI x1), (2, vI x2), (3, vI x3), (4, vI (x4 + 1))]) [1, 2, 3, 4, 0] rfl ?_
    exact h
  refine g_icmp_ge (tgt := 68) (pc' := 49) (hob35) (hob36) Iff.rfl dX12_splits_46 rfl rfl (fun c37 => ?_) (fun c37 => ?_)
  · exact hk42g (Or.inl c37)
  · refine g_aload_n (pc' := 50) 0 dX12_splits_49 rfl rfl ?_
    refine g_getR (pc' := 53) (o := some 105) fl_X12_34 rfl rfl rfl dX12_splits_50 rfl ?_
    refine g_iload (pc' := 55) 4 dX12_splits_53 rfl rfl ?_
    refine g_bald (pc' := 56) (N := 400) rfl rfl (Nat.lt_of_lt_of_le (Nat.lt_succ_self _) (Nat.le_of_ble_eq_true rfl)) (hob38 c37) dX12_splits_55 rfl (fun rg39 => ?_)
    refine g_pSI (pc' := 59) (vs := [vI (i 105 x4)]) (st := []) (val := bI (97 ≤ i 105 x4 ∧ i 105 x4 ≤ 122)) (sp_X12_isSmall (le_hd hd rfl) rg39) mk_X12_isSmall ms_X12_isSmall lk_X12_183 rfl (Nat.le_of_ble_eq_true rfl) (Nat.le_of_ble_eq_true rfl) rfl dX12_splits_56 rfl z2 (fun rg40 => ?_)
    refine g_if_eq (tgt := 68) (pc' := 62) rg40 (bI_eq _) dX12_splits_59 rfl rfl (fun c41 => ?_) (fun c41n => ?_)
    · exact hk42g (Or.inr c41)
    · have c41 := Decidable.of_not_not c41n
      exact hk43g (fun q => q.elim c37 (fun q => q c41))
set_option maxRecDepth 20000 in
theorem s_X12_splits_100 {w : Wd} {d : Nat} {P : IM → LM → Prop} {i : IM} {l : LM} (x1 : Int) (x2 : Int) (x3 : Int) (x4 : Int)  (hd : 1 ≤ d) (h : ((0 ≤ i 99 15 ∧ i 99 15 < 401) ∧ (rg x2) ∧ (0 ≤ (u2 i 109 (i 99 15) x2) 99 15 ∧ (u2 i 109 (i 99 15) x2) 99 15 < 401) ∧ (rg x3) ∧ (((97 ≤ x3 ∧ x3 ≤ 122) → cI w d X_X12_wordOf [vR (some 99), vI x2, vI x4] (u2 (u2 i 109 (i 99 15) x2) 108 ((u2 i 109 (i 99 15) x2) 99 15) 0) l (fun r71 i71 l71 => ((0 ≤ (u2 (u2 i 109 (i 99 15) x2) 108 ((u2 i 109 (i 99 15) x2) 99 15) 0) 99 15 ∧ (u2 (u2 i 109 (i 99 15) x2) 108 ((u2 i 109 (i 99 15) x2) 99 15) 0) 99 15 < 401) ∧ gV w d X_X12_splits P (u2 i71 107 ((u2 (u2 i 109 (i 99 15) x2) 108 ((u2 i 109 (i 99 15) x2) 99 15) 0) 99 15) r71) l71 169 [(0, vR (some 99)), (1, vI x1), (3, vI x3), (4, vI x4), (5, vI x2)] []))) ∧ ((¬ (97 ≤ x3 ∧ x3 ≤ 122)) → ((0 ≤ (u2 (u2 i 109 (i 99 15) x2) 108 ((u2 i 109 (i 99 15) x2) 99 15) 0) 99 15 ∧ (u2 (u2 i 109 (i 99 15) x2) 108 ((u2 i 109 (i 99 15) x2) 99 15) 0) 99 15 < 401) ∧ (rg (if (48 ≤ x3 ∧ x3 ≤ 57) then 50 else 100 + (iand x3 255))) ∧ gV w d X_X12_splits P (u2 (u2 (u2 i 109 (i 99 15) x2) 108 ((u2 i 109 (i 99 15) x2) 99 15) 0) 107 ((u2 (u2 i 109 (i 99 15) x2) 108 ((u2 i 109 (i 99 15) x2) 99 15) 0) 99 15) (if (48 ≤ x3 ∧ x3 ≤ 57) then 50 else 100 + (iand x3 255))) l 169 [(0, vR (some 99)), (1, vI x1), (3, vI x3), (4, vI x4), (5, vI x2)] []))))) : gV w d X_X12_splits P i l 100 [(0, vR (some 99)), (1, vI x1), (2, vI x2), (3, vI x3), (4, vI x4)] [] := by
  obtain ⟨ob45, ob46, ob48, ob50, h⟩ := h
  refine g_aload_n (pc' := 101) 0 dX12_splits_100 rfl rfl ?_
  refine g_getR (pc' := 104) (o := some 109) fl_X12_49 rfl rfl rfl dX12_splits_101 rfl ?_
  refine g_aload_n (pc' := 105) 0 dX12_splits_104 rfl rfl ?_
  refine g_getI (pc' := 108) (z := 15) rfl fl_X12_180 rfl rfl dX12_splits_105 rfl (fun rg44 => ?_)
  refine g_iload_n (pc' := 109) 2 dX12_splits_108 rfl rfl ?_
  refine g_iast (pc' := 110) (N := 401) rfl rfl (Nat.lt_of_lt_of_le (Nat.lt_succ_self _) (Nat.le_of_ble_eq_true rfl)) ob45 ob46 dX12_splits_109 rfl ?_
  refine g_aload_n (pc' := 111) 0 dX12_splits_110 rfl rfl ?_
  refine g_getR (pc' := 114) (o := some 108) fl_X12_46 rfl rfl rfl dX12_splits_111 rfl ?_
  refine g_aload_n (pc' := 115) 0 dX12_splits_114 rfl rfl ?_
  refine g_getI (pc' := 118) (z := 15) rfl fl_X12_180 rfl rfl dX12_splits_115 rfl (fun rg47 => ?_)
  refine g_iconst (pc' := 119) dX12_splits_118 rfl ?_
  refine g_iast (pc' := 120) (N := 401) rfl rfl (Nat.lt_of_lt_of_le (Nat.lt_succ_self _) (Nat.le_of_ble_eq_true rfl)) ob48 (rg_lit rfl) dX12_splits_119 rfl ?_
  refine g_aload_n (pc' := 121) 0 dX12_splits_120 rfl rfl ?_
  refine g_getR (pc' := 124) (o := some 107) fl_X12_43 rfl rfl rfl dX12_splits_121 rfl ?_
  refine g_aload_n (pc' := 125) 0 dX12_splits_124 rfl rfl ?_
  refine g_getI (pc' := 128) (z := 15) rfl fl_X12_180 rfl rfl dX12_splits_125 rfl (fun rg49 => ?_)
  refine g_iload_n (pc' := 129) 3 dX12_splits_128 rfl rfl ?_
  refine g_pSI (pc' := 132) (vs := [vI x3]) (st := [vI ((u2 (u2 i 109 (i 99 15) x2) 108 ((u2 i 109 (i 99 15) x2) 99 15) 0) 99 15), vR (some 107)]) (val := bI (97 ≤ x3 ∧ x3 ≤ 122)) (sp_X12_isSmall (le_hd hd rfl) ob50) mk_X12_isSmall ms_X12_isSmall lk_X12_183 rfl (Nat.le_of_ble_eq_true rfl) (Nat.le_of_ble_eq_true rfl) rfl dX12_splits_129 rfl z2 (fun rg51 => ?_)
  obtain ⟨hk73, hk74⟩ := h
  have hk73g : (97 ≤ x3 ∧ x3 ≤ 122) → gV w d X_X12_splits P (u2 (u2 i 109 (i 99 15) x2) 108 ((u2 i 109 (i 99 15) x2) 99 15) 0) l 135 [(0, vR (some 99)), (1, vI x1), (2, vI x2), (3, vI x3), (4, vI x4)] [vI ((u2 (u2 i 109 (i 99 15) x2) 108 ((u2 i 109 (i 99 15) x2) 99 15) 0) 99 15), vR (some 107)] := by
    intro hp
    have h := hk73 hp
    refine g_aload_n (pc' := 136) 0 dX12_splits_135 rfl rfl ?_
    refine g_iload_n (pc' := 137) 2 dX12_splits_136 rfl rfl ?_
    refine g_iload (pc' := 139) 4 dX12_splits_137 rfl rfl ?_
    refine g_cVI (pc' := 142) (vs := [vI x2, vI x4]) (st := [vI ((u2 (u2 i 109 (i 99 15) x2) 108 ((u2 i 109 (i 99 15) x2) 99 15) 0) 99 15), vR (some 107)]) (c := 12) h mv_X12_wordOf lk_X12_189 rfl rfl rfl rfl (Nat.le_of_ble_eq_true rfl) (Nat.le_of_ble_eq_true rfl) rfl dX12_splits_139 rfl z2 (fun r71 i71 l71 rg71 h => ?_)
    obtain ⟨ob72, h⟩ := h
    refine g_goto (tgt := 165) dX12_splits_142 rfl ?_
    refine g_iast (pc' := 166) (N := 401) rfl rfl (Nat.lt_of_lt_of_le (Nat.lt_succ_self _) (Nat.le_of_ble_eq_true rfl)) ob72 rg71 dX12_splits_165 rfl ?_
    refine g_iload_n (pc' := 167) 2 dX12_splits_166 rfl rfl ?_
    refine g_istore (pc' := 169) (L' := [(5, vI x2), (0, vR (some 99)), (1, vI x1), (2, vI x2), (3, vI x3), (4, vI x4)]) dX12_splits_167 rfl (Nat.le_of_ble_eq_true rfl) rfl ?_
    refine g_sub (L' := [(0, vR (some 99)), (1, vI x1), (3, vI x3), (4, vI x4), (5, vI x2)]) [1, 2, 4, 5, 0] rfl ?_
    exact h
  have hk74g : (¬ (97 ≤ x3 ∧ x3 ≤ 122)) → gV w d X_X12_splits P (u2 (u2 i 109 (i 99 15) x2) 108 ((u2 i 109 (i 99 15) x2) 99 15) 0) l 145 [(0, vR (some 99)), (1, vI x1), (2, vI x2), (3, vI x3), (4, vI x4)] [vI ((u2 (u2 i 109 (i 99 15) x2) 108 ((u2 i 109 (i 99 15) x2) 99 15) 0) 99 15), vR (some 107)] := by
    intro hp
    have h := hk74 hp
    refine g_iload_n (pc' := 146) 3 dX12_splits_145 rfl rfl ?_
    refine g_pSI (pc' := 149) (vs := [vI x3]) (st := [vI ((u2 (u2 i 109 (i 99 15) x2) 108 ((u2 i 109 (i 99 15) x2) 99 15) 0) 99 15), vR (some 107)]) (val := bI (48 ≤ x3 ∧ x3 ≤ 57)) (sp_X12_isDigit (le_hd hd rfl) ob50) mk_X12_isDigit ms_X12_isDigit lk_X12_186 rfl (Nat.le_of_ble_eq_true rfl) (Nat.le_of_ble_eq_true rfl) rfl dX12_splits_146 rfl z2 (fun rg66 => ?_)
    have hJ : gV w d X_X12_splits P (u2 (u2 i 109 (i 99 15) x2) 108 ((u2 i 109 (i 99 15) x2) 99 15) 0) l 165 [(0, vR (some 99)), (1, vI x1), (2, vI x2), (3, vI x3), (4, vI x4)] [vI (if (48 ≤ x3 ∧ x3 ≤ 57) then 50 else 100 + (iand x3 255)), vI ((u2 (u2 i 109 (i 99 15) x2) 108 ((u2 i 109 (i 99 15) x2) 99 15) 0) 99 15), vR (some 107)] := by
      obtain ⟨ob69, ob70, h⟩ := h
      refine g_iast (pc' := 166) (N := 401) rfl rfl (Nat.lt_of_lt_of_le (Nat.lt_succ_self _) (Nat.le_of_ble_eq_true rfl)) ob69 ob70 dX12_splits_165 rfl ?_
      refine g_iload_n (pc' := 167) 2 dX12_splits_166 rfl rfl ?_
      refine g_istore (pc' := 169) (L' := [(5, vI x2), (0, vR (some 99)), (1, vI x1), (2, vI x2), (3, vI x3), (4, vI x4)]) dX12_splits_167 rfl (Nat.le_of_ble_eq_true rfl) rfl ?_
      refine g_sub (L' := [(0, vR (some 99)), (1, vI x1), (3, vI x3), (4, vI x4), (5, vI x2)]) [1, 2, 4, 5, 0] rfl ?_
      exact h
    refine g_if_eq (tgt := 157) (pc' := 152) rg66 (bI_eq _) dX12_splits_149 rfl rfl (fun c68 => ?_) (fun c68n => ?_)
    · refine g_bipush (pc' := 159) dX12_splits_157 rfl rfl ?_
      refine g_iload_n (pc' := 160) 3 dX12_splits_159 rfl rfl ?_
      refine g_sipush (pc' := 163) dX12_splits_160 rfl rfl ?_
      refine g_iand (pc' := 164) dX12_splits_163 rfl ?_
      refine g_iadd (pc' := 165) dX12_splits_164 rfl ?_
      rw [if_neg c68 (α := Int) (t := 50) (e := 100 + (iand x3 255))] at hJ
      exact hJ
    · have c68 := Decidable.of_not_not c68n
      refine g_bipush (pc' := 154) dX12_splits_152 rfl rfl ?_
      refine g_goto (tgt := 165) dX12_splits_154 rfl ?_
      rw [if_pos c68 (α := Int) (t := 50) (e := 100 + (iand x3 255))] at hJ
      exact hJ
  refine g_if_eq (tgt := 145) (pc' := 135) rg51 (bI_eq _) dX12_splits_132 rfl rfl (fun c65 => ?_) (fun c65n => ?_)
  · exact hk74g c65
  · have c65 := Decidable.of_not_not c65n
    exact hk73g c65
set_option maxRecDepth 20000 in
theorem s_X12_splits_75 {w : Wd} {d : Nat} {P : IM → LM → Prop} {i : IM} {l : LM} (x1 : Int) (x2 : Int) (x3 : Int) (x4 : Int)  (hd : 1 ≤ d) (h : ((rg x4) ∧ (rg x1) ∧ (¬ (x1 ≤ x4) → 0 ≤ x4 ∧ x4 < 400) ∧ (((x1 ≤ x4) ∨ (¬ (48 ≤ i 105 x4 ∧ i 105 x4 ≤ 57))) → gV w d X_X12_splits P i l 100 [(0, vR (some 99)), (1, vI x1), (2, vI x2), (3, vI x3), (4, vI x4)] []) ∧ ((¬ ((x1 ≤ x4) ∨ (¬ (48 ≤ i 105 x4 ∧ i 105 x4 ≤ 57)))) → gV w d X_X12_splits P i l 75 [(0, vR (some 99)), (1, vI x1), (2, vI x2), (3, vI x3), (4, vI (x4 + 1))] []))) : gV w d X_X12_splits P i l 75 [(0, vR (some 99)), (1, vI x1), (2, vI x2), (3, vI x3), (4, vI x4)] [] := by
  refine g_iload (pc' := 77) 4 dX12_splits_75 rfl rfl ?_
  refine g_iload_n (pc' := 78) 1 dX12_splits_77 rfl rfl ?_
  obtain ⟨hob76, hob77, hob79, hk83, hk84⟩ := h
  have hk83g : ((x1 ≤ x4) ∨ (¬ (48 ≤ i 105 x4 ∧ i 105 x4 ≤ 57))) → gV w d X_X12_splits P i l 100 [(0, vR (some 99)), (1, vI x1), (2, vI x2), (3, vI x3), (4, vI x4)] [] := by
    intro hp
    have h := hk83 hp
    exact h
  have hk84g : (¬ ((x1 ≤ x4) ∨ (¬ (48 ≤ i 105 x4 ∧ i 105 x4 ≤ 57)))) → gV w d X_X12_splits P i l 94 [(0, vR (some 99)), (1, vI x1), (2, vI x2), (3, vI x3), (4, vI x4)] [] := by
    intro hp
    have h := hk84 hp
    refine g_iinc (pc' := 97) (L' := [(4, vI (x4 + 1)), (0, vR (some 99)), (1, vI x1), (2, vI x2), (3, vI x3)]) 4 dX12_splits_94 rfl (Nat.le_of_ble_eq_true rfl) rfl rfl ?_
    refine g_goto (tgt := 75) dX12_splits_97 rfl ?_
    refine g_sub (L' := [(0, vR (some 99)), (1, vI x1), (2, vI x2), (3, vI x3), (4, vI (x4 + 1))]) [1, 2, 3, 4, 0] rfl ?_
    exact h
  refine g_icmp_ge (tgt := 100) (pc' := 81) (hob76) (hob77) Iff.rfl dX12_splits_78 rfl rfl (fun c78 => ?_) (fun c78 => ?_)
  · exact hk83g (Or.inl c78)
  · refine g_aload_n (pc' := 82) 0 dX12_splits_81 rfl rfl ?_
    refine g_getR (pc' := 85) (o := some 105) fl_X12_34 rfl rfl rfl dX12_splits_82 rfl ?_
    refine g_iload (pc' := 87) 4 dX12_splits_85 rfl rfl ?_
    refine g_bald (pc' := 88) (N := 400) rfl rfl (Nat.lt_of_lt_of_le (Nat.lt_succ_self _) (Nat.le_of_ble_eq_true rfl)) (hob79 c78) dX12_splits_87 rfl (fun rg80 => ?_)
    refine g_pSI (pc' := 91) (vs := [vI (i 105 x4)]) (st := []) (val := bI (48 ≤ i 105 x4 ∧ i 105 x4 ≤ 57)) (sp_X12_isDigit (le_hd hd rfl) rg80) mk_X12_isDigit ms_X12_isDigit lk_X12_186 rfl (Nat.le_of_ble_eq_true rfl) (Nat.le_of_ble_eq_true rfl) rfl dX12_splits_88 rfl z2 (fun rg81 => ?_)
    refine g_if_eq (tgt := 100) (pc' := 94) rg81 (bI_eq _) dX12_splits_91 rfl rfl (fun c82 => ?_) (fun c82n => ?_)
    · exact hk83g (Or.inr c82)
    · have c82 := Decidable.of_not_not c82n
      exact hk84g (fun q => q.elim c78 (fun q => q c82))
set_option maxRecDepth 20000 in
theorem s_X12_splits_169 {w : Wd} {d : Nat} {P : IM → LM → Prop} {i : IM} {l : LM} (x1 : Int) (x3 : Int) (x4 : Int) (x5 : Int)  (hd : 1 ≤ d) (h : ((rg x5) ∧ (rg x4) ∧ (¬ (x4 ≤ x5) → rg x3) ∧ (((x4 ≤ x5) ∨ (¬ (48 ≤ x3 ∧ x3 ≤ 57))) → ((rg ((i 99 15) + 1)) ∧ gV w d X_X12_splits P (u2 i 99 15 ((i 99 15) + 1)) l 7 [(0, vR (some 99)), (1, vI x1), (2, vI x4)] [])) ∧ ((¬ ((x4 ≤ x5) ∨ (¬ (48 ≤ x3 ∧ x3 ≤ 57)))) → ((0 ≤ i 99 15 ∧ i 99 15 < 401) ∧ (((i 108 (i 99 15) ≤ 1000000) → 0 ≤ i 99 15 ∧ i 99 15 < 401) ∧ ((i 108 (i 99 15) ≤ 1000000) → 0 ≤ x5 ∧ x5 < 400) ∧ (¬ (i 108 (i 99 15) ≤ 1000000) → 0 ≤ i 99 15 ∧ i 99 15 < 401) ∧ ((0 ≤ i 99 15 ∧ i 99 15 < 401) ∧ (rg (if (i 108 (i 99 15) ≤ 1000000) then ((10 * (i 108 (i 99 15))) + (i 105 x5)) - 48 else i 108 (i 99 15))) ∧ gV w d X_X12_splits P (u2 i 108 (i 99 15) (if (i 108 (i 99 15) ≤ 1000000) then ((10 * (i 108 (i 99 15))) + (i 105 x5)) - 48 else i 108 (i 99 15))) l 169 [(0, vR (some 99)), (1, vI x1), (3, vI x3), (4, vI x4), (5, vI (x5 + 1))] [])))))) : gV w d X_X12_splits P i l 169 [(0, vR (some 99)), (1, vI x1), (3, vI x3), (4, vI x4), (5, vI x5)] [] := by
  refine g_iload (pc' := 171) 4 dX12_splits_169 rfl rfl ?_
  refine g_iload (pc' := 173) 3 dX12_splits_171 rfl rfl ?_
  obtain ⟨hob143, hob144, hob147, hk173, hk174⟩ := h
  have hk173g : ((x4 ≤ x5) ∨ (¬ (48 ≤ x3 ∧ x3 ≤ 57))) → gV w d X_X12_splits P i l 247 [(0, vR (some 99)), (1, vI x1), (3, vI x3), (4, vI x4), (5, vI x5)] [] := by
    intro hp
    have h := hk173 hp
    obtain ⟨ob156, h⟩ := h
    refine g_aload_n (pc' := 248) 0 dX12_splits_247 rfl rfl ?_
    refine g_dup (pc' := 249) dX12_splits_248 rfl rfl ?_
    refine g_getI (pc' := 252) (z := 15) rfl fl_X12_180 rfl rfl dX12_splits_249 rfl (fun rg155 => ?_)
    refine g_iconst (pc' := 253) dX12_splits_252 rfl ?_
    refine g_iadd (pc' := 254) dX12_splits_253 rfl ?_
    refine g_putI (pc' := 257) (z := 15) rfl fp_X12_180 rfl rfl ob156 dX12_splits_254 rfl ?_
    refine g_iload (pc' := 259) 3 dX12_splits_257 rfl rfl ?_
    refine g_istore_n (pc' := 260) (L' := [(2, vI x4), (0, vR (some 99)), (1, vI x1), (3, vI x3), (4, vI x4), (5, vI x5)]) dX12_splits_259 rfl (Nat.le_of_ble_eq_true rfl) rfl ?_
    refine g_goto (tgt := 7) dX12_splits_260 rfl ?_
    refine g_sub (L' := [(0, vR (some 99)), (1, vI x1), (2, vI x4)]) [1, 2, 0] rfl ?_
    exact h
  have hk174g : (¬ ((x4 ≤ x5) ∨ (¬ (48 ≤ x3 ∧ x3 ≤ 57)))) → gV w d X_X12_splits P i l 183 [(0, vR (some 99)), (1, vI x1), (3, vI x3), (4, vI x4), (5, vI x5)] [] := by
    intro hp
    have h := hk174 hp
    obtain ⟨ob159, h⟩ := h
    refine g_aload_n (pc' := 184) 0 dX12_splits_183 rfl rfl ?_
    refine g_getR (pc' := 187) (o := some 108) fl_X12_46 rfl rfl rfl dX12_splits_184 rfl ?_
    refine g_aload_n (pc' := 188) 0 dX12_splits_187 rfl rfl ?_
    refine g_getI (pc' := 191) (z := 15) rfl fl_X12_180 rfl rfl dX12_splits_188 rfl (fun rg157 => ?_)
    refine g_aload_n (pc' := 192) 0 dX12_splits_191 rfl rfl ?_
    refine g_getR (pc' := 195) (o := some 108) fl_X12_46 rfl rfl rfl dX12_splits_192 rfl ?_
    refine g_aload_n (pc' := 196) 0 dX12_splits_195 rfl rfl ?_
    refine g_getI (pc' := 199) (z := 15) rfl fl_X12_180 rfl rfl dX12_splits_196 rfl (fun rg158 => ?_)
    refine g_iald (pc' := 200) (N := 401) rfl rfl (Nat.lt_of_lt_of_le (Nat.lt_succ_self _) (Nat.le_of_ble_eq_true rfl)) ob159 dX12_splits_199 rfl (fun rg160 => ?_)
    refine g_ldc (pc' := 202) dX12_splits_200 rfl kc_X12_192 ?_
    refine g_rg (fun hRG161 => ?_)
    obtain ⟨hob164, hob166, hob169, h⟩ := h
    have hJ : gV w d X_X12_splits P i l 240 [(0, vR (some 99)), (1, vI x1), (3, vI x3), (4, vI x4), (5, vI x5)] [vI (if (i 108 (i 99 15) ≤ 1000000) then ((10 * (i 108 (i 99 15))) + (i 105 x5)) - 48 else i 108 (i 99 15)), vI (i 99 15), vR (some 108)] := by
      obtain ⟨ob171, ob172, h⟩ := h
      refine g_iast (pc' := 241) (N := 401) rfl rfl (Nat.lt_of_lt_of_le (Nat.lt_succ_self _) (Nat.le_of_ble_eq_true rfl)) ob171 ob172 dX12_splits_240 rfl ?_
      refine g_iinc (pc' := 244) (L' := [(5, vI (x5 + 1)), (0, vR (some 99)), (1, vI x1), (3, vI x3), (4, vI x4)]) 4 dX12_splits_241 rfl (Nat.le_of_ble_eq_true rfl) rfl rfl ?_
      refine g_goto (tgt := 169) dX12_splits_244 rfl ?_
      refine g_sub (L' := [(0, vR (some 99)), (1, vI x1), (3, vI x3), (4, vI x4), (5, vI (x5 + 1))]) [1, 2, 3, 4, 0] rfl ?_
      exact h
    refine g_icmp_le (tgt := 217) (pc' := 205) rg160 (rg_lit rfl) Iff.rfl dX12_splits_202 rfl rfl (fun c162 => ?_) (fun c162 => ?_)
    · refine g_bipush (pc' := 219) dX12_splits_217 rfl rfl ?_
      refine g_aload_n (pc' := 220) 0 dX12_splits_219 rfl rfl ?_
      refine g_getR (pc' := 223) (o := some 108) fl_X12_46 rfl rfl rfl dX12_splits_220 rfl ?_
      refine g_aload_n (pc' := 224) 0 dX12_splits_223 rfl rfl ?_
      refine g_getI (pc' := 227) (z := 15) rfl fl_X12_180 rfl rfl dX12_splits_224 rfl (fun rg163 => ?_)
      refine g_iald (pc' := 228) (N := 401) rfl rfl (Nat.lt_of_lt_of_le (Nat.lt_succ_self _) (Nat.le_of_ble_eq_true rfl)) (hob164 c162) dX12_splits_227 rfl (fun rg165 => ?_)
      refine g_imul (pc' := 229) dX12_splits_228 rfl ?_
      refine g_aload_n (pc' := 230) 0 dX12_splits_229 rfl rfl ?_
      refine g_getR (pc' := 233) (o := some 105) fl_X12_34 rfl rfl rfl dX12_splits_230 rfl ?_
      refine g_iload (pc' := 235) 4 dX12_splits_233 rfl rfl ?_
      refine g_bald (pc' := 236) (N := 400) rfl rfl (Nat.lt_of_lt_of_le (Nat.lt_succ_self _) (Nat.le_of_ble_eq_true rfl)) (hob166 c162) dX12_splits_235 rfl (fun rg167 => ?_)
      refine g_iadd (pc' := 237) dX12_splits_236 rfl ?_
      refine g_bipush (pc' := 239) dX12_splits_237 rfl rfl ?_
      refine g_isub (pc' := 240) dX12_splits_239 rfl ?_
      rw [if_pos c162 (α := Int) (t := ((10 * (i 108 (i 99 15))) + (i 105 x5)) - 48) (e := i 108 (i 99 15))] at hJ
      exact hJ
    · refine g_aload_n (pc' := 206) 0 dX12_splits_205 rfl rfl ?_
      refine g_getR (pc' := 209) (o := some 108) fl_X12_46 rfl rfl rfl dX12_splits_206 rfl ?_
      refine g_aload_n (pc' := 210) 0 dX12_splits_209 rfl rfl ?_
      refine g_getI (pc' := 213) (z := 15) rfl fl_X12_180 rfl rfl dX12_splits_210 rfl (fun rg168 => ?_)
      refine g_iald (pc' := 214) (N := 401) rfl rfl (Nat.lt_of_lt_of_le (Nat.lt_succ_self _) (Nat.le_of_ble_eq_true rfl)) (hob169 c162) dX12_splits_213 rfl (fun rg170 => ?_)
      refine g_goto (tgt := 240) dX12_splits_214 rfl ?_
      rw [if_neg c162 (α := Int) (t := ((10 * (i 108 (i 99 15))) + (i 105 x5)) - 48) (e := i 108 (i 99 15))] at hJ
      exact hJ
  refine g_icmp_ge (tgt := 247) (pc' := 176) (hob143) (hob144) Iff.rfl dX12_splits_173 rfl rfl (fun c145 => ?_) (fun c145 => ?_)
  · exact hk173g (Or.inl c145)
  · refine g_iload_n (pc' := 177) 2 dX12_splits_176 rfl rfl ?_
    refine g_pSI (pc' := 180) (vs := [vI x3]) (st := []) (val := bI (48 ≤ x3 ∧ x3 ≤ 57)) (sp_X12_isDigit (le_hd hd rfl) (hob147 c145)) mk_X12_isDigit ms_X12_isDigit lk_X12_186 rfl (Nat.le_of_ble_eq_true rfl) (Nat.le_of_ble_eq_true rfl) rfl dX12_splits_177 rfl z2 (fun rg148 => ?_)
    refine g_if_eq (tgt := 247) (pc' := 183) rg148 (bI_eq _) dX12_splits_180 rfl rfl (fun c149 => ?_) (fun c149n => ?_)
    · exact hk173g (Or.inr c149)
    · have c149 := Decidable.of_not_not c149n
      exact hk174g (fun q => q.elim c145 (fun q => q c149))

theorem dX12_faults_0 : decode cX12_faults 0 = .ok (.aload_n 0, 1) := by decide +kernel
theorem dX12_faults_1 : decode cX12_faults 1 = .ok (.invokevirtual 196, 3) := by decide +kernel
theorem dX12_faults_4 : decode cX12_faults 4 = .ok (.ifCond .eq 16, 3) := by decide +kernel
theorem dX12_faults_7 : decode cX12_faults 7 = .ok (.aload_n 0, 1) := by decide +kernel
theorem dX12_faults_8 : decode cX12_faults 8 = .ok (.aload_n 0, 1) := by decide +kernel
theorem dX12_faults_9 : decode cX12_faults 9 = .ok (.getfield 49, 3) := by decide +kernel
theorem dX12_faults_12 : decode cX12_faults 12 = .ok (.aload_n 0, 1) := by decide +kernel
theorem dX12_faults_13 : decode cX12_faults 13 = .ok (.getfield 200, 3) := by decide +kernel
theorem dX12_faults_16 : decode cX12_faults 16 = .ok (.iaload, 1) := by decide +kernel
theorem dX12_faults_17 : decode cX12_faults 17 = .ok (.putfield 193, 3) := by decide +kernel
theorem dX12_faults_20 : decode cX12_faults 20 = .ok (.return_, 1) := by decide +kernel
set_option maxRecDepth 20000 in
theorem s_X12_faults {w : Wd} {d : Nat} {P : IM → LM → Prop} {i : IM} {l : LM}   (hd : 1 ≤ d) (h : (((i 99 18 = -1) → ((0 ≤ i 99 16 ∧ i 99 16 < 401) ∧ P (u2 i 99 18 (i 109 (i 99 16))) l)) ∧ ((¬ (i 99 18 = -1)) → P i l))) : gV w d X_X12_faults P i l 0 [(0, vR (some 99))] [] := by
  refine g_aload_n (pc' := 1) 0 dX12_faults_0 rfl rfl ?_
  refine g_pVI (pc' := 4) (vs := []) (st := []) (val := bI (i 99 18 = -1)) (c := 12) (sp_X12_fine (le_hd hd rfl) ) mv_X12_fine lk_X12_196 rfl rfl rfl rfl (Nat.le_of_ble_eq_true rfl) (Nat.le_of_ble_eq_true rfl) rfl dX12_faults_1 rfl z2 (fun rg1 => ?_)
  obtain ⟨hk10, hk11⟩ := h
  have hk10g : (i 99 18 = -1) → gV w d X_X12_faults P i l 7 [(0, vR (some 99))] [] := by
    intro hp
    have h := hk10 hp
    obtain ⟨ob8, h⟩ := h
    refine g_aload_n (pc' := 8) 0 dX12_faults_7 rfl rfl ?_
    refine g_aload_n (pc' := 9) 0 dX12_faults_8 rfl rfl ?_
    refine g_getR (pc' := 12) (o := some 109) fl_X12_49 rfl rfl rfl dX12_faults_9 rfl ?_
    refine g_aload_n (pc' := 13) 0 dX12_faults_12 rfl rfl ?_
    refine g_getI (pc' := 16) (z := 16) rfl fl_X12_200 rfl rfl dX12_faults_13 rfl (fun rg7 => ?_)
    refine g_iald (pc' := 17) (N := 401) rfl rfl (Nat.lt_of_lt_of_le (Nat.lt_succ_self _) (Nat.le_of_ble_eq_true rfl)) ob8 dX12_faults_16 rfl (fun rg9 => ?_)
    refine g_putI (pc' := 20) (z := 18) rfl fp_X12_193 rfl rfl rg9 dX12_faults_17 rfl ?_
    exact g_retV rfl dX12_faults_20 h
  have hk11g : (¬ (i 99 18 = -1)) → gV w d X_X12_faults P i l 20 [(0, vR (some 99))] [] := by
    intro hp
    have h := hk11 hp
    exact g_retV rfl dX12_faults_20 h
  refine g_if_eq (tgt := 20) (pc' := 7) rg1 (bI_eq _) dX12_faults_4 rfl rfl (fun c3 => ?_) (fun c3n => ?_)
  · exact hk11g c3
  · have c3 := Decidable.of_not_not c3n
    exact hk10g c3
theorem e_X12_faults {w : Wd} {d : Nat} {P : IM → LM → Prop} {i : IM} {l : LM}   (h : gV w d X_X12_faults P i l 0 [(0, vR (some 99))] []) : cVd w (d + 1) X_X12_faults [vR (some 99)] i l P := CV_of (by decide +kernel) (Nat.le_of_ble_eq_true rfl) h

theorem dX12_takes0_0 : decode cX12_takes0 0 = .ok (.aload_n 0, 1) := by decide +kernel
theorem dX12_takes0_1 : decode cX12_takes0 1 = .ok (.invokevirtual 196, 3) := by decide +kernel
theorem dX12_takes0_4 : decode cX12_takes0 4 = .ok (.ifCond .eq 20, 3) := by decide +kernel
theorem dX12_takes0_7 : decode cX12_takes0 7 = .ok (.aload_n 0, 1) := by decide +kernel
theorem dX12_takes0_8 : decode cX12_takes0 8 = .ok (.getfield 43, 3) := by decide +kernel
theorem dX12_takes0_11 : decode cX12_takes0 11 = .ok (.aload_n 0, 1) := by decide +kernel
theorem dX12_takes0_12 : decode cX12_takes0 12 = .ok (.getfield 200, 3) := by decide +kernel
theorem dX12_takes0_15 : decode cX12_takes0 15 = .ok (.iaload, 1) := by decide +kernel
theorem dX12_takes0_16 : decode cX12_takes0 16 = .ok (.iload_n 1, 1) := by decide +kernel
theorem dX12_takes0_17 : decode cX12_takes0 17 = .ok (.if_icmp .ne 7, 3) := by decide +kernel
theorem dX12_takes0_20 : decode cX12_takes0 20 = .ok (.iconst 1, 1) := by decide +kernel
theorem dX12_takes0_21 : decode cX12_takes0 21 = .ok (.goto 4, 3) := by decide +kernel
theorem dX12_takes0_24 : decode cX12_takes0 24 = .ok (.iconst 0, 1) := by decide +kernel
theorem dX12_takes0_25 : decode cX12_takes0 25 = .ok (.istore_n 2, 1) := by decide +kernel
theorem dX12_takes0_26 : decode cX12_takes0 26 = .ok (.iload_n 2, 1) := by decide +kernel
theorem dX12_takes0_27 : decode cX12_takes0 27 = .ok (.ifCond .eq 13, 3) := by decide +kernel
theorem dX12_takes0_30 : decode cX12_takes0 30 = .ok (.aload_n 0, 1) := by decide +kernel
theorem dX12_takes0_31 : decode cX12_takes0 31 = .ok (.dup, 1) := by decide +kernel
theorem dX12_takes0_32 : decode cX12_takes0 32 = .ok (.getfield 200, 3) := by decide +kernel
theorem dX12_takes0_35 : decode cX12_takes0 35 = .ok (.iconst 1, 1) := by decide +kernel
theorem dX12_takes0_36 : decode cX12_takes0 36 = .ok (.iadd, 1) := by decide +kernel
theorem dX12_takes0_37 : decode cX12_takes0 37 = .ok (.putfield 200, 3) := by decide +kernel
theorem dX12_takes0_40 : decode cX12_takes0 40 = .ok (.iload_n 2, 1) := by decide +kernel
theorem dX12_takes0_41 : decode cX12_takes0 41 = .ok (.ireturn, 1) := by decide +kernel
set_option maxRecDepth 20000 in
theorem s_X12_takes0 {w : Wd} {d : Nat} {P : Int → IM → LM → Prop} {i : IM} {l : LM} (p0 : Int)  (hd : 1 ≤ d) (h : (((i 99 18 = -1) → 0 ≤ i 99 16 ∧ i 99 16 < 401) ∧ ((i 99 18 = -1) → rg p0) ∧ ((((i 99 18 = -1) ∧ (i 107 (i 99 16) = p0)) → ((rg ((i 99 16) + 1)) ∧ P (bI ((i 99 18 = -1) ∧ (i 107 (i 99 16) = p0))) (u2 i 99 16 ((i 99 16) + 1)) l)) ∧ ((¬ ((i 99 18 = -1) ∧ (i 107 (i 99 16) = p0))) → P (bI ((i 99 18 = -1) ∧ (i 107 (i 99 16) = p0))) i l)))) : gI w d X_X12_takes0 P i l 0 [(0, vR (some 99)), (1, vI p0)] [] := by
  refine g_aload_n (pc' := 1) 0 dX12_takes0_0 rfl rfl ?_
  refine g_pVI (pc' := 4) (vs := []) (st := []) (val := bI (i 99 18 = -1)) (c := 12) (sp_X12_fine (le_hd hd rfl) ) mv_X12_fine lk_X12_196 rfl rfl rfl rfl (Nat.le_of_ble_eq_true rfl) (Nat.le_of_ble_eq_true rfl) rfl dX12_takes0_1 rfl z2 (fun rg1 => ?_)
  obtain ⟨hob5, hob7, h⟩ := h
  have hJ : gI w d X_X12_takes0 P i l 25 [(0, vR (some 99)), (1, vI p0)] [vI (bI ((i 99 18 = -1) ∧ (i 107 (i 99 16) = p0)))] := by
    refine g_istore_n (pc' := 26) (L' := [(2, vI (bI ((i 99 18 = -1) ∧ (i 107 (i 99 16) = p0)))), (0, vR (some 99)), (1, vI p0)]) dX12_takes0_25 rfl (Nat.le_of_ble_eq_true rfl) rfl ?_
    refine g_iload_n (pc' := 27) 0 dX12_takes0_26 rfl rfl ?_
    obtain ⟨hk14, hk15⟩ := h
    have hk14g : ((i 99 18 = -1) ∧ (i 107 (i 99 16) = p0)) → gI w d X_X12_takes0 P i l 30 [(2, vI (bI ((i 99 18 = -1) ∧ (i 107 (i 99 16) = p0)))), (0, vR (some 99)), (1, vI p0)] [] := by
      intro hp
      have h := hk14 hp
      obtain ⟨ob13, h⟩ := h
      refine g_aload_n (pc' := 31) 1 dX12_takes0_30 rfl rfl ?_
      refine g_dup (pc' := 32) dX12_takes0_31 rfl rfl ?_
      refine g_getI (pc' := 35) (z := 16) rfl fl_X12_200 rfl rfl dX12_takes0_32 rfl (fun rg12 => ?_)
      refine g_iconst (pc' := 36) dX12_takes0_35 rfl ?_
      refine g_iadd (pc' := 37) dX12_takes0_36 rfl ?_
      refine g_putI (pc' := 40) (z := 16) rfl fp_X12_200 rfl rfl ob13 dX12_takes0_37 rfl ?_
      refine g_iload_n (pc' := 41) 0 dX12_takes0_40 rfl rfl ?_
      exact g_retZ rfl (bI_01 _) dX12_takes0_41 h
    have hk15g : (¬ ((i 99 18 = -1) ∧ (i 107 (i 99 16) = p0))) → gI w d X_X12_takes0 P i l 40 [(2, vI (bI ((i 99 18 = -1) ∧ (i 107 (i 99 16) = p0)))), (0, vR (some 99)), (1, vI p0)] [] := by
      intro hp
      have h := hk15 hp
      refine g_iload_n (pc' := 41) 0 dX12_takes0_40 rfl rfl ?_
      exact g_retZ rfl (bI_01 _) dX12_takes0_41 h
    refine g_if_eq (tgt := 40) (pc' := 30) (rg_bI _) (bI_eq _) dX12_takes0_27 rfl rfl (fun c10 => ?_) (fun c10n => ?_)
    · exact hk15g c10
    · have c10 := Decidable.of_not_not c10n
      exact hk14g c10
  refine g_if_eq (tgt := 24) (pc' := 7) rg1 (bI_eq _) dX12_takes0_4 rfl rfl (fun c3 => ?_) (fun c3n => ?_)
  · refine g_iconst (pc' := 25) dX12_takes0_24 rfl ?_
    rw [bI_f (p := ((i 99 18 = -1) ∧ (i 107 (i 99 16) = p0))) (fun q => c3 q.1)] at hJ
    exact hJ
  · have c3 := Decidable.of_not_not c3n
    refine g_aload_n (pc' := 8) 0 dX12_takes0_7 rfl rfl ?_
    refine g_getR (pc' := 11) (o := some 107) fl_X12_43 rfl rfl rfl dX12_takes0_8 rfl ?_
    refine g_aload_n (pc' := 12) 0 dX12_takes0_11 rfl rfl ?_
    refine g_getI (pc' := 15) (z := 16) rfl fl_X12_200 rfl rfl dX12_takes0_12 rfl (fun rg4 => ?_)
    refine g_iald (pc' := 16) (N := 401) rfl rfl (Nat.lt_of_lt_of_le (Nat.lt_succ_self _) (Nat.le_of_ble_eq_true rfl)) (hob5 c3) dX12_takes0_15 rfl (fun rg6 => ?_)
    refine g_iload_n (pc' := 17) 1 dX12_takes0_16 rfl rfl ?_
    refine g_icmp_ne (tgt := 24) (pc' := 20) rg6 (hob7 c3) Iff.rfl dX12_takes0_17 rfl rfl (fun c8 => ?_) (fun c8 => ?_)
    · refine g_iconst (pc' := 25) dX12_takes0_24 rfl ?_
      rw [bI_f (p := ((i 99 18 = -1) ∧ (i 107 (i 99 16) = p0))) (fun q => c8 q.2)] at hJ
      exact hJ
    · refine g_iconst (pc' := 21) dX12_takes0_20 rfl ?_
      refine g_goto (tgt := 25) dX12_takes0_21 rfl ?_
      rw [bI_t (p := ((i 99 18 = -1) ∧ (i 107 (i 99 16) = p0))) ⟨c3, c8⟩] at hJ
      exact hJ
theorem e_X12_takes0 {w : Wd} {d : Nat} {P : Int → IM → LM → Prop} {i : IM} {l : LM} {p0 : Int}  (h : gI w d X_X12_takes0 P i l 0 [(0, vR (some 99)), (1, vI p0)] []) : cI w (d + 1) X_X12_takes0 [vR (some 99), vI p0] i l P := CI_of (by decide +kernel) (Nat.le_of_ble_eq_true rfl) h

theorem dX12_must_0 : decode cX12_must 0 = .ok (.aload_n 0, 1) := by decide +kernel
theorem dX12_must_1 : decode cX12_must 1 = .ok (.iload_n 1, 1) := by decide +kernel
theorem dX12_must_2 : decode cX12_must 2 = .ok (.invokevirtual 203, 3) := by decide +kernel
theorem dX12_must_5 : decode cX12_must 5 = .ok (.ifCond .ne 7, 3) := by decide +kernel
theorem dX12_must_8 : decode cX12_must 8 = .ok (.aload_n 0, 1) := by decide +kernel
theorem dX12_must_9 : decode cX12_must 9 = .ok (.invokevirtual 206, 3) := by decide +kernel
theorem dX12_must_12 : decode cX12_must 12 = .ok (.return_, 1) := by decide +kernel
set_option maxRecDepth 20000 in
theorem s_X12_must {w : Wd} {d : Nat} {P : IM → LM → Prop} {i : IM} {l : LM} (p0 : Int)  (h : cI w d X_X12_takes0 [vR (some 99), vI p0] i l (fun r1 i1 l1 => (((r1 = 0) → cVd w d X_X12_faults [vR (some 99)] i1 l1 (fun i4 l4 => P i4 l4)) ∧ ((¬ (r1 = 0)) → P i1 l1)))) : gV w d X_X12_must P i l 0 [(0, vR (some 99)), (1, vI p0)] [] := by
  refine g_aload_n (pc' := 1) 0 dX12_must_0 rfl rfl ?_
  refine g_iload_n (pc' := 2) 1 dX12_must_1 rfl rfl ?_
  refine g_cVI (pc' := 5) (vs := [vI p0]) (st := []) (c := 12) h mv_X12_takes0 lk_X12_203 rfl rfl rfl rfl (Nat.le_of_ble_eq_true rfl) (Nat.le_of_ble_eq_true rfl) rfl dX12_must_2 rfl z2 (fun r1 i1 l1 rg1 h => ?_)
  obtain ⟨hk5, hk6⟩ := h
  refine g_if_ne (tgt := 12) (pc' := 8) rg1 Iff.rfl dX12_must_5 rfl rfl (fun c3 => ?_) (fun c3 => ?_)
  · have h := hk6 c3
    exact g_retV rfl dX12_must_12 h
  · have h := hk5 c3
    refine g_aload_n (pc' := 9) 0 dX12_must_8 rfl rfl ?_
    refine g_cVV (pc' := 12) (vs := []) (st := []) (c := 12) h mv_X12_faults lk_X12_206 rfl rfl rfl rfl (Nat.le_of_ble_eq_true rfl) (Nat.le_of_ble_eq_true rfl) rfl dX12_must_9 rfl z2 (fun i4 l4 h => ?_)
    exact g_retV rfl dX12_must_12 h
theorem e_X12_must {w : Wd} {d : Nat} {P : IM → LM → Prop} {i : IM} {l : LM} {p0 : Int}  (h : gV w d X_X12_must P i l 0 [(0, vR (some 99)), (1, vI p0)] []) : cVd w (d + 1) X_X12_must [vR (some 99), vI p0] i l P := CV_of (by decide +kernel) (Nat.le_of_ble_eq_true rfl) h

theorem dX12_leaf_0 : decode cX12_leaf 0 = .ok (.aload_n 0, 1) := by decide +kernel
theorem dX12_leaf_1 : decode cX12_leaf 1 = .ok (.getfield 209, 3) := by decide +kernel
theorem dX12_leaf_4 : decode cX12_leaf 4 = .ok (.bipush 50, 2) := by decide +kernel
theorem dX12_leaf_6 : decode cX12_leaf 6 = .ok (.if_icmp .ne 7, 3) := by decide +kernel
theorem dX12_leaf_9 : decode cX12_leaf 9 = .ok (.aload_n 0, 1) := by decide +kernel
theorem dX12_leaf_10 : decode cX12_leaf 10 = .ok (.invokevirtual 206, 3) := by decide +kernel
theorem dX12_leaf_13 : decode cX12_leaf 13 = .ok (.aload_n 0, 1) := by decide +kernel
theorem dX12_leaf_14 : decode cX12_leaf 14 = .ok (.dup, 1) := by decide +kernel
theorem dX12_leaf_15 : decode cX12_leaf 15 = .ok (.getfield 209, 3) := by decide +kernel
theorem dX12_leaf_18 : decode cX12_leaf 18 = .ok (.iconst 1, 1) := by decide +kernel
theorem dX12_leaf_19 : decode cX12_leaf 19 = .ok (.iadd, 1) := by decide +kernel
theorem dX12_leaf_20 : decode cX12_leaf 20 = .ok (.putfield 209, 3) := by decide +kernel
theorem dX12_leaf_23 : decode cX12_leaf 23 = .ok (.aload_n 0, 1) := by decide +kernel
theorem dX12_leaf_24 : decode cX12_leaf 24 = .ok (.invokevirtual 196, 3) := by decide +kernel
theorem dX12_leaf_27 : decode cX12_leaf 27 = .ok (.ifCond .eq 13, 3) := by decide +kernel
theorem dX12_leaf_30 : decode cX12_leaf 30 = .ok (.aload_n 0, 1) := by decide +kernel
theorem dX12_leaf_31 : decode cX12_leaf 31 = .ok (.dup, 1) := by decide +kernel
theorem dX12_leaf_32 : decode cX12_leaf 32 = .ok (.getfield 200, 3) := by decide +kernel
theorem dX12_leaf_35 : decode cX12_leaf 35 = .ok (.iconst 1, 1) := by decide +kernel
theorem dX12_leaf_36 : decode cX12_leaf 36 = .ok (.iadd, 1) := by decide +kernel
theorem dX12_leaf_37 : decode cX12_leaf 37 = .ok (.putfield 200, 3) := by decide +kernel
theorem dX12_leaf_40 : decode cX12_leaf 40 = .ok (.return_, 1) := by decide +kernel
set_option maxRecDepth 20000 in
theorem s_X12_leaf {w : Wd} {d : Nat} {P : IM → LM → Prop} {i : IM} {l : LM}   (h : (((i 99 17 = 50) → cVd w d X_X12_faults [vR (some 99)] i l (fun i4 l4 => gV w d X_X12_leaf P i4 l4 13 [(0, vR (some 99))] [])) ∧ ((¬ (i 99 17 = 50)) → gV w d X_X12_leaf P i l 13 [(0, vR (some 99))] []))) : gV w d X_X12_leaf P i l 0 [(0, vR (some 99))] [] := by
  refine g_aload_n (pc' := 1) 0 dX12_leaf_0 rfl rfl ?_
  refine g_getI (pc' := 4) (z := 17) rfl fl_X12_209 rfl rfl dX12_leaf_1 rfl (fun rg1 => ?_)
  refine g_bipush (pc' := 6) dX12_leaf_4 rfl rfl ?_
  obtain ⟨hk5, hk6⟩ := h
  refine g_icmp_ne (tgt := 13) (pc' := 9) rg1 (rg_lit rfl) Iff.rfl dX12_leaf_6 rfl rfl (fun c3 => ?_) (fun c3 => ?_)
  · have h := hk6 c3
    exact h
  · have h := hk5 c3
    refine g_aload_n (pc' := 10) 0 dX12_leaf_9 rfl rfl ?_
    refine g_cVV (pc' := 13) (vs := []) (st := []) (c := 12) h mv_X12_faults lk_X12_206 rfl rfl rfl rfl (Nat.le_of_ble_eq_true rfl) (Nat.le_of_ble_eq_true rfl) rfl dX12_leaf_10 rfl z2 (fun i4 l4 h => ?_)
    exact h
theorem e_X12_leaf {w : Wd} {d : Nat} {P : IM → LM → Prop} {i : IM} {l : LM}   (h : gV w d X_X12_leaf P i l 0 [(0, vR (some 99))] []) : cVd w (d + 1) X_X12_leaf [vR (some 99)] i l P := CV_of (by decide +kernel) (Nat.le_of_ble_eq_true rfl) h
set_option maxRecDepth 20000 in
theorem s_X12_leaf_13 {w : Wd} {d : Nat} {P : IM → LM → Prop} {i : IM} {l : LM}   (hd : 1 ≤ d) (h : ((rg ((i 99 17) + 1)) ∧ ((((u2 i 99 17 ((i 99 17) + 1)) 99 18 = -1) → ((rg (((u2 i 99 17 ((i 99 17) + 1)) 99 16) + 1)) ∧ P (u2 (u2 i 99 17 ((i 99 17) + 1)) 99 16 (((u2 i 99 17 ((i 99 17) + 1)) 99 16) + 1)) l)) ∧ ((¬ ((u2 i 99 17 ((i 99 17) + 1)) 99 18 = -1)) → P (u2 i 99 17 ((i 99 17) + 1)) l)))) : gV w d X_X12_leaf P i l 13 [(0, vR (some 99))] [] := by
  obtain ⟨ob8, h⟩ := h
  refine g_aload_n (pc' := 14) 0 dX12_leaf_13 rfl rfl ?_
  refine g_dup (pc' := 15) dX12_leaf_14 rfl rfl ?_
  refine g_getI (pc' := 18) (z := 17) rfl fl_X12_209 rfl rfl dX12_leaf_15 rfl (fun rg7 => ?_)
  refine g_iconst (pc' := 19) dX12_leaf_18 rfl ?_
  refine g_iadd (pc' := 20) dX12_leaf_19 rfl ?_
  refine g_putI (pc' := 23) (z := 17) rfl fp_X12_209 rfl rfl ob8 dX12_leaf_20 rfl ?_
  refine g_aload_n (pc' := 24) 0 dX12_leaf_23 rfl rfl ?_
  refine g_pVI (pc' := 27) (vs := []) (st := []) (val := bI ((u2 i 99 17 ((i 99 17) + 1)) 99 18 = -1)) (c := 12) (sp_X12_fine (le_hd hd rfl) ) mv_X12_fine lk_X12_196 rfl rfl rfl rfl (Nat.le_of_ble_eq_true rfl) (Nat.le_of_ble_eq_true rfl) rfl dX12_leaf_24 rfl z2 (fun rg9 => ?_)
  obtain ⟨hk15, hk16⟩ := h
  have hk15g : ((u2 i 99 17 ((i 99 17) + 1)) 99 18 = -1) → gV w d X_X12_leaf P (u2 i 99 17 ((i 99 17) + 1)) l 30 [(0, vR (some 99))] [] := by
    intro hp
    have h := hk15 hp
    obtain ⟨ob14, h⟩ := h
    refine g_aload_n (pc' := 31) 0 dX12_leaf_30 rfl rfl ?_
    refine g_dup (pc' := 32) dX12_leaf_31 rfl rfl ?_
    refine g_getI (pc' := 35) (z := 16) rfl fl_X12_200 rfl rfl dX12_leaf_32 rfl (fun rg13 => ?_)
    refine g_iconst (pc' := 36) dX12_leaf_35 rfl ?_
    refine g_iadd (pc' := 37) dX12_leaf_36 rfl ?_
    refine g_putI (pc' := 40) (z := 16) rfl fp_X12_200 rfl rfl ob14 dX12_leaf_37 rfl ?_
    exact g_retV rfl dX12_leaf_40 h
  have hk16g : (¬ ((u2 i 99 17 ((i 99 17) + 1)) 99 18 = -1)) → gV w d X_X12_leaf P (u2 i 99 17 ((i 99 17) + 1)) l 40 [(0, vR (some 99))] [] := by
    intro hp
    have h := hk16 hp
    exact g_retV rfl dX12_leaf_40 h
  refine g_if_eq (tgt := 40) (pc' := 30) rg9 (bI_eq _) dX12_leaf_27 rfl rfl (fun c11 => ?_) (fun c11n => ?_)
  · exact hk16g c11
  · have c11 := Decidable.of_not_not c11n
    exact hk15g c11

theorem dX12_readClause_0 : decode cX12_readClause 0 = .ok (.aload_n 0, 1) := by decide +kernel
theorem dX12_readClause_1 : decode cX12_readClause 1 = .ok (.iconst 1, 1) := by decide +kernel
theorem dX12_readClause_2 : decode cX12_readClause 2 = .ok (.invokevirtual 203, 3) := by decide +kernel
theorem dX12_readClause_5 : decode cX12_readClause 5 = .ok (.ifCond .ne 11, 3) := by decide +kernel
theorem dX12_readClause_8 : decode cX12_readClause 8 = .ok (.aload_n 0, 1) := by decide +kernel
theorem dX12_readClause_9 : decode cX12_readClause 9 = .ok (.iconst 2, 1) := by decide +kernel
theorem dX12_readClause_10 : decode cX12_readClause 10 = .ok (.invokevirtual 203, 3) := by decide +kernel
theorem dX12_readClause_13 : decode cX12_readClause 13 = .ok (.ifCond .eq 11, 3) := by decide +kernel
theorem dX12_readClause_16 : decode cX12_readClause 16 = .ok (.aload_n 0, 1) := by decide +kernel
theorem dX12_readClause_17 : decode cX12_readClause 17 = .ok (.iconst 0, 1) := by decide +kernel
theorem dX12_readClause_18 : decode cX12_readClause 18 = .ok (.invokevirtual 212, 3) := by decide +kernel
theorem dX12_readClause_21 : decode cX12_readClause 21 = .ok (.goto 16, 3) := by decide +kernel
theorem dX12_readClause_24 : decode cX12_readClause 24 = .ok (.aload_n 0, 1) := by decide +kernel
theorem dX12_readClause_25 : decode cX12_readClause 25 = .ok (.iconst 3, 1) := by decide +kernel
theorem dX12_readClause_26 : decode cX12_readClause 26 = .ok (.invokevirtual 203, 3) := by decide +kernel
theorem dX12_readClause_29 : decode cX12_readClause 29 = .ok (.ifCond .ne 8, 3) := by decide +kernel
theorem dX12_readClause_32 : decode cX12_readClause 32 = .ok (.aload_n 0, 1) := by decide +kernel
theorem dX12_readClause_33 : decode cX12_readClause 33 = .ok (.iconst 4, 1) := by decide +kernel
theorem dX12_readClause_34 : decode cX12_readClause 34 = .ok (.invokevirtual 216, 3) := by decide +kernel
theorem dX12_readClause_37 : decode cX12_readClause 37 = .ok (.aload_n 0, 1) := by decide +kernel
theorem dX12_readClause_38 : decode cX12_readClause 38 = .ok (.iconst 5, 1) := by decide +kernel
theorem dX12_readClause_39 : decode cX12_readClause 39 = .ok (.invokevirtual 203, 3) := by decide +kernel
theorem dX12_readClause_42 : decode cX12_readClause 42 = .ok (.ifCond .eq 8, 3) := by decide +kernel
theorem dX12_readClause_45 : decode cX12_readClause 45 = .ok (.aload_n 0, 1) := by decide +kernel
theorem dX12_readClause_46 : decode cX12_readClause 46 = .ok (.iconst 0, 1) := by decide +kernel
theorem dX12_readClause_47 : decode cX12_readClause 47 = .ok (.invokevirtual 219, 3) := by decide +kernel
theorem dX12_readClause_50 : decode cX12_readClause 50 = .ok (.return_, 1) := by decide +kernel
set_option maxRecDepth 20000 in
theorem s_X12_readClause {w : Wd} {d : Nat} {P : IM → LM → Prop} {i : IM} {l : LM}   (h : cI w d X_X12_takes0 [vR (some 99), vI 1] i l (fun r1 i1 l1 => (((r1 = 0) → cI w d X_X12_takes0 [vR (some 99), vI 2] i1 l1 (fun r11 i11 l11 => (((r11 = 0) → cI w d X_X12_takes0 [vR (some 99), vI 3] i11 l11 (fun r14 i14 l14 => (((r14 = 0) → cVd w d X_X12_must [vR (some 99), vI 4] i14 l14 (fun i23 l23 => cI w d X_X12_takes0 [vR (some 99), vI 5] i23 l23 (fun r24 i24 l24 => (((r24 = 0) → P i24 l24) ∧ ((¬ (r24 = 0)) → cVd w d X_X12_readTest [vR (some 99), vI 0] i24 l24 (fun i27 l27 => P i27 l27)))))) ∧ ((¬ (r14 = 0)) → cI w d X_X12_takes0 [vR (some 99), vI 5] i14 l14 (fun r17 i17 l17 => (((r17 = 0) → P i17 l17) ∧ ((¬ (r17 = 0)) → cVd w d X_X12_readTest [vR (some 99), vI 0] i17 l17 (fun i20 l20 => P i20 l20)))))))) ∧ ((¬ (r11 = 0)) → cVd w d X_X12_readSum [vR (some 99), vI 0] i11 l11 (fun i32 l32 => cI w d X_X12_takes0 [vR (some 99), vI 5] i32 l32 (fun r33 i33 l33 => (((r33 = 0) → P i33 l33) ∧ ((¬ (r33 = 0)) → cVd w d X_X12_readTest [vR (some 99), vI 0] i33 l33 (fun i36 l36 => P i36 l36))))))))) ∧ ((¬ (r1 = 0)) → cVd w d X_X12_readSum [vR (some 99), vI 0] i1 l1 (fun i4 l4 => cI w d X_X12_takes0 [vR (some 99), vI 5] i4 l4 (fun r5 i5 l5 => (((r5 = 0) → P i5 l5) ∧ ((¬ (r5 = 0)) → cVd w d X_X12_readTest [vR (some 99), vI 0] i5 l5 (fun i8 l8 => P i8 l8))))))))) : gV w d X_X12_readClause P i l 0 [(0, vR (some 99))] [] := by
  refine g_aload_n (pc' := 1) 0 dX12_readClause_0 rfl rfl ?_
  refine g_iconst (pc' := 2) dX12_readClause_1 rfl ?_
  refine g_cVI (pc' := 5) (vs := [vI 1]) (st := []) (c := 12) h mv_X12_takes0 lk_X12_203 rfl rfl rfl rfl (Nat.le_of_ble_eq_true rfl) (Nat.le_of_ble_eq_true rfl) rfl dX12_readClause_2 rfl z2 (fun r1 i1 l1 rg1 h => ?_)
  obtain ⟨hk41, hk42⟩ := h
  refine g_if_ne (tgt := 16) (pc' := 8) rg1 Iff.rfl dX12_readClause_5 rfl rfl (fun c3 => ?_) (fun c3 => ?_)
  · have h := hk42 c3
    refine g_aload_n (pc' := 17) 0 dX12_readClause_16 rfl rfl ?_
    refine g_iconst (pc' := 18) dX12_readClause_17 rfl ?_
    refine g_cVV (pc' := 21) (vs := [vI 0]) (st := []) (c := 12) h mv_X12_readSum lk_X12_212 rfl rfl rfl rfl (Nat.le_of_ble_eq_true rfl) (Nat.le_of_ble_eq_true rfl) rfl dX12_readClause_18 rfl z2 (fun i4 l4 h => ?_)
    refine g_goto (tgt := 37) dX12_readClause_21 rfl ?_
    refine g_aload_n (pc' := 38) 0 dX12_readClause_37 rfl rfl ?_
    refine g_iconst (pc' := 39) dX12_readClause_38 rfl ?_
    refine g_cVI (pc' := 42) (vs := [vI 5]) (st := []) (c := 12) h mv_X12_takes0 lk_X12_203 rfl rfl rfl rfl (Nat.le_of_ble_eq_true rfl) (Nat.le_of_ble_eq_true rfl) rfl dX12_readClause_39 rfl z2 (fun r5 i5 l5 rg5 h => ?_)
    obtain ⟨hk9, hk10⟩ := h
    refine g_if_eq (tgt := 50) (pc' := 45) rg5 Iff.rfl dX12_readClause_42 rfl rfl (fun c7 => ?_) (fun c7 => ?_)
    · have h := hk9 c7
      exact g_retV rfl dX12_readClause_50 h
    · have h := hk10 c7
      refine g_aload_n (pc' := 46) 0 dX12_readClause_45 rfl rfl ?_
      refine g_iconst (pc' := 47) dX12_readClause_46 rfl ?_
      refine g_cVV (pc' := 50) (vs := [vI 0]) (st := []) (c := 12) h mv_X12_readTest lk_X12_219 rfl rfl rfl rfl (Nat.le_of_ble_eq_true rfl) (Nat.le_of_ble_eq_true rfl) rfl dX12_readClause_47 rfl z2 (fun i8 l8 h => ?_)
      exact g_retV rfl dX12_readClause_50 h
  · have h := hk41 c3
    refine g_aload_n (pc' := 9) 0 dX12_readClause_8 rfl rfl ?_
    refine g_iconst (pc' := 10) dX12_readClause_9 rfl ?_
    refine g_cVI (pc' := 13) (vs := [vI 2]) (st := []) (c := 12) h mv_X12_takes0 lk_X12_203 rfl rfl rfl rfl (Nat.le_of_ble_eq_true rfl) (Nat.le_of_ble_eq_true rfl) rfl dX12_readClause_10 rfl z2 (fun r11 i11 l11 rg11 h => ?_)
    obtain ⟨hk39, hk40⟩ := h
    refine g_if_eq (tgt := 24) (pc' := 16) rg11 Iff.rfl dX12_readClause_13 rfl rfl (fun c13 => ?_) (fun c13 => ?_)
    · have h := hk39 c13
      refine g_aload_n (pc' := 25) 0 dX12_readClause_24 rfl rfl ?_
      refine g_iconst (pc' := 26) dX12_readClause_25 rfl ?_
      refine g_cVI (pc' := 29) (vs := [vI 3]) (st := []) (c := 12) h mv_X12_takes0 lk_X12_203 rfl rfl rfl rfl (Nat.le_of_ble_eq_true rfl) (Nat.le_of_ble_eq_true rfl) rfl dX12_readClause_26 rfl z2 (fun r14 i14 l14 rg14 h => ?_)
      obtain ⟨hk30, hk31⟩ := h
      refine g_if_ne (tgt := 37) (pc' := 32) rg14 Iff.rfl dX12_readClause_29 rfl rfl (fun c16 => ?_) (fun c16 => ?_)
      · have h := hk31 c16
        refine g_aload_n (pc' := 38) 0 dX12_readClause_37 rfl rfl ?_
        refine g_iconst (pc' := 39) dX12_readClause_38 rfl ?_
        refine g_cVI (pc' := 42) (vs := [vI 5]) (st := []) (c := 12) h mv_X12_takes0 lk_X12_203 rfl rfl rfl rfl (Nat.le_of_ble_eq_true rfl) (Nat.le_of_ble_eq_true rfl) rfl dX12_readClause_39 rfl z2 (fun r17 i17 l17 rg17 h => ?_)
        obtain ⟨hk21, hk22⟩ := h
        refine g_if_eq (tgt := 50) (pc' := 45) rg17 Iff.rfl dX12_readClause_42 rfl rfl (fun c19 => ?_) (fun c19 => ?_)
        · have h := hk21 c19
          exact g_retV rfl dX12_readClause_50 h
        · have h := hk22 c19
          refine g_aload_n (pc' := 46) 0 dX12_readClause_45 rfl rfl ?_
          refine g_iconst (pc' := 47) dX12_readClause_46 rfl ?_
          refine g_cVV (pc' := 50) (vs := [vI 0]) (st := []) (c := 12) h mv_X12_readTest lk_X12_219 rfl rfl rfl rfl (Nat.le_of_ble_eq_true rfl) (Nat.le_of_ble_eq_true rfl) rfl dX12_readClause_47 rfl z2 (fun i20 l20 h => ?_)
          exact g_retV rfl dX12_readClause_50 h
      · have h := hk30 c16
        refine g_aload_n (pc' := 33) 0 dX12_readClause_32 rfl rfl ?_
        refine g_iconst (pc' := 34) dX12_readClause_33 rfl ?_
        refine g_cVV (pc' := 37) (vs := [vI 4]) (st := []) (c := 12) h mv_X12_must lk_X12_216 rfl rfl rfl rfl (Nat.le_of_ble_eq_true rfl) (Nat.le_of_ble_eq_true rfl) rfl dX12_readClause_34 rfl z2 (fun i23 l23 h => ?_)
        refine g_aload_n (pc' := 38) 0 dX12_readClause_37 rfl rfl ?_
        refine g_iconst (pc' := 39) dX12_readClause_38 rfl ?_
        refine g_cVI (pc' := 42) (vs := [vI 5]) (st := []) (c := 12) h mv_X12_takes0 lk_X12_203 rfl rfl rfl rfl (Nat.le_of_ble_eq_true rfl) (Nat.le_of_ble_eq_true rfl) rfl dX12_readClause_39 rfl z2 (fun r24 i24 l24 rg24 h => ?_)
        obtain ⟨hk28, hk29⟩ := h
        refine g_if_eq (tgt := 50) (pc' := 45) rg24 Iff.rfl dX12_readClause_42 rfl rfl (fun c26 => ?_) (fun c26 => ?_)
        · have h := hk28 c26
          exact g_retV rfl dX12_readClause_50 h
        · have h := hk29 c26
          refine g_aload_n (pc' := 46) 0 dX12_readClause_45 rfl rfl ?_
          refine g_iconst (pc' := 47) dX12_readClause_46 rfl ?_
          refine g_cVV (pc' := 50) (vs := [vI 0]) (st := []) (c := 12) h mv_X12_readTest lk_X12_219 rfl rfl rfl rfl (Nat.le_of_ble_eq_true rfl) (Nat.le_of_ble_eq_true rfl) rfl dX12_readClause_47 rfl z2 (fun i27 l27 h => ?_)
          exact g_retV rfl dX12_readClause_50 h
    · have h := hk40 c13
      refine g_aload_n (pc' := 17) 0 dX12_readClause_16 rfl rfl ?_
      refine g_iconst (pc' := 18) dX12_readClause_17 rfl ?_
      refine g_cVV (pc' := 21) (vs := [vI 0]) (st := []) (c := 12) h mv_X12_readSum lk_X12_212 rfl rfl rfl rfl (Nat.le_of_ble_eq_true rfl) (Nat.le_of_ble_eq_true rfl) rfl dX12_readClause_18 rfl z2 (fun i32 l32 h => ?_)
      refine g_goto (tgt := 37) dX12_readClause_21 rfl ?_
      refine g_aload_n (pc' := 38) 0 dX12_readClause_37 rfl rfl ?_
      refine g_iconst (pc' := 39) dX12_readClause_38 rfl ?_
      refine g_cVI (pc' := 42) (vs := [vI 5]) (st := []) (c := 12) h mv_X12_takes0 lk_X12_203 rfl rfl rfl rfl (Nat.le_of_ble_eq_true rfl) (Nat.le_of_ble_eq_true rfl) rfl dX12_readClause_39 rfl z2 (fun r33 i33 l33 rg33 h => ?_)
      obtain ⟨hk37, hk38⟩ := h
      refine g_if_eq (tgt := 50) (pc' := 45) rg33 Iff.rfl dX12_readClause_42 rfl rfl (fun c35 => ?_) (fun c35 => ?_)
      · have h := hk37 c35
        exact g_retV rfl dX12_readClause_50 h
      · have h := hk38 c35
        refine g_aload_n (pc' := 46) 0 dX12_readClause_45 rfl rfl ?_
        refine g_iconst (pc' := 47) dX12_readClause_46 rfl ?_
        refine g_cVV (pc' := 50) (vs := [vI 0]) (st := []) (c := 12) h mv_X12_readTest lk_X12_219 rfl rfl rfl rfl (Nat.le_of_ble_eq_true rfl) (Nat.le_of_ble_eq_true rfl) rfl dX12_readClause_47 rfl z2 (fun i36 l36 h => ?_)
        exact g_retV rfl dX12_readClause_50 h
theorem e_X12_readClause {w : Wd} {d : Nat} {P : IM → LM → Prop} {i : IM} {l : LM}   (h : gV w d X_X12_readClause P i l 0 [(0, vR (some 99))] []) : cVd w (d + 1) X_X12_readClause [vR (some 99)] i l P := CV_of (by decide +kernel) (Nat.le_of_ble_eq_true rfl) h

theorem dX12_readTest_0 : decode cX12_readTest 0 = .ok (.aload_n 0, 1) := by decide +kernel
theorem dX12_readTest_1 : decode cX12_readTest 1 = .ok (.iload_n 1, 1) := by decide +kernel
theorem dX12_readTest_2 : decode cX12_readTest 2 = .ok (.invokevirtual 222, 3) := by decide +kernel
theorem dX12_readTest_5 : decode cX12_readTest 5 = .ok (.aload_n 0, 1) := by decide +kernel
theorem dX12_readTest_6 : decode cX12_readTest 6 = .ok (.bipush 6, 2) := by decide +kernel
theorem dX12_readTest_8 : decode cX12_readTest 8 = .ok (.invokevirtual 203, 3) := by decide +kernel
theorem dX12_readTest_11 : decode cX12_readTest 11 = .ok (.ifCond .eq 11, 3) := by decide +kernel
theorem dX12_readTest_14 : decode cX12_readTest 14 = .ok (.aload_n 0, 1) := by decide +kernel
theorem dX12_readTest_15 : decode cX12_readTest 15 = .ok (.iload_n 1, 1) := by decide +kernel
theorem dX12_readTest_16 : decode cX12_readTest 16 = .ok (.invokevirtual 222, 3) := by decide +kernel
theorem dX12_readTest_19 : decode cX12_readTest 19 = .ok (.goto (-14), 3) := by decide +kernel
theorem dX12_readTest_22 : decode cX12_readTest 22 = .ok (.return_, 1) := by decide +kernel
set_option maxRecDepth 20000 in
theorem s_X12_readTest {w : Wd} {d : Nat} {P : IM → LM → Prop} {i : IM} {l : LM} (p0 : Int)  (h : cVd w d X_X12_readBoth [vR (some 99), vI p0] i l (fun i1 l1 => gV w d X_X12_readTest P i1 l1 5 [(0, vR (some 99)), (1, vI p0)] [])) : gV w d X_X12_readTest P i l 0 [(0, vR (some 99)), (1, vI p0)] [] := by
  refine g_aload_n (pc' := 1) 0 dX12_readTest_0 rfl rfl ?_
  refine g_iload_n (pc' := 2) 1 dX12_readTest_1 rfl rfl ?_
  refine g_cVV (pc' := 5) (vs := [vI p0]) (st := []) (c := 12) h mv_X12_readBoth lk_X12_222 rfl rfl rfl rfl (Nat.le_of_ble_eq_true rfl) (Nat.le_of_ble_eq_true rfl) rfl dX12_readTest_2 rfl z2 (fun i1 l1 h => ?_)
  exact h
theorem e_X12_readTest {w : Wd} {d : Nat} {P : IM → LM → Prop} {i : IM} {l : LM} {p0 : Int}  (h : gV w d X_X12_readTest P i l 0 [(0, vR (some 99)), (1, vI p0)] []) : cVd w (d + 1) X_X12_readTest [vR (some 99), vI p0] i l P := CV_of (by decide +kernel) (Nat.le_of_ble_eq_true rfl) h
set_option maxRecDepth 20000 in
theorem s_X12_readTest_5 {w : Wd} {d : Nat} {P : IM → LM → Prop} {i : IM} {l : LM} (x1 : Int)  (h : cI w d X_X12_takes0 [vR (some 99), vI 6] i l (fun r2 i2 l2 => (((r2 = 0) → P i2 l2) ∧ ((¬ (r2 = 0)) → cVd w d X_X12_readBoth [vR (some 99), vI x1] i2 l2 (fun i5 l5 => gV w d X_X12_readTest P i5 l5 5 [(0, vR (some 99)), (1, vI x1)] []))))) : gV w d X_X12_readTest P i l 5 [(0, vR (some 99)), (1, vI x1)] [] := by
  refine g_aload_n (pc' := 6) 0 dX12_readTest_5 rfl rfl ?_
  refine g_bipush (pc' := 8) dX12_readTest_6 rfl rfl ?_
  refine g_cVI (pc' := 11) (vs := [vI 6]) (st := []) (c := 12) h mv_X12_takes0 lk_X12_203 rfl rfl rfl rfl (Nat.le_of_ble_eq_true rfl) (Nat.le_of_ble_eq_true rfl) rfl dX12_readTest_8 rfl z2 (fun r2 i2 l2 rg2 h => ?_)
  obtain ⟨hk6, hk7⟩ := h
  refine g_if_eq (tgt := 22) (pc' := 14) rg2 Iff.rfl dX12_readTest_11 rfl rfl (fun c4 => ?_) (fun c4 => ?_)
  · have h := hk6 c4
    exact g_retV rfl dX12_readTest_22 h
  · have h := hk7 c4
    refine g_aload_n (pc' := 15) 0 dX12_readTest_14 rfl rfl ?_
    refine g_iload_n (pc' := 16) 1 dX12_readTest_15 rfl rfl ?_
    refine g_cVV (pc' := 19) (vs := [vI x1]) (st := []) (c := 12) h mv_X12_readBoth lk_X12_222 rfl rfl rfl rfl (Nat.le_of_ble_eq_true rfl) (Nat.le_of_ble_eq_true rfl) rfl dX12_readTest_16 rfl z2 (fun i5 l5 h => ?_)
    refine g_goto (tgt := 5) dX12_readTest_19 rfl ?_
    exact h

theorem dX12_readBoth_0 : decode cX12_readBoth 0 = .ok (.aload_n 0, 1) := by decide +kernel
theorem dX12_readBoth_1 : decode cX12_readBoth 1 = .ok (.iload_n 1, 1) := by decide +kernel
theorem dX12_readBoth_2 : decode cX12_readBoth 2 = .ok (.invokevirtual 225, 3) := by decide +kernel
theorem dX12_readBoth_5 : decode cX12_readBoth 5 = .ok (.aload_n 0, 1) := by decide +kernel
theorem dX12_readBoth_6 : decode cX12_readBoth 6 = .ok (.bipush 7, 2) := by decide +kernel
theorem dX12_readBoth_8 : decode cX12_readBoth 8 = .ok (.invokevirtual 203, 3) := by decide +kernel
theorem dX12_readBoth_11 : decode cX12_readBoth 11 = .ok (.ifCond .eq 11, 3) := by decide +kernel
theorem dX12_readBoth_14 : decode cX12_readBoth 14 = .ok (.aload_n 0, 1) := by decide +kernel
theorem dX12_readBoth_15 : decode cX12_readBoth 15 = .ok (.iload_n 1, 1) := by decide +kernel
theorem dX12_readBoth_16 : decode cX12_readBoth 16 = .ok (.invokevirtual 225, 3) := by decide +kernel
theorem dX12_readBoth_19 : decode cX12_readBoth 19 = .ok (.goto (-14), 3) := by decide +kernel
theorem dX12_readBoth_22 : decode cX12_readBoth 22 = .ok (.return_, 1) := by decide +kernel
set_option maxRecDepth 20000 in
theorem s_X12_readBoth {w : Wd} {d : Nat} {P : IM → LM → Prop} {i : IM} {l : LM} (p0 : Int)  (h : cVd w d X_X12_readPlain [vR (some 99), vI p0] i l (fun i1 l1 => gV w d X_X12_readBoth P i1 l1 5 [(0, vR (some 99)), (1, vI p0)] [])) : gV w d X_X12_readBoth P i l 0 [(0, vR (some 99)), (1, vI p0)] [] := by
  refine g_aload_n (pc' := 1) 0 dX12_readBoth_0 rfl rfl ?_
  refine g_iload_n (pc' := 2) 1 dX12_readBoth_1 rfl rfl ?_
  refine g_cVV (pc' := 5) (vs := [vI p0]) (st := []) (c := 12) h mv_X12_readPlain lk_X12_225 rfl rfl rfl rfl (Nat.le_of_ble_eq_true rfl) (Nat.le_of_ble_eq_true rfl) rfl dX12_readBoth_2 rfl z2 (fun i1 l1 h => ?_)
  exact h
theorem e_X12_readBoth {w : Wd} {d : Nat} {P : IM → LM → Prop} {i : IM} {l : LM} {p0 : Int}  (h : gV w d X_X12_readBoth P i l 0 [(0, vR (some 99)), (1, vI p0)] []) : cVd w (d + 1) X_X12_readBoth [vR (some 99), vI p0] i l P := CV_of (by decide +kernel) (Nat.le_of_ble_eq_true rfl) h
set_option maxRecDepth 20000 in
theorem s_X12_readBoth_5 {w : Wd} {d : Nat} {P : IM → LM → Prop} {i : IM} {l : LM} (x1 : Int)  (h : cI w d X_X12_takes0 [vR (some 99), vI 7] i l (fun r2 i2 l2 => (((r2 = 0) → P i2 l2) ∧ ((¬ (r2 = 0)) → cVd w d X_X12_readPlain [vR (some 99), vI x1] i2 l2 (fun i5 l5 => gV w d X_X12_readBoth P i5 l5 5 [(0, vR (some 99)), (1, vI x1)] []))))) : gV w d X_X12_readBoth P i l 5 [(0, vR (some 99)), (1, vI x1)] [] := by
  refine g_aload_n (pc' := 6) 0 dX12_readBoth_5 rfl rfl ?_
  refine g_bipush (pc' := 8) dX12_readBoth_6 rfl rfl ?_
  refine g_cVI (pc' := 11) (vs := [vI 7]) (st := []) (c := 12) h mv_X12_takes0 lk_X12_203 rfl rfl rfl rfl (Nat.le_of_ble_eq_true rfl) (Nat.le_of_ble_eq_true rfl) rfl dX12_readBoth_8 rfl z2 (fun r2 i2 l2 rg2 h => ?_)
  obtain ⟨hk6, hk7⟩ := h
  refine g_if_eq (tgt := 22) (pc' := 14) rg2 Iff.rfl dX12_readBoth_11 rfl rfl (fun c4 => ?_) (fun c4 => ?_)
  · have h := hk6 c4
    exact g_retV rfl dX12_readBoth_22 h
  · have h := hk7 c4
    refine g_aload_n (pc' := 15) 0 dX12_readBoth_14 rfl rfl ?_
    refine g_iload_n (pc' := 16) 1 dX12_readBoth_15 rfl rfl ?_
    refine g_cVV (pc' := 19) (vs := [vI x1]) (st := []) (c := 12) h mv_X12_readPlain lk_X12_225 rfl rfl rfl rfl (Nat.le_of_ble_eq_true rfl) (Nat.le_of_ble_eq_true rfl) rfl dX12_readBoth_16 rfl z2 (fun i5 l5 h => ?_)
    refine g_goto (tgt := 5) dX12_readBoth_19 rfl ?_
    exact h

theorem dX12_readPlain_0 : decode cX12_readPlain 0 = .ok (.iconst 1, 1) := by decide +kernel
theorem dX12_readPlain_1 : decode cX12_readPlain 1 = .ok (.istore_n 2, 1) := by decide +kernel
theorem dX12_readPlain_2 : decode cX12_readPlain 2 = .ok (.iload_n 2, 1) := by decide +kernel
theorem dX12_readPlain_3 : decode cX12_readPlain 3 = .ok (.ifCond .eq 13, 3) := by decide +kernel
theorem dX12_readPlain_6 : decode cX12_readPlain 6 = .ok (.aload_n 0, 1) := by decide +kernel
theorem dX12_readPlain_7 : decode cX12_readPlain 7 = .ok (.bipush 8, 2) := by decide +kernel
theorem dX12_readPlain_9 : decode cX12_readPlain 9 = .ok (.invokevirtual 203, 3) := by decide +kernel
theorem dX12_readPlain_12 : decode cX12_readPlain 12 = .ok (.istore_n 2, 1) := by decide +kernel
theorem dX12_readPlain_13 : decode cX12_readPlain 13 = .ok (.goto (-11), 3) := by decide +kernel
theorem dX12_readPlain_16 : decode cX12_readPlain 16 = .ok (.aload_n 0, 1) := by decide +kernel
theorem dX12_readPlain_17 : decode cX12_readPlain 17 = .ok (.invokevirtual 196, 3) := by decide +kernel
theorem dX12_readPlain_20 : decode cX12_readPlain 20 = .ok (.ifCond .ne 4, 3) := by decide +kernel
theorem dX12_readPlain_23 : decode cX12_readPlain 23 = .ok (.return_, 1) := by decide +kernel
theorem dX12_readPlain_24 : decode cX12_readPlain 24 = .ok (.aload_n 0, 1) := by decide +kernel
theorem dX12_readPlain_25 : decode cX12_readPlain 25 = .ok (.getfield 43, 3) := by decide +kernel
theorem dX12_readPlain_28 : decode cX12_readPlain 28 = .ok (.aload_n 0, 1) := by decide +kernel
theorem dX12_readPlain_29 : decode cX12_readPlain 29 = .ok (.getfield 200, 3) := by decide +kernel
theorem dX12_readPlain_32 : decode cX12_readPlain 32 = .ok (.iaload, 1) := by decide +kernel
theorem dX12_readPlain_33 : decode cX12_readPlain 33 = .ok (.istore_n 3, 1) := by decide +kernel
theorem dX12_readPlain_34 : decode cX12_readPlain 34 = .ok (.iload_n 3, 1) := by decide +kernel
theorem dX12_readPlain_35 : decode cX12_readPlain 35 = .ok (.bipush 40, 2) := by decide +kernel
theorem dX12_readPlain_37 : decode cX12_readPlain 37 = .ok (.invokestatic 228, 3) := by decide +kernel
theorem dX12_readPlain_40 : decode cX12_readPlain 40 = .ok (.if_icmp .ne 50, 3) := by decide +kernel
theorem dX12_readPlain_43 : decode cX12_readPlain 43 = .ok (.iload_n 1, 1) := by decide +kernel
theorem dX12_readPlain_44 : decode cX12_readPlain 44 = .ok (.bipush 8, 2) := by decide +kernel
theorem dX12_readPlain_46 : decode cX12_readPlain 46 = .ok (.if_icmp .ne 7, 3) := by decide +kernel
theorem dX12_readPlain_49 : decode cX12_readPlain 49 = .ok (.aload_n 0, 1) := by decide +kernel
theorem dX12_readPlain_50 : decode cX12_readPlain 50 = .ok (.invokevirtual 206, 3) := by decide +kernel
theorem dX12_readPlain_53 : decode cX12_readPlain 53 = .ok (.aload_n 0, 1) := by decide +kernel
theorem dX12_readPlain_54 : decode cX12_readPlain 54 = .ok (.invokevirtual 196, 3) := by decide +kernel
theorem dX12_readPlain_57 : decode cX12_readPlain 57 = .ok (.ifCond .ne 4, 3) := by decide +kernel
theorem dX12_readPlain_60 : decode cX12_readPlain 60 = .ok (.return_, 1) := by decide +kernel
theorem dX12_readPlain_61 : decode cX12_readPlain 61 = .ok (.aload_n 0, 1) := by decide +kernel
theorem dX12_readPlain_62 : decode cX12_readPlain 62 = .ok (.dup, 1) := by decide +kernel
theorem dX12_readPlain_63 : decode cX12_readPlain 63 = .ok (.getfield 200, 3) := by decide +kernel
theorem dX12_readPlain_66 : decode cX12_readPlain 66 = .ok (.iconst 1, 1) := by decide +kernel
theorem dX12_readPlain_67 : decode cX12_readPlain 67 = .ok (.iadd, 1) := by decide +kernel
theorem dX12_readPlain_68 : decode cX12_readPlain 68 = .ok (.putfield 200, 3) := by decide +kernel
theorem dX12_readPlain_71 : decode cX12_readPlain 71 = .ok (.aload_n 0, 1) := by decide +kernel
theorem dX12_readPlain_72 : decode cX12_readPlain 72 = .ok (.iload_n 1, 1) := by decide +kernel
theorem dX12_readPlain_73 : decode cX12_readPlain 73 = .ok (.iconst 1, 1) := by decide +kernel
theorem dX12_readPlain_74 : decode cX12_readPlain 74 = .ok (.iadd, 1) := by decide +kernel
theorem dX12_readPlain_75 : decode cX12_readPlain 75 = .ok (.invokevirtual 219, 3) := by decide +kernel
theorem dX12_readPlain_78 : decode cX12_readPlain 78 = .ok (.aload_n 0, 1) := by decide +kernel
theorem dX12_readPlain_79 : decode cX12_readPlain 79 = .ok (.bipush 41, 2) := by decide +kernel
theorem dX12_readPlain_81 : decode cX12_readPlain 81 = .ok (.invokestatic 228, 3) := by decide +kernel
theorem dX12_readPlain_84 : decode cX12_readPlain 84 = .ok (.invokevirtual 216, 3) := by decide +kernel
theorem dX12_readPlain_87 : decode cX12_readPlain 87 = .ok (.goto 46, 3) := by decide +kernel
theorem dX12_readPlain_90 : decode cX12_readPlain 90 = .ok (.aload_n 0, 1) := by decide +kernel
theorem dX12_readPlain_91 : decode cX12_readPlain 91 = .ok (.iload_n 1, 1) := by decide +kernel
theorem dX12_readPlain_92 : decode cX12_readPlain 92 = .ok (.invokevirtual 212, 3) := by decide +kernel
theorem dX12_readPlain_95 : decode cX12_readPlain 95 = .ok (.aload_n 0, 1) := by decide +kernel
theorem dX12_readPlain_96 : decode cX12_readPlain 96 = .ok (.bipush 60, 2) := by decide +kernel
theorem dX12_readPlain_98 : decode cX12_readPlain 98 = .ok (.invokestatic 228, 3) := by decide +kernel
theorem dX12_readPlain_101 : decode cX12_readPlain 101 = .ok (.invokevirtual 203, 3) := by decide +kernel
theorem dX12_readPlain_104 : decode cX12_readPlain 104 = .ok (.ifCond .ne 24, 3) := by decide +kernel
theorem dX12_readPlain_107 : decode cX12_readPlain 107 = .ok (.aload_n 0, 1) := by decide +kernel
theorem dX12_readPlain_108 : decode cX12_readPlain 108 = .ok (.bipush 62, 2) := by decide +kernel
theorem dX12_readPlain_110 : decode cX12_readPlain 110 = .ok (.invokestatic 228, 3) := by decide +kernel
theorem dX12_readPlain_113 : decode cX12_readPlain 113 = .ok (.invokevirtual 203, 3) := by decide +kernel
theorem dX12_readPlain_116 : decode cX12_readPlain 116 = .ok (.ifCond .ne 12, 3) := by decide +kernel
theorem dX12_readPlain_119 : decode cX12_readPlain 119 = .ok (.aload_n 0, 1) := by decide +kernel
theorem dX12_readPlain_120 : decode cX12_readPlain 120 = .ok (.bipush 61, 2) := by decide +kernel
theorem dX12_readPlain_122 : decode cX12_readPlain 122 = .ok (.invokestatic 228, 3) := by decide +kernel
theorem dX12_readPlain_125 : decode cX12_readPlain 125 = .ok (.invokevirtual 216, 3) := by decide +kernel
theorem dX12_readPlain_128 : decode cX12_readPlain 128 = .ok (.aload_n 0, 1) := by decide +kernel
theorem dX12_readPlain_129 : decode cX12_readPlain 129 = .ok (.iload_n 1, 1) := by decide +kernel
theorem dX12_readPlain_130 : decode cX12_readPlain 130 = .ok (.invokevirtual 212, 3) := by decide +kernel
theorem dX12_readPlain_133 : decode cX12_readPlain 133 = .ok (.return_, 1) := by decide +kernel
set_option maxRecDepth 20000 in
theorem s_X12_readPlain {w : Wd} {d : Nat} {P : IM → LM → Prop} {i : IM} {l : LM} (p0 : Int)  (h : gV w d X_X12_readPlain P i l 2 [(0, vR (some 99)), (1, vI p0), (2, vI 1)] []) : gV w d X_X12_readPlain P i l 0 [(0, vR (some 99)), (1, vI p0)] [] := by
  refine g_iconst (pc' := 1) dX12_readPlain_0 rfl ?_
  refine g_istore_n (pc' := 2) (L' := [(2, vI 1), (0, vR (some 99)), (1, vI p0)]) dX12_readPlain_1 rfl (Nat.le_of_ble_eq_true rfl) rfl ?_
  refine g_sub (L' := [(0, vR (some 99)), (1, vI p0), (2, vI 1)]) [1, 2, 0] rfl ?_
  exact h
theorem e_X12_readPlain {w : Wd} {d : Nat} {P : IM → LM → Prop} {i : IM} {l : LM} {p0 : Int}  (h : gV w d X_X12_readPlain P i l 0 [(0, vR (some 99)), (1, vI p0)] []) : cVd w (d + 1) X_X12_readPlain [vR (some 99), vI p0] i l P := CV_of (by decide +kernel) (Nat.le_of_ble_eq_true rfl) h
set_option maxRecDepth 20000 in
theorem s_X12_readPlain_2 {w : Wd} {d : Nat} {P : IM → LM → Prop} {i : IM} {l : LM} (x1 : Int) (x2 : Int)  (hd : 1 ≤ d) (h : ((rg x2) ∧ (((x2 = 0) ∧ (i 99 18 = -1)) → ((0 ≤ i 99 16 ∧ i 99 16 < 401) ∧ (((i 107 (i 99 16) = 140) → rg x1) ∧ ((¬ (i 107 (i 99 16) = 140)) → cVd w d X_X12_readSum [vR (some 99), vI x1] i l (fun i17 l17 => cI w d X_X12_takes0 [vR (some 99), vI 160] i17 l17 (fun r19 i19 l19 => (((r19 = 0) → cI w d X_X12_takes0 [vR (some 99), vI 162] i19 l19 (fun r25 i25 l25 => (((r25 = 0) → cVd w d X_X12_must [vR (some 99), vI 161] i25 l25 (fun i31 l31 => cVd w d X_X12_readSum [vR (some 99), vI x1] i31 l31 (fun i32 l32 => P i32 l32))) ∧ ((¬ (r25 = 0)) → cVd w d X_X12_readSum [vR (some 99), vI x1] i25 l25 (fun i29 l29 => P i29 l29))))) ∧ ((¬ (r19 = 0)) → cVd w d X_X12_readSum [vR (some 99), vI x1] i19 l19 (fun i23 l23 => P i23 l23)))))) ∧ (((i 107 (i 99 16) = 140) ∧ (¬ (x1 = 8))) → gV w d X_X12_readPlain P i l 53 [(0, vR (some 99)), (1, vI x1)] []) ∧ (((i 107 (i 99 16) = 140) ∧ (x1 = 8)) → cVd w d X_X12_faults [vR (some 99)] i l (fun i37 l37 => gV w d X_X12_readPlain P i37 l37 53 [(0, vR (some 99)), (1, vI x1)] []))))) ∧ (((x2 = 0) ∧ (¬ (i 99 18 = -1))) → P i l) ∧ ((¬ (x2 = 0)) → cI w d X_X12_takes0 [vR (some 99), vI 8] i l (fun r41 i41 l41 => gV w d X_X12_readPlain P i41 l41 2 [(0, vR (some 99)), (1, vI x1), (2, vI r41)] [])))) : gV w d X_X12_readPlain P i l 2 [(0, vR (some 99)), (1, vI x1), (2, vI x2)] [] := by
  refine g_iload_n (pc' := 3) 2 dX12_readPlain_2 rfl rfl ?_
  obtain ⟨hob2, hk42, hk43, hk44⟩ := h
  have hk42g : ((x2 = 0) ∧ (i 99 18 = -1)) → gV w d X_X12_readPlain P i l 24 [(0, vR (some 99)), (1, vI x1), (2, vI x2)] [] := by
    intro hp
    have h := hk42 hp
    obtain ⟨ob10, h⟩ := h
    refine g_aload_n (pc' := 25) 0 dX12_readPlain_24 rfl rfl ?_
    refine g_getR (pc' := 28) (o := some 107) fl_X12_43 rfl rfl rfl dX12_readPlain_25 rfl ?_
    refine g_aload_n (pc' := 29) 0 dX12_readPlain_28 rfl rfl ?_
    refine g_getI (pc' := 32) (z := 16) rfl fl_X12_200 rfl rfl dX12_readPlain_29 rfl (fun rg9 => ?_)
    refine g_iald (pc' := 33) (N := 401) rfl rfl (Nat.lt_of_lt_of_le (Nat.lt_succ_self _) (Nat.le_of_ble_eq_true rfl)) ob10 dX12_readPlain_32 rfl (fun rg11 => ?_)
    refine g_istore_n (pc' := 34) (L' := [(3, vI (i 107 (i 99 16))), (0, vR (some 99)), (1, vI x1), (2, vI x2)]) dX12_readPlain_33 rfl (Nat.le_of_ble_eq_true rfl) rfl ?_
    refine g_iload_n (pc' := 35) 0 dX12_readPlain_34 rfl rfl ?_
    refine g_bipush (pc' := 37) dX12_readPlain_35 rfl rfl ?_
    refine g_pSI (pc' := 40) (vs := [vI 40]) (st := [vI (i 107 (i 99 16))]) (val := 140) (sp_X12_sign (le_hd hd rfl) (rg_lit rfl)) mk_X12_sign ms_X12_sign lk_X12_228 rfl (Nat.le_of_ble_eq_true rfl) (Nat.le_of_ble_eq_true rfl) rfl dX12_readPlain_37 rfl z2 (fun rg12 => ?_)
    obtain ⟨hob15, hk38, hk39, hk40⟩ := h
    have hk38g : (¬ (i 107 (i 99 16) = 140)) → gV w d X_X12_readPlain P i l 90 [(3, vI (i 107 (i 99 16))), (0, vR (some 99)), (1, vI x1), (2, vI x2)] [] := by
      intro hp
      have h := hk38 hp
      refine g_aload_n (pc' := 91) 1 dX12_readPlain_90 rfl rfl ?_
      refine g_iload_n (pc' := 92) 2 dX12_readPlain_91 rfl rfl ?_
      refine g_cVV (pc' := 95) (vs := [vI x1]) (st := []) (c := 12) h mv_X12_readSum lk_X12_212 rfl rfl rfl rfl (Nat.le_of_ble_eq_true rfl) (Nat.le_of_ble_eq_true rfl) rfl dX12_readPlain_92 rfl z2 (fun i17 l17 h => ?_)
      refine g_aload_n (pc' := 96) 1 dX12_readPlain_95 rfl rfl ?_
      refine g_bipush (pc' := 98) dX12_readPlain_96 rfl rfl ?_
      refine g_pSI (pc' := 101) (vs := [vI 60]) (st := [vR (some 99)]) (val := 160) (sp_X12_sign (le_hd hd rfl) (rg_lit rfl)) mk_X12_sign ms_X12_sign lk_X12_228 rfl (Nat.le_of_ble_eq_true rfl) (Nat.le_of_ble_eq_true rfl) rfl dX12_readPlain_98 rfl z2 (fun rg18 => ?_)
      refine g_cVI (pc' := 104) (vs := [vI 160]) (st := []) (c := 12) h mv_X12_takes0 lk_X12_203 rfl rfl rfl rfl (Nat.le_of_ble_eq_true rfl) (Nat.le_of_ble_eq_true rfl) rfl dX12_readPlain_101 rfl z2 (fun r19 i19 l19 rg19 h => ?_)
      obtain ⟨hk35, hk36⟩ := h
      refine g_if_ne (tgt := 128) (pc' := 107) rg19 Iff.rfl dX12_readPlain_104 rfl rfl (fun c21 => ?_) (fun c21 => ?_)
      · have h := hk36 c21
        refine g_aload_n (pc' := 129) 1 dX12_readPlain_128 rfl rfl ?_
        refine g_iload_n (pc' := 130) 2 dX12_readPlain_129 rfl rfl ?_
        refine g_cVV (pc' := 133) (vs := [vI x1]) (st := []) (c := 12) h mv_X12_readSum lk_X12_212 rfl rfl rfl rfl (Nat.le_of_ble_eq_true rfl) (Nat.le_of_ble_eq_true rfl) rfl dX12_readPlain_130 rfl z2 (fun i23 l23 h => ?_)
        exact g_retV rfl dX12_readPlain_133 h
      · have h := hk35 c21
        refine g_aload_n (pc' := 108) 1 dX12_readPlain_107 rfl rfl ?_
        refine g_bipush (pc' := 110) dX12_readPlain_108 rfl rfl ?_
        refine g_pSI (pc' := 113) (vs := [vI 62]) (st := [vR (some 99)]) (val := 162) (sp_X12_sign (le_hd hd rfl) (rg_lit rfl)) mk_X12_sign ms_X12_sign lk_X12_228 rfl (Nat.le_of_ble_eq_true rfl) (Nat.le_of_ble_eq_true rfl) rfl dX12_readPlain_110 rfl z2 (fun rg24 => ?_)
        refine g_cVI (pc' := 116) (vs := [vI 162]) (st := []) (c := 12) h mv_X12_takes0 lk_X12_203 rfl rfl rfl rfl (Nat.le_of_ble_eq_true rfl) (Nat.le_of_ble_eq_true rfl) rfl dX12_readPlain_113 rfl z2 (fun r25 i25 l25 rg25 h => ?_)
        obtain ⟨hk33, hk34⟩ := h
        refine g_if_ne (tgt := 128) (pc' := 119) rg25 Iff.rfl dX12_readPlain_116 rfl rfl (fun c27 => ?_) (fun c27 => ?_)
        · have h := hk34 c27
          refine g_aload_n (pc' := 129) 1 dX12_readPlain_128 rfl rfl ?_
          refine g_iload_n (pc' := 130) 2 dX12_readPlain_129 rfl rfl ?_
          refine g_cVV (pc' := 133) (vs := [vI x1]) (st := []) (c := 12) h mv_X12_readSum lk_X12_212 rfl rfl rfl rfl (Nat.le_of_ble_eq_true rfl) (Nat.le_of_ble_eq_true rfl) rfl dX12_readPlain_130 rfl z2 (fun i29 l29 h => ?_)
          exact g_retV rfl dX12_readPlain_133 h
        · have h := hk33 c27
          refine g_aload_n (pc' := 120) 1 dX12_readPlain_119 rfl rfl ?_
          refine g_bipush (pc' := 122) dX12_readPlain_120 rfl rfl ?_
          refine g_pSI (pc' := 125) (vs := [vI 61]) (st := [vR (some 99)]) (val := 161) (sp_X12_sign (le_hd hd rfl) (rg_lit rfl)) mk_X12_sign ms_X12_sign lk_X12_228 rfl (Nat.le_of_ble_eq_true rfl) (Nat.le_of_ble_eq_true rfl) rfl dX12_readPlain_122 rfl z2 (fun rg30 => ?_)
          refine g_cVV (pc' := 128) (vs := [vI 161]) (st := []) (c := 12) h mv_X12_must lk_X12_216 rfl rfl rfl rfl (Nat.le_of_ble_eq_true rfl) (Nat.le_of_ble_eq_true rfl) rfl dX12_readPlain_125 rfl z2 (fun i31 l31 h => ?_)
          refine g_aload_n (pc' := 129) 1 dX12_readPlain_128 rfl rfl ?_
          refine g_iload_n (pc' := 130) 2 dX12_readPlain_129 rfl rfl ?_
          refine g_cVV (pc' := 133) (vs := [vI x1]) (st := []) (c := 12) h mv_X12_readSum lk_X12_212 rfl rfl rfl rfl (Nat.le_of_ble_eq_true rfl) (Nat.le_of_ble_eq_true rfl) rfl dX12_readPlain_130 rfl z2 (fun i32 l32 h => ?_)
          exact g_retV rfl dX12_readPlain_133 h
    have hk39g : ((i 107 (i 99 16) = 140) ∧ (¬ (x1 = 8))) → gV w d X_X12_readPlain P i l 53 [(3, vI (i 107 (i 99 16))), (0, vR (some 99)), (1, vI x1), (2, vI x2)] [] := by
      intro hp
      have h := hk39 hp
      refine g_sub (L' := [(0, vR (some 99)), (1, vI x1)]) [1, 2] rfl ?_
      exact h
    have hk40g : ((i 107 (i 99 16) = 140) ∧ (x1 = 8)) → gV w d X_X12_readPlain P i l 49 [(3, vI (i 107 (i 99 16))), (0, vR (some 99)), (1, vI x1), (2, vI x2)] [] := by
      intro hp
      have h := hk40 hp
      refine g_aload_n (pc' := 50) 1 dX12_readPlain_49 rfl rfl ?_
      refine g_cVV (pc' := 53) (vs := []) (st := []) (c := 12) h mv_X12_faults lk_X12_206 rfl rfl rfl rfl (Nat.le_of_ble_eq_true rfl) (Nat.le_of_ble_eq_true rfl) rfl dX12_readPlain_50 rfl z2 (fun i37 l37 h => ?_)
      refine g_sub (L' := [(0, vR (some 99)), (1, vI x1)]) [1, 2] rfl ?_
      exact h
    refine g_icmp_ne (tgt := 90) (pc' := 43) rg11 rg12 Iff.rfl dX12_readPlain_40 rfl rfl (fun c14 => ?_) (fun c14 => ?_)
    · exact hk38g c14
    · refine g_iload_n (pc' := 44) 2 dX12_readPlain_43 rfl rfl ?_
      refine g_bipush (pc' := 46) dX12_readPlain_44 rfl rfl ?_
      refine g_icmp_ne (tgt := 53) (pc' := 49) (hob15 c14) (rg_lit rfl) Iff.rfl dX12_readPlain_46 rfl rfl (fun c16 => ?_) (fun c16 => ?_)
      · exact hk39g ⟨c14, c16⟩
      · exact hk40g ⟨c14, c16⟩
  have hk43g : ((x2 = 0) ∧ (¬ (i 99 18 = -1))) → gV w d X_X12_readPlain P i l 23 [(0, vR (some 99)), (1, vI x1), (2, vI x2)] [] := by
    intro hp
    have h := hk43 hp
    exact g_retV rfl dX12_readPlain_23 h
  have hk44g : (¬ (x2 = 0)) → gV w d X_X12_readPlain P i l 6 [(0, vR (some 99)), (1, vI x1), (2, vI x2)] [] := by
    intro hp
    have h := hk44 hp
    refine g_aload_n (pc' := 7) 0 dX12_readPlain_6 rfl rfl ?_
    refine g_bipush (pc' := 9) dX12_readPlain_7 rfl rfl ?_
    refine g_cVI (pc' := 12) (vs := [vI 8]) (st := []) (c := 12) h mv_X12_takes0 lk_X12_203 rfl rfl rfl rfl (Nat.le_of_ble_eq_true rfl) (Nat.le_of_ble_eq_true rfl) rfl dX12_readPlain_9 rfl z2 (fun r41 i41 l41 rg41 h => ?_)
    refine g_istore_n (pc' := 13) (L' := [(2, vI r41), (0, vR (some 99)), (1, vI x1)]) dX12_readPlain_12 rfl (Nat.le_of_ble_eq_true rfl) rfl ?_
    refine g_goto (tgt := 2) dX12_readPlain_13 rfl ?_
    refine g_sub (L' := [(0, vR (some 99)), (1, vI x1), (2, vI r41)]) [1, 2, 0] rfl ?_
    exact h
  refine g_if_eq (tgt := 16) (pc' := 6) (hob2) Iff.rfl dX12_readPlain_3 rfl rfl (fun c3 => ?_) (fun c3 => ?_)
  · refine g_aload_n (pc' := 17) 0 dX12_readPlain_16 rfl rfl ?_
    refine g_pVI (pc' := 20) (vs := []) (st := []) (val := bI (i 99 18 = -1)) (c := 12) (sp_X12_fine (le_hd hd rfl) ) mv_X12_fine lk_X12_196 rfl rfl rfl rfl (Nat.le_of_ble_eq_true rfl) (Nat.le_of_ble_eq_true rfl) rfl dX12_readPlain_17 rfl z2 (fun rg4 => ?_)
    refine g_if_ne (tgt := 24) (pc' := 23) rg4 (bI_eq _) dX12_readPlain_20 rfl rfl (fun c5n => ?_) (fun c5 => ?_)
    · have c5 := Decidable.of_not_not c5n
      exact hk42g ⟨c3, c5⟩
    · exact hk43g ⟨c3, c5⟩
  · exact hk44g c3
set_option maxRecDepth 20000 in
theorem s_X12_readPlain_53 {w : Wd} {d : Nat} {P : IM → LM → Prop} {i : IM} {l : LM} (x1 : Int)  (hd : 1 ≤ d) (h : (((i 99 18 = -1) → ((rg ((i 99 16) + 1)) ∧ cVd w d X_X12_readTest [vR (some 99), vI (x1 + 1)] (u2 i 99 16 ((i 99 16) + 1)) l (fun i51 l51 => cVd w d X_X12_must [vR (some 99), vI 141] i51 l51 (fun i53 l53 => P i53 l53)))) ∧ ((¬ (i 99 18 = -1)) → P i l))) : gV w d X_X12_readPlain P i l 53 [(0, vR (some 99)), (1, vI x1)] [] := by
  refine g_aload_n (pc' := 54) 0 dX12_readPlain_53 rfl rfl ?_
  refine g_pVI (pc' := 57) (vs := []) (st := []) (val := bI (i 99 18 = -1)) (c := 12) (sp_X12_fine (le_hd hd rfl) ) mv_X12_fine lk_X12_196 rfl rfl rfl rfl (Nat.le_of_ble_eq_true rfl) (Nat.le_of_ble_eq_true rfl) rfl dX12_readPlain_54 rfl z2 (fun rg45 => ?_)
  obtain ⟨hk54, hk55⟩ := h
  have hk54g : (i 99 18 = -1) → gV w d X_X12_readPlain P i l 61 [(0, vR (some 99)), (1, vI x1)] [] := by
    intro hp
    have h := hk54 hp
    obtain ⟨ob50, h⟩ := h
    refine g_aload_n (pc' := 62) 0 dX12_readPlain_61 rfl rfl ?_
    refine g_dup (pc' := 63) dX12_readPlain_62 rfl rfl ?_
    refine g_getI (pc' := 66) (z := 16) rfl fl_X12_200 rfl rfl dX12_readPlain_63 rfl (fun rg49 => ?_)
    refine g_iconst (pc' := 67) dX12_readPlain_66 rfl ?_
    refine g_iadd (pc' := 68) dX12_readPlain_67 rfl ?_
    refine g_putI (pc' := 71) (z := 16) rfl fp_X12_200 rfl rfl ob50 dX12_readPlain_68 rfl ?_
    refine g_aload_n (pc' := 72) 0 dX12_readPlain_71 rfl rfl ?_
    refine g_iload_n (pc' := 73) 1 dX12_readPlain_72 rfl rfl ?_
    refine g_iconst (pc' := 74) dX12_readPlain_73 rfl ?_
    refine g_iadd (pc' := 75) dX12_readPlain_74 rfl ?_
    refine g_cVV (pc' := 78) (vs := [vI (x1 + 1)]) (st := []) (c := 12) h mv_X12_readTest lk_X12_219 rfl rfl rfl rfl (Nat.le_of_ble_eq_true rfl) (Nat.le_of_ble_eq_true rfl) rfl dX12_readPlain_75 rfl z2 (fun i51 l51 h => ?_)
    refine g_aload_n (pc' := 79) 0 dX12_readPlain_78 rfl rfl ?_
    refine g_bipush (pc' := 81) dX12_readPlain_79 rfl rfl ?_
    refine g_pSI (pc' := 84) (vs := [vI 41]) (st := [vR (some 99)]) (val := 141) (sp_X12_sign (le_hd hd rfl) (rg_lit rfl)) mk_X12_sign ms_X12_sign lk_X12_228 rfl (Nat.le_of_ble_eq_true rfl) (Nat.le_of_ble_eq_true rfl) rfl dX12_readPlain_81 rfl z2 (fun rg52 => ?_)
    refine g_cVV (pc' := 87) (vs := [vI 141]) (st := []) (c := 12) h mv_X12_must lk_X12_216 rfl rfl rfl rfl (Nat.le_of_ble_eq_true rfl) (Nat.le_of_ble_eq_true rfl) rfl dX12_readPlain_84 rfl z2 (fun i53 l53 h => ?_)
    refine g_goto (tgt := 133) dX12_readPlain_87 rfl ?_
    exact g_retV rfl dX12_readPlain_133 h
  have hk55g : (¬ (i 99 18 = -1)) → gV w d X_X12_readPlain P i l 60 [(0, vR (some 99)), (1, vI x1)] [] := by
    intro hp
    have h := hk55 hp
    exact g_retV rfl dX12_readPlain_60 h
  refine g_if_ne (tgt := 61) (pc' := 60) rg45 (bI_eq _) dX12_readPlain_57 rfl rfl (fun c47n => ?_) (fun c47 => ?_)
  · have c47 := Decidable.of_not_not c47n
    exact hk54g c47
  · exact hk55g c47

theorem dX12_readSum_0 : decode cX12_readSum 0 = .ok (.aload_n 0, 1) := by decide +kernel
theorem dX12_readSum_1 : decode cX12_readSum 1 = .ok (.iload_n 1, 1) := by decide +kernel
theorem dX12_readSum_2 : decode cX12_readSum 2 = .ok (.invokevirtual 232, 3) := by decide +kernel
theorem dX12_readSum_5 : decode cX12_readSum 5 = .ok (.aload_n 0, 1) := by decide +kernel
theorem dX12_readSum_6 : decode cX12_readSum 6 = .ok (.bipush 43, 2) := by decide +kernel
theorem dX12_readSum_8 : decode cX12_readSum 8 = .ok (.invokestatic 228, 3) := by decide +kernel
theorem dX12_readSum_11 : decode cX12_readSum 11 = .ok (.invokevirtual 203, 3) := by decide +kernel
theorem dX12_readSum_14 : decode cX12_readSum 14 = .ok (.ifCond .ne 15, 3) := by decide +kernel
theorem dX12_readSum_17 : decode cX12_readSum 17 = .ok (.aload_n 0, 1) := by decide +kernel
theorem dX12_readSum_18 : decode cX12_readSum 18 = .ok (.bipush 45, 2) := by decide +kernel
theorem dX12_readSum_20 : decode cX12_readSum 20 = .ok (.invokestatic 228, 3) := by decide +kernel
theorem dX12_readSum_23 : decode cX12_readSum 23 = .ok (.invokevirtual 203, 3) := by decide +kernel
theorem dX12_readSum_26 : decode cX12_readSum 26 = .ok (.ifCond .eq 11, 3) := by decide +kernel
theorem dX12_readSum_29 : decode cX12_readSum 29 = .ok (.aload_n 0, 1) := by decide +kernel
theorem dX12_readSum_30 : decode cX12_readSum 30 = .ok (.iload_n 1, 1) := by decide +kernel
theorem dX12_readSum_31 : decode cX12_readSum 31 = .ok (.invokevirtual 232, 3) := by decide +kernel
theorem dX12_readSum_34 : decode cX12_readSum 34 = .ok (.goto (-29), 3) := by decide +kernel
theorem dX12_readSum_37 : decode cX12_readSum 37 = .ok (.return_, 1) := by decide +kernel
set_option maxRecDepth 20000 in
theorem s_X12_readSum {w : Wd} {d : Nat} {P : IM → LM → Prop} {i : IM} {l : LM} (p0 : Int)  (h : cVd w d X_X12_readTerm [vR (some 99), vI p0] i l (fun i1 l1 => gV w d X_X12_readSum P i1 l1 5 [(0, vR (some 99)), (1, vI p0)] [])) : gV w d X_X12_readSum P i l 0 [(0, vR (some 99)), (1, vI p0)] [] := by
  refine g_aload_n (pc' := 1) 0 dX12_readSum_0 rfl rfl ?_
  refine g_iload_n (pc' := 2) 1 dX12_readSum_1 rfl rfl ?_
  refine g_cVV (pc' := 5) (vs := [vI p0]) (st := []) (c := 12) h mv_X12_readTerm lk_X12_232 rfl rfl rfl rfl (Nat.le_of_ble_eq_true rfl) (Nat.le_of_ble_eq_true rfl) rfl dX12_readSum_2 rfl z2 (fun i1 l1 h => ?_)
  exact h
theorem e_X12_readSum {w : Wd} {d : Nat} {P : IM → LM → Prop} {i : IM} {l : LM} {p0 : Int}  (h : gV w d X_X12_readSum P i l 0 [(0, vR (some 99)), (1, vI p0)] []) : cVd w (d + 1) X_X12_readSum [vR (some 99), vI p0] i l P := CV_of (by decide +kernel) (Nat.le_of_ble_eq_true rfl) h
set_option maxRecDepth 20000 in
theorem s_X12_readSum_5 {w : Wd} {d : Nat} {P : IM → LM → Prop} {i : IM} {l : LM} (x1 : Int)  (hd : 1 ≤ d) (h : cI w d X_X12_takes0 [vR (some 99), vI 143] i l (fun r3 i3 l3 => (((r3 = 0) → cI w d X_X12_takes0 [vR (some 99), vI 145] i3 l3 (fun r9 i9 l9 => (((r9 = 0) → P i9 l9) ∧ ((¬ (r9 = 0)) → cVd w d X_X12_readTerm [vR (some 99), vI x1] i9 l9 (fun i12 l12 => gV w d X_X12_readSum P i12 l12 5 [(0, vR (some 99)), (1, vI x1)] []))))) ∧ ((¬ (r3 = 0)) → cVd w d X_X12_readTerm [vR (some 99), vI x1] i3 l3 (fun i7 l7 => gV w d X_X12_readSum P i7 l7 5 [(0, vR (some 99)), (1, vI x1)] []))))) : gV w d X_X12_readSum P i l 5 [(0, vR (some 99)), (1, vI x1)] [] := by
  refine g_aload_n (pc' := 6) 0 dX12_readSum_5 rfl rfl ?_
  refine g_bipush (pc' := 8) dX12_readSum_6 rfl rfl ?_
  refine g_pSI (pc' := 11) (vs := [vI 43]) (st := [vR (some 99)]) (val := 143) (sp_X12_sign (le_hd hd rfl) (rg_lit rfl)) mk_X12_sign ms_X12_sign lk_X12_228 rfl (Nat.le_of_ble_eq_true rfl) (Nat.le_of_ble_eq_true rfl) rfl dX12_readSum_8 rfl z2 (fun rg2 => ?_)
  refine g_cVI (pc' := 14) (vs := [vI 143]) (st := []) (c := 12) h mv_X12_takes0 lk_X12_203 rfl rfl rfl rfl (Nat.le_of_ble_eq_true rfl) (Nat.le_of_ble_eq_true rfl) rfl dX12_readSum_11 rfl z2 (fun r3 i3 l3 rg3 h => ?_)
  obtain ⟨hk15, hk16⟩ := h
  refine g_if_ne (tgt := 29) (pc' := 17) rg3 Iff.rfl dX12_readSum_14 rfl rfl (fun c5 => ?_) (fun c5 => ?_)
  · have h := hk16 c5
    refine g_aload_n (pc' := 30) 0 dX12_readSum_29 rfl rfl ?_
    refine g_iload_n (pc' := 31) 1 dX12_readSum_30 rfl rfl ?_
    refine g_cVV (pc' := 34) (vs := [vI x1]) (st := []) (c := 12) h mv_X12_readTerm lk_X12_232 rfl rfl rfl rfl (Nat.le_of_ble_eq_true rfl) (Nat.le_of_ble_eq_true rfl) rfl dX12_readSum_31 rfl z2 (fun i7 l7 h => ?_)
    refine g_goto (tgt := 5) dX12_readSum_34 rfl ?_
    exact h
  · have h := hk15 c5
    refine g_aload_n (pc' := 18) 0 dX12_readSum_17 rfl rfl ?_
    refine g_bipush (pc' := 20) dX12_readSum_18 rfl rfl ?_
    refine g_pSI (pc' := 23) (vs := [vI 45]) (st := [vR (some 99)]) (val := 145) (sp_X12_sign (le_hd hd rfl) (rg_lit rfl)) mk_X12_sign ms_X12_sign lk_X12_228 rfl (Nat.le_of_ble_eq_true rfl) (Nat.le_of_ble_eq_true rfl) rfl dX12_readSum_20 rfl z2 (fun rg8 => ?_)
    refine g_cVI (pc' := 26) (vs := [vI 145]) (st := []) (c := 12) h mv_X12_takes0 lk_X12_203 rfl rfl rfl rfl (Nat.le_of_ble_eq_true rfl) (Nat.le_of_ble_eq_true rfl) rfl dX12_readSum_23 rfl z2 (fun r9 i9 l9 rg9 h => ?_)
    obtain ⟨hk13, hk14⟩ := h
    refine g_if_eq (tgt := 37) (pc' := 29) rg9 Iff.rfl dX12_readSum_26 rfl rfl (fun c11 => ?_) (fun c11 => ?_)
    · have h := hk13 c11
      exact g_retV rfl dX12_readSum_37 h
    · have h := hk14 c11
      refine g_aload_n (pc' := 30) 0 dX12_readSum_29 rfl rfl ?_
      refine g_iload_n (pc' := 31) 1 dX12_readSum_30 rfl rfl ?_
      refine g_cVV (pc' := 34) (vs := [vI x1]) (st := []) (c := 12) h mv_X12_readTerm lk_X12_232 rfl rfl rfl rfl (Nat.le_of_ble_eq_true rfl) (Nat.le_of_ble_eq_true rfl) rfl dX12_readSum_31 rfl z2 (fun i12 l12 h => ?_)
      refine g_goto (tgt := 5) dX12_readSum_34 rfl ?_
      exact h

theorem dX12_readTerm_0 : decode cX12_readTerm 0 = .ok (.aload_n 0, 1) := by decide +kernel
theorem dX12_readTerm_1 : decode cX12_readTerm 1 = .ok (.iload_n 1, 1) := by decide +kernel
theorem dX12_readTerm_2 : decode cX12_readTerm 2 = .ok (.invokevirtual 235, 3) := by decide +kernel
theorem dX12_readTerm_5 : decode cX12_readTerm 5 = .ok (.aload_n 0, 1) := by decide +kernel
theorem dX12_readTerm_6 : decode cX12_readTerm 6 = .ok (.bipush 42, 2) := by decide +kernel
theorem dX12_readTerm_8 : decode cX12_readTerm 8 = .ok (.invokestatic 228, 3) := by decide +kernel
theorem dX12_readTerm_11 : decode cX12_readTerm 11 = .ok (.invokevirtual 203, 3) := by decide +kernel
theorem dX12_readTerm_14 : decode cX12_readTerm 14 = .ok (.ifCond .ne 15, 3) := by decide +kernel
theorem dX12_readTerm_17 : decode cX12_readTerm 17 = .ok (.aload_n 0, 1) := by decide +kernel
theorem dX12_readTerm_18 : decode cX12_readTerm 18 = .ok (.bipush 47, 2) := by decide +kernel
theorem dX12_readTerm_20 : decode cX12_readTerm 20 = .ok (.invokestatic 228, 3) := by decide +kernel
theorem dX12_readTerm_23 : decode cX12_readTerm 23 = .ok (.invokevirtual 203, 3) := by decide +kernel
theorem dX12_readTerm_26 : decode cX12_readTerm 26 = .ok (.ifCond .eq 11, 3) := by decide +kernel
theorem dX12_readTerm_29 : decode cX12_readTerm 29 = .ok (.aload_n 0, 1) := by decide +kernel
theorem dX12_readTerm_30 : decode cX12_readTerm 30 = .ok (.iload_n 1, 1) := by decide +kernel
theorem dX12_readTerm_31 : decode cX12_readTerm 31 = .ok (.invokevirtual 235, 3) := by decide +kernel
theorem dX12_readTerm_34 : decode cX12_readTerm 34 = .ok (.goto (-29), 3) := by decide +kernel
theorem dX12_readTerm_37 : decode cX12_readTerm 37 = .ok (.return_, 1) := by decide +kernel
set_option maxRecDepth 20000 in
theorem s_X12_readTerm {w : Wd} {d : Nat} {P : IM → LM → Prop} {i : IM} {l : LM} (p0 : Int)  (h : cVd w d X_X12_readPart [vR (some 99), vI p0] i l (fun i1 l1 => gV w d X_X12_readTerm P i1 l1 5 [(0, vR (some 99)), (1, vI p0)] [])) : gV w d X_X12_readTerm P i l 0 [(0, vR (some 99)), (1, vI p0)] [] := by
  refine g_aload_n (pc' := 1) 0 dX12_readTerm_0 rfl rfl ?_
  refine g_iload_n (pc' := 2) 1 dX12_readTerm_1 rfl rfl ?_
  refine g_cVV (pc' := 5) (vs := [vI p0]) (st := []) (c := 12) h mv_X12_readPart lk_X12_235 rfl rfl rfl rfl (Nat.le_of_ble_eq_true rfl) (Nat.le_of_ble_eq_true rfl) rfl dX12_readTerm_2 rfl z2 (fun i1 l1 h => ?_)
  exact h
theorem e_X12_readTerm {w : Wd} {d : Nat} {P : IM → LM → Prop} {i : IM} {l : LM} {p0 : Int}  (h : gV w d X_X12_readTerm P i l 0 [(0, vR (some 99)), (1, vI p0)] []) : cVd w (d + 1) X_X12_readTerm [vR (some 99), vI p0] i l P := CV_of (by decide +kernel) (Nat.le_of_ble_eq_true rfl) h
set_option maxRecDepth 20000 in
theorem s_X12_readTerm_5 {w : Wd} {d : Nat} {P : IM → LM → Prop} {i : IM} {l : LM} (x1 : Int)  (hd : 1 ≤ d) (h : cI w d X_X12_takes0 [vR (some 99), vI 142] i l (fun r3 i3 l3 => (((r3 = 0) → cI w d X_X12_takes0 [vR (some 99), vI 147] i3 l3 (fun r9 i9 l9 => (((r9 = 0) → P i9 l9) ∧ ((¬ (r9 = 0)) → cVd w d X_X12_readPart [vR (some 99), vI x1] i9 l9 (fun i12 l12 => gV w d X_X12_readTerm P i12 l12 5 [(0, vR (some 99)), (1, vI x1)] []))))) ∧ ((¬ (r3 = 0)) → cVd w d X_X12_readPart [vR (some 99), vI x1] i3 l3 (fun i7 l7 => gV w d X_X12_readTerm P i7 l7 5 [(0, vR (some 99)), (1, vI x1)] []))))) : gV w d X_X12_readTerm P i l 5 [(0, vR (some 99)), (1, vI x1)] [] := by
  refine g_aload_n (pc' := 6) 0 dX12_readTerm_5 rfl rfl ?_
  refine g_bipush (pc' := 8) dX12_readTerm_6 rfl rfl ?_
  refine g_pSI (pc' := 11) (vs := [vI 42]) (st := [vR (some 99)]) (val := 142) (sp_X12_sign (le_hd hd rfl) (rg_lit rfl)) mk_X12_sign ms_X12_sign lk_X12_228 rfl (Nat.le_of_ble_eq_true rfl) (Nat.le_of_ble_eq_true rfl) rfl dX12_readTerm_8 rfl z2 (fun rg2 => ?_)
  refine g_cVI (pc' := 14) (vs := [vI 142]) (st := []) (c := 12) h mv_X12_takes0 lk_X12_203 rfl rfl rfl rfl (Nat.le_of_ble_eq_true rfl) (Nat.le_of_ble_eq_true rfl) rfl dX12_readTerm_11 rfl z2 (fun r3 i3 l3 rg3 h => ?_)
  obtain ⟨hk15, hk16⟩ := h
  refine g_if_ne (tgt := 29) (pc' := 17) rg3 Iff.rfl dX12_readTerm_14 rfl rfl (fun c5 => ?_) (fun c5 => ?_)
  · have h := hk16 c5
    refine g_aload_n (pc' := 30) 0 dX12_readTerm_29 rfl rfl ?_
    refine g_iload_n (pc' := 31) 1 dX12_readTerm_30 rfl rfl ?_
    refine g_cVV (pc' := 34) (vs := [vI x1]) (st := []) (c := 12) h mv_X12_readPart lk_X12_235 rfl rfl rfl rfl (Nat.le_of_ble_eq_true rfl) (Nat.le_of_ble_eq_true rfl) rfl dX12_readTerm_31 rfl z2 (fun i7 l7 h => ?_)
    refine g_goto (tgt := 5) dX12_readTerm_34 rfl ?_
    exact h
  · have h := hk15 c5
    refine g_aload_n (pc' := 18) 0 dX12_readTerm_17 rfl rfl ?_
    refine g_bipush (pc' := 20) dX12_readTerm_18 rfl rfl ?_
    refine g_pSI (pc' := 23) (vs := [vI 47]) (st := [vR (some 99)]) (val := 147) (sp_X12_sign (le_hd hd rfl) (rg_lit rfl)) mk_X12_sign ms_X12_sign lk_X12_228 rfl (Nat.le_of_ble_eq_true rfl) (Nat.le_of_ble_eq_true rfl) rfl dX12_readTerm_20 rfl z2 (fun rg8 => ?_)
    refine g_cVI (pc' := 26) (vs := [vI 147]) (st := []) (c := 12) h mv_X12_takes0 lk_X12_203 rfl rfl rfl rfl (Nat.le_of_ble_eq_true rfl) (Nat.le_of_ble_eq_true rfl) rfl dX12_readTerm_23 rfl z2 (fun r9 i9 l9 rg9 h => ?_)
    obtain ⟨hk13, hk14⟩ := h
    refine g_if_eq (tgt := 37) (pc' := 29) rg9 Iff.rfl dX12_readTerm_26 rfl rfl (fun c11 => ?_) (fun c11 => ?_)
    · have h := hk13 c11
      exact g_retV rfl dX12_readTerm_37 h
    · have h := hk14 c11
      refine g_aload_n (pc' := 30) 0 dX12_readTerm_29 rfl rfl ?_
      refine g_iload_n (pc' := 31) 1 dX12_readTerm_30 rfl rfl ?_
      refine g_cVV (pc' := 34) (vs := [vI x1]) (st := []) (c := 12) h mv_X12_readPart lk_X12_235 rfl rfl rfl rfl (Nat.le_of_ble_eq_true rfl) (Nat.le_of_ble_eq_true rfl) rfl dX12_readTerm_31 rfl z2 (fun i12 l12 h => ?_)
      refine g_goto (tgt := 5) dX12_readTerm_34 rfl ?_
      exact h

theorem dX12_readPart_0 : decode cX12_readPart 0 = .ok (.aload_n 0, 1) := by decide +kernel
theorem dX12_readPart_1 : decode cX12_readPart 1 = .ok (.invokevirtual 196, 3) := by decide +kernel
theorem dX12_readPart_4 : decode cX12_readPart 4 = .ok (.ifCond .ne 4, 3) := by decide +kernel
theorem dX12_readPart_7 : decode cX12_readPart 7 = .ok (.return_, 1) := by decide +kernel
theorem dX12_readPart_8 : decode cX12_readPart 8 = .ok (.aload_n 0, 1) := by decide +kernel
theorem dX12_readPart_9 : decode cX12_readPart 9 = .ok (.getfield 43, 3) := by decide +kernel
theorem dX12_readPart_12 : decode cX12_readPart 12 = .ok (.aload_n 0, 1) := by decide +kernel
theorem dX12_readPart_13 : decode cX12_readPart 13 = .ok (.getfield 200, 3) := by decide +kernel
theorem dX12_readPart_16 : decode cX12_readPart 16 = .ok (.iaload, 1) := by decide +kernel
theorem dX12_readPart_17 : decode cX12_readPart 17 = .ok (.istore_n 2, 1) := by decide +kernel
theorem dX12_readPart_18 : decode cX12_readPart 18 = .ok (.iload_n 2, 1) := by decide +kernel
theorem dX12_readPart_19 : decode cX12_readPart 19 = .ok (.bipush 91, 2) := by decide +kernel
theorem dX12_readPart_21 : decode cX12_readPart 21 = .ok (.invokestatic 228, 3) := by decide +kernel
theorem dX12_readPart_24 : decode cX12_readPart 24 = .ok (.if_icmp .ne 50, 3) := by decide +kernel
theorem dX12_readPart_27 : decode cX12_readPart 27 = .ok (.iload_n 1, 1) := by decide +kernel
theorem dX12_readPart_28 : decode cX12_readPart 28 = .ok (.bipush 8, 2) := by decide +kernel
theorem dX12_readPart_30 : decode cX12_readPart 30 = .ok (.if_icmp .ne 7, 3) := by decide +kernel
theorem dX12_readPart_33 : decode cX12_readPart 33 = .ok (.aload_n 0, 1) := by decide +kernel
theorem dX12_readPart_34 : decode cX12_readPart 34 = .ok (.invokevirtual 206, 3) := by decide +kernel
theorem dX12_readPart_37 : decode cX12_readPart 37 = .ok (.aload_n 0, 1) := by decide +kernel
theorem dX12_readPart_38 : decode cX12_readPart 38 = .ok (.invokevirtual 196, 3) := by decide +kernel
theorem dX12_readPart_41 : decode cX12_readPart 41 = .ok (.ifCond .ne 4, 3) := by decide +kernel
theorem dX12_readPart_44 : decode cX12_readPart 44 = .ok (.return_, 1) := by decide +kernel
theorem dX12_readPart_45 : decode cX12_readPart 45 = .ok (.aload_n 0, 1) := by decide +kernel
theorem dX12_readPart_46 : decode cX12_readPart 46 = .ok (.dup, 1) := by decide +kernel
theorem dX12_readPart_47 : decode cX12_readPart 47 = .ok (.getfield 200, 3) := by decide +kernel
theorem dX12_readPart_50 : decode cX12_readPart 50 = .ok (.iconst 1, 1) := by decide +kernel
theorem dX12_readPart_51 : decode cX12_readPart 51 = .ok (.iadd, 1) := by decide +kernel
theorem dX12_readPart_52 : decode cX12_readPart 52 = .ok (.putfield 200, 3) := by decide +kernel
theorem dX12_readPart_55 : decode cX12_readPart 55 = .ok (.aload_n 0, 1) := by decide +kernel
theorem dX12_readPart_56 : decode cX12_readPart 56 = .ok (.iload_n 1, 1) := by decide +kernel
theorem dX12_readPart_57 : decode cX12_readPart 57 = .ok (.iconst 1, 1) := by decide +kernel
theorem dX12_readPart_58 : decode cX12_readPart 58 = .ok (.iadd, 1) := by decide +kernel
theorem dX12_readPart_59 : decode cX12_readPart 59 = .ok (.invokevirtual 212, 3) := by decide +kernel
theorem dX12_readPart_62 : decode cX12_readPart 62 = .ok (.aload_n 0, 1) := by decide +kernel
theorem dX12_readPart_63 : decode cX12_readPart 63 = .ok (.bipush 93, 2) := by decide +kernel
theorem dX12_readPart_65 : decode cX12_readPart 65 = .ok (.invokestatic 228, 3) := by decide +kernel
theorem dX12_readPart_68 : decode cX12_readPart 68 = .ok (.invokevirtual 216, 3) := by decide +kernel
theorem dX12_readPart_71 : decode cX12_readPart 71 = .ok (.goto 47, 3) := by decide +kernel
theorem dX12_readPart_74 : decode cX12_readPart 74 = .ok (.iload_n 2, 1) := by decide +kernel
theorem dX12_readPart_75 : decode cX12_readPart 75 = .ok (.bipush 50, 2) := by decide +kernel
theorem dX12_readPart_77 : decode cX12_readPart 77 = .ok (.if_icmp .ne 18, 3) := by decide +kernel
theorem dX12_readPart_80 : decode cX12_readPart 80 = .ok (.aload_n 0, 1) := by decide +kernel
theorem dX12_readPart_81 : decode cX12_readPart 81 = .ok (.getfield 46, 3) := by decide +kernel
theorem dX12_readPart_84 : decode cX12_readPart 84 = .ok (.aload_n 0, 1) := by decide +kernel
theorem dX12_readPart_85 : decode cX12_readPart 85 = .ok (.getfield 200, 3) := by decide +kernel
theorem dX12_readPart_88 : decode cX12_readPart 88 = .ok (.iaload, 1) := by decide +kernel
theorem dX12_readPart_89 : decode cX12_readPart 89 = .ok (.sipush 1000, 3) := by decide +kernel
theorem dX12_readPart_92 : decode cX12_readPart 92 = .ok (.if_icmp .le 15, 3) := by decide +kernel
theorem dX12_readPart_95 : decode cX12_readPart 95 = .ok (.iload_n 2, 1) := by decide +kernel
theorem dX12_readPart_96 : decode cX12_readPart 96 = .ok (.bipush 9, 2) := by decide +kernel
theorem dX12_readPart_98 : decode cX12_readPart 98 = .ok (.if_icmp .lt 16, 3) := by decide +kernel
theorem dX12_readPart_101 : decode cX12_readPart 101 = .ok (.iload_n 2, 1) := by decide +kernel
theorem dX12_readPart_102 : decode cX12_readPart 102 = .ok (.bipush 17, 2) := by decide +kernel
theorem dX12_readPart_104 : decode cX12_readPart 104 = .ok (.if_icmp .gt 10, 3) := by decide +kernel
theorem dX12_readPart_107 : decode cX12_readPart 107 = .ok (.aload_n 0, 1) := by decide +kernel
theorem dX12_readPart_108 : decode cX12_readPart 108 = .ok (.invokevirtual 238, 3) := by decide +kernel
theorem dX12_readPart_111 : decode cX12_readPart 111 = .ok (.goto 7, 3) := by decide +kernel
theorem dX12_readPart_114 : decode cX12_readPart 114 = .ok (.aload_n 0, 1) := by decide +kernel
theorem dX12_readPart_115 : decode cX12_readPart 115 = .ok (.invokevirtual 206, 3) := by decide +kernel
theorem dX12_readPart_118 : decode cX12_readPart 118 = .ok (.return_, 1) := by decide +kernel
set_option maxRecDepth 20000 in
theorem s_X12_readPart {w : Wd} {d : Nat} {P : IM → LM → Prop} {i : IM} {l : LM} (p0 : Int)  (hd : 1 ≤ d) (h : (((i 99 18 = -1) → ((0 ≤ i 99 16 ∧ i 99 16 < 401) ∧ ((¬ (i 107 (i 99 16) = 191) → (i 107 (i 99 16) = 50) → 0 ≤ i 99 16 ∧ i 99 16 < 401) ∧ ((i 107 (i 99 16) = 191) → rg p0) ∧ ((¬ (i 107 (i 99 16) = 191) ∧ (¬ (i 107 (i 99 16) = 50) ∨ (¬ (i 108 (i 99 16) ≤ 1000)))) → ((((i 107 (i 99 16) < 9) ∨ (17 < i 107 (i 99 16))) → cVd w d X_X12_faults [vR (some 99)] i l (fun i23 l23 => P i23 l23)) ∧ ((¬ ((i 107 (i 99 16) < 9) ∨ (17 < i 107 (i 99 16)))) → cVd w d X_X12_leaf [vR (some 99)] i l (fun i24 l24 => P i24 l24)))) ∧ ((¬ (i 107 (i 99 16) = 191) ∧ ((i 107 (i 99 16) = 50) ∧ (i 108 (i 99 16) ≤ 1000))) → cVd w d X_X12_leaf [vR (some 99)] i l (fun i27 l27 => P i27 l27)) ∧ (((i 107 (i 99 16) = 191) ∧ (¬ (p0 = 8))) → gV w d X_X12_readPart P i l 37 [(0, vR (some 99)), (1, vI p0)] []) ∧ (((i 107 (i 99 16) = 191) ∧ (p0 = 8)) → cVd w d X_X12_faults [vR (some 99)] i l (fun i28 l28 => gV w d X_X12_readPart P i28 l28 37 [(0, vR (some 99)), (1, vI p0)] []))))) ∧ ((¬ (i 99 18 = -1)) → P i l))) : gV w d X_X12_readPart P i l 0 [(0, vR (some 99)), (1, vI p0)] [] := by
  refine g_aload_n (pc' := 1) 0 dX12_readPart_0 rfl rfl ?_
  refine g_pVI (pc' := 4) (vs := []) (st := []) (val := bI (i 99 18 = -1)) (c := 12) (sp_X12_fine (le_hd hd rfl) ) mv_X12_fine lk_X12_196 rfl rfl rfl rfl (Nat.le_of_ble_eq_true rfl) (Nat.le_of_ble_eq_true rfl) rfl dX12_readPart_1 rfl z2 (fun rg1 => ?_)
  obtain ⟨hk33, hk34⟩ := h
  have hk33g : (i 99 18 = -1) → gV w d X_X12_readPart P i l 8 [(0, vR (some 99)), (1, vI p0)] [] := by
    intro hp
    have h := hk33 hp
    obtain ⟨ob8, h⟩ := h
    refine g_aload_n (pc' := 9) 0 dX12_readPart_8 rfl rfl ?_
    refine g_getR (pc' := 12) (o := some 107) fl_X12_43 rfl rfl rfl dX12_readPart_9 rfl ?_
    refine g_aload_n (pc' := 13) 0 dX12_readPart_12 rfl rfl ?_
    refine g_getI (pc' := 16) (z := 16) rfl fl_X12_200 rfl rfl dX12_readPart_13 rfl (fun rg7 => ?_)
    refine g_iald (pc' := 17) (N := 401) rfl rfl (Nat.lt_of_lt_of_le (Nat.lt_succ_self _) (Nat.le_of_ble_eq_true rfl)) ob8 dX12_readPart_16 rfl (fun rg9 => ?_)
    refine g_istore_n (pc' := 18) (L' := [(2, vI (i 107 (i 99 16))), (0, vR (some 99)), (1, vI p0)]) dX12_readPart_17 rfl (Nat.le_of_ble_eq_true rfl) rfl ?_
    refine g_iload_n (pc' := 19) 0 dX12_readPart_18 rfl rfl ?_
    refine g_bipush (pc' := 21) dX12_readPart_19 rfl rfl ?_
    refine g_pSI (pc' := 24) (vs := [vI 91]) (st := [vI (i 107 (i 99 16))]) (val := 191) (sp_X12_sign (le_hd hd rfl) (rg_lit rfl)) mk_X12_sign ms_X12_sign lk_X12_228 rfl (Nat.le_of_ble_eq_true rfl) (Nat.le_of_ble_eq_true rfl) rfl dX12_readPart_21 rfl z2 (fun rg10 => ?_)
    obtain ⟨hob15, hob18, hk29, hk30, hk31, hk32⟩ := h
    have hk29g : (¬ (i 107 (i 99 16) = 191) ∧ (¬ (i 107 (i 99 16) = 50) ∨ (¬ (i 108 (i 99 16) ≤ 1000)))) → gV w d X_X12_readPart P i l 95 [(2, vI (i 107 (i 99 16))), (0, vR (some 99)), (1, vI p0)] [] := by
      intro hp
      have h := hk29 hp
      refine g_iload_n (pc' := 96) 0 dX12_readPart_95 rfl rfl ?_
      refine g_bipush (pc' := 98) dX12_readPart_96 rfl rfl ?_
      obtain ⟨hk25, hk26⟩ := h
      have hk25g : ((i 107 (i 99 16) < 9) ∨ (17 < i 107 (i 99 16))) → gV w d X_X12_readPart P i l 114 [(2, vI (i 107 (i 99 16))), (0, vR (some 99)), (1, vI p0)] [] := by
        intro hp
        have h := hk25 hp
        refine g_aload_n (pc' := 115) 1 dX12_readPart_114 rfl rfl ?_
        refine g_cVV (pc' := 118) (vs := []) (st := []) (c := 12) h mv_X12_faults lk_X12_206 rfl rfl rfl rfl (Nat.le_of_ble_eq_true rfl) (Nat.le_of_ble_eq_true rfl) rfl dX12_readPart_115 rfl z2 (fun i23 l23 h => ?_)
        exact g_retV rfl dX12_readPart_118 h
      have hk26g : (¬ ((i 107 (i 99 16) < 9) ∨ (17 < i 107 (i 99 16)))) → gV w d X_X12_readPart P i l 107 [(2, vI (i 107 (i 99 16))), (0, vR (some 99)), (1, vI p0)] [] := by
        intro hp
        have h := hk26 hp
        refine g_aload_n (pc' := 108) 1 dX12_readPart_107 rfl rfl ?_
        refine g_cVV (pc' := 111) (vs := []) (st := []) (c := 12) h mv_X12_leaf lk_X12_238 rfl rfl rfl rfl (Nat.le_of_ble_eq_true rfl) (Nat.le_of_ble_eq_true rfl) rfl dX12_readPart_108 rfl z2 (fun i24 l24 h => ?_)
        refine g_goto (tgt := 118) dX12_readPart_111 rfl ?_
        exact g_retV rfl dX12_readPart_118 h
      refine g_icmp_lt (tgt := 114) (pc' := 101) rg9 (rg_lit rfl) Iff.rfl dX12_readPart_98 rfl rfl (fun c21 => ?_) (fun c21 => ?_)
      · exact hk25g (Or.inl c21)
      · refine g_iload_n (pc' := 102) 0 dX12_readPart_101 rfl rfl ?_
        refine g_bipush (pc' := 104) dX12_readPart_102 rfl rfl ?_
        refine g_icmp_gt (tgt := 114) (pc' := 107) rg9 (rg_lit rfl) Iff.rfl dX12_readPart_104 rfl rfl (fun c22 => ?_) (fun c22 => ?_)
        · exact hk25g (Or.inr c22)
        · exact hk26g (fun q => q.elim c21 c22)
    have hk30g : (¬ (i 107 (i 99 16) = 191) ∧ ((i 107 (i 99 16) = 50) ∧ (i 108 (i 99 16) ≤ 1000))) → gV w d X_X12_readPart P i l 107 [(2, vI (i 107 (i 99 16))), (0, vR (some 99)), (1, vI p0)] [] := by
      intro hp
      have h := hk30 hp
      refine g_aload_n (pc' := 108) 1 dX12_readPart_107 rfl rfl ?_
      refine g_cVV (pc' := 111) (vs := []) (st := []) (c := 12) h mv_X12_leaf lk_X12_238 rfl rfl rfl rfl (Nat.le_of_ble_eq_true rfl) (Nat.le_of_ble_eq_true rfl) rfl dX12_readPart_108 rfl z2 (fun i27 l27 h => ?_)
      refine g_goto (tgt := 118) dX12_readPart_111 rfl ?_
      exact g_retV rfl dX12_readPart_118 h
    have hk31g : ((i 107 (i 99 16) = 191) ∧ (¬ (p0 = 8))) → gV w d X_X12_readPart P i l 37 [(2, vI (i 107 (i 99 16))), (0, vR (some 99)), (1, vI p0)] [] := by
      intro hp
      have h := hk31 hp
      refine g_sub (L' := [(0, vR (some 99)), (1, vI p0)]) [1, 2] rfl ?_
      exact h
    have hk32g : ((i 107 (i 99 16) = 191) ∧ (p0 = 8)) → gV w d X_X12_readPart P i l 33 [(2, vI (i 107 (i 99 16))), (0, vR (some 99)), (1, vI p0)] [] := by
      intro hp
      have h := hk32 hp
      refine g_aload_n (pc' := 34) 1 dX12_readPart_33 rfl rfl ?_
      refine g_cVV (pc' := 37) (vs := []) (st := []) (c := 12) h mv_X12_faults lk_X12_206 rfl rfl rfl rfl (Nat.le_of_ble_eq_true rfl) (Nat.le_of_ble_eq_true rfl) rfl dX12_readPart_34 rfl z2 (fun i28 l28 h => ?_)
      refine g_sub (L' := [(0, vR (some 99)), (1, vI p0)]) [1, 2] rfl ?_
      exact h
    refine g_icmp_ne (tgt := 74) (pc' := 27) rg9 rg10 Iff.rfl dX12_readPart_24 rfl rfl (fun c12 => ?_) (fun c12 => ?_)
    · refine g_iload_n (pc' := 75) 0 dX12_readPart_74 rfl rfl ?_
      refine g_bipush (pc' := 77) dX12_readPart_75 rfl rfl ?_
      refine g_icmp_ne (tgt := 95) (pc' := 80) rg9 (rg_lit rfl) Iff.rfl dX12_readPart_77 rfl rfl (fun c13 => ?_) (fun c13 => ?_)
      · exact hk29g ⟨c12, (Or.inl c13)⟩
      · refine g_aload_n (pc' := 81) 1 dX12_readPart_80 rfl rfl ?_
        refine g_getR (pc' := 84) (o := some 108) fl_X12_46 rfl rfl rfl dX12_readPart_81 rfl ?_
        refine g_aload_n (pc' := 85) 1 dX12_readPart_84 rfl rfl ?_
        refine g_getI (pc' := 88) (z := 16) rfl fl_X12_200 rfl rfl dX12_readPart_85 rfl (fun rg14 => ?_)
        refine g_iald (pc' := 89) (N := 401) rfl rfl (Nat.lt_of_lt_of_le (Nat.lt_succ_self _) (Nat.le_of_ble_eq_true rfl)) (hob15 c12 c13) dX12_readPart_88 rfl (fun rg16 => ?_)
        refine g_sipush (pc' := 92) dX12_readPart_89 rfl rfl ?_
        refine g_icmp_le (tgt := 107) (pc' := 95) rg16 (rg_lit rfl) Iff.rfl dX12_readPart_92 rfl rfl (fun c17 => ?_) (fun c17 => ?_)
        · exact hk30g ⟨c12, ⟨c13, c17⟩⟩
        · exact hk29g ⟨c12, (Or.inr c17)⟩
    · refine g_iload_n (pc' := 28) 2 dX12_readPart_27 rfl rfl ?_
      refine g_bipush (pc' := 30) dX12_readPart_28 rfl rfl ?_
      refine g_icmp_ne (tgt := 37) (pc' := 33) (hob18 c12) (rg_lit rfl) Iff.rfl dX12_readPart_30 rfl rfl (fun c19 => ?_) (fun c19 => ?_)
      · exact hk31g ⟨c12, c19⟩
      · exact hk32g ⟨c12, c19⟩
  have hk34g : (¬ (i 99 18 = -1)) → gV w d X_X12_readPart P i l 7 [(0, vR (some 99)), (1, vI p0)] [] := by
    intro hp
    have h := hk34 hp
    exact g_retV rfl dX12_readPart_7 h
  refine g_if_ne (tgt := 8) (pc' := 7) rg1 (bI_eq _) dX12_readPart_4 rfl rfl (fun c3n => ?_) (fun c3 => ?_)
  · have c3 := Decidable.of_not_not c3n
    exact hk33g c3
  · exact hk34g c3
theorem e_X12_readPart {w : Wd} {d : Nat} {P : IM → LM → Prop} {i : IM} {l : LM} {p0 : Int}  (h : gV w d X_X12_readPart P i l 0 [(0, vR (some 99)), (1, vI p0)] []) : cVd w (d + 1) X_X12_readPart [vR (some 99), vI p0] i l P := CV_of (by decide +kernel) (Nat.le_of_ble_eq_true rfl) h
set_option maxRecDepth 20000 in
theorem s_X12_readPart_37 {w : Wd} {d : Nat} {P : IM → LM → Prop} {i : IM} {l : LM} (x1 : Int)  (hd : 1 ≤ d) (h : (((i 99 18 = -1) → ((rg ((i 99 16) + 1)) ∧ cVd w d X_X12_readSum [vR (some 99), vI (x1 + 1)] (u2 i 99 16 ((i 99 16) + 1)) l (fun i41 l41 => cVd w d X_X12_must [vR (some 99), vI 193] i41 l41 (fun i43 l43 => P i43 l43)))) ∧ ((¬ (i 99 18 = -1)) → P i l))) : gV w d X_X12_readPart P i l 37 [(0, vR (some 99)), (1, vI x1)] [] := by
  refine g_aload_n (pc' := 38) 0 dX12_readPart_37 rfl rfl ?_
  refine g_pVI (pc' := 41) (vs := []) (st := []) (val := bI (i 99 18 = -1)) (c := 12) (sp_X12_fine (le_hd hd rfl) ) mv_X12_fine lk_X12_196 rfl rfl rfl rfl (Nat.le_of_ble_eq_true rfl) (Nat.le_of_ble_eq_true rfl) rfl dX12_readPart_38 rfl z2 (fun rg35 => ?_)
  obtain ⟨hk44, hk45⟩ := h
  have hk44g : (i 99 18 = -1) → gV w d X_X12_readPart P i l 45 [(0, vR (some 99)), (1, vI x1)] [] := by
    intro hp
    have h := hk44 hp
    obtain ⟨ob40, h⟩ := h
    refine g_aload_n (pc' := 46) 0 dX12_readPart_45 rfl rfl ?_
    refine g_dup (pc' := 47) dX12_readPart_46 rfl rfl ?_
    refine g_getI (pc' := 50) (z := 16) rfl fl_X12_200 rfl rfl dX12_readPart_47 rfl (fun rg39 => ?_)
    refine g_iconst (pc' := 51) dX12_readPart_50 rfl ?_
    refine g_iadd (pc' := 52) dX12_readPart_51 rfl ?_
    refine g_putI (pc' := 55) (z := 16) rfl fp_X12_200 rfl rfl ob40 dX12_readPart_52 rfl ?_
    refine g_aload_n (pc' := 56) 0 dX12_readPart_55 rfl rfl ?_
    refine g_iload_n (pc' := 57) 1 dX12_readPart_56 rfl rfl ?_
    refine g_iconst (pc' := 58) dX12_readPart_57 rfl ?_
    refine g_iadd (pc' := 59) dX12_readPart_58 rfl ?_
    refine g_cVV (pc' := 62) (vs := [vI (x1 + 1)]) (st := []) (c := 12) h mv_X12_readSum lk_X12_212 rfl rfl rfl rfl (Nat.le_of_ble_eq_true rfl) (Nat.le_of_ble_eq_true rfl) rfl dX12_readPart_59 rfl z2 (fun i41 l41 h => ?_)
    refine g_aload_n (pc' := 63) 0 dX12_readPart_62 rfl rfl ?_
    refine g_bipush (pc' := 65) dX12_readPart_63 rfl rfl ?_
    refine g_pSI (pc' := 68) (vs := [vI 93]) (st := [vR (some 99)]) (val := 193) (sp_X12_sign (le_hd hd rfl) (rg_lit rfl)) mk_X12_sign ms_X12_sign lk_X12_228 rfl (Nat.le_of_ble_eq_true rfl) (Nat.le_of_ble_eq_true rfl) rfl dX12_readPart_65 rfl z2 (fun rg42 => ?_)
    refine g_cVV (pc' := 71) (vs := [vI 193]) (st := []) (c := 12) h mv_X12_must lk_X12_216 rfl rfl rfl rfl (Nat.le_of_ble_eq_true rfl) (Nat.le_of_ble_eq_true rfl) rfl dX12_readPart_68 rfl z2 (fun i43 l43 h => ?_)
    refine g_goto (tgt := 118) dX12_readPart_71 rfl ?_
    exact g_retV rfl dX12_readPart_118 h
  have hk45g : (¬ (i 99 18 = -1)) → gV w d X_X12_readPart P i l 44 [(0, vR (some 99)), (1, vI x1)] [] := by
    intro hp
    have h := hk45 hp
    exact g_retV rfl dX12_readPart_44 h
  refine g_if_ne (tgt := 45) (pc' := 44) rg35 (bI_eq _) dX12_readPart_41 rfl rfl (fun c37n => ?_) (fun c37 => ?_)
  · have c37 := Decidable.of_not_not c37n
    exact hk44g c37
  · exact hk45g c37

theorem dX12_reads_0 : decode cX12_reads 0 = .ok (.aload_n 0, 1) := by decide +kernel
theorem dX12_reads_1 : decode cX12_reads 1 = .ok (.aload_n 0, 1) := by decide +kernel
theorem dX12_reads_2 : decode cX12_reads 2 = .ok (.getfield 174, 3) := by decide +kernel
theorem dX12_reads_5 : decode cX12_reads 5 = .ok (.invokevirtual 241, 3) := by decide +kernel
theorem dX12_reads_8 : decode cX12_reads 8 = .ok (.aload_n 0, 1) := by decide +kernel
theorem dX12_reads_9 : decode cX12_reads 9 = .ok (.iconst 0, 1) := by decide +kernel
theorem dX12_reads_10 : decode cX12_reads 10 = .ok (.putfield 174, 3) := by decide +kernel
theorem dX12_reads_13 : decode cX12_reads 13 = .ok (.aload_n 0, 1) := by decide +kernel
theorem dX12_reads_14 : decode cX12_reads 14 = .ok (.iconst 0, 1) := by decide +kernel
theorem dX12_reads_15 : decode cX12_reads 15 = .ok (.putfield 200, 3) := by decide +kernel
theorem dX12_reads_18 : decode cX12_reads 18 = .ok (.aload_n 0, 1) := by decide +kernel
theorem dX12_reads_19 : decode cX12_reads 19 = .ok (.iconst 0, 1) := by decide +kernel
theorem dX12_reads_20 : decode cX12_reads 20 = .ok (.putfield 209, 3) := by decide +kernel
theorem dX12_reads_23 : decode cX12_reads 23 = .ok (.aload_n 0, 1) := by decide +kernel
theorem dX12_reads_24 : decode cX12_reads 24 = .ok (.iconst (-1), 1) := by decide +kernel
theorem dX12_reads_25 : decode cX12_reads 25 = .ok (.putfield 193, 3) := by decide +kernel
theorem dX12_reads_28 : decode cX12_reads 28 = .ok (.aload_n 0, 1) := by decide +kernel
theorem dX12_reads_29 : decode cX12_reads 29 = .ok (.invokevirtual 244, 3) := by decide +kernel
theorem dX12_reads_32 : decode cX12_reads 32 = .ok (.iconst 1, 1) := by decide +kernel
theorem dX12_reads_33 : decode cX12_reads 33 = .ok (.istore_n 1, 1) := by decide +kernel
theorem dX12_reads_34 : decode cX12_reads 34 = .ok (.aload_n 0, 1) := by decide +kernel
theorem dX12_reads_35 : decode cX12_reads 35 = .ok (.bipush 59, 2) := by decide +kernel
theorem dX12_reads_37 : decode cX12_reads 37 = .ok (.invokestatic 228, 3) := by decide +kernel
theorem dX12_reads_40 : decode cX12_reads 40 = .ok (.invokevirtual 203, 3) := by decide +kernel
theorem dX12_reads_43 : decode cX12_reads 43 = .ok (.ifCond .eq 30, 3) := by decide +kernel
theorem dX12_reads_46 : decode cX12_reads 46 = .ok (.iload_n 1, 1) := by decide +kernel
theorem dX12_reads_47 : decode cX12_reads 47 = .ok (.bipush 12, 2) := by decide +kernel
theorem dX12_reads_49 : decode cX12_reads 49 = .ok (.if_icmp .ne 7, 3) := by decide +kernel
theorem dX12_reads_52 : decode cX12_reads 52 = .ok (.aload_n 0, 1) := by decide +kernel
theorem dX12_reads_53 : decode cX12_reads 53 = .ok (.invokevirtual 206, 3) := by decide +kernel
theorem dX12_reads_56 : decode cX12_reads 56 = .ok (.aload_n 0, 1) := by decide +kernel
theorem dX12_reads_57 : decode cX12_reads 57 = .ok (.invokevirtual 196, 3) := by decide +kernel
theorem dX12_reads_60 : decode cX12_reads 60 = .ok (.ifCond .eq 7, 3) := by decide +kernel
theorem dX12_reads_63 : decode cX12_reads 63 = .ok (.aload_n 0, 1) := by decide +kernel
theorem dX12_reads_64 : decode cX12_reads 64 = .ok (.invokevirtual 244, 3) := by decide +kernel
theorem dX12_reads_67 : decode cX12_reads 67 = .ok (.iinc 1 1, 3) := by decide +kernel
theorem dX12_reads_70 : decode cX12_reads 70 = .ok (.goto (-36), 3) := by decide +kernel
theorem dX12_reads_73 : decode cX12_reads 73 = .ok (.aload_n 0, 1) := by decide +kernel
theorem dX12_reads_74 : decode cX12_reads 74 = .ok (.invokevirtual 196, 3) := by decide +kernel
theorem dX12_reads_77 : decode cX12_reads 77 = .ok (.ifCond .eq 18, 3) := by decide +kernel
theorem dX12_reads_80 : decode cX12_reads 80 = .ok (.aload_n 0, 1) := by decide +kernel
theorem dX12_reads_81 : decode cX12_reads 81 = .ok (.getfield 200, 3) := by decide +kernel
theorem dX12_reads_84 : decode cX12_reads 84 = .ok (.aload_n 0, 1) := by decide +kernel
theorem dX12_reads_85 : decode cX12_reads 85 = .ok (.getfield 180, 3) := by decide +kernel
theorem dX12_reads_88 : decode cX12_reads 88 = .ok (.if_icmp .ge 7, 3) := by decide +kernel
theorem dX12_reads_91 : decode cX12_reads 91 = .ok (.aload_n 0, 1) := by decide +kernel
theorem dX12_reads_92 : decode cX12_reads 92 = .ok (.invokevirtual 206, 3) := by decide +kernel
theorem dX12_reads_95 : decode cX12_reads 95 = .ok (.aload_n 0, 1) := by decide +kernel
theorem dX12_reads_96 : decode cX12_reads 96 = .ok (.aload_n 0, 1) := by decide +kernel
theorem dX12_reads_97 : decode cX12_reads 97 = .ok (.getfield 193, 3) := by decide +kernel
theorem dX12_reads_100 : decode cX12_reads 100 = .ok (.putfield 40, 3) := by decide +kernel
theorem dX12_reads_103 : decode cX12_reads 103 = .ok (.aload_n 0, 1) := by decide +kernel
theorem dX12_reads_104 : decode cX12_reads 104 = .ok (.invokevirtual 196, 3) := by decide +kernel
theorem dX12_reads_107 : decode cX12_reads 107 = .ok (.ireturn, 1) := by decide +kernel
set_option maxRecDepth 20000 in
theorem s_X12_reads {w : Wd} {d : Nat} {P : Int → IM → LM → Prop} {i : IM} {l : LM}   (h : cVd w d X_X12_splits [vR (some 99), vI (i 99 10)] i l (fun i2 l2 => cVd w d X_X12_readClause [vR (some 99)] (u2 (u2 (u2 (u2 i2 99 10 0) 99 16 0) 99 17 0) 99 18 (-1)) l2 (fun i3 l3 => gI w d X_X12_reads P i3 l3 34 [(0, vR (some 99)), (1, vI 1)] []))) : gI w d X_X12_reads P i l 0 [(0, vR (some 99))] [] := by
  refine g_aload_n (pc' := 1) 0 dX12_reads_0 rfl rfl ?_
  refine g_aload_n (pc' := 2) 0 dX12_reads_1 rfl rfl ?_
  refine g_getI (pc' := 5) (z := 10) rfl fl_X12_174 rfl rfl dX12_reads_2 rfl (fun rg1 => ?_)
  refine g_cVV (pc' := 8) (vs := [vI (i 99 10)]) (st := []) (c := 12) h mv_X12_splits lk_X12_241 rfl rfl rfl rfl (Nat.le_of_ble_eq_true rfl) (Nat.le_of_ble_eq_true rfl) rfl dX12_reads_5 rfl z2 (fun i2 l2 h => ?_)
  refine g_aload_n (pc' := 9) 0 dX12_reads_8 rfl rfl ?_
  refine g_iconst (pc' := 10) dX12_reads_9 rfl ?_
  refine g_putI (pc' := 13) (z := 10) rfl fp_X12_174 rfl rfl (rg_lit rfl) dX12_reads_10 rfl ?_
  refine g_aload_n (pc' := 14) 0 dX12_reads_13 rfl rfl ?_
  refine g_iconst (pc' := 15) dX12_reads_14 rfl ?_
  refine g_putI (pc' := 18) (z := 16) rfl fp_X12_200 rfl rfl (rg_lit rfl) dX12_reads_15 rfl ?_
  refine g_aload_n (pc' := 19) 0 dX12_reads_18 rfl rfl ?_
  refine g_iconst (pc' := 20) dX12_reads_19 rfl ?_
  refine g_putI (pc' := 23) (z := 17) rfl fp_X12_209 rfl rfl (rg_lit rfl) dX12_reads_20 rfl ?_
  refine g_aload_n (pc' := 24) 0 dX12_reads_23 rfl rfl ?_
  refine g_iconst (pc' := 25) dX12_reads_24 rfl ?_
  refine g_putI (pc' := 28) (z := 18) rfl fp_X12_193 rfl rfl (rg_lit rfl) dX12_reads_25 rfl ?_
  refine g_aload_n (pc' := 29) 0 dX12_reads_28 rfl rfl ?_
  refine g_cVV (pc' := 32) (vs := []) (st := []) (c := 12) h mv_X12_readClause lk_X12_244 rfl rfl rfl rfl (Nat.le_of_ble_eq_true rfl) (Nat.le_of_ble_eq_true rfl) rfl dX12_reads_29 rfl z2 (fun i3 l3 h => ?_)
  refine g_iconst (pc' := 33) dX12_reads_32 rfl ?_
  refine g_istore_n (pc' := 34) (L' := [(1, vI 1), (0, vR (some 99))]) dX12_reads_33 rfl (Nat.le_of_ble_eq_true rfl) rfl ?_
  refine g_sub (L' := [(0, vR (some 99)), (1, vI 1)]) [1, 0] rfl ?_
  exact h
theorem e_X12_reads {w : Wd} {d : Nat} {P : Int → IM → LM → Prop} {i : IM} {l : LM}   (h : gI w d X_X12_reads P i l 0 [(0, vR (some 99))] []) : cI w (d + 1) X_X12_reads [vR (some 99)] i l P := CI_of (by decide +kernel) (Nat.le_of_ble_eq_true rfl) h
set_option maxRecDepth 20000 in
theorem s_X12_reads_34 {w : Wd} {d : Nat} {P : Int → IM → LM → Prop} {i : IM} {l : LM} (x1 : Int)  (hd : 1 ≤ d) (h : cI w d X_X12_takes0 [vR (some 99), vI 159] i l (fun r5 i5 l5 => ((¬ (r5 = 0) → rg x1) ∧ (((r5 = 0) ∧ (¬ (i5 99 18 = -1) ∨ (i5 99 15 ≤ i5 99 16))) → P (bI ((u2 i5 99 11 (i5 99 18)) 99 18 = -1)) (u2 i5 99 11 (i5 99 18)) l5) ∧ (((r5 = 0) ∧ ((i5 99 18 = -1) ∧ (¬ (i5 99 15 ≤ i5 99 16)))) → cVd w d X_X12_faults [vR (some 99)] i5 l5 (fun i20 l20 => P (bI ((u2 i20 99 11 (i20 99 18)) 99 18 = -1)) (u2 i20 99 11 (i20 99 18)) l20)) ∧ ((¬ (r5 = 0) ∧ (¬ (x1 = 12))) → (((i5 99 18 = -1) → cVd w d X_X12_readClause [vR (some 99)] i5 l5 (fun i26 l26 => gI w d X_X12_reads P i26 l26 34 [(0, vR (some 99)), (1, vI (x1 + 1))] [])) ∧ ((¬ (i5 99 18 = -1)) → gI w d X_X12_reads P i5 l5 34 [(0, vR (some 99)), (1, vI (x1 + 1))] []))) ∧ ((¬ (r5 = 0) ∧ (x1 = 12)) → cVd w d X_X12_faults [vR (some 99)] i5 l5 (fun i29 l29 => (((i29 99 18 = -1) → cVd w d X_X12_readClause [vR (some 99)] i29 l29 (fun i33 l33 => gI w d X_X12_reads P i33 l33 34 [(0, vR (some 99)), (1, vI (x1 + 1))] [])) ∧ ((¬ (i29 99 18 = -1)) → gI w d X_X12_reads P i29 l29 34 [(0, vR (some 99)), (1, vI (x1 + 1))] []))))))) : gI w d X_X12_reads P i l 34 [(0, vR (some 99)), (1, vI x1)] [] := by
  refine g_aload_n (pc' := 35) 0 dX12_reads_34 rfl rfl ?_
  refine g_bipush (pc' := 37) dX12_reads_35 rfl rfl ?_
  refine g_pSI (pc' := 40) (vs := [vI 59]) (st := [vR (some 99)]) (val := 159) (sp_X12_sign (le_hd hd rfl) (rg_lit rfl)) mk_X12_sign ms_X12_sign lk_X12_228 rfl (Nat.le_of_ble_eq_true rfl) (Nat.le_of_ble_eq_true rfl) rfl dX12_reads_37 rfl z2 (fun rg4 => ?_)
  refine g_cVI (pc' := 43) (vs := [vI 159]) (st := []) (c := 12) h mv_X12_takes0 lk_X12_203 rfl rfl rfl rfl (Nat.le_of_ble_eq_true rfl) (Nat.le_of_ble_eq_true rfl) rfl dX12_reads_40 rfl z2 (fun r5 i5 l5 rg5 h => ?_)
  obtain ⟨hob15, hk36, hk37, hk38, hk39⟩ := h
  have hk36g : ((r5 = 0) ∧ (¬ (i5 99 18 = -1) ∨ (i5 99 15 ≤ i5 99 16))) → gI w d X_X12_reads P i5 l5 95 [(0, vR (some 99)), (1, vI x1)] [] := by
    intro hp
    have h := hk36 hp
    refine g_aload_n (pc' := 96) 0 dX12_reads_95 rfl rfl ?_
    refine g_aload_n (pc' := 97) 0 dX12_reads_96 rfl rfl ?_
    refine g_getI (pc' := 100) (z := 18) rfl fl_X12_193 rfl rfl dX12_reads_97 rfl (fun rg18 => ?_)
    refine g_putI (pc' := 103) (z := 11) rfl fp_X12_40 rfl rfl rg18 dX12_reads_100 rfl ?_
    refine g_aload_n (pc' := 104) 0 dX12_reads_103 rfl rfl ?_
    refine g_pVI (pc' := 107) (vs := []) (st := []) (val := bI ((u2 i5 99 11 (i5 99 18)) 99 18 = -1)) (c := 12) (sp_X12_fine (le_hd hd rfl) ) mv_X12_fine lk_X12_196 rfl rfl rfl rfl (Nat.le_of_ble_eq_true rfl) (Nat.le_of_ble_eq_true rfl) rfl dX12_reads_104 rfl z2 (fun rg19 => ?_)
    exact g_retZ rfl (bI_01 _) dX12_reads_107 h
  have hk37g : ((r5 = 0) ∧ ((i5 99 18 = -1) ∧ (¬ (i5 99 15 ≤ i5 99 16)))) → gI w d X_X12_reads P i5 l5 91 [(0, vR (some 99)), (1, vI x1)] [] := by
    intro hp
    have h := hk37 hp
    refine g_aload_n (pc' := 92) 0 dX12_reads_91 rfl rfl ?_
    refine g_cVV (pc' := 95) (vs := []) (st := []) (c := 12) h mv_X12_faults lk_X12_206 rfl rfl rfl rfl (Nat.le_of_ble_eq_true rfl) (Nat.le_of_ble_eq_true rfl) rfl dX12_reads_92 rfl z2 (fun i20 l20 h => ?_)
    refine g_aload_n (pc' := 96) 0 dX12_reads_95 rfl rfl ?_
    refine g_aload_n (pc' := 97) 0 dX12_reads_96 rfl rfl ?_
    refine g_getI (pc' := 100) (z := 18) rfl fl_X12_193 rfl rfl dX12_reads_97 rfl (fun rg21 => ?_)
    refine g_putI (pc' := 103) (z := 11) rfl fp_X12_40 rfl rfl rg21 dX12_reads_100 rfl ?_
    refine g_aload_n (pc' := 104) 0 dX12_reads_103 rfl rfl ?_
    refine g_pVI (pc' := 107) (vs := []) (st := []) (val := bI ((u2 i20 99 11 (i20 99 18)) 99 18 = -1)) (c := 12) (sp_X12_fine (le_hd hd rfl) ) mv_X12_fine lk_X12_196 rfl rfl rfl rfl (Nat.le_of_ble_eq_true rfl) (Nat.le_of_ble_eq_true rfl) rfl dX12_reads_104 rfl z2 (fun rg22 => ?_)
    exact g_retZ rfl (bI_01 _) dX12_reads_107 h
  have hk38g : (¬ (r5 = 0) ∧ (¬ (x1 = 12))) → gI w d X_X12_reads P i5 l5 56 [(0, vR (some 99)), (1, vI x1)] [] := by
    intro hp
    have h := hk38 hp
    refine g_aload_n (pc' := 57) 0 dX12_reads_56 rfl rfl ?_
    refine g_pVI (pc' := 60) (vs := []) (st := []) (val := bI (i5 99 18 = -1)) (c := 12) (sp_X12_fine (le_hd hd rfl) ) mv_X12_fine lk_X12_196 rfl rfl rfl rfl (Nat.le_of_ble_eq_true rfl) (Nat.le_of_ble_eq_true rfl) rfl dX12_reads_57 rfl z2 (fun rg23 => ?_)
    obtain ⟨hk27, hk28⟩ := h
    have hk27g : (i5 99 18 = -1) → gI w d X_X12_reads P i5 l5 63 [(0, vR (some 99)), (1, vI x1)] [] := by
      intro hp
      have h := hk27 hp
      refine g_aload_n (pc' := 64) 0 dX12_reads_63 rfl rfl ?_
      refine g_cVV (pc' := 67) (vs := []) (st := []) (c := 12) h mv_X12_readClause lk_X12_244 rfl rfl rfl rfl (Nat.le_of_ble_eq_true rfl) (Nat.le_of_ble_eq_true rfl) rfl dX12_reads_64 rfl z2 (fun i26 l26 h => ?_)
      refine g_iinc (pc' := 70) (L' := [(1, vI (x1 + 1)), (0, vR (some 99))]) 1 dX12_reads_67 rfl (Nat.le_of_ble_eq_true rfl) rfl rfl ?_
      refine g_goto (tgt := 34) dX12_reads_70 rfl ?_
      refine g_sub (L' := [(0, vR (some 99)), (1, vI (x1 + 1))]) [1, 0] rfl ?_
      exact h
    have hk28g : (¬ (i5 99 18 = -1)) → gI w d X_X12_reads P i5 l5 67 [(0, vR (some 99)), (1, vI x1)] [] := by
      intro hp
      have h := hk28 hp
      refine g_iinc (pc' := 70) (L' := [(1, vI (x1 + 1)), (0, vR (some 99))]) 1 dX12_reads_67 rfl (Nat.le_of_ble_eq_true rfl) rfl rfl ?_
      refine g_goto (tgt := 34) dX12_reads_70 rfl ?_
      refine g_sub (L' := [(0, vR (some 99)), (1, vI (x1 + 1))]) [1, 0] rfl ?_
      exact h
    refine g_if_eq (tgt := 67) (pc' := 63) rg23 (bI_eq _) dX12_reads_60 rfl rfl (fun c25 => ?_) (fun c25n => ?_)
    · exact hk28g c25
    · have c25 := Decidable.of_not_not c25n
      exact hk27g c25
  have hk39g : (¬ (r5 = 0) ∧ (x1 = 12)) → gI w d X_X12_reads P i5 l5 52 [(0, vR (some 99)), (1, vI x1)] [] := by
    intro hp
    have h := hk39 hp
    refine g_aload_n (pc' := 53) 0 dX12_reads_52 rfl rfl ?_
    refine g_cVV (pc' := 56) (vs := []) (st := []) (c := 12) h mv_X12_faults lk_X12_206 rfl rfl rfl rfl (Nat.le_of_ble_eq_true rfl) (Nat.le_of_ble_eq_true rfl) rfl dX12_reads_53 rfl z2 (fun i29 l29 h => ?_)
    refine g_aload_n (pc' := 57) 0 dX12_reads_56 rfl rfl ?_
    refine g_pVI (pc' := 60) (vs := []) (st := []) (val := bI (i29 99 18 = -1)) (c := 12) (sp_X12_fine (le_hd hd rfl) ) mv_X12_fine lk_X12_196 rfl rfl rfl rfl (Nat.le_of_ble_eq_true rfl) (Nat.le_of_ble_eq_true rfl) rfl dX12_reads_57 rfl z2 (fun rg30 => ?_)
    obtain ⟨hk34, hk35⟩ := h
    have hk34g : (i29 99 18 = -1) → gI w d X_X12_reads P i29 l29 63 [(0, vR (some 99)), (1, vI x1)] [] := by
      intro hp
      have h := hk34 hp
      refine g_aload_n (pc' := 64) 0 dX12_reads_63 rfl rfl ?_
      refine g_cVV (pc' := 67) (vs := []) (st := []) (c := 12) h mv_X12_readClause lk_X12_244 rfl rfl rfl rfl (Nat.le_of_ble_eq_true rfl) (Nat.le_of_ble_eq_true rfl) rfl dX12_reads_64 rfl z2 (fun i33 l33 h => ?_)
      refine g_iinc (pc' := 70) (L' := [(1, vI (x1 + 1)), (0, vR (some 99))]) 1 dX12_reads_67 rfl (Nat.le_of_ble_eq_true rfl) rfl rfl ?_
      refine g_goto (tgt := 34) dX12_reads_70 rfl ?_
      refine g_sub (L' := [(0, vR (some 99)), (1, vI (x1 + 1))]) [1, 0] rfl ?_
      exact h
    have hk35g : (¬ (i29 99 18 = -1)) → gI w d X_X12_reads P i29 l29 67 [(0, vR (some 99)), (1, vI x1)] [] := by
      intro hp
      have h := hk35 hp
      refine g_iinc (pc' := 70) (L' := [(1, vI (x1 + 1)), (0, vR (some 99))]) 1 dX12_reads_67 rfl (Nat.le_of_ble_eq_true rfl) rfl rfl ?_
      refine g_goto (tgt := 34) dX12_reads_70 rfl ?_
      refine g_sub (L' := [(0, vR (some 99)), (1, vI (x1 + 1))]) [1, 0] rfl ?_
      exact h
    refine g_if_eq (tgt := 67) (pc' := 63) rg30 (bI_eq _) dX12_reads_60 rfl rfl (fun c32 => ?_) (fun c32n => ?_)
    · exact hk35g c32
    · have c32 := Decidable.of_not_not c32n
      exact hk34g c32
  refine g_if_eq (tgt := 73) (pc' := 46) rg5 Iff.rfl dX12_reads_43 rfl rfl (fun c7 => ?_) (fun c7 => ?_)
  · refine g_aload_n (pc' := 74) 0 dX12_reads_73 rfl rfl ?_
    refine g_pVI (pc' := 77) (vs := []) (st := []) (val := bI (i5 99 18 = -1)) (c := 12) (sp_X12_fine (le_hd hd rfl) ) mv_X12_fine lk_X12_196 rfl rfl rfl rfl (Nat.le_of_ble_eq_true rfl) (Nat.le_of_ble_eq_true rfl) rfl dX12_reads_74 rfl z2 (fun rg8 => ?_)
    refine g_if_eq (tgt := 95) (pc' := 80) rg8 (bI_eq _) dX12_reads_77 rfl rfl (fun c9 => ?_) (fun c9n => ?_)
    · exact hk36g ⟨c7, (Or.inl c9)⟩
    · have c9 := Decidable.of_not_not c9n
      refine g_aload_n (pc' := 81) 0 dX12_reads_80 rfl rfl ?_
      refine g_getI (pc' := 84) (z := 16) rfl fl_X12_200 rfl rfl dX12_reads_81 rfl (fun rg11 => ?_)
      refine g_aload_n (pc' := 85) 0 dX12_reads_84 rfl rfl ?_
      refine g_getI (pc' := 88) (z := 15) rfl fl_X12_180 rfl rfl dX12_reads_85 rfl (fun rg12 => ?_)
      refine g_icmp_ge (tgt := 95) (pc' := 91) rg11 rg12 Iff.rfl dX12_reads_88 rfl rfl (fun c13 => ?_) (fun c13 => ?_)
      · exact hk36g ⟨c7, (Or.inr c13)⟩
      · exact hk37g ⟨c7, ⟨c9, c13⟩⟩
  · refine g_iload_n (pc' := 47) 1 dX12_reads_46 rfl rfl ?_
    refine g_bipush (pc' := 49) dX12_reads_47 rfl rfl ?_
    refine g_icmp_ne (tgt := 56) (pc' := 52) (hob15 c7) (rg_lit rfl) Iff.rfl dX12_reads_49 rfl rfl (fun c16 => ?_) (fun c16 => ?_)
    · exact hk38g ⟨c7, c16⟩
    · exact hk39g ⟨c7, c16⟩

theorem dX12_law_0 : decode cX12_law 0 = .ok (.aload_n 0, 1) := by decide +kernel
theorem dX12_law_1 : decode cX12_law 1 = .ok (.getfield 20, 3) := by decide +kernel
theorem dX12_law_4 : decode cX12_law 4 = .ok (.sipush 311, 3) := by decide +kernel
theorem dX12_law_7 : decode cX12_law 7 = .ok (.iaload, 1) := by decide +kernel
theorem dX12_law_8 : decode cX12_law 8 = .ok (.bipush 6, 2) := by decide +kernel
theorem dX12_law_10 : decode cX12_law 10 = .ok (.if_icmp .ne 15, 3) := by decide +kernel
theorem dX12_law_13 : decode cX12_law 13 = .ok (.aload_n 0, 1) := by decide +kernel
theorem dX12_law_14 : decode cX12_law 14 = .ok (.iconst 0, 1) := by decide +kernel
theorem dX12_law_15 : decode cX12_law 15 = .ok (.putfield 174, 3) := by decide +kernel
theorem dX12_law_18 : decode cX12_law 18 = .ok (.aload_n 0, 1) := by decide +kernel
theorem dX12_law_19 : decode cX12_law 19 = .ok (.bipush (-5), 2) := by decide +kernel
theorem dX12_law_21 : decode cX12_law 21 = .ok (.invokevirtual 110, 3) := by decide +kernel
theorem dX12_law_24 : decode cX12_law 24 = .ok (.ireturn, 1) := by decide +kernel
theorem dX12_law_25 : decode cX12_law 25 = .ok (.aload_n 0, 1) := by decide +kernel
theorem dX12_law_26 : decode cX12_law 26 = .ok (.invokevirtual 247, 3) := by decide +kernel
theorem dX12_law_29 : decode cX12_law 29 = .ok (.ifCond .ne 10, 3) := by decide +kernel
theorem dX12_law_32 : decode cX12_law 32 = .ok (.aload_n 0, 1) := by decide +kernel
theorem dX12_law_33 : decode cX12_law 33 = .ok (.bipush (-6), 2) := by decide +kernel
theorem dX12_law_35 : decode cX12_law 35 = .ok (.invokevirtual 110, 3) := by decide +kernel
theorem dX12_law_38 : decode cX12_law 38 = .ok (.ireturn, 1) := by decide +kernel
theorem dX12_law_39 : decode cX12_law 39 = .ok (.aload_n 0, 1) := by decide +kernel
theorem dX12_law_40 : decode cX12_law 40 = .ok (.getfield 20, 3) := by decide +kernel
theorem dX12_law_43 : decode cX12_law 43 = .ok (.sipush 311, 3) := by decide +kernel
theorem dX12_law_46 : decode cX12_law 46 = .ok (.iaload, 1) := by decide +kernel
theorem dX12_law_47 : decode cX12_law 47 = .ok (.istore_n 1, 1) := by decide +kernel
theorem dX12_law_48 : decode cX12_law 48 = .ok (.aload_n 0, 1) := by decide +kernel
theorem dX12_law_49 : decode cX12_law 49 = .ok (.getfield 20, 3) := by decide +kernel
theorem dX12_law_52 : decode cX12_law 52 = .ok (.sipush 314, 3) := by decide +kernel
theorem dX12_law_55 : decode cX12_law 55 = .ok (.iload_n 1, 1) := by decide +kernel
theorem dX12_law_56 : decode cX12_law 56 = .ok (.iadd, 1) := by decide +kernel
theorem dX12_law_57 : decode cX12_law 57 = .ok (.aload_n 0, 1) := by decide +kernel
theorem dX12_law_58 : decode cX12_law 58 = .ok (.getfield 180, 3) := by decide +kernel
theorem dX12_law_61 : decode cX12_law 61 = .ok (.iastore, 1) := by decide +kernel
theorem dX12_law_62 : decode cX12_law 62 = .ok (.iconst 0, 1) := by decide +kernel
theorem dX12_law_63 : decode cX12_law 63 = .ok (.istore_n 2, 1) := by decide +kernel
theorem dX12_law_64 : decode cX12_law 64 = .ok (.iload_n 2, 1) := by decide +kernel
theorem dX12_law_65 : decode cX12_law 65 = .ok (.aload_n 0, 1) := by decide +kernel
theorem dX12_law_66 : decode cX12_law 66 = .ok (.getfield 180, 3) := by decide +kernel
theorem dX12_law_69 : decode cX12_law 69 = .ok (.if_icmp .ge 53, 3) := by decide +kernel
theorem dX12_law_72 : decode cX12_law 72 = .ok (.aload_n 0, 1) := by decide +kernel
theorem dX12_law_73 : decode cX12_law 73 = .ok (.getfield 20, 3) := by decide +kernel
theorem dX12_law_76 : decode cX12_law 76 = .ok (.sipush 320, 3) := by decide +kernel
theorem dX12_law_79 : decode cX12_law 79 = .ok (.sipush 400, 3) := by decide +kernel
theorem dX12_law_82 : decode cX12_law 82 = .ok (.iload_n 1, 1) := by decide +kernel
theorem dX12_law_83 : decode cX12_law 83 = .ok (.imul, 1) := by decide +kernel
theorem dX12_law_84 : decode cX12_law 84 = .ok (.iadd, 1) := by decide +kernel
theorem dX12_law_85 : decode cX12_law 85 = .ok (.iload_n 2, 1) := by decide +kernel
theorem dX12_law_86 : decode cX12_law 86 = .ok (.iadd, 1) := by decide +kernel
theorem dX12_law_87 : decode cX12_law 87 = .ok (.aload_n 0, 1) := by decide +kernel
theorem dX12_law_88 : decode cX12_law 88 = .ok (.getfield 43, 3) := by decide +kernel
theorem dX12_law_91 : decode cX12_law 91 = .ok (.iload_n 2, 1) := by decide +kernel
theorem dX12_law_92 : decode cX12_law 92 = .ok (.iaload, 1) := by decide +kernel
theorem dX12_law_93 : decode cX12_law 93 = .ok (.iastore, 1) := by decide +kernel
theorem dX12_law_94 : decode cX12_law 94 = .ok (.aload_n 0, 1) := by decide +kernel
theorem dX12_law_95 : decode cX12_law 95 = .ok (.getfield 20, 3) := by decide +kernel
theorem dX12_law_98 : decode cX12_law 98 = .ok (.sipush 2720, 3) := by decide +kernel
theorem dX12_law_101 : decode cX12_law 101 = .ok (.sipush 400, 3) := by decide +kernel
theorem dX12_law_104 : decode cX12_law 104 = .ok (.iload_n 1, 1) := by decide +kernel
theorem dX12_law_105 : decode cX12_law 105 = .ok (.imul, 1) := by decide +kernel
theorem dX12_law_106 : decode cX12_law 106 = .ok (.iadd, 1) := by decide +kernel
theorem dX12_law_107 : decode cX12_law 107 = .ok (.iload_n 2, 1) := by decide +kernel
theorem dX12_law_108 : decode cX12_law 108 = .ok (.iadd, 1) := by decide +kernel
theorem dX12_law_109 : decode cX12_law 109 = .ok (.aload_n 0, 1) := by decide +kernel
theorem dX12_law_110 : decode cX12_law 110 = .ok (.getfield 46, 3) := by decide +kernel
theorem dX12_law_113 : decode cX12_law 113 = .ok (.iload_n 2, 1) := by decide +kernel
theorem dX12_law_114 : decode cX12_law 114 = .ok (.iaload, 1) := by decide +kernel
theorem dX12_law_115 : decode cX12_law 115 = .ok (.iastore, 1) := by decide +kernel
theorem dX12_law_116 : decode cX12_law 116 = .ok (.iinc 2 1, 3) := by decide +kernel
theorem dX12_law_119 : decode cX12_law 119 = .ok (.goto (-55), 3) := by decide +kernel
theorem dX12_law_122 : decode cX12_law 122 = .ok (.aload_n 0, 1) := by decide +kernel
theorem dX12_law_123 : decode cX12_law 123 = .ok (.getfield 20, 3) := by decide +kernel
theorem dX12_law_126 : decode cX12_law 126 = .ok (.sipush 311, 3) := by decide +kernel
theorem dX12_law_129 : decode cX12_law 129 = .ok (.dup2, 1) := by decide +kernel
theorem dX12_law_130 : decode cX12_law 130 = .ok (.iaload, 1) := by decide +kernel
theorem dX12_law_131 : decode cX12_law 131 = .ok (.iconst 1, 1) := by decide +kernel
theorem dX12_law_132 : decode cX12_law 132 = .ok (.iadd, 1) := by decide +kernel
theorem dX12_law_133 : decode cX12_law 133 = .ok (.iastore, 1) := by decide +kernel
theorem dX12_law_134 : decode cX12_law 134 = .ok (.aload_n 0, 1) := by decide +kernel
theorem dX12_law_135 : decode cX12_law 135 = .ok (.iload_n 1, 1) := by decide +kernel
theorem dX12_law_136 : decode cX12_law 136 = .ok (.invokevirtual 114, 3) := by decide +kernel
theorem dX12_law_139 : decode cX12_law 139 = .ok (.ireturn, 1) := by decide +kernel
set_option maxRecDepth 20000 in
theorem s_X12_law {w : Wd} {d : Nat} {P : Int → IM → LM → Prop} {i : IM} {l : LM}   (h : (((i 101 311 = 6) → cI w d X_X12_refuses [vR (some 99), vI (-5)] (u2 i 99 10 0) l (fun r14 i14 l14 => P r14 i14 l14)) ∧ ((¬ (i 101 311 = 6)) → cI w d X_X12_reads [vR (some 99)] i l (fun r4 i4 l4 => (((r4 = 0) → cI w d X_X12_refuses [vR (some 99), vI (-6)] i4 l4 (fun r11 i11 l11 => P r11 i11 l11)) ∧ ((¬ (r4 = 0)) → ((0 ≤ 314 + (i4 101 311) ∧ 314 + (i4 101 311) < 5120) ∧ gI w d X_X12_law P (u2 i4 101 (314 + (i4 101 311)) (i4 99 15)) l4 64 [(0, vR (some 99)), (1, vI (i4 101 311)), (2, vI 0)] []))))))) : gI w d X_X12_law P i l 0 [(0, vR (some 99))] [] := by
  refine g_aload_n (pc' := 1) 0 dX12_law_0 rfl rfl ?_
  refine g_getR (pc' := 4) (o := some 101) fl_X12_20 rfl rfl rfl dX12_law_1 rfl ?_
  refine g_sipush (pc' := 7) dX12_law_4 rfl rfl ?_
  refine g_iald (pc' := 8) (N := 5120) rfl rfl (Nat.lt_of_lt_of_le (Nat.lt_succ_self _) (Nat.le_of_ble_eq_true rfl)) (by decide) dX12_law_7 rfl (fun rg1 => ?_)
  refine g_bipush (pc' := 10) dX12_law_8 rfl rfl ?_
  obtain ⟨hk15, hk16⟩ := h
  refine g_icmp_ne (tgt := 25) (pc' := 13) rg1 (rg_lit rfl) Iff.rfl dX12_law_10 rfl rfl (fun c3 => ?_) (fun c3 => ?_)
  · have h := hk16 c3
    refine g_aload_n (pc' := 26) 0 dX12_law_25 rfl rfl ?_
    refine g_cVI (pc' := 29) (vs := []) (st := []) (c := 12) h mv_X12_reads lk_X12_247 rfl rfl rfl rfl (Nat.le_of_ble_eq_true rfl) (Nat.le_of_ble_eq_true rfl) rfl dX12_law_26 rfl z2 (fun r4 i4 l4 rg4 h => ?_)
    obtain ⟨hk12, hk13⟩ := h
    refine g_if_ne (tgt := 39) (pc' := 32) rg4 Iff.rfl dX12_law_29 rfl rfl (fun c6 => ?_) (fun c6 => ?_)
    · have h := hk13 c6
      obtain ⟨ob10, h⟩ := h
      refine g_aload_n (pc' := 40) 0 dX12_law_39 rfl rfl ?_
      refine g_getR (pc' := 43) (o := some 101) fl_X12_20 rfl rfl rfl dX12_law_40 rfl ?_
      refine g_sipush (pc' := 46) dX12_law_43 rfl rfl ?_
      refine g_iald (pc' := 47) (N := 5120) rfl rfl (Nat.lt_of_lt_of_le (Nat.lt_succ_self _) (Nat.le_of_ble_eq_true rfl)) (by decide) dX12_law_46 rfl (fun rg8 => ?_)
      refine g_istore_n (pc' := 48) (L' := [(1, vI (i4 101 311)), (0, vR (some 99))]) dX12_law_47 rfl (Nat.le_of_ble_eq_true rfl) rfl ?_
      refine g_aload_n (pc' := 49) 1 dX12_law_48 rfl rfl ?_
      refine g_getR (pc' := 52) (o := some 101) fl_X12_20 rfl rfl rfl dX12_law_49 rfl ?_
      refine g_sipush (pc' := 55) dX12_law_52 rfl rfl ?_
      refine g_iload_n (pc' := 56) 0 dX12_law_55 rfl rfl ?_
      refine g_iadd (pc' := 57) dX12_law_56 rfl ?_
      refine g_aload_n (pc' := 58) 1 dX12_law_57 rfl rfl ?_
      refine g_getI (pc' := 61) (z := 15) rfl fl_X12_180 rfl rfl dX12_law_58 rfl (fun rg9 => ?_)
      refine g_iast (pc' := 62) (N := 5120) rfl rfl (Nat.lt_of_lt_of_le (Nat.lt_succ_self _) (Nat.le_of_ble_eq_true rfl)) ob10 rg9 dX12_law_61 rfl ?_
      refine g_iconst (pc' := 63) dX12_law_62 rfl ?_
      refine g_istore_n (pc' := 64) (L' := [(2, vI 0), (1, vI (i4 101 311)), (0, vR (some 99))]) dX12_law_63 rfl (Nat.le_of_ble_eq_true rfl) rfl ?_
      refine g_sub (L' := [(0, vR (some 99)), (1, vI (i4 101 311)), (2, vI 0)]) [2, 1, 0] rfl ?_
      exact h
    · have h := hk12 c6
      refine g_aload_n (pc' := 33) 0 dX12_law_32 rfl rfl ?_
      refine g_bipush (pc' := 35) dX12_law_33 rfl rfl ?_
      refine g_cVI (pc' := 38) (vs := [vI (-6)]) (st := []) (c := 12) h mv_X12_refuses lk_X12_110 rfl rfl rfl rfl (Nat.le_of_ble_eq_true rfl) (Nat.le_of_ble_eq_true rfl) rfl dX12_law_35 rfl z2 (fun r11 i11 l11 rg11 h => ?_)
      exact g_retI rfl rg11 dX12_law_38 h
  · have h := hk15 c3
    refine g_aload_n (pc' := 14) 0 dX12_law_13 rfl rfl ?_
    refine g_iconst (pc' := 15) dX12_law_14 rfl ?_
    refine g_putI (pc' := 18) (z := 10) rfl fp_X12_174 rfl rfl (rg_lit rfl) dX12_law_15 rfl ?_
    refine g_aload_n (pc' := 19) 0 dX12_law_18 rfl rfl ?_
    refine g_bipush (pc' := 21) dX12_law_19 rfl rfl ?_
    refine g_cVI (pc' := 24) (vs := [vI (-5)]) (st := []) (c := 12) h mv_X12_refuses lk_X12_110 rfl rfl rfl rfl (Nat.le_of_ble_eq_true rfl) (Nat.le_of_ble_eq_true rfl) rfl dX12_law_21 rfl z2 (fun r14 i14 l14 rg14 h => ?_)
    exact g_retI rfl rg14 dX12_law_24 h
theorem e_X12_law {w : Wd} {d : Nat} {P : Int → IM → LM → Prop} {i : IM} {l : LM}   (h : gI w d X_X12_law P i l 0 [(0, vR (some 99))] []) : cI w (d + 1) X_X12_law [vR (some 99)] i l P := CI_of (by decide +kernel) (Nat.le_of_ble_eq_true rfl) h
set_option maxRecDepth 20000 in
theorem s_X12_law_64 {w : Wd} {d : Nat} {P : Int → IM → LM → Prop} {i : IM} {l : LM} (x1 : Int) (x2 : Int)  (h : ((rg x2) ∧ ((i 99 15 ≤ x2) → ((rg ((i 101 311) + 1)) ∧ cI w d X_X12_good [vR (some 99), vI x1] (u2 i 101 311 ((i 101 311) + 1)) l (fun r26 i26 l26 => P r26 i26 l26))) ∧ ((¬ (i 99 15 ≤ x2)) → ((0 ≤ x2 ∧ x2 < 401) ∧ (0 ≤ (320 + (400 * x1)) + x2 ∧ (320 + (400 * x1)) + x2 < 5120) ∧ (0 ≤ (2720 + (400 * x1)) + x2 ∧ (2720 + (400 * x1)) + x2 < 5120) ∧ gI w d X_X12_law P (u2 (u2 i 101 ((320 + (400 * x1)) + x2) (i 107 x2)) 101 ((2720 + (400 * x1)) + x2) ((u2 i 101 ((320 + (400 * x1)) + x2) (i 107 x2)) 108 x2)) l 64 [(0, vR (some 99)), (1, vI x1), (2, vI (x2 + 1))] [])))) : gI w d X_X12_law P i l 64 [(0, vR (some 99)), (1, vI x1), (2, vI x2)] [] := by
  refine g_iload_n (pc' := 65) 2 dX12_law_64 rfl rfl ?_
  refine g_aload_n (pc' := 66) 0 dX12_law_65 rfl rfl ?_
  refine g_getI (pc' := 69) (z := 15) rfl fl_X12_180 rfl rfl dX12_law_66 rfl (fun rg17 => ?_)
  obtain ⟨hob19, hk32, hk33⟩ := h
  refine g_icmp_ge (tgt := 122) (pc' := 72) (hob19) rg17 Iff.rfl dX12_law_69 rfl rfl (fun c20 => ?_) (fun c20 => ?_)
  · have h := hk32 c20
    obtain ⟨ob25, h⟩ := h
    refine g_aload_n (pc' := 123) 0 dX12_law_122 rfl rfl ?_
    refine g_getR (pc' := 126) (o := some 101) fl_X12_20 rfl rfl rfl dX12_law_123 rfl ?_
    refine g_sipush (pc' := 129) dX12_law_126 rfl rfl ?_
    refine g_dup2_11 (pc' := 130) dX12_law_129 rfl rfl rfl ?_
    refine g_iald (pc' := 131) (N := 5120) rfl rfl (Nat.lt_of_lt_of_le (Nat.lt_succ_self _) (Nat.le_of_ble_eq_true rfl)) (by decide) dX12_law_130 rfl (fun rg24 => ?_)
    refine g_iconst (pc' := 132) dX12_law_131 rfl ?_
    refine g_iadd (pc' := 133) dX12_law_132 rfl ?_
    refine g_iast (pc' := 134) (N := 5120) rfl rfl (Nat.lt_of_lt_of_le (Nat.lt_succ_self _) (Nat.le_of_ble_eq_true rfl)) (by decide) ob25 dX12_law_133 rfl ?_
    refine g_aload_n (pc' := 135) 0 dX12_law_134 rfl rfl ?_
    refine g_iload_n (pc' := 136) 1 dX12_law_135 rfl rfl ?_
    refine g_cVI (pc' := 139) (vs := [vI x1]) (st := []) (c := 12) h mv_X12_good lk_X12_114 rfl rfl rfl rfl (Nat.le_of_ble_eq_true rfl) (Nat.le_of_ble_eq_true rfl) rfl dX12_law_136 rfl z2 (fun r26 i26 l26 rg26 h => ?_)
    exact g_retI rfl rg26 dX12_law_139 h
  · have h := hk33 c20
    obtain ⟨ob27, ob29, ob31, h⟩ := h
    refine g_aload_n (pc' := 73) 0 dX12_law_72 rfl rfl ?_
    refine g_getR (pc' := 76) (o := some 101) fl_X12_20 rfl rfl rfl dX12_law_73 rfl ?_
    refine g_sipush (pc' := 79) dX12_law_76 rfl rfl ?_
    refine g_sipush (pc' := 82) dX12_law_79 rfl rfl ?_
    refine g_iload_n (pc' := 83) 1 dX12_law_82 rfl rfl ?_
    refine g_imul (pc' := 84) dX12_law_83 rfl ?_
    refine g_iadd (pc' := 85) dX12_law_84 rfl ?_
    refine g_iload_n (pc' := 86) 2 dX12_law_85 rfl rfl ?_
    refine g_iadd (pc' := 87) dX12_law_86 rfl ?_
    refine g_aload_n (pc' := 88) 0 dX12_law_87 rfl rfl ?_
    refine g_getR (pc' := 91) (o := some 107) fl_X12_43 rfl rfl rfl dX12_law_88 rfl ?_
    refine g_iload_n (pc' := 92) 2 dX12_law_91 rfl rfl ?_
    refine g_iald (pc' := 93) (N := 401) rfl rfl (Nat.lt_of_lt_of_le (Nat.lt_succ_self _) (Nat.le_of_ble_eq_true rfl)) ob27 dX12_law_92 rfl (fun rg28 => ?_)
    refine g_iast (pc' := 94) (N := 5120) rfl rfl (Nat.lt_of_lt_of_le (Nat.lt_succ_self _) (Nat.le_of_ble_eq_true rfl)) ob29 rg28 dX12_law_93 rfl ?_
    refine g_aload_n (pc' := 95) 0 dX12_law_94 rfl rfl ?_
    refine g_getR (pc' := 98) (o := some 101) fl_X12_20 rfl rfl rfl dX12_law_95 rfl ?_
    refine g_sipush (pc' := 101) dX12_law_98 rfl rfl ?_
    refine g_sipush (pc' := 104) dX12_law_101 rfl rfl ?_
    refine g_iload_n (pc' := 105) 1 dX12_law_104 rfl rfl ?_
    refine g_imul (pc' := 106) dX12_law_105 rfl ?_
    refine g_iadd (pc' := 107) dX12_law_106 rfl ?_
    refine g_iload_n (pc' := 108) 2 dX12_law_107 rfl rfl ?_
    refine g_iadd (pc' := 109) dX12_law_108 rfl ?_
    refine g_aload_n (pc' := 110) 0 dX12_law_109 rfl rfl ?_
    refine g_getR (pc' := 113) (o := some 108) fl_X12_46 rfl rfl rfl dX12_law_110 rfl ?_
    refine g_iload_n (pc' := 114) 2 dX12_law_113 rfl rfl ?_
    refine g_iald (pc' := 115) (N := 401) rfl rfl (Nat.lt_of_lt_of_le (Nat.lt_succ_self _) (Nat.le_of_ble_eq_true rfl)) ob27 dX12_law_114 rfl (fun rg30 => ?_)
    refine g_iast (pc' := 116) (N := 5120) rfl rfl (Nat.lt_of_lt_of_le (Nat.lt_succ_self _) (Nat.le_of_ble_eq_true rfl)) ob31 rg30 dX12_law_115 rfl ?_
    refine g_iinc (pc' := 119) (L' := [(2, vI (x2 + 1)), (0, vR (some 99)), (1, vI x1)]) 2 dX12_law_116 rfl (Nat.le_of_ble_eq_true rfl) rfl rfl ?_
    refine g_goto (tgt := 64) dX12_law_119 rfl ?_
    refine g_sub (L' := [(0, vR (some 99)), (1, vI x1), (2, vI (x2 + 1))]) [1, 2, 0] rfl ?_
    exact h

theorem dX12_fault_0 : decode cX12_fault 0 = .ok (.aload_n 0, 1) := by decide +kernel
theorem dX12_fault_1 : decode cX12_fault 1 = .ok (.getfield 40, 3) := by decide +kernel
theorem dX12_fault_4 : decode cX12_fault 4 = .ok (.ireturn, 1) := by decide +kernel
set_option maxRecDepth 20000 in
theorem s_X12_fault {w : Wd} {d : Nat} {P : Int → IM → LM → Prop} {i : IM} {l : LM}   (h : P (i 99 11) i l) : gI w d X_X12_fault P i l 0 [(0, vR (some 99))] [] := by
  refine g_aload_n (pc' := 1) 0 dX12_fault_0 rfl rfl ?_
  refine g_getI (pc' := 4) (z := 11) rfl fl_X12_40 rfl rfl dX12_fault_1 rfl (fun rg1 => ?_)
  exact g_retI rfl rg1 dX12_fault_4 h
theorem e_X12_fault {w : Wd} {d : Nat} {P : Int → IM → LM → Prop} {i : IM} {l : LM}   (h : gI w d X_X12_fault P i l 0 [(0, vR (some 99))] []) : cI w (d + 1) X_X12_fault [vR (some 99)] i l P := CI_of (by decide +kernel) (Nat.le_of_ble_eq_true rfl) h

theorem dX12_force_0 : decode cX12_force 0 = .ok (.iload_n 1, 1) := by decide +kernel
theorem dX12_force_1 : decode cX12_force 1 = .ok (.iconst (-1), 1) := by decide +kernel
theorem dX12_force_2 : decode cX12_force 2 = .ok (.if_icmp .eq 28, 3) := by decide +kernel
theorem dX12_force_5 : decode cX12_force 5 = .ok (.iload_n 1, 1) := by decide +kernel
theorem dX12_force_6 : decode cX12_force 6 = .ok (.iconst 0, 1) := by decide +kernel
theorem dX12_force_7 : decode cX12_force 7 = .ok (.aload_n 0, 1) := by decide +kernel
theorem dX12_force_8 : decode cX12_force 8 = .ok (.getfield 20, 3) := by decide +kernel
theorem dX12_force_11 : decode cX12_force 11 = .ok (.sipush 311, 3) := by decide +kernel
theorem dX12_force_14 : decode cX12_force 14 = .ok (.iaload, 1) := by decide +kernel
theorem dX12_force_15 : decode cX12_force 15 = .ok (.iconst 1, 1) := by decide +kernel
theorem dX12_force_16 : decode cX12_force 16 = .ok (.isub, 1) := by decide +kernel
theorem dX12_force_17 : decode cX12_force 17 = .ok (.invokestatic 106, 3) := by decide +kernel
theorem dX12_force_20 : decode cX12_force 20 = .ok (.ifCond .ne 10, 3) := by decide +kernel
theorem dX12_force_23 : decode cX12_force 23 = .ok (.aload_n 0, 1) := by decide +kernel
theorem dX12_force_24 : decode cX12_force 24 = .ok (.bipush (-2), 2) := by decide +kernel
theorem dX12_force_26 : decode cX12_force 26 = .ok (.invokevirtual 110, 3) := by decide +kernel
theorem dX12_force_29 : decode cX12_force 29 = .ok (.ireturn, 1) := by decide +kernel
theorem dX12_force_30 : decode cX12_force 30 = .ok (.aload_n 0, 1) := by decide +kernel
theorem dX12_force_31 : decode cX12_force 31 = .ok (.sipush 312, 3) := by decide +kernel
theorem dX12_force_34 : decode cX12_force 34 = .ok (.iload_n 1, 1) := by decide +kernel
theorem dX12_force_35 : decode cX12_force 35 = .ok (.invokevirtual 137, 3) := by decide +kernel
theorem dX12_force_38 : decode cX12_force 38 = .ok (.ireturn, 1) := by decide +kernel
set_option maxRecDepth 20000 in
theorem s_X12_force {w : Wd} {d : Nat} {P : Int → IM → LM → Prop} {i : IM} {l : LM} (p0 : Int)  (hd : 1 ≤ d) (h : ((rg p0) ∧ (¬ (p0 = (-1)) → rg ((i 101 311) - 1)) ∧ (((p0 = (-1)) ∨ (0 ≤ p0 ∧ p0 ≤ (i 101 311) - 1)) → cI w d X_X12_replaces [vR (some 99), vI 312, vI p0] i l (fun r8 i8 l8 => P r8 i8 l8)) ∧ ((¬ ((p0 = (-1)) ∨ (0 ≤ p0 ∧ p0 ≤ (i 101 311) - 1))) → cI w d X_X12_refuses [vR (some 99), vI (-2)] i l (fun r9 i9 l9 => P r9 i9 l9)))) : gI w d X_X12_force P i l 0 [(0, vR (some 99)), (1, vI p0)] [] := by
  refine g_iload_n (pc' := 1) 1 dX12_force_0 rfl rfl ?_
  refine g_iconst (pc' := 2) dX12_force_1 rfl ?_
  obtain ⟨hob2, hob5, hk10, hk11⟩ := h
  have hk10g : ((p0 = (-1)) ∨ (0 ≤ p0 ∧ p0 ≤ (i 101 311) - 1)) → gI w d X_X12_force P i l 30 [(0, vR (some 99)), (1, vI p0)] [] := by
    intro hp
    have h := hk10 hp
    refine g_aload_n (pc' := 31) 0 dX12_force_30 rfl rfl ?_
    refine g_sipush (pc' := 34) dX12_force_31 rfl rfl ?_
    refine g_iload_n (pc' := 35) 1 dX12_force_34 rfl rfl ?_
    refine g_cVI (pc' := 38) (vs := [vI 312, vI p0]) (st := []) (c := 12) h mv_X12_replaces lk_X12_137 rfl rfl rfl rfl (Nat.le_of_ble_eq_true rfl) (Nat.le_of_ble_eq_true rfl) rfl dX12_force_35 rfl z2 (fun r8 i8 l8 rg8 h => ?_)
    exact g_retI rfl rg8 dX12_force_38 h
  have hk11g : (¬ ((p0 = (-1)) ∨ (0 ≤ p0 ∧ p0 ≤ (i 101 311) - 1))) → gI w d X_X12_force P i l 23 [(0, vR (some 99)), (1, vI p0)] [] := by
    intro hp
    have h := hk11 hp
    refine g_aload_n (pc' := 24) 0 dX12_force_23 rfl rfl ?_
    refine g_bipush (pc' := 26) dX12_force_24 rfl rfl ?_
    refine g_cVI (pc' := 29) (vs := [vI (-2)]) (st := []) (c := 12) h mv_X12_refuses lk_X12_110 rfl rfl rfl rfl (Nat.le_of_ble_eq_true rfl) (Nat.le_of_ble_eq_true rfl) rfl dX12_force_26 rfl z2 (fun r9 i9 l9 rg9 h => ?_)
    exact g_retI rfl rg9 dX12_force_29 h
  refine g_icmp_eq (tgt := 30) (pc' := 5) (hob2) (rg_lit rfl) Iff.rfl dX12_force_2 rfl rfl (fun c3 => ?_) (fun c3 => ?_)
  · exact hk10g (Or.inl c3)
  · refine g_iload_n (pc' := 6) 1 dX12_force_5 rfl rfl ?_
    refine g_iconst (pc' := 7) dX12_force_6 rfl ?_
    refine g_aload_n (pc' := 8) 0 dX12_force_7 rfl rfl ?_
    refine g_getR (pc' := 11) (o := some 101) fl_X12_20 rfl rfl rfl dX12_force_8 rfl ?_
    refine g_sipush (pc' := 14) dX12_force_11 rfl rfl ?_
    refine g_iald (pc' := 15) (N := 5120) rfl rfl (Nat.lt_of_lt_of_le (Nat.lt_succ_self _) (Nat.le_of_ble_eq_true rfl)) (by decide) dX12_force_14 rfl (fun rg4 => ?_)
    refine g_iconst (pc' := 16) dX12_force_15 rfl ?_
    refine g_isub (pc' := 17) dX12_force_16 rfl ?_
    refine g_pSI (pc' := 20) (vs := [vI p0, vI 0, vI ((i 101 311) - 1)]) (st := []) (val := bI (0 ≤ p0 ∧ p0 ≤ (i 101 311) - 1)) (sp_X12_lies (le_hd hd rfl) (hob2) (rg_lit rfl) (hob5 c3)) mk_X12_lies ms_X12_lies lk_X12_106 rfl (Nat.le_of_ble_eq_true rfl) (Nat.le_of_ble_eq_true rfl) rfl dX12_force_17 rfl z2 (fun rg6 => ?_)
    refine g_if_ne (tgt := 30) (pc' := 23) rg6 (bI_eq _) dX12_force_20 rfl rfl (fun c7n => ?_) (fun c7 => ?_)
    · have c7 := Decidable.of_not_not c7n
      exact hk10g (Or.inr c7)
    · exact hk11g (fun q => q.elim c3 c7)
theorem e_X12_force {w : Wd} {d : Nat} {P : Int → IM → LM → Prop} {i : IM} {l : LM} {p0 : Int}  (h : gI w d X_X12_force P i l 0 [(0, vR (some 99)), (1, vI p0)] []) : cI w (d + 1) X_X12_force [vR (some 99), vI p0] i l P := CI_of (by decide +kernel) (Nat.le_of_ble_eq_true rfl) h

theorem dX12_passes0_0 : decode cX12_passes0 0 = .ok (.aload_n 0, 1) := by decide +kernel
theorem dX12_passes0_1 : decode cX12_passes0 1 = .ok (.aload_n 0, 1) := by decide +kernel
theorem dX12_passes0_2 : decode cX12_passes0 2 = .ok (.getfield 253, 3) := by decide +kernel
theorem dX12_passes0_5 : decode cX12_passes0 5 = .ok (.invokevirtual 256, 3) := by decide +kernel
theorem dX12_passes0_8 : decode cX12_passes0 8 = .ok (.iload_n 1, 1) := by decide +kernel
theorem dX12_passes0_9 : decode cX12_passes0 9 = .ok (.if_icmp .ne 7, 3) := by decide +kernel
theorem dX12_passes0_12 : decode cX12_passes0 12 = .ok (.iconst 1, 1) := by decide +kernel
theorem dX12_passes0_13 : decode cX12_passes0 13 = .ok (.goto 4, 3) := by decide +kernel
theorem dX12_passes0_16 : decode cX12_passes0 16 = .ok (.iconst 0, 1) := by decide +kernel
theorem dX12_passes0_17 : decode cX12_passes0 17 = .ok (.istore_n 2, 1) := by decide +kernel
theorem dX12_passes0_18 : decode cX12_passes0 18 = .ok (.iload_n 2, 1) := by decide +kernel
theorem dX12_passes0_19 : decode cX12_passes0 19 = .ok (.ifCond .eq 13, 3) := by decide +kernel
theorem dX12_passes0_22 : decode cX12_passes0 22 = .ok (.aload_n 0, 1) := by decide +kernel
theorem dX12_passes0_23 : decode cX12_passes0 23 = .ok (.dup, 1) := by decide +kernel
theorem dX12_passes0_24 : decode cX12_passes0 24 = .ok (.getfield 253, 3) := by decide +kernel
theorem dX12_passes0_27 : decode cX12_passes0 27 = .ok (.iconst 1, 1) := by decide +kernel
theorem dX12_passes0_28 : decode cX12_passes0 28 = .ok (.iadd, 1) := by decide +kernel
theorem dX12_passes0_29 : decode cX12_passes0 29 = .ok (.putfield 253, 3) := by decide +kernel
theorem dX12_passes0_32 : decode cX12_passes0 32 = .ok (.iload_n 2, 1) := by decide +kernel
theorem dX12_passes0_33 : decode cX12_passes0 33 = .ok (.ireturn, 1) := by decide +kernel
set_option maxRecDepth 20000 in
theorem s_X12_passes0 {w : Wd} {d : Nat} {P : Int → IM → LM → Prop} {i : IM} {l : LM} (p0 : Int)  (hd : 1 ≤ d) (h : ((i 99 19 < i 99 20 → 0 ≤ 320 + (i 99 19) ∧ 320 + (i 99 19) < 5120) ∧ ((rg p0) ∧ ((((if i 99 19 < i 99 20 then i 101 (320 + (i 99 19)) else 0) = p0) → ((rg ((i 99 19) + 1)) ∧ P (bI ((if i 99 19 < i 99 20 then i 101 (320 + (i 99 19)) else 0) = p0)) (u2 i 99 19 ((i 99 19) + 1)) l)) ∧ ((¬ ((if i 99 19 < i 99 20 then i 101 (320 + (i 99 19)) else 0) = p0)) → P (bI ((if i 99 19 < i 99 20 then i 101 (320 + (i 99 19)) else 0) = p0)) i l))))) : gI w d X_X12_passes0 P i l 0 [(0, vR (some 99)), (1, vI p0)] [] := by
  obtain ⟨ob2, h⟩ := h
  refine g_aload_n (pc' := 1) 0 dX12_passes0_0 rfl rfl ?_
  refine g_aload_n (pc' := 2) 0 dX12_passes0_1 rfl rfl ?_
  refine g_getI (pc' := 5) (z := 19) rfl fl_X12_253 rfl rfl dX12_passes0_2 rfl (fun rg1 => ?_)
  refine g_pVI (pc' := 8) (vs := [vI (i 99 19)]) (st := []) (val := (if i 99 19 < i 99 20 then i 101 (320 + (i 99 19)) else 0)) (c := 12) (sp_X12_codeAt (le_hd hd rfl) rg1 ob2) mv_X12_codeAt lk_X12_256 rfl rfl rfl rfl (Nat.le_of_ble_eq_true rfl) (Nat.le_of_ble_eq_true rfl) rfl dX12_passes0_5 rfl z2 (fun rg3 => ?_)
  refine g_iload_n (pc' := 9) 1 dX12_passes0_8 rfl rfl ?_
  obtain ⟨hob5, h⟩ := h
  have hJ : gI w d X_X12_passes0 P i l 17 [(0, vR (some 99)), (1, vI p0)] [vI (bI ((if i 99 19 < i 99 20 then i 101 (320 + (i 99 19)) else 0) = p0))] := by
    refine g_istore_n (pc' := 18) (L' := [(2, vI (bI ((if i 99 19 < i 99 20 then i 101 (320 + (i 99 19)) else 0) = p0))), (0, vR (some 99)), (1, vI p0)]) dX12_passes0_17 rfl (Nat.le_of_ble_eq_true rfl) rfl ?_
    refine g_iload_n (pc' := 19) 0 dX12_passes0_18 rfl rfl ?_
    obtain ⟨hk12, hk13⟩ := h
    have hk12g : ((if i 99 19 < i 99 20 then i 101 (320 + (i 99 19)) else 0) = p0) → gI w d X_X12_passes0 P i l 22 [(2, vI (bI ((if i 99 19 < i 99 20 then i 101 (320 + (i 99 19)) else 0) = p0))), (0, vR (some 99)), (1, vI p0)] [] := by
      intro hp
      have h := hk12 hp
      obtain ⟨ob11, h⟩ := h
      refine g_aload_n (pc' := 23) 1 dX12_passes0_22 rfl rfl ?_
      refine g_dup (pc' := 24) dX12_passes0_23 rfl rfl ?_
      refine g_getI (pc' := 27) (z := 19) rfl fl_X12_253 rfl rfl dX12_passes0_24 rfl (fun rg10 => ?_)
      refine g_iconst (pc' := 28) dX12_passes0_27 rfl ?_
      refine g_iadd (pc' := 29) dX12_passes0_28 rfl ?_
      refine g_putI (pc' := 32) (z := 19) rfl fp_X12_253 rfl rfl ob11 dX12_passes0_29 rfl ?_
      refine g_iload_n (pc' := 33) 0 dX12_passes0_32 rfl rfl ?_
      exact g_retZ rfl (bI_01 _) dX12_passes0_33 h
    have hk13g : (¬ ((if i 99 19 < i 99 20 then i 101 (320 + (i 99 19)) else 0) = p0)) → gI w d X_X12_passes0 P i l 32 [(2, vI (bI ((if i 99 19 < i 99 20 then i 101 (320 + (i 99 19)) else 0) = p0))), (0, vR (some 99)), (1, vI p0)] [] := by
      intro hp
      have h := hk13 hp
      refine g_iload_n (pc' := 33) 0 dX12_passes0_32 rfl rfl ?_
      exact g_retZ rfl (bI_01 _) dX12_passes0_33 h
    refine g_if_eq (tgt := 32) (pc' := 22) (rg_bI _) (bI_eq _) dX12_passes0_19 rfl rfl (fun c8 => ?_) (fun c8n => ?_)
    · exact hk13g c8
    · have c8 := Decidable.of_not_not c8n
      exact hk12g c8
  refine g_icmp_ne (tgt := 16) (pc' := 12) rg3 (hob5) Iff.rfl dX12_passes0_9 rfl rfl (fun c6 => ?_) (fun c6 => ?_)
  · refine g_iconst (pc' := 17) dX12_passes0_16 rfl ?_
    rw [bI_f (p := ((if i 99 19 < i 99 20 then i 101 (320 + (i 99 19)) else 0) = p0)) c6] at hJ
    exact hJ
  · refine g_iconst (pc' := 13) dX12_passes0_12 rfl ?_
    refine g_goto (tgt := 17) dX12_passes0_13 rfl ?_
    rw [bI_t (p := ((if i 99 19 < i 99 20 then i 101 (320 + (i 99 19)) else 0) = p0)) c6] at hJ
    exact hJ
theorem e_X12_passes0 {w : Wd} {d : Nat} {P : Int → IM → LM → Prop} {i : IM} {l : LM} {p0 : Int}  (h : gI w d X_X12_passes0 P i l 0 [(0, vR (some 99)), (1, vI p0)] []) : cI w (d + 1) X_X12_passes0 [vR (some 99), vI p0] i l P := CI_of (by decide +kernel) (Nat.le_of_ble_eq_true rfl) h

theorem dX12_bounded_0 : decode cX12_bounded 0 = .ok (.iload_n 3, 1) := by decide +kernel
theorem dX12_bounded_1 : decode cX12_bounded 1 = .ok (.ifCond .eq 24, 3) := by decide +kernel
theorem dX12_bounded_4 : decode cX12_bounded 4 = .ok (.lload_n 1, 1) := by decide +kernel
theorem dX12_bounded_5 : decode cX12_bounded 5 = .ok (.ldc2_w 259, 3) := by decide +kernel
theorem dX12_bounded_8 : decode cX12_bounded 8 = .ok (.lcmp, 1) := by decide +kernel
theorem dX12_bounded_9 : decode cX12_bounded 9 = .ok (.ifCond .gt 11, 3) := by decide +kernel
theorem dX12_bounded_12 : decode cX12_bounded 12 = .ok (.lload_n 1, 1) := by decide +kernel
theorem dX12_bounded_13 : decode cX12_bounded 13 = .ok (.ldc2_w 261, 3) := by decide +kernel
theorem dX12_bounded_16 : decode cX12_bounded 16 = .ok (.lcmp, 1) := by decide +kernel
theorem dX12_bounded_17 : decode cX12_bounded 17 = .ok (.ifCond .ge 8, 3) := by decide +kernel
theorem dX12_bounded_20 : decode cX12_bounded 20 = .ok (.aload_n 0, 1) := by decide +kernel
theorem dX12_bounded_21 : decode cX12_bounded 21 = .ok (.iconst 1, 1) := by decide +kernel
theorem dX12_bounded_22 : decode cX12_bounded 22 = .ok (.putfield 263, 3) := by decide +kernel
theorem dX12_bounded_25 : decode cX12_bounded 25 = .ok (.aload_n 0, 1) := by decide +kernel
theorem dX12_bounded_26 : decode cX12_bounded 26 = .ok (.getfield 263, 3) := by decide +kernel
theorem dX12_bounded_29 : decode cX12_bounded 29 = .ok (.ifCond .eq 7, 3) := by decide +kernel
theorem dX12_bounded_32 : decode cX12_bounded 32 = .ok (.lconst 0, 1) := by decide +kernel
theorem dX12_bounded_33 : decode cX12_bounded 33 = .ok (.goto 4, 3) := by decide +kernel
theorem dX12_bounded_36 : decode cX12_bounded 36 = .ok (.lload_n 1, 1) := by decide +kernel
theorem dX12_bounded_37 : decode cX12_bounded 37 = .ok (.lreturn, 1) := by decide +kernel
set_option maxRecDepth 20000 in
theorem s_X12_bounded {w : Wd} {d : Nat} {P : Int64 → IM → LM → Prop} {i : IM} {l : LM} (p0 : Int64) (p1 : Int)  (h : ((rg p1) ∧ (((p1 = 0) ∨ (¬ (1000000000 < p0) ∧ ((-1000000000) ≤ p0))) → P (if (i 99 21 = 0) then p0 else 0) i l) ∧ ((¬ ((p1 = 0) ∨ (¬ (1000000000 < p0) ∧ ((-1000000000) ≤ p0)))) → P (if ((u2 i 99 21 1) 99 21 = 0) then p0 else 0) (u2 i 99 21 1) l))) : gLg w d X_X12_bounded P i l 0 [(0, vR (some 99)), (1, vL p0), (3, vI p1)] [] := by
  refine g_iload_n (pc' := 1) 2 dX12_bounded_0 rfl rfl ?_
  obtain ⟨hob2, hk14, hk15⟩ := h
  have hk14g : ((p1 = 0) ∨ (¬ (1000000000 < p0) ∧ ((-1000000000) ≤ p0))) → gLg w d X_X12_bounded P i l 25 [(0, vR (some 99)), (1, vL p0), (3, vI p1)] [] := by
    intro hp
    have h := hk14 hp
    refine g_aload_n (pc' := 26) 0 dX12_bounded_25 rfl rfl ?_
    refine g_getI (pc' := 29) (z := 21) rfl fl_X12_263 rfl rfl dX12_bounded_26 rfl (fun rg8 => ?_)
    have hJ : gLg w d X_X12_bounded P i l 37 [(0, vR (some 99)), (1, vL p0), (3, vI p1)] [vL (if (i 99 21 = 0) then p0 else 0)] := by
      exact g_retL rfl dX12_bounded_37 h
    refine g_if_eq (tgt := 36) (pc' := 32) rg8 Iff.rfl dX12_bounded_29 rfl rfl (fun c10 => ?_) (fun c10 => ?_)
    · refine g_lload_n (pc' := 37) 1 dX12_bounded_36 rfl rfl ?_
      rw [if_pos c10 (α := Int64) (t := p0) (e := 0)] at hJ
      exact hJ
    · refine g_lconst (pc' := 33) (v := 0) dX12_bounded_32 rfl rfl ?_
      refine g_goto (tgt := 37) dX12_bounded_33 rfl ?_
      rw [if_neg c10 (α := Int64) (t := p0) (e := 0)] at hJ
      exact hJ
  have hk15g : (¬ ((p1 = 0) ∨ (¬ (1000000000 < p0) ∧ ((-1000000000) ≤ p0)))) → gLg w d X_X12_bounded P i l 20 [(0, vR (some 99)), (1, vL p0), (3, vI p1)] [] := by
    intro hp
    have h := hk15 hp
    refine g_aload_n (pc' := 21) 0 dX12_bounded_20 rfl rfl ?_
    refine g_iconst (pc' := 22) dX12_bounded_21 rfl ?_
    refine g_putZ (pc' := 25) (z := 21) rfl fp_X12_263 rfl rfl (by decide) dX12_bounded_22 rfl ?_
    refine g_aload_n (pc' := 26) 0 dX12_bounded_25 rfl rfl ?_
    refine g_getI (pc' := 29) (z := 21) rfl fl_X12_263 rfl rfl dX12_bounded_26 rfl (fun rg11 => ?_)
    have hJ : gLg w d X_X12_bounded P (u2 i 99 21 1) l 37 [(0, vR (some 99)), (1, vL p0), (3, vI p1)] [vL (if ((u2 i 99 21 1) 99 21 = 0) then p0 else 0)] := by
      exact g_retL rfl dX12_bounded_37 h
    refine g_if_eq (tgt := 36) (pc' := 32) rg11 Iff.rfl dX12_bounded_29 rfl rfl (fun c13 => ?_) (fun c13 => ?_)
    · refine g_lload_n (pc' := 37) 1 dX12_bounded_36 rfl rfl ?_
      rw [if_pos c13 (α := Int64) (t := p0) (e := 0)] at hJ
      exact hJ
    · refine g_lconst (pc' := 33) (v := 0) dX12_bounded_32 rfl rfl ?_
      refine g_goto (tgt := 37) dX12_bounded_33 rfl ?_
      rw [if_neg c13 (α := Int64) (t := p0) (e := 0)] at hJ
      exact hJ
  refine g_if_eq (tgt := 25) (pc' := 4) (hob2) Iff.rfl dX12_bounded_1 rfl rfl (fun c3 => ?_) (fun c3 => ?_)
  · exact hk14g (Or.inl c3)
  · refine g_lload_n (pc' := 5) 1 dX12_bounded_4 rfl rfl ?_
    refine g_ldc2 (pc' := 8) dX12_bounded_5 rfl kl_X12_259 ?_
    refine g_lcmp (pc' := 9) dX12_bounded_8 rfl ?_
    refine g_if_gt (tgt := 20) (pc' := 12) (rg_lcmpI _ _) (lcmpI_gt _ _) dX12_bounded_9 rfl rfl (fun c5 => ?_) (fun c5 => ?_)
    · exact hk15g (fun q => q.elim c3 (fun q => q.1 c5))
    · refine g_lload_n (pc' := 13) 1 dX12_bounded_12 rfl rfl ?_
      refine g_ldc2 (pc' := 16) dX12_bounded_13 rfl kl_X12_261 ?_
      refine g_lcmp (pc' := 17) dX12_bounded_16 rfl ?_
      refine g_if_ge (tgt := 25) (pc' := 20) (rg_lcmpI _ _) (lcmpI_ge _ _) dX12_bounded_17 rfl rfl (fun c6 => ?_) (fun c6 => ?_)
      · exact hk14g (Or.inr ⟨c5, c6⟩)
      · exact hk15g (fun q => q.elim c3 (fun q => c6 q.2))
theorem e_X12_bounded {w : Wd} {d : Nat} {P : Int64 → IM → LM → Prop} {i : IM} {l : LM} {p0 : Int64} {p1 : Int}  (h : gLg w d X_X12_bounded P i l 0 [(0, vR (some 99)), (1, vL p0), (3, vI p1)] []) : cL w (d + 1) X_X12_bounded [vR (some 99), vL p0, vI p1] i l P := CL_of (by decide +kernel) (Nat.le_of_ble_eq_true rfl) h

theorem dX12_sumOf_0 : decode cX12_sumOf 0 = .ok (.aload_n 0, 1) := by decide +kernel
theorem dX12_sumOf_1 : decode cX12_sumOf 1 = .ok (.iload_n 1, 1) := by decide +kernel
theorem dX12_sumOf_2 : decode cX12_sumOf 2 = .ok (.invokevirtual 267, 3) := by decide +kernel
theorem dX12_sumOf_5 : decode cX12_sumOf 5 = .ok (.lstore_n 2, 1) := by decide +kernel
theorem dX12_sumOf_6 : decode cX12_sumOf 6 = .ok (.aload_n 0, 1) := by decide +kernel
theorem dX12_sumOf_7 : decode cX12_sumOf 7 = .ok (.aload_n 0, 1) := by decide +kernel
theorem dX12_sumOf_8 : decode cX12_sumOf 8 = .ok (.getfield 253, 3) := by decide +kernel
theorem dX12_sumOf_11 : decode cX12_sumOf 11 = .ok (.invokevirtual 256, 3) := by decide +kernel
theorem dX12_sumOf_14 : decode cX12_sumOf 14 = .ok (.bipush 43, 2) := by decide +kernel
theorem dX12_sumOf_16 : decode cX12_sumOf 16 = .ok (.invokestatic 228, 3) := by decide +kernel
theorem dX12_sumOf_19 : decode cX12_sumOf 19 = .ok (.if_icmp .eq 19, 3) := by decide +kernel
theorem dX12_sumOf_22 : decode cX12_sumOf 22 = .ok (.aload_n 0, 1) := by decide +kernel
theorem dX12_sumOf_23 : decode cX12_sumOf 23 = .ok (.aload_n 0, 1) := by decide +kernel
theorem dX12_sumOf_24 : decode cX12_sumOf 24 = .ok (.getfield 253, 3) := by decide +kernel
theorem dX12_sumOf_27 : decode cX12_sumOf 27 = .ok (.invokevirtual 256, 3) := by decide +kernel
theorem dX12_sumOf_30 : decode cX12_sumOf 30 = .ok (.bipush 45, 2) := by decide +kernel
theorem dX12_sumOf_32 : decode cX12_sumOf 32 = .ok (.invokestatic 228, 3) := by decide +kernel
theorem dX12_sumOf_35 : decode cX12_sumOf 35 = .ok (.if_icmp .ne 68, 3) := by decide +kernel
theorem dX12_sumOf_38 : decode cX12_sumOf 38 = .ok (.aload_n 0, 1) := by decide +kernel
theorem dX12_sumOf_39 : decode cX12_sumOf 39 = .ok (.aload_n 0, 1) := by decide +kernel
theorem dX12_sumOf_40 : decode cX12_sumOf 40 = .ok (.getfield 253, 3) := by decide +kernel
theorem dX12_sumOf_43 : decode cX12_sumOf 43 = .ok (.invokevirtual 256, 3) := by decide +kernel
theorem dX12_sumOf_46 : decode cX12_sumOf 46 = .ok (.bipush 43, 2) := by decide +kernel
theorem dX12_sumOf_48 : decode cX12_sumOf 48 = .ok (.invokestatic 228, 3) := by decide +kernel
theorem dX12_sumOf_51 : decode cX12_sumOf 51 = .ok (.if_icmp .ne 7, 3) := by decide +kernel
theorem dX12_sumOf_54 : decode cX12_sumOf 54 = .ok (.iconst 1, 1) := by decide +kernel
theorem dX12_sumOf_55 : decode cX12_sumOf 55 = .ok (.goto 4, 3) := by decide +kernel
theorem dX12_sumOf_58 : decode cX12_sumOf 58 = .ok (.iconst 0, 1) := by decide +kernel
theorem dX12_sumOf_59 : decode cX12_sumOf 59 = .ok (.istore 4, 2) := by decide +kernel
theorem dX12_sumOf_61 : decode cX12_sumOf 61 = .ok (.aload_n 0, 1) := by decide +kernel
theorem dX12_sumOf_62 : decode cX12_sumOf 62 = .ok (.dup, 1) := by decide +kernel
theorem dX12_sumOf_63 : decode cX12_sumOf 63 = .ok (.getfield 253, 3) := by decide +kernel
theorem dX12_sumOf_66 : decode cX12_sumOf 66 = .ok (.iconst 1, 1) := by decide +kernel
theorem dX12_sumOf_67 : decode cX12_sumOf 67 = .ok (.iadd, 1) := by decide +kernel
theorem dX12_sumOf_68 : decode cX12_sumOf 68 = .ok (.putfield 253, 3) := by decide +kernel
theorem dX12_sumOf_71 : decode cX12_sumOf 71 = .ok (.aload_n 0, 1) := by decide +kernel
theorem dX12_sumOf_72 : decode cX12_sumOf 72 = .ok (.iload_n 1, 1) := by decide +kernel
theorem dX12_sumOf_73 : decode cX12_sumOf 73 = .ok (.invokevirtual 267, 3) := by decide +kernel
theorem dX12_sumOf_76 : decode cX12_sumOf 76 = .ok (.lstore 5, 2) := by decide +kernel
theorem dX12_sumOf_78 : decode cX12_sumOf 78 = .ok (.aload_n 0, 1) := by decide +kernel
theorem dX12_sumOf_79 : decode cX12_sumOf 79 = .ok (.iload 4, 2) := by decide +kernel
theorem dX12_sumOf_81 : decode cX12_sumOf 81 = .ok (.ifCond .eq 10, 3) := by decide +kernel
theorem dX12_sumOf_84 : decode cX12_sumOf 84 = .ok (.lload_n 2, 1) := by decide +kernel
theorem dX12_sumOf_85 : decode cX12_sumOf 85 = .ok (.lload 5, 2) := by decide +kernel
theorem dX12_sumOf_87 : decode cX12_sumOf 87 = .ok (.ladd, 1) := by decide +kernel
theorem dX12_sumOf_88 : decode cX12_sumOf 88 = .ok (.goto 7, 3) := by decide +kernel
theorem dX12_sumOf_91 : decode cX12_sumOf 91 = .ok (.lload_n 2, 1) := by decide +kernel
theorem dX12_sumOf_92 : decode cX12_sumOf 92 = .ok (.lload 5, 2) := by decide +kernel
theorem dX12_sumOf_94 : decode cX12_sumOf 94 = .ok (.lsub, 1) := by decide +kernel
theorem dX12_sumOf_95 : decode cX12_sumOf 95 = .ok (.iload_n 1, 1) := by decide +kernel
theorem dX12_sumOf_96 : decode cX12_sumOf 96 = .ok (.invokevirtual 271, 3) := by decide +kernel
theorem dX12_sumOf_99 : decode cX12_sumOf 99 = .ok (.lstore_n 2, 1) := by decide +kernel
theorem dX12_sumOf_100 : decode cX12_sumOf 100 = .ok (.goto (-94), 3) := by decide +kernel
theorem dX12_sumOf_103 : decode cX12_sumOf 103 = .ok (.lload_n 2, 1) := by decide +kernel
theorem dX12_sumOf_104 : decode cX12_sumOf 104 = .ok (.lreturn, 1) := by decide +kernel
set_option maxRecDepth 20000 in
theorem s_X12_sumOf {w : Wd} {d : Nat} {P : Int64 → IM → LM → Prop} {i : IM} {l : LM} (p0 : Int)  (h : cL w d X_X12_termOf [vR (some 99), vI p0] i l (fun r1 i1 l1 => gLg w d X_X12_sumOf P i1 l1 6 [(0, vR (some 99)), (1, vI p0), (2, vL r1)] [])) : gLg w d X_X12_sumOf P i l 0 [(0, vR (some 99)), (1, vI p0)] [] := by
  refine g_aload_n (pc' := 1) 0 dX12_sumOf_0 rfl rfl ?_
  refine g_iload_n (pc' := 2) 1 dX12_sumOf_1 rfl rfl ?_
  refine g_cVL (pc' := 5) (vs := [vI p0]) (st := []) (c := 12) h mv_X12_termOf lk_X12_267 rfl rfl rfl rfl (Nat.le_of_ble_eq_true rfl) (Nat.le_of_ble_eq_true rfl) rfl dX12_sumOf_2 rfl z2 (fun r1 i1 l1 h => ?_)
  refine g_lstore_n (pc' := 6) (L' := [(2, vL r1), (0, vR (some 99)), (1, vI p0)]) dX12_sumOf_5 rfl (Nat.le_of_ble_eq_true rfl) rfl ?_
  refine g_sub (L' := [(0, vR (some 99)), (1, vI p0), (2, vL r1)]) [1, 2, 0] rfl ?_
  exact h
theorem e_X12_sumOf {w : Wd} {d : Nat} {P : Int64 → IM → LM → Prop} {i : IM} {l : LM} {p0 : Int}  (h : gLg w d X_X12_sumOf P i l 0 [(0, vR (some 99)), (1, vI p0)] []) : cL w (d + 1) X_X12_sumOf [vR (some 99), vI p0] i l P := CL_of (by decide +kernel) (Nat.le_of_ble_eq_true rfl) h
set_option maxRecDepth 20000 in
theorem s_X12_sumOf_6 {w : Wd} {d : Nat} {P : Int64 → IM → LM → Prop} {i : IM} {l : LM} (x1 : Int) (x2 : Int64)  (hd : 1 ≤ d) (h : ((i 99 19 < i 99 20 → 0 ≤ 320 + (i 99 19) ∧ 320 + (i 99 19) < 5120) ∧ ((¬ ((if i 99 19 < i 99 20 then i 101 (320 + (i 99 19)) else 0) = 143) → i 99 19 < i 99 20 → 0 ≤ 320 + (i 99 19) ∧ 320 + (i 99 19) < 5120) ∧ ((((if i 99 19 < i 99 20 then i 101 (320 + (i 99 19)) else 0) = 143) ∨ ((if i 99 19 < i 99 20 then i 101 (320 + (i 99 19)) else 0) = 145)) → gLg w d X_X12_sumOf P i l 38 [(0, vR (some 99)), (1, vI x1), (2, vL x2)] []) ∧ ((¬ (((if i 99 19 < i 99 20 then i 101 (320 + (i 99 19)) else 0) = 143) ∨ ((if i 99 19 < i 99 20 then i 101 (320 + (i 99 19)) else 0) = 145))) → P x2 i l)))) : gLg w d X_X12_sumOf P i l 6 [(0, vR (some 99)), (1, vI x1), (2, vL x2)] [] := by
  obtain ⟨ob3, h⟩ := h
  refine g_aload_n (pc' := 7) 0 dX12_sumOf_6 rfl rfl ?_
  refine g_aload_n (pc' := 8) 0 dX12_sumOf_7 rfl rfl ?_
  refine g_getI (pc' := 11) (z := 19) rfl fl_X12_253 rfl rfl dX12_sumOf_8 rfl (fun rg2 => ?_)
  refine g_pVI (pc' := 14) (vs := [vI (i 99 19)]) (st := []) (val := (if i 99 19 < i 99 20 then i 101 (320 + (i 99 19)) else 0)) (c := 12) (sp_X12_codeAt (le_hd hd rfl) rg2 ob3) mv_X12_codeAt lk_X12_256 rfl rfl rfl rfl (Nat.le_of_ble_eq_true rfl) (Nat.le_of_ble_eq_true rfl) rfl dX12_sumOf_11 rfl z2 (fun rg4 => ?_)
  refine g_bipush (pc' := 16) dX12_sumOf_14 rfl rfl ?_
  refine g_pSI (pc' := 19) (vs := [vI 43]) (st := [vI (if i 99 19 < i 99 20 then i 101 (320 + (i 99 19)) else 0)]) (val := 143) (sp_X12_sign (le_hd hd rfl) (rg_lit rfl)) mk_X12_sign ms_X12_sign lk_X12_228 rfl (Nat.le_of_ble_eq_true rfl) (Nat.le_of_ble_eq_true rfl) rfl dX12_sumOf_16 rfl z2 (fun rg5 => ?_)
  obtain ⟨hob9, hk13, hk14⟩ := h
  have hk13g : (((if i 99 19 < i 99 20 then i 101 (320 + (i 99 19)) else 0) = 143) ∨ ((if i 99 19 < i 99 20 then i 101 (320 + (i 99 19)) else 0) = 145)) → gLg w d X_X12_sumOf P i l 38 [(0, vR (some 99)), (1, vI x1), (2, vL x2)] [] := by
    intro hp
    have h := hk13 hp
    exact h
  have hk14g : (¬ (((if i 99 19 < i 99 20 then i 101 (320 + (i 99 19)) else 0) = 143) ∨ ((if i 99 19 < i 99 20 then i 101 (320 + (i 99 19)) else 0) = 145))) → gLg w d X_X12_sumOf P i l 103 [(0, vR (some 99)), (1, vI x1), (2, vL x2)] [] := by
    intro hp
    have h := hk14 hp
    refine g_lload_n (pc' := 104) 2 dX12_sumOf_103 rfl rfl ?_
    exact g_retL rfl dX12_sumOf_104 h
  refine g_icmp_eq (tgt := 38) (pc' := 22) rg4 rg5 Iff.rfl dX12_sumOf_19 rfl rfl (fun c7 => ?_) (fun c7 => ?_)
  · exact hk13g (Or.inl c7)
  · refine g_aload_n (pc' := 23) 0 dX12_sumOf_22 rfl rfl ?_
    refine g_aload_n (pc' := 24) 0 dX12_sumOf_23 rfl rfl ?_
    refine g_getI (pc' := 27) (z := 19) rfl fl_X12_253 rfl rfl dX12_sumOf_24 rfl (fun rg8 => ?_)
    refine g_pVI (pc' := 30) (vs := [vI (i 99 19)]) (st := []) (val := (if i 99 19 < i 99 20 then i 101 (320 + (i 99 19)) else 0)) (c := 12) (sp_X12_codeAt (le_hd hd rfl) rg8 (hob9 c7)) mv_X12_codeAt lk_X12_256 rfl rfl rfl rfl (Nat.le_of_ble_eq_true rfl) (Nat.le_of_ble_eq_true rfl) rfl dX12_sumOf_27 rfl z2 (fun rg10 => ?_)
    refine g_bipush (pc' := 32) dX12_sumOf_30 rfl rfl ?_
    refine g_pSI (pc' := 35) (vs := [vI 45]) (st := [vI (if i 99 19 < i 99 20 then i 101 (320 + (i 99 19)) else 0)]) (val := 145) (sp_X12_sign (le_hd hd rfl) (rg_lit rfl)) mk_X12_sign ms_X12_sign lk_X12_228 rfl (Nat.le_of_ble_eq_true rfl) (Nat.le_of_ble_eq_true rfl) rfl dX12_sumOf_32 rfl z2 (fun rg11 => ?_)
    refine g_icmp_ne (tgt := 103) (pc' := 38) rg10 rg11 Iff.rfl dX12_sumOf_35 rfl rfl (fun c12 => ?_) (fun c12 => ?_)
    · exact hk14g (fun q => q.elim c7 c12)
    · exact hk13g (Or.inr c12)
set_option maxRecDepth 20000 in
theorem s_X12_sumOf_38 {w : Wd} {d : Nat} {P : Int64 → IM → LM → Prop} {i : IM} {l : LM} (x1 : Int) (x2 : Int64)  (hd : 1 ≤ d) (h : ((i 99 19 < i 99 20 → 0 ≤ 320 + (i 99 19) ∧ 320 + (i 99 19) < 5120) ∧ ((rg ((i 99 19) + 1)) ∧ cL w d X_X12_termOf [vR (some 99), vI x1] (u2 i 99 19 ((i 99 19) + 1)) l (fun r23 i23 l23 => cL w d X_X12_bounded [vR (some 99), vL (if ((if i 99 19 < i 99 20 then i 101 (320 + (i 99 19)) else 0) = 143) then x2 + r23 else x2 - r23), vI x1] i23 l23 (fun r26 i26 l26 => gLg w d X_X12_sumOf P i26 l26 6 [(0, vR (some 99)), (1, vI x1), (2, vL r26)] []))))) : gLg w d X_X12_sumOf P i l 38 [(0, vR (some 99)), (1, vI x1), (2, vL x2)] [] := by
  obtain ⟨ob16, h⟩ := h
  refine g_aload_n (pc' := 39) 0 dX12_sumOf_38 rfl rfl ?_
  refine g_aload_n (pc' := 40) 0 dX12_sumOf_39 rfl rfl ?_
  refine g_getI (pc' := 43) (z := 19) rfl fl_X12_253 rfl rfl dX12_sumOf_40 rfl (fun rg15 => ?_)
  refine g_pVI (pc' := 46) (vs := [vI (i 99 19)]) (st := []) (val := (if i 99 19 < i 99 20 then i 101 (320 + (i 99 19)) else 0)) (c := 12) (sp_X12_codeAt (le_hd hd rfl) rg15 ob16) mv_X12_codeAt lk_X12_256 rfl rfl rfl rfl (Nat.le_of_ble_eq_true rfl) (Nat.le_of_ble_eq_true rfl) rfl dX12_sumOf_43 rfl z2 (fun rg17 => ?_)
  refine g_bipush (pc' := 48) dX12_sumOf_46 rfl rfl ?_
  refine g_pSI (pc' := 51) (vs := [vI 43]) (st := [vI (if i 99 19 < i 99 20 then i 101 (320 + (i 99 19)) else 0)]) (val := 143) (sp_X12_sign (le_hd hd rfl) (rg_lit rfl)) mk_X12_sign ms_X12_sign lk_X12_228 rfl (Nat.le_of_ble_eq_true rfl) (Nat.le_of_ble_eq_true rfl) rfl dX12_sumOf_48 rfl z2 (fun rg18 => ?_)
  have hJ : gLg w d X_X12_sumOf P i l 59 [(0, vR (some 99)), (1, vI x1), (2, vL x2)] [vI (bI ((if i 99 19 < i 99 20 then i 101 (320 + (i 99 19)) else 0) = 143))] := by
    obtain ⟨ob22, h⟩ := h
    refine g_istore (pc' := 61) (L' := [(4, vI (bI ((if i 99 19 < i 99 20 then i 101 (320 + (i 99 19)) else 0) = 143))), (0, vR (some 99)), (1, vI x1), (2, vL x2)]) dX12_sumOf_59 rfl (Nat.le_of_ble_eq_true rfl) rfl ?_
    refine g_aload_n (pc' := 62) 1 dX12_sumOf_61 rfl rfl ?_
    refine g_dup (pc' := 63) dX12_sumOf_62 rfl rfl ?_
    refine g_getI (pc' := 66) (z := 19) rfl fl_X12_253 rfl rfl dX12_sumOf_63 rfl (fun rg21 => ?_)
    refine g_iconst (pc' := 67) dX12_sumOf_66 rfl ?_
    refine g_iadd (pc' := 68) dX12_sumOf_67 rfl ?_
    refine g_putI (pc' := 71) (z := 19) rfl fp_X12_253 rfl rfl ob22 dX12_sumOf_68 rfl ?_
    refine g_aload_n (pc' := 72) 1 dX12_sumOf_71 rfl rfl ?_
    refine g_iload_n (pc' := 73) 2 dX12_sumOf_72 rfl rfl ?_
    refine g_cVL (pc' := 76) (vs := [vI x1]) (st := []) (c := 12) h mv_X12_termOf lk_X12_267 rfl rfl rfl rfl (Nat.le_of_ble_eq_true rfl) (Nat.le_of_ble_eq_true rfl) rfl dX12_sumOf_73 rfl z2 (fun r23 i23 l23 h => ?_)
    refine g_lstore (pc' := 78) (L' := [(5, vL r23), (4, vI (bI ((if i 99 19 < i 99 20 then i 101 (320 + (i 99 19)) else 0) = 143))), (0, vR (some 99)), (1, vI x1), (2, vL x2)]) dX12_sumOf_76 rfl (Nat.le_of_ble_eq_true rfl) rfl ?_
    refine g_aload_n (pc' := 79) 2 dX12_sumOf_78 rfl rfl ?_
    refine g_iload (pc' := 81) 1 dX12_sumOf_79 rfl rfl ?_
    have hJ : gLg w d X_X12_sumOf P i23 l23 95 [(5, vL r23), (4, vI (bI ((if i 99 19 < i 99 20 then i 101 (320 + (i 99 19)) else 0) = 143))), (0, vR (some 99)), (1, vI x1), (2, vL x2)] [vL (if ((if i 99 19 < i 99 20 then i 101 (320 + (i 99 19)) else 0) = 143) then x2 + r23 else x2 - r23), vR (some 99)] := by
      refine g_iload_n (pc' := 96) 3 dX12_sumOf_95 rfl rfl ?_
      refine g_cVL (pc' := 99) (vs := [vL (if ((if i 99 19 < i 99 20 then i 101 (320 + (i 99 19)) else 0) = 143) then x2 + r23 else x2 - r23), vI x1]) (st := []) (c := 12) h mv_X12_bounded lk_X12_271 rfl rfl rfl rfl (Nat.le_of_ble_eq_true rfl) (Nat.le_of_ble_eq_true rfl) rfl dX12_sumOf_96 rfl z2 (fun r26 i26 l26 h => ?_)
      refine g_lstore_n (pc' := 100) (L' := [(2, vL r26), (5, vL r23), (4, vI (bI ((if i 99 19 < i 99 20 then i 101 (320 + (i 99 19)) else 0) = 143))), (0, vR (some 99)), (1, vI x1)]) dX12_sumOf_99 rfl (Nat.le_of_ble_eq_true rfl) rfl ?_
      refine g_goto (tgt := 6) dX12_sumOf_100 rfl ?_
      refine g_sub (L' := [(0, vR (some 99)), (1, vI x1), (2, vL r26)]) [3, 4, 0] rfl ?_
      exact h
    refine g_if_eq (tgt := 91) (pc' := 84) (rg_bI _) (bI_eq _) dX12_sumOf_81 rfl rfl (fun c25 => ?_) (fun c25n => ?_)
    · refine g_lload_n (pc' := 92) 4 dX12_sumOf_91 rfl rfl ?_
      refine g_lload (pc' := 94) 0 dX12_sumOf_92 rfl rfl ?_
      refine g_lsub (pc' := 95) dX12_sumOf_94 rfl ?_
      rw [if_neg c25 (α := Int64) (t := x2 + r23) (e := x2 - r23)] at hJ
      exact hJ
    · have c25 := Decidable.of_not_not c25n
      refine g_lload_n (pc' := 85) 4 dX12_sumOf_84 rfl rfl ?_
      refine g_lload (pc' := 87) 0 dX12_sumOf_85 rfl rfl ?_
      refine g_ladd (pc' := 88) dX12_sumOf_87 rfl ?_
      refine g_goto (tgt := 95) dX12_sumOf_88 rfl ?_
      rw [if_pos c25 (α := Int64) (t := x2 + r23) (e := x2 - r23)] at hJ
      exact hJ
  refine g_icmp_ne (tgt := 58) (pc' := 54) rg17 rg18 Iff.rfl dX12_sumOf_51 rfl rfl (fun c20 => ?_) (fun c20 => ?_)
  · refine g_iconst (pc' := 59) dX12_sumOf_58 rfl ?_
    rw [bI_f (p := ((if i 99 19 < i 99 20 then i 101 (320 + (i 99 19)) else 0) = 143)) c20] at hJ
    exact hJ
  · refine g_iconst (pc' := 55) dX12_sumOf_54 rfl ?_
    refine g_goto (tgt := 59) dX12_sumOf_55 rfl ?_
    rw [bI_t (p := ((if i 99 19 < i 99 20 then i 101 (320 + (i 99 19)) else 0) = 143)) c20] at hJ
    exact hJ

theorem dX12_termOf_0 : decode cX12_termOf 0 = .ok (.aload_n 0, 1) := by decide +kernel
theorem dX12_termOf_1 : decode cX12_termOf 1 = .ok (.iload_n 1, 1) := by decide +kernel
theorem dX12_termOf_2 : decode cX12_termOf 2 = .ok (.invokevirtual 275, 3) := by decide +kernel
theorem dX12_termOf_5 : decode cX12_termOf 5 = .ok (.lstore_n 2, 1) := by decide +kernel
theorem dX12_termOf_6 : decode cX12_termOf 6 = .ok (.aload_n 0, 1) := by decide +kernel
theorem dX12_termOf_7 : decode cX12_termOf 7 = .ok (.aload_n 0, 1) := by decide +kernel
theorem dX12_termOf_8 : decode cX12_termOf 8 = .ok (.getfield 253, 3) := by decide +kernel
theorem dX12_termOf_11 : decode cX12_termOf 11 = .ok (.invokevirtual 256, 3) := by decide +kernel
theorem dX12_termOf_14 : decode cX12_termOf 14 = .ok (.bipush 42, 2) := by decide +kernel
theorem dX12_termOf_16 : decode cX12_termOf 16 = .ok (.invokestatic 228, 3) := by decide +kernel
theorem dX12_termOf_19 : decode cX12_termOf 19 = .ok (.if_icmp .eq 19, 3) := by decide +kernel
theorem dX12_termOf_22 : decode cX12_termOf 22 = .ok (.aload_n 0, 1) := by decide +kernel
theorem dX12_termOf_23 : decode cX12_termOf 23 = .ok (.aload_n 0, 1) := by decide +kernel
theorem dX12_termOf_24 : decode cX12_termOf 24 = .ok (.getfield 253, 3) := by decide +kernel
theorem dX12_termOf_27 : decode cX12_termOf 27 = .ok (.invokevirtual 256, 3) := by decide +kernel
theorem dX12_termOf_30 : decode cX12_termOf 30 = .ok (.bipush 47, 2) := by decide +kernel
theorem dX12_termOf_32 : decode cX12_termOf 32 = .ok (.invokestatic 228, 3) := by decide +kernel
theorem dX12_termOf_35 : decode cX12_termOf 35 = .ok (.if_icmp .ne 103, 3) := by decide +kernel
theorem dX12_termOf_38 : decode cX12_termOf 38 = .ok (.aload_n 0, 1) := by decide +kernel
theorem dX12_termOf_39 : decode cX12_termOf 39 = .ok (.aload_n 0, 1) := by decide +kernel
theorem dX12_termOf_40 : decode cX12_termOf 40 = .ok (.getfield 253, 3) := by decide +kernel
theorem dX12_termOf_43 : decode cX12_termOf 43 = .ok (.invokevirtual 256, 3) := by decide +kernel
theorem dX12_termOf_46 : decode cX12_termOf 46 = .ok (.bipush 42, 2) := by decide +kernel
theorem dX12_termOf_48 : decode cX12_termOf 48 = .ok (.invokestatic 228, 3) := by decide +kernel
theorem dX12_termOf_51 : decode cX12_termOf 51 = .ok (.if_icmp .ne 7, 3) := by decide +kernel
theorem dX12_termOf_54 : decode cX12_termOf 54 = .ok (.iconst 1, 1) := by decide +kernel
theorem dX12_termOf_55 : decode cX12_termOf 55 = .ok (.goto 4, 3) := by decide +kernel
theorem dX12_termOf_58 : decode cX12_termOf 58 = .ok (.iconst 0, 1) := by decide +kernel
theorem dX12_termOf_59 : decode cX12_termOf 59 = .ok (.istore 4, 2) := by decide +kernel
theorem dX12_termOf_61 : decode cX12_termOf 61 = .ok (.aload_n 0, 1) := by decide +kernel
theorem dX12_termOf_62 : decode cX12_termOf 62 = .ok (.dup, 1) := by decide +kernel
theorem dX12_termOf_63 : decode cX12_termOf 63 = .ok (.getfield 253, 3) := by decide +kernel
theorem dX12_termOf_66 : decode cX12_termOf 66 = .ok (.iconst 1, 1) := by decide +kernel
theorem dX12_termOf_67 : decode cX12_termOf 67 = .ok (.iadd, 1) := by decide +kernel
theorem dX12_termOf_68 : decode cX12_termOf 68 = .ok (.putfield 253, 3) := by decide +kernel
theorem dX12_termOf_71 : decode cX12_termOf 71 = .ok (.aload_n 0, 1) := by decide +kernel
theorem dX12_termOf_72 : decode cX12_termOf 72 = .ok (.iload_n 1, 1) := by decide +kernel
theorem dX12_termOf_73 : decode cX12_termOf 73 = .ok (.invokevirtual 275, 3) := by decide +kernel
theorem dX12_termOf_76 : decode cX12_termOf 76 = .ok (.lstore 5, 2) := by decide +kernel
theorem dX12_termOf_78 : decode cX12_termOf 78 = .ok (.iload 4, 2) := by decide +kernel
theorem dX12_termOf_80 : decode cX12_termOf 80 = .ok (.ifCond .ne 33, 3) := by decide +kernel
theorem dX12_termOf_83 : decode cX12_termOf 83 = .ok (.lload 5, 2) := by decide +kernel
theorem dX12_termOf_85 : decode cX12_termOf 85 = .ok (.lconst 0, 1) := by decide +kernel
theorem dX12_termOf_86 : decode cX12_termOf 86 = .ok (.lcmp, 1) := by decide +kernel
theorem dX12_termOf_87 : decode cX12_termOf 87 = .ok (.ifCond .ne 26, 3) := by decide +kernel
theorem dX12_termOf_90 : decode cX12_termOf 90 = .ok (.aload_n 0, 1) := by decide +kernel
theorem dX12_termOf_91 : decode cX12_termOf 91 = .ok (.aload_n 0, 1) := by decide +kernel
theorem dX12_termOf_92 : decode cX12_termOf 92 = .ok (.getfield 263, 3) := by decide +kernel
theorem dX12_termOf_95 : decode cX12_termOf 95 = .ok (.ifCond .ne 7, 3) := by decide +kernel
theorem dX12_termOf_98 : decode cX12_termOf 98 = .ok (.iload_n 1, 1) := by decide +kernel
theorem dX12_termOf_99 : decode cX12_termOf 99 = .ok (.ifCond .eq 7, 3) := by decide +kernel
theorem dX12_termOf_102 : decode cX12_termOf 102 = .ok (.iconst 1, 1) := by decide +kernel
theorem dX12_termOf_103 : decode cX12_termOf 103 = .ok (.goto 4, 3) := by decide +kernel
theorem dX12_termOf_106 : decode cX12_termOf 106 = .ok (.iconst 0, 1) := by decide +kernel
theorem dX12_termOf_107 : decode cX12_termOf 107 = .ok (.putfield 263, 3) := by decide +kernel
theorem dX12_termOf_110 : decode cX12_termOf 110 = .ok (.lconst 1, 1) := by decide +kernel
theorem dX12_termOf_111 : decode cX12_termOf 111 = .ok (.lstore 5, 2) := by decide +kernel
theorem dX12_termOf_113 : decode cX12_termOf 113 = .ok (.aload_n 0, 1) := by decide +kernel
theorem dX12_termOf_114 : decode cX12_termOf 114 = .ok (.iload 4, 2) := by decide +kernel
theorem dX12_termOf_116 : decode cX12_termOf 116 = .ok (.ifCond .eq 10, 3) := by decide +kernel
theorem dX12_termOf_119 : decode cX12_termOf 119 = .ok (.lload_n 2, 1) := by decide +kernel
theorem dX12_termOf_120 : decode cX12_termOf 120 = .ok (.lload 5, 2) := by decide +kernel
theorem dX12_termOf_122 : decode cX12_termOf 122 = .ok (.lmul, 1) := by decide +kernel
theorem dX12_termOf_123 : decode cX12_termOf 123 = .ok (.goto 7, 3) := by decide +kernel
theorem dX12_termOf_126 : decode cX12_termOf 126 = .ok (.lload_n 2, 1) := by decide +kernel
theorem dX12_termOf_127 : decode cX12_termOf 127 = .ok (.lload 5, 2) := by decide +kernel
theorem dX12_termOf_129 : decode cX12_termOf 129 = .ok (.ldiv, 1) := by decide +kernel
theorem dX12_termOf_130 : decode cX12_termOf 130 = .ok (.iload_n 1, 1) := by decide +kernel
theorem dX12_termOf_131 : decode cX12_termOf 131 = .ok (.invokevirtual 271, 3) := by decide +kernel
theorem dX12_termOf_134 : decode cX12_termOf 134 = .ok (.lstore_n 2, 1) := by decide +kernel
theorem dX12_termOf_135 : decode cX12_termOf 135 = .ok (.goto (-129), 3) := by decide +kernel
theorem dX12_termOf_138 : decode cX12_termOf 138 = .ok (.lload_n 2, 1) := by decide +kernel
theorem dX12_termOf_139 : decode cX12_termOf 139 = .ok (.lreturn, 1) := by decide +kernel
set_option maxRecDepth 20000 in
theorem s_X12_termOf {w : Wd} {d : Nat} {P : Int64 → IM → LM → Prop} {i : IM} {l : LM} (p0 : Int)  (h : cL w d X_X12_partOf [vR (some 99), vI p0] i l (fun r1 i1 l1 => gLg w d X_X12_termOf P i1 l1 6 [(0, vR (some 99)), (1, vI p0), (2, vL r1)] [])) : gLg w d X_X12_termOf P i l 0 [(0, vR (some 99)), (1, vI p0)] [] := by
  refine g_aload_n (pc' := 1) 0 dX12_termOf_0 rfl rfl ?_
  refine g_iload_n (pc' := 2) 1 dX12_termOf_1 rfl rfl ?_
  refine g_cVL (pc' := 5) (vs := [vI p0]) (st := []) (c := 12) h mv_X12_partOf lk_X12_275 rfl rfl rfl rfl (Nat.le_of_ble_eq_true rfl) (Nat.le_of_ble_eq_true rfl) rfl dX12_termOf_2 rfl z2 (fun r1 i1 l1 h => ?_)
  refine g_lstore_n (pc' := 6) (L' := [(2, vL r1), (0, vR (some 99)), (1, vI p0)]) dX12_termOf_5 rfl (Nat.le_of_ble_eq_true rfl) rfl ?_
  refine g_sub (L' := [(0, vR (some 99)), (1, vI p0), (2, vL r1)]) [1, 2, 0] rfl ?_
  exact h
theorem e_X12_termOf {w : Wd} {d : Nat} {P : Int64 → IM → LM → Prop} {i : IM} {l : LM} {p0 : Int}  (h : gLg w d X_X12_termOf P i l 0 [(0, vR (some 99)), (1, vI p0)] []) : cL w (d + 1) X_X12_termOf [vR (some 99), vI p0] i l P := CL_of (by decide +kernel) (Nat.le_of_ble_eq_true rfl) h
set_option maxRecDepth 20000 in
theorem s_X12_termOf_6 {w : Wd} {d : Nat} {P : Int64 → IM → LM → Prop} {i : IM} {l : LM} (x1 : Int) (x2 : Int64)  (hd : 1 ≤ d) (h : ((i 99 19 < i 99 20 → 0 ≤ 320 + (i 99 19) ∧ 320 + (i 99 19) < 5120) ∧ ((¬ ((if i 99 19 < i 99 20 then i 101 (320 + (i 99 19)) else 0) = 142) → i 99 19 < i 99 20 → 0 ≤ 320 + (i 99 19) ∧ 320 + (i 99 19) < 5120) ∧ ((((if i 99 19 < i 99 20 then i 101 (320 + (i 99 19)) else 0) = 142) ∨ ((if i 99 19 < i 99 20 then i 101 (320 + (i 99 19)) else 0) = 147)) → gLg w d X_X12_termOf P i l 38 [(0, vR (some 99)), (1, vI x1), (2, vL x2)] []) ∧ ((¬ (((if i 99 19 < i 99 20 then i 101 (320 + (i 99 19)) else 0) = 142) ∨ ((if i 99 19 < i 99 20 then i 101 (320 + (i 99 19)) else 0) = 147))) → P x2 i l)))) : gLg w d X_X12_termOf P i l 6 [(0, vR (some 99)), (1, vI x1), (2, vL x2)] [] := by
  obtain ⟨ob3, h⟩ := h
  refine g_aload_n (pc' := 7) 0 dX12_termOf_6 rfl rfl ?_
  refine g_aload_n (pc' := 8) 0 dX12_termOf_7 rfl rfl ?_
  refine g_getI (pc' := 11) (z := 19) rfl fl_X12_253 rfl rfl dX12_termOf_8 rfl (fun rg2 => ?_)
  refine g_pVI (pc' := 14) (vs := [vI (i 99 19)]) (st := []) (val := (if i 99 19 < i 99 20 then i 101 (320 + (i 99 19)) else 0)) (c := 12) (sp_X12_codeAt (le_hd hd rfl) rg2 ob3) mv_X12_codeAt lk_X12_256 rfl rfl rfl rfl (Nat.le_of_ble_eq_true rfl) (Nat.le_of_ble_eq_true rfl) rfl dX12_termOf_11 rfl z2 (fun rg4 => ?_)
  refine g_bipush (pc' := 16) dX12_termOf_14 rfl rfl ?_
  refine g_pSI (pc' := 19) (vs := [vI 42]) (st := [vI (if i 99 19 < i 99 20 then i 101 (320 + (i 99 19)) else 0)]) (val := 142) (sp_X12_sign (le_hd hd rfl) (rg_lit rfl)) mk_X12_sign ms_X12_sign lk_X12_228 rfl (Nat.le_of_ble_eq_true rfl) (Nat.le_of_ble_eq_true rfl) rfl dX12_termOf_16 rfl z2 (fun rg5 => ?_)
  obtain ⟨hob9, hk13, hk14⟩ := h
  have hk13g : (((if i 99 19 < i 99 20 then i 101 (320 + (i 99 19)) else 0) = 142) ∨ ((if i 99 19 < i 99 20 then i 101 (320 + (i 99 19)) else 0) = 147)) → gLg w d X_X12_termOf P i l 38 [(0, vR (some 99)), (1, vI x1), (2, vL x2)] [] := by
    intro hp
    have h := hk13 hp
    exact h
  have hk14g : (¬ (((if i 99 19 < i 99 20 then i 101 (320 + (i 99 19)) else 0) = 142) ∨ ((if i 99 19 < i 99 20 then i 101 (320 + (i 99 19)) else 0) = 147))) → gLg w d X_X12_termOf P i l 138 [(0, vR (some 99)), (1, vI x1), (2, vL x2)] [] := by
    intro hp
    have h := hk14 hp
    refine g_lload_n (pc' := 139) 2 dX12_termOf_138 rfl rfl ?_
    exact g_retL rfl dX12_termOf_139 h
  refine g_icmp_eq (tgt := 38) (pc' := 22) rg4 rg5 Iff.rfl dX12_termOf_19 rfl rfl (fun c7 => ?_) (fun c7 => ?_)
  · exact hk13g (Or.inl c7)
  · refine g_aload_n (pc' := 23) 0 dX12_termOf_22 rfl rfl ?_
    refine g_aload_n (pc' := 24) 0 dX12_termOf_23 rfl rfl ?_
    refine g_getI (pc' := 27) (z := 19) rfl fl_X12_253 rfl rfl dX12_termOf_24 rfl (fun rg8 => ?_)
    refine g_pVI (pc' := 30) (vs := [vI (i 99 19)]) (st := []) (val := (if i 99 19 < i 99 20 then i 101 (320 + (i 99 19)) else 0)) (c := 12) (sp_X12_codeAt (le_hd hd rfl) rg8 (hob9 c7)) mv_X12_codeAt lk_X12_256 rfl rfl rfl rfl (Nat.le_of_ble_eq_true rfl) (Nat.le_of_ble_eq_true rfl) rfl dX12_termOf_27 rfl z2 (fun rg10 => ?_)
    refine g_bipush (pc' := 32) dX12_termOf_30 rfl rfl ?_
    refine g_pSI (pc' := 35) (vs := [vI 47]) (st := [vI (if i 99 19 < i 99 20 then i 101 (320 + (i 99 19)) else 0)]) (val := 147) (sp_X12_sign (le_hd hd rfl) (rg_lit rfl)) mk_X12_sign ms_X12_sign lk_X12_228 rfl (Nat.le_of_ble_eq_true rfl) (Nat.le_of_ble_eq_true rfl) rfl dX12_termOf_32 rfl z2 (fun rg11 => ?_)
    refine g_icmp_ne (tgt := 138) (pc' := 38) rg10 rg11 Iff.rfl dX12_termOf_35 rfl rfl (fun c12 => ?_) (fun c12 => ?_)
    · exact hk14g (fun q => q.elim c7 c12)
    · exact hk13g (Or.inr c12)
set_option maxRecDepth 20000 in
theorem s_X12_termOf_38 {w : Wd} {d : Nat} {P : Int64 → IM → LM → Prop} {i : IM} {l : LM} (x1 : Int) (x2 : Int64)  (hd : 1 ≤ d) (h : ((i 99 19 < i 99 20 → 0 ≤ 320 + (i 99 19) ∧ 320 + (i 99 19) < 5120) ∧ ((rg ((i 99 19) + 1)) ∧ cL w d X_X12_partOf [vR (some 99), vI x1] (u2 i 99 19 ((i 99 19) + 1)) l (fun r23 i23 l23 => (((((if i 99 19 < i 99 20 then i 101 (320 + (i 99 19)) else 0) = 142) ∨ (¬ (r23 = 0))) → ((¬ ((if i 99 19 < i 99 20 then i 101 (320 + (i 99 19)) else 0) = 142) → ¬ (r23 : Int64) = 0) ∧ cL w d X_X12_bounded [vR (some 99), vL (if ((if i 99 19 < i 99 20 then i 101 (320 + (i 99 19)) else 0) = 142) then x2 * r23 else x2 / r23), vI x1] i23 l23 (fun r44 i44 l44 => gLg w d X_X12_termOf P i44 l44 6 [(0, vR (some 99)), (1, vI x1), (2, vL r44)] []))) ∧ ((¬ ((if i 99 19 < i 99 20 then i 101 (320 + (i 99 19)) else 0) = 142) ∧ ((r23 = 0) ∧ (¬ (i23 99 21 = 0)))) → cL w d X_X12_bounded [vR (some 99), vL (if ((if i 99 19 < i 99 20 then i 101 (320 + (i 99 19)) else 0) = 142) then x2 * 1 else x2 / 1), vI x1] (u2 i23 99 21 1) l23 (fun r47 i47 l47 => gLg w d X_X12_termOf P i47 l47 6 [(0, vR (some 99)), (1, vI x1), (2, vL r47)] [])) ∧ ((¬ ((if i 99 19 < i 99 20 then i 101 (320 + (i 99 19)) else 0) = 142) ∧ ((r23 = 0) ∧ (i23 99 21 = 0))) → ((rg x1) ∧ cL w d X_X12_bounded [vR (some 99), vL (if ((if i 99 19 < i 99 20 then i 101 (320 + (i 99 19)) else 0) = 142) then x2 * 1 else x2 / 1), vI x1] (u2 i23 99 21 (bI (¬ (x1 = 0)))) l23 (fun r53 i53 l53 => gLg w d X_X12_termOf P i53 l53 6 [(0, vR (some 99)), (1, vI x1), (2, vL r53)] [])))))))) : gLg w d X_X12_termOf P i l 38 [(0, vR (some 99)), (1, vI x1), (2, vL x2)] [] := by
  obtain ⟨ob16, h⟩ := h
  refine g_aload_n (pc' := 39) 0 dX12_termOf_38 rfl rfl ?_
  refine g_aload_n (pc' := 40) 0 dX12_termOf_39 rfl rfl ?_
  refine g_getI (pc' := 43) (z := 19) rfl fl_X12_253 rfl rfl dX12_termOf_40 rfl (fun rg15 => ?_)
  refine g_pVI (pc' := 46) (vs := [vI (i 99 19)]) (st := []) (val := (if i 99 19 < i 99 20 then i 101 (320 + (i 99 19)) else 0)) (c := 12) (sp_X12_codeAt (le_hd hd rfl) rg15 ob16) mv_X12_codeAt lk_X12_256 rfl rfl rfl rfl (Nat.le_of_ble_eq_true rfl) (Nat.le_of_ble_eq_true rfl) rfl dX12_termOf_43 rfl z2 (fun rg17 => ?_)
  refine g_bipush (pc' := 48) dX12_termOf_46 rfl rfl ?_
  refine g_pSI (pc' := 51) (vs := [vI 42]) (st := [vI (if i 99 19 < i 99 20 then i 101 (320 + (i 99 19)) else 0)]) (val := 142) (sp_X12_sign (le_hd hd rfl) (rg_lit rfl)) mk_X12_sign ms_X12_sign lk_X12_228 rfl (Nat.le_of_ble_eq_true rfl) (Nat.le_of_ble_eq_true rfl) rfl dX12_termOf_48 rfl z2 (fun rg18 => ?_)
  have hJ : gLg w d X_X12_termOf P i l 59 [(0, vR (some 99)), (1, vI x1), (2, vL x2)] [vI (bI ((if i 99 19 < i 99 20 then i 101 (320 + (i 99 19)) else 0) = 142))] := by
    obtain ⟨ob22, h⟩ := h
    refine g_istore (pc' := 61) (L' := [(4, vI (bI ((if i 99 19 < i 99 20 then i 101 (320 + (i 99 19)) else 0) = 142))), (0, vR (some 99)), (1, vI x1), (2, vL x2)]) dX12_termOf_59 rfl (Nat.le_of_ble_eq_true rfl) rfl ?_
    refine g_aload_n (pc' := 62) 1 dX12_termOf_61 rfl rfl ?_
    refine g_dup (pc' := 63) dX12_termOf_62 rfl rfl ?_
    refine g_getI (pc' := 66) (z := 19) rfl fl_X12_253 rfl rfl dX12_termOf_63 rfl (fun rg21 => ?_)
    refine g_iconst (pc' := 67) dX12_termOf_66 rfl ?_
    refine g_iadd (pc' := 68) dX12_termOf_67 rfl ?_
    refine g_putI (pc' := 71) (z := 19) rfl fp_X12_253 rfl rfl ob22 dX12_termOf_68 rfl ?_
    refine g_aload_n (pc' := 72) 1 dX12_termOf_71 rfl rfl ?_
    refine g_iload_n (pc' := 73) 2 dX12_termOf_72 rfl rfl ?_
    refine g_cVL (pc' := 76) (vs := [vI x1]) (st := []) (c := 12) h mv_X12_partOf lk_X12_275 rfl rfl rfl rfl (Nat.le_of_ble_eq_true rfl) (Nat.le_of_ble_eq_true rfl) rfl dX12_termOf_73 rfl z2 (fun r23 i23 l23 h => ?_)
    refine g_lstore (pc' := 78) (L' := [(5, vL r23), (4, vI (bI ((if i 99 19 < i 99 20 then i 101 (320 + (i 99 19)) else 0) = 142))), (0, vR (some 99)), (1, vI x1), (2, vL x2)]) dX12_termOf_76 rfl (Nat.le_of_ble_eq_true rfl) rfl ?_
    refine g_iload (pc' := 80) 1 dX12_termOf_78 rfl rfl ?_
    obtain ⟨hk54, hk55, hk56⟩ := h
    have hk54g : (((if i 99 19 < i 99 20 then i 101 (320 + (i 99 19)) else 0) = 142) ∨ (¬ (r23 = 0))) → gLg w d X_X12_termOf P i23 l23 113 [(5, vL r23), (4, vI (bI ((if i 99 19 < i 99 20 then i 101 (320 + (i 99 19)) else 0) = 142))), (0, vR (some 99)), (1, vI x1), (2, vL x2)] [] := by
      intro hp
      have h := hk54 hp
      refine g_aload_n (pc' := 114) 2 dX12_termOf_113 rfl rfl ?_
      refine g_iload (pc' := 116) 1 dX12_termOf_114 rfl rfl ?_
      obtain ⟨hob43, h⟩ := h
      have hJ : gLg w d X_X12_termOf P i23 l23 130 [(5, vL r23), (4, vI (bI ((if i 99 19 < i 99 20 then i 101 (320 + (i 99 19)) else 0) = 142))), (0, vR (some 99)), (1, vI x1), (2, vL x2)] [vL (if ((if i 99 19 < i 99 20 then i 101 (320 + (i 99 19)) else 0) = 142) then x2 * r23 else x2 / r23), vR (some 99)] := by
        refine g_iload_n (pc' := 131) 3 dX12_termOf_130 rfl rfl ?_
        refine g_cVL (pc' := 134) (vs := [vL (if ((if i 99 19 < i 99 20 then i 101 (320 + (i 99 19)) else 0) = 142) then x2 * r23 else x2 / r23), vI x1]) (st := []) (c := 12) h mv_X12_bounded lk_X12_271 rfl rfl rfl rfl (Nat.le_of_ble_eq_true rfl) (Nat.le_of_ble_eq_true rfl) rfl dX12_termOf_131 rfl z2 (fun r44 i44 l44 h => ?_)
        refine g_lstore_n (pc' := 135) (L' := [(2, vL r44), (5, vL r23), (4, vI (bI ((if i 99 19 < i 99 20 then i 101 (320 + (i 99 19)) else 0) = 142))), (0, vR (some 99)), (1, vI x1)]) dX12_termOf_134 rfl (Nat.le_of_ble_eq_true rfl) rfl ?_
        refine g_goto (tgt := 6) dX12_termOf_135 rfl ?_
        refine g_sub (L' := [(0, vR (some 99)), (1, vI x1), (2, vL r44)]) [3, 4, 0] rfl ?_
        exact h
      refine g_if_eq (tgt := 126) (pc' := 119) (rg_bI _) (bI_eq _) dX12_termOf_116 rfl rfl (fun c42 => ?_) (fun c42n => ?_)
      · refine g_lload_n (pc' := 127) 4 dX12_termOf_126 rfl rfl ?_
        refine g_lload (pc' := 129) 0 dX12_termOf_127 rfl rfl ?_
        refine g_ldiv (pc' := 130) dX12_termOf_129 rfl (hob43 c42) ?_
        rw [if_neg c42 (α := Int64) (t := x2 * r23) (e := x2 / r23)] at hJ
        exact hJ
      · have c42 := Decidable.of_not_not c42n
        refine g_lload_n (pc' := 120) 4 dX12_termOf_119 rfl rfl ?_
        refine g_lload (pc' := 122) 0 dX12_termOf_120 rfl rfl ?_
        refine g_lmul (pc' := 123) dX12_termOf_122 rfl ?_
        refine g_goto (tgt := 130) dX12_termOf_123 rfl ?_
        rw [if_pos c42 (α := Int64) (t := x2 * r23) (e := x2 / r23)] at hJ
        exact hJ
    have hk55g : (¬ ((if i 99 19 < i 99 20 then i 101 (320 + (i 99 19)) else 0) = 142) ∧ ((r23 = 0) ∧ (¬ (i23 99 21 = 0)))) → gLg w d X_X12_termOf P i23 l23 107 [(5, vL r23), (4, vI (bI ((if i 99 19 < i 99 20 then i 101 (320 + (i 99 19)) else 0) = 142))), (0, vR (some 99)), (1, vI x1), (2, vL x2)] [vI 1, vR (some 99)] := by
      intro hp
      have h := hk55 hp
      refine g_putZ (pc' := 110) (z := 21) rfl fp_X12_263 rfl rfl (by decide) dX12_termOf_107 rfl ?_
      refine g_lconst (pc' := 111) (v := 1) dX12_termOf_110 rfl rfl ?_
      refine g_lstore (pc' := 113) (L' := [(5, vL 1), (4, vI (bI ((if i 99 19 < i 99 20 then i 101 (320 + (i 99 19)) else 0) = 142))), (0, vR (some 99)), (1, vI x1), (2, vL x2)]) dX12_termOf_111 rfl (Nat.le_of_ble_eq_true rfl) rfl ?_
      refine g_aload_n (pc' := 114) 2 dX12_termOf_113 rfl rfl ?_
      refine g_iload (pc' := 116) 1 dX12_termOf_114 rfl rfl ?_
      have hJ : gLg w d X_X12_termOf P (u2 i23 99 21 1) l23 130 [(5, vL 1), (4, vI (bI ((if i 99 19 < i 99 20 then i 101 (320 + (i 99 19)) else 0) = 142))), (0, vR (some 99)), (1, vI x1), (2, vL x2)] [vL (if ((if i 99 19 < i 99 20 then i 101 (320 + (i 99 19)) else 0) = 142) then x2 * 1 else x2 / 1), vR (some 99)] := by
        refine g_iload_n (pc' := 131) 3 dX12_termOf_130 rfl rfl ?_
        refine g_cVL (pc' := 134) (vs := [vL (if ((if i 99 19 < i 99 20 then i 101 (320 + (i 99 19)) else 0) = 142) then x2 * 1 else x2 / 1), vI x1]) (st := []) (c := 12) h mv_X12_bounded lk_X12_271 rfl rfl rfl rfl (Nat.le_of_ble_eq_true rfl) (Nat.le_of_ble_eq_true rfl) rfl dX12_termOf_131 rfl z2 (fun r47 i47 l47 h => ?_)
        refine g_lstore_n (pc' := 135) (L' := [(2, vL r47), (5, vL 1), (4, vI (bI ((if i 99 19 < i 99 20 then i 101 (320 + (i 99 19)) else 0) = 142))), (0, vR (some 99)), (1, vI x1)]) dX12_termOf_134 rfl (Nat.le_of_ble_eq_true rfl) rfl ?_
        refine g_goto (tgt := 6) dX12_termOf_135 rfl ?_
        refine g_sub (L' := [(0, vR (some 99)), (1, vI x1), (2, vL r47)]) [3, 4, 0] rfl ?_
        exact h
      refine g_if_eq (tgt := 126) (pc' := 119) (rg_bI _) (bI_eq _) dX12_termOf_116 rfl rfl (fun c46 => ?_) (fun c46n => ?_)
      · refine g_lload_n (pc' := 127) 4 dX12_termOf_126 rfl rfl ?_
        refine g_lload (pc' := 129) 0 dX12_termOf_127 rfl rfl ?_
        refine g_ldiv (pc' := 130) dX12_termOf_129 rfl (by decide) ?_
        rw [if_neg c46 (α := Int64) (t := x2 * 1) (e := x2 / 1)] at hJ
        exact hJ
      · have c46 := Decidable.of_not_not c46n
        refine g_lload_n (pc' := 120) 4 dX12_termOf_119 rfl rfl ?_
        refine g_lload (pc' := 122) 0 dX12_termOf_120 rfl rfl ?_
        refine g_lmul (pc' := 123) dX12_termOf_122 rfl ?_
        refine g_goto (tgt := 130) dX12_termOf_123 rfl ?_
        rw [if_pos c46 (α := Int64) (t := x2 * 1) (e := x2 / 1)] at hJ
        exact hJ
    have hk56g : (¬ ((if i 99 19 < i 99 20 then i 101 (320 + (i 99 19)) else 0) = 142) ∧ ((r23 = 0) ∧ (i23 99 21 = 0))) → gLg w d X_X12_termOf P i23 l23 98 [(5, vL r23), (4, vI (bI ((if i 99 19 < i 99 20 then i 101 (320 + (i 99 19)) else 0) = 142))), (0, vR (some 99)), (1, vI x1), (2, vL x2)] [vR (some 99)] := by
      intro hp
      have h := hk56 hp
      refine g_iload_n (pc' := 99) 3 dX12_termOf_98 rfl rfl ?_
      obtain ⟨hob49, h⟩ := h
      have hJ : gLg w d X_X12_termOf P i23 l23 107 [(5, vL r23), (4, vI (bI ((if i 99 19 < i 99 20 then i 101 (320 + (i 99 19)) else 0) = 142))), (0, vR (some 99)), (1, vI x1), (2, vL x2)] [vI (bI (¬ (x1 = 0))), vR (some 99)] := by
        refine g_putZ (pc' := 110) (z := 21) rfl fp_X12_263 rfl rfl (bI_01 _) dX12_termOf_107 rfl ?_
        refine g_lconst (pc' := 111) (v := 1) dX12_termOf_110 rfl rfl ?_
        refine g_lstore (pc' := 113) (L' := [(5, vL 1), (4, vI (bI ((if i 99 19 < i 99 20 then i 101 (320 + (i 99 19)) else 0) = 142))), (0, vR (some 99)), (1, vI x1), (2, vL x2)]) dX12_termOf_111 rfl (Nat.le_of_ble_eq_true rfl) rfl ?_
        refine g_aload_n (pc' := 114) 2 dX12_termOf_113 rfl rfl ?_
        refine g_iload (pc' := 116) 1 dX12_termOf_114 rfl rfl ?_
        have hJ : gLg w d X_X12_termOf P (u2 i23 99 21 (bI (¬ (x1 = 0)))) l23 130 [(5, vL 1), (4, vI (bI ((if i 99 19 < i 99 20 then i 101 (320 + (i 99 19)) else 0) = 142))), (0, vR (some 99)), (1, vI x1), (2, vL x2)] [vL (if ((if i 99 19 < i 99 20 then i 101 (320 + (i 99 19)) else 0) = 142) then x2 * 1 else x2 / 1), vR (some 99)] := by
          refine g_iload_n (pc' := 131) 3 dX12_termOf_130 rfl rfl ?_
          refine g_cVL (pc' := 134) (vs := [vL (if ((if i 99 19 < i 99 20 then i 101 (320 + (i 99 19)) else 0) = 142) then x2 * 1 else x2 / 1), vI x1]) (st := []) (c := 12) h mv_X12_bounded lk_X12_271 rfl rfl rfl rfl (Nat.le_of_ble_eq_true rfl) (Nat.le_of_ble_eq_true rfl) rfl dX12_termOf_131 rfl z2 (fun r53 i53 l53 h => ?_)
          refine g_lstore_n (pc' := 135) (L' := [(2, vL r53), (5, vL 1), (4, vI (bI ((if i 99 19 < i 99 20 then i 101 (320 + (i 99 19)) else 0) = 142))), (0, vR (some 99)), (1, vI x1)]) dX12_termOf_134 rfl (Nat.le_of_ble_eq_true rfl) rfl ?_
          refine g_goto (tgt := 6) dX12_termOf_135 rfl ?_
          refine g_sub (L' := [(0, vR (some 99)), (1, vI x1), (2, vL r53)]) [3, 4, 0] rfl ?_
          exact h
        refine g_if_eq (tgt := 126) (pc' := 119) (rg_bI _) (bI_eq _) dX12_termOf_116 rfl rfl (fun c52 => ?_) (fun c52n => ?_)
        · refine g_lload_n (pc' := 127) 4 dX12_termOf_126 rfl rfl ?_
          refine g_lload (pc' := 129) 0 dX12_termOf_127 rfl rfl ?_
          refine g_ldiv (pc' := 130) dX12_termOf_129 rfl (by decide) ?_
          rw [if_neg c52 (α := Int64) (t := x2 * 1) (e := x2 / 1)] at hJ
          exact hJ
        · have c52 := Decidable.of_not_not c52n
          refine g_lload_n (pc' := 120) 4 dX12_termOf_119 rfl rfl ?_
          refine g_lload (pc' := 122) 0 dX12_termOf_120 rfl rfl ?_
          refine g_lmul (pc' := 123) dX12_termOf_122 rfl ?_
          refine g_goto (tgt := 130) dX12_termOf_123 rfl ?_
          rw [if_pos c52 (α := Int64) (t := x2 * 1) (e := x2 / 1)] at hJ
          exact hJ
      refine g_if_eq (tgt := 106) (pc' := 102) (hob49) Iff.rfl dX12_termOf_99 rfl rfl (fun c50 => ?_) (fun c50 => ?_)
      · refine g_iconst (pc' := 107) dX12_termOf_106 rfl ?_
        rw [bI_f (p := (¬ (x1 = 0))) (fun q => q c50)] at hJ
        exact hJ
      · refine g_iconst (pc' := 103) dX12_termOf_102 rfl ?_
        refine g_goto (tgt := 107) dX12_termOf_103 rfl ?_
        rw [bI_t (p := (¬ (x1 = 0))) c50] at hJ
        exact hJ
    refine g_if_ne (tgt := 113) (pc' := 83) (rg_bI _) (bI_eq _) dX12_termOf_80 rfl rfl (fun c37n => ?_) (fun c37 => ?_)
    · have c37 := Decidable.of_not_not c37n
      exact hk54g (Or.inl c37)
    · refine g_lload (pc' := 85) 0 dX12_termOf_83 rfl rfl ?_
      refine g_lconst (pc' := 86) (v := 0) dX12_termOf_85 rfl rfl ?_
      refine g_lcmp (pc' := 87) dX12_termOf_86 rfl ?_
      refine g_if_ne (tgt := 113) (pc' := 90) (rg_lcmpI _ _) (lcmpI_eq _ _) dX12_termOf_87 rfl rfl (fun c38 => ?_) (fun c38 => ?_)
      · exact hk54g (Or.inr c38)
      · refine g_aload_n (pc' := 91) 2 dX12_termOf_90 rfl rfl ?_
        refine g_aload_n (pc' := 92) 2 dX12_termOf_91 rfl rfl ?_
        refine g_getI (pc' := 95) (z := 21) rfl fl_X12_263 rfl rfl dX12_termOf_92 rfl (fun rg39 => ?_)
        refine g_if_ne (tgt := 102) (pc' := 98) rg39 Iff.rfl dX12_termOf_95 rfl rfl (fun c40 => ?_) (fun c40 => ?_)
        · refine g_iconst (pc' := 103) dX12_termOf_102 rfl ?_
          refine g_goto (tgt := 107) dX12_termOf_103 rfl ?_
          exact hk55g ⟨c37, ⟨c38, c40⟩⟩
        · exact hk56g ⟨c37, ⟨c38, c40⟩⟩
  refine g_icmp_ne (tgt := 58) (pc' := 54) rg17 rg18 Iff.rfl dX12_termOf_51 rfl rfl (fun c20 => ?_) (fun c20 => ?_)
  · refine g_iconst (pc' := 59) dX12_termOf_58 rfl ?_
    rw [bI_f (p := ((if i 99 19 < i 99 20 then i 101 (320 + (i 99 19)) else 0) = 142)) c20] at hJ
    exact hJ
  · refine g_iconst (pc' := 55) dX12_termOf_54 rfl ?_
    refine g_goto (tgt := 59) dX12_termOf_55 rfl ?_
    rw [bI_t (p := ((if i 99 19 < i 99 20 then i 101 (320 + (i 99 19)) else 0) = 142)) c20] at hJ
    exact hJ

theorem dX12_partOf_0 : decode cX12_partOf 0 = .ok (.aload_n 0, 1) := by decide +kernel
theorem dX12_partOf_1 : decode cX12_partOf 1 = .ok (.bipush 91, 2) := by decide +kernel
theorem dX12_partOf_3 : decode cX12_partOf 3 = .ok (.invokestatic 228, 3) := by decide +kernel
theorem dX12_partOf_6 : decode cX12_partOf 6 = .ok (.invokevirtual 278, 3) := by decide +kernel
theorem dX12_partOf_9 : decode cX12_partOf 9 = .ok (.ifCond .eq 21, 3) := by decide +kernel
theorem dX12_partOf_12 : decode cX12_partOf 12 = .ok (.aload_n 0, 1) := by decide +kernel
theorem dX12_partOf_13 : decode cX12_partOf 13 = .ok (.iload_n 1, 1) := by decide +kernel
theorem dX12_partOf_14 : decode cX12_partOf 14 = .ok (.invokevirtual 281, 3) := by decide +kernel
theorem dX12_partOf_17 : decode cX12_partOf 17 = .ok (.lstore_n 2, 1) := by decide +kernel
theorem dX12_partOf_18 : decode cX12_partOf 18 = .ok (.aload_n 0, 1) := by decide +kernel
theorem dX12_partOf_19 : decode cX12_partOf 19 = .ok (.dup, 1) := by decide +kernel
theorem dX12_partOf_20 : decode cX12_partOf 20 = .ok (.getfield 253, 3) := by decide +kernel
theorem dX12_partOf_23 : decode cX12_partOf 23 = .ok (.iconst 1, 1) := by decide +kernel
theorem dX12_partOf_24 : decode cX12_partOf 24 = .ok (.iadd, 1) := by decide +kernel
theorem dX12_partOf_25 : decode cX12_partOf 25 = .ok (.putfield 253, 3) := by decide +kernel
theorem dX12_partOf_28 : decode cX12_partOf 28 = .ok (.lload_n 2, 1) := by decide +kernel
theorem dX12_partOf_29 : decode cX12_partOf 29 = .ok (.lreturn, 1) := by decide +kernel
theorem dX12_partOf_30 : decode cX12_partOf 30 = .ok (.aload_n 0, 1) := by decide +kernel
theorem dX12_partOf_31 : decode cX12_partOf 31 = .ok (.aload_n 0, 1) := by decide +kernel
theorem dX12_partOf_32 : decode cX12_partOf 32 = .ok (.getfield 253, 3) := by decide +kernel
theorem dX12_partOf_35 : decode cX12_partOf 35 = .ok (.invokevirtual 256, 3) := by decide +kernel
theorem dX12_partOf_38 : decode cX12_partOf 38 = .ok (.istore_n 2, 1) := by decide +kernel
theorem dX12_partOf_39 : decode cX12_partOf 39 = .ok (.aload_n 0, 1) := by decide +kernel
theorem dX12_partOf_40 : decode cX12_partOf 40 = .ok (.dup, 1) := by decide +kernel
theorem dX12_partOf_41 : decode cX12_partOf 41 = .ok (.getfield 253, 3) := by decide +kernel
theorem dX12_partOf_44 : decode cX12_partOf 44 = .ok (.iconst 1, 1) := by decide +kernel
theorem dX12_partOf_45 : decode cX12_partOf 45 = .ok (.iadd, 1) := by decide +kernel
theorem dX12_partOf_46 : decode cX12_partOf 46 = .ok (.putfield 253, 3) := by decide +kernel
theorem dX12_partOf_49 : decode cX12_partOf 49 = .ok (.iload_n 1, 1) := by decide +kernel
theorem dX12_partOf_50 : decode cX12_partOf 50 = .ok (.ifCond .eq 10, 3) := by decide +kernel
theorem dX12_partOf_53 : decode cX12_partOf 53 = .ok (.aload_n 0, 1) := by decide +kernel
theorem dX12_partOf_54 : decode cX12_partOf 54 = .ok (.getfield 263, 3) := by decide +kernel
theorem dX12_partOf_57 : decode cX12_partOf 57 = .ok (.ifCond .eq 5, 3) := by decide +kernel
theorem dX12_partOf_60 : decode cX12_partOf 60 = .ok (.lconst 0, 1) := by decide +kernel
theorem dX12_partOf_61 : decode cX12_partOf 61 = .ok (.lreturn, 1) := by decide +kernel
theorem dX12_partOf_62 : decode cX12_partOf 62 = .ok (.iload_n 2, 1) := by decide +kernel
theorem dX12_partOf_63 : decode cX12_partOf 63 = .ok (.bipush 50, 2) := by decide +kernel
theorem dX12_partOf_65 : decode cX12_partOf 65 = .ok (.if_icmp .ne 22, 3) := by decide +kernel
theorem dX12_partOf_68 : decode cX12_partOf 68 = .ok (.aload_n 0, 1) := by decide +kernel
theorem dX12_partOf_69 : decode cX12_partOf 69 = .ok (.getfield 20, 3) := by decide +kernel
theorem dX12_partOf_72 : decode cX12_partOf 72 = .ok (.sipush 2720, 3) := by decide +kernel
theorem dX12_partOf_75 : decode cX12_partOf 75 = .ok (.aload_n 0, 1) := by decide +kernel
theorem dX12_partOf_76 : decode cX12_partOf 76 = .ok (.getfield 253, 3) := by decide +kernel
theorem dX12_partOf_79 : decode cX12_partOf 79 = .ok (.iadd, 1) := by decide +kernel
theorem dX12_partOf_80 : decode cX12_partOf 80 = .ok (.iconst 1, 1) := by decide +kernel
theorem dX12_partOf_81 : decode cX12_partOf 81 = .ok (.isub, 1) := by decide +kernel
theorem dX12_partOf_82 : decode cX12_partOf 82 = .ok (.iaload, 1) := by decide +kernel
theorem dX12_partOf_83 : decode cX12_partOf 83 = .ok (.i2l, 1) := by decide +kernel
theorem dX12_partOf_84 : decode cX12_partOf 84 = .ok (.goto 13, 3) := by decide +kernel
theorem dX12_partOf_87 : decode cX12_partOf 87 = .ok (.aload_n 0, 1) := by decide +kernel
theorem dX12_partOf_88 : decode cX12_partOf 88 = .ok (.getfield 52, 3) := by decide +kernel
theorem dX12_partOf_91 : decode cX12_partOf 91 = .ok (.iload_n 2, 1) := by decide +kernel
theorem dX12_partOf_92 : decode cX12_partOf 92 = .ok (.bipush 9, 2) := by decide +kernel
theorem dX12_partOf_94 : decode cX12_partOf 94 = .ok (.isub, 1) := by decide +kernel
theorem dX12_partOf_95 : decode cX12_partOf 95 = .ok (.iaload, 1) := by decide +kernel
theorem dX12_partOf_96 : decode cX12_partOf 96 = .ok (.i2l, 1) := by decide +kernel
theorem dX12_partOf_97 : decode cX12_partOf 97 = .ok (.lreturn, 1) := by decide +kernel
set_option maxRecDepth 20000 in
theorem s_X12_partOf {w : Wd} {d : Nat} {P : Int64 → IM → LM → Prop} {i : IM} {l : LM} (p0 : Int)  (hd : 1 ≤ d) (h : cI w d X_X12_passes0 [vR (some 99), vI 191] i l (fun r2 i2 l2 => (((r2 = 0) → ((i2 99 19 < i2 99 20 → 0 ≤ 320 + (i2 99 19) ∧ 320 + (i2 99 19) < 5120) ∧ (rg ((i2 99 19) + 1)) ∧ ((rg p0) ∧ (((p0 = 0) ∨ (¬ ((u2 i2 99 19 ((i2 99 19) + 1)) 99 21 = 0))) → P 0 (u2 i2 99 19 ((i2 99 19) + 1)) l2) ∧ ((¬ ((p0 = 0) ∨ (¬ ((u2 i2 99 19 ((i2 99 19) + 1)) 99 21 = 0)))) → ((¬ ((if i2 99 19 < i2 99 20 then i2 101 (320 + (i2 99 19)) else 0) = 50) → 0 ≤ (if i2 99 19 < i2 99 20 then i2 101 (320 + (i2 99 19)) else 0) - 9 ∧ (if i2 99 19 < i2 99 20 then i2 101 (320 + (i2 99 19)) else 0) - 9 < 9) ∧ (((if i2 99 19 < i2 99 20 then i2 101 (320 + (i2 99 19)) else 0) = 50) → 0 ≤ (2720 + ((u2 i2 99 19 ((i2 99 19) + 1)) 99 19)) - 1 ∧ (2720 + ((u2 i2 99 19 ((i2 99 19) + 1)) 99 19)) - 1 < 5120) ∧ P (if ((if i2 99 19 < i2 99 20 then i2 101 (320 + (i2 99 19)) else 0) = 50) then i2l ((u2 i2 99 19 ((i2 99 19) + 1)) 101 ((2720 + ((u2 i2 99 19 ((i2 99 19) + 1)) 99 19)) - 1)) else i2l ((u2 i2 99 19 ((i2 99 19) + 1)) 110 ((if i2 99 19 < i2 99 20 then i2 101 (320 + (i2 99 19)) else 0) - 9))) (u2 i2 99 19 ((i2 99 19) + 1)) l2))))) ∧ ((¬ (r2 = 0)) → cL w d X_X12_sumOf [vR (some 99), vI p0] i2 l2 (fun r57 i57 l57 => ((rg ((i57 99 19) + 1)) ∧ P r57 (u2 i57 99 19 ((i57 99 19) + 1)) l57)))))) : gLg w d X_X12_partOf P i l 0 [(0, vR (some 99)), (1, vI p0)] [] := by
  refine g_aload_n (pc' := 1) 0 dX12_partOf_0 rfl rfl ?_
  refine g_bipush (pc' := 3) dX12_partOf_1 rfl rfl ?_
  refine g_pSI (pc' := 6) (vs := [vI 91]) (st := [vR (some 99)]) (val := 191) (sp_X12_sign (le_hd hd rfl) (rg_lit rfl)) mk_X12_sign ms_X12_sign lk_X12_228 rfl (Nat.le_of_ble_eq_true rfl) (Nat.le_of_ble_eq_true rfl) rfl dX12_partOf_3 rfl z2 (fun rg1 => ?_)
  refine g_cVI (pc' := 9) (vs := [vI 191]) (st := []) (c := 12) h mv_X12_passes0 lk_X12_278 rfl rfl rfl rfl (Nat.le_of_ble_eq_true rfl) (Nat.le_of_ble_eq_true rfl) rfl dX12_partOf_6 rfl z2 (fun r2 i2 l2 rg2 h => ?_)
  obtain ⟨hk60, hk61⟩ := h
  refine g_if_eq (tgt := 30) (pc' := 12) rg2 Iff.rfl dX12_partOf_9 rfl rfl (fun c4 => ?_) (fun c4 => ?_)
  · have h := hk60 c4
    obtain ⟨ob9, ob12, h⟩ := h
    refine g_aload_n (pc' := 31) 0 dX12_partOf_30 rfl rfl ?_
    refine g_aload_n (pc' := 32) 0 dX12_partOf_31 rfl rfl ?_
    refine g_getI (pc' := 35) (z := 19) rfl fl_X12_253 rfl rfl dX12_partOf_32 rfl (fun rg8 => ?_)
    refine g_pVI (pc' := 38) (vs := [vI (i2 99 19)]) (st := []) (val := (if i2 99 19 < i2 99 20 then i2 101 (320 + (i2 99 19)) else 0)) (c := 12) (sp_X12_codeAt (le_hd hd rfl) rg8 ob9) mv_X12_codeAt lk_X12_256 rfl rfl rfl rfl (Nat.le_of_ble_eq_true rfl) (Nat.le_of_ble_eq_true rfl) rfl dX12_partOf_35 rfl z2 (fun rg10 => ?_)
    refine g_istore_n (pc' := 39) (L' := [(2, vI (if i2 99 19 < i2 99 20 then i2 101 (320 + (i2 99 19)) else 0)), (0, vR (some 99)), (1, vI p0)]) dX12_partOf_38 rfl (Nat.le_of_ble_eq_true rfl) rfl ?_
    refine g_aload_n (pc' := 40) 1 dX12_partOf_39 rfl rfl ?_
    refine g_dup (pc' := 41) dX12_partOf_40 rfl rfl ?_
    refine g_getI (pc' := 44) (z := 19) rfl fl_X12_253 rfl rfl dX12_partOf_41 rfl (fun rg11 => ?_)
    refine g_iconst (pc' := 45) dX12_partOf_44 rfl ?_
    refine g_iadd (pc' := 46) dX12_partOf_45 rfl ?_
    refine g_putI (pc' := 49) (z := 19) rfl fp_X12_253 rfl rfl ob12 dX12_partOf_46 rfl ?_
    refine g_iload_n (pc' := 50) 2 dX12_partOf_49 rfl rfl ?_
    obtain ⟨hob44, hk55, hk56⟩ := h
    have hk55g : ((p0 = 0) ∨ (¬ ((u2 i2 99 19 ((i2 99 19) + 1)) 99 21 = 0))) → gLg w d X_X12_partOf P (u2 i2 99 19 ((i2 99 19) + 1)) l2 60 [(2, vI (if i2 99 19 < i2 99 20 then i2 101 (320 + (i2 99 19)) else 0)), (0, vR (some 99)), (1, vI p0)] [] := by
      intro hp
      have h := hk55 hp
      refine g_lconst (pc' := 61) (v := 0) dX12_partOf_60 rfl rfl ?_
      exact g_retL rfl dX12_partOf_61 h
    have hk56g : (¬ ((p0 = 0) ∨ (¬ ((u2 i2 99 19 ((i2 99 19) + 1)) 99 21 = 0)))) → gLg w d X_X12_partOf P (u2 i2 99 19 ((i2 99 19) + 1)) l2 62 [(2, vI (if i2 99 19 < i2 99 20 then i2 101 (320 + (i2 99 19)) else 0)), (0, vR (some 99)), (1, vI p0)] [] := by
      intro hp
      have h := hk56 hp
      refine g_iload_n (pc' := 63) 0 dX12_partOf_62 rfl rfl ?_
      refine g_bipush (pc' := 65) dX12_partOf_63 rfl rfl ?_
      obtain ⟨hob50, hob53, h⟩ := h
      have hJ : gLg w d X_X12_partOf P (u2 i2 99 19 ((i2 99 19) + 1)) l2 97 [(2, vI (if i2 99 19 < i2 99 20 then i2 101 (320 + (i2 99 19)) else 0)), (0, vR (some 99)), (1, vI p0)] [vL (if ((if i2 99 19 < i2 99 20 then i2 101 (320 + (i2 99 19)) else 0) = 50) then i2l ((u2 i2 99 19 ((i2 99 19) + 1)) 101 ((2720 + ((u2 i2 99 19 ((i2 99 19) + 1)) 99 19)) - 1)) else i2l ((u2 i2 99 19 ((i2 99 19) + 1)) 110 ((if i2 99 19 < i2 99 20 then i2 101 (320 + (i2 99 19)) else 0) - 9)))] := by
        exact g_retL rfl dX12_partOf_97 h
      refine g_icmp_ne (tgt := 87) (pc' := 68) rg10 (rg_lit rfl) Iff.rfl dX12_partOf_65 rfl rfl (fun c49 => ?_) (fun c49 => ?_)
      · refine g_aload_n (pc' := 88) 1 dX12_partOf_87 rfl rfl ?_
        refine g_getR (pc' := 91) (o := some 110) fl_X12_52 rfl rfl rfl dX12_partOf_88 rfl ?_
        refine g_iload_n (pc' := 92) 0 dX12_partOf_91 rfl rfl ?_
        refine g_bipush (pc' := 94) dX12_partOf_92 rfl rfl ?_
        refine g_isub (pc' := 95) dX12_partOf_94 rfl ?_
        refine g_iald (pc' := 96) (N := 9) rfl rfl (Nat.lt_of_lt_of_le (Nat.lt_succ_self _) (Nat.le_of_ble_eq_true rfl)) (hob50 c49) dX12_partOf_95 rfl (fun rg51 => ?_)
        refine g_i2l (pc' := 97) dX12_partOf_96 rfl ?_
        rw [if_neg c49 (α := Int64) (t := i2l ((u2 i2 99 19 ((i2 99 19) + 1)) 101 ((2720 + ((u2 i2 99 19 ((i2 99 19) + 1)) 99 19)) - 1))) (e := i2l ((u2 i2 99 19 ((i2 99 19) + 1)) 110 ((if i2 99 19 < i2 99 20 then i2 101 (320 + (i2 99 19)) else 0) - 9)))] at hJ
        exact hJ
      · refine g_aload_n (pc' := 69) 1 dX12_partOf_68 rfl rfl ?_
        refine g_getR (pc' := 72) (o := some 101) fl_X12_20 rfl rfl rfl dX12_partOf_69 rfl ?_
        refine g_sipush (pc' := 75) dX12_partOf_72 rfl rfl ?_
        refine g_aload_n (pc' := 76) 1 dX12_partOf_75 rfl rfl ?_
        refine g_getI (pc' := 79) (z := 19) rfl fl_X12_253 rfl rfl dX12_partOf_76 rfl (fun rg52 => ?_)
        refine g_iadd (pc' := 80) dX12_partOf_79 rfl ?_
        refine g_iconst (pc' := 81) dX12_partOf_80 rfl ?_
        refine g_isub (pc' := 82) dX12_partOf_81 rfl ?_
        refine g_iald (pc' := 83) (N := 5120) rfl rfl (Nat.lt_of_lt_of_le (Nat.lt_succ_self _) (Nat.le_of_ble_eq_true rfl)) (hob53 c49) dX12_partOf_82 rfl (fun rg54 => ?_)
        refine g_i2l (pc' := 84) dX12_partOf_83 rfl ?_
        refine g_goto (tgt := 97) dX12_partOf_84 rfl ?_
        rw [if_pos c49 (α := Int64) (t := i2l ((u2 i2 99 19 ((i2 99 19) + 1)) 101 ((2720 + ((u2 i2 99 19 ((i2 99 19) + 1)) 99 19)) - 1))) (e := i2l ((u2 i2 99 19 ((i2 99 19) + 1)) 110 ((if i2 99 19 < i2 99 20 then i2 101 (320 + (i2 99 19)) else 0) - 9)))] at hJ
        exact hJ
    refine g_if_eq (tgt := 60) (pc' := 53) (hob44) Iff.rfl dX12_partOf_50 rfl rfl (fun c45 => ?_) (fun c45 => ?_)
    · exact hk55g (Or.inl c45)
    · refine g_aload_n (pc' := 54) 1 dX12_partOf_53 rfl rfl ?_
      refine g_getI (pc' := 57) (z := 21) rfl fl_X12_263 rfl rfl dX12_partOf_54 rfl (fun rg46 => ?_)
      refine g_if_eq (tgt := 62) (pc' := 60) rg46 Iff.rfl dX12_partOf_57 rfl rfl (fun c47 => ?_) (fun c47 => ?_)
      · exact hk56g (fun q => q.elim c45 (fun q => q c47))
      · exact hk55g (Or.inr c47)
  · have h := hk61 c4
    refine g_aload_n (pc' := 13) 0 dX12_partOf_12 rfl rfl ?_
    refine g_iload_n (pc' := 14) 1 dX12_partOf_13 rfl rfl ?_
    refine g_cVL (pc' := 17) (vs := [vI p0]) (st := []) (c := 12) h mv_X12_sumOf lk_X12_281 rfl rfl rfl rfl (Nat.le_of_ble_eq_true rfl) (Nat.le_of_ble_eq_true rfl) rfl dX12_partOf_14 rfl z2 (fun r57 i57 l57 h => ?_)
    obtain ⟨ob59, h⟩ := h
    refine g_lstore_n (pc' := 18) (L' := [(2, vL r57), (0, vR (some 99)), (1, vI p0)]) dX12_partOf_17 rfl (Nat.le_of_ble_eq_true rfl) rfl ?_
    refine g_aload_n (pc' := 19) 1 dX12_partOf_18 rfl rfl ?_
    refine g_dup (pc' := 20) dX12_partOf_19 rfl rfl ?_
    refine g_getI (pc' := 23) (z := 19) rfl fl_X12_253 rfl rfl dX12_partOf_20 rfl (fun rg58 => ?_)
    refine g_iconst (pc' := 24) dX12_partOf_23 rfl ?_
    refine g_iadd (pc' := 25) dX12_partOf_24 rfl ?_
    refine g_putI (pc' := 28) (z := 19) rfl fp_X12_253 rfl rfl ob59 dX12_partOf_25 rfl ?_
    refine g_lload_n (pc' := 29) 0 dX12_partOf_28 rfl rfl ?_
    exact g_retL rfl dX12_partOf_29 h
theorem e_X12_partOf {w : Wd} {d : Nat} {P : Int64 → IM → LM → Prop} {i : IM} {l : LM} {p0 : Int}  (h : gLg w d X_X12_partOf P i l 0 [(0, vR (some 99)), (1, vI p0)] []) : cL w (d + 1) X_X12_partOf [vR (some 99), vI p0] i l P := CL_of (by decide +kernel) (Nat.le_of_ble_eq_true rfl) h
