theorem dX12_lowestOf_0 : decode cX12_lowestOf 0 = .ok (.iconst 1, 1) := by decide +kernel
theorem dX12_lowestOf_1 : decode cX12_lowestOf 1 = .ok (.iload_n 1, 1) := by decide +kernel
theorem dX12_lowestOf_2 : decode cX12_lowestOf 2 = .ok (.ishl, 1) := by decide +kernel
theorem dX12_lowestOf_3 : decode cX12_lowestOf 3 = .ok (.istore_n 2, 1) := by decide +kernel
theorem dX12_lowestOf_4 : decode cX12_lowestOf 4 = .ok (.iconst 0, 1) := by decide +kernel
theorem dX12_lowestOf_5 : decode cX12_lowestOf 5 = .ok (.istore_n 3, 1) := by decide +kernel
theorem dX12_lowestOf_6 : decode cX12_lowestOf 6 = .ok (.iload_n 2, 1) := by decide +kernel
theorem dX12_lowestOf_7 : decode cX12_lowestOf 7 = .ok (.iload_n 3, 1) := by decide +kernel
theorem dX12_lowestOf_8 : decode cX12_lowestOf 8 = .ok (.if_icmp .eq 46, 3) := by decide +kernel
theorem dX12_lowestOf_11 : decode cX12_lowestOf 11 = .ok (.iload_n 2, 1) := by decide +kernel
theorem dX12_lowestOf_12 : decode cX12_lowestOf 12 = .ok (.istore_n 3, 1) := by decide +kernel
theorem dX12_lowestOf_13 : decode cX12_lowestOf 13 = .ok (.iconst 0, 1) := by decide +kernel
theorem dX12_lowestOf_14 : decode cX12_lowestOf 14 = .ok (.istore 4, 2) := by decide +kernel
theorem dX12_lowestOf_16 : decode cX12_lowestOf 16 = .ok (.iload 4, 2) := by decide +kernel
theorem dX12_lowestOf_18 : decode cX12_lowestOf 18 = .ok (.bipush 8, 2) := by decide +kernel
theorem dX12_lowestOf_20 : decode cX12_lowestOf 20 = .ok (.if_icmp .ge 31, 3) := by decide +kernel
theorem dX12_lowestOf_23 : decode cX12_lowestOf 23 = .ok (.iload_n 3, 1) := by decide +kernel
theorem dX12_lowestOf_24 : decode cX12_lowestOf 24 = .ok (.iload 4, 2) := by decide +kernel
theorem dX12_lowestOf_26 : decode cX12_lowestOf 26 = .ok (.invokestatic 147, 3) := by decide +kernel
theorem dX12_lowestOf_29 : decode cX12_lowestOf 29 = .ok (.ifCond .eq 16, 3) := by decide +kernel
theorem dX12_lowestOf_32 : decode cX12_lowestOf 32 = .ok (.iload_n 2, 1) := by decide +kernel
theorem dX12_lowestOf_33 : decode cX12_lowestOf 33 = .ok (.aload_n 0, 1) := by decide +kernel
theorem dX12_lowestOf_34 : decode cX12_lowestOf 34 = .ok (.getfield 20, 3) := by decide +kernel
theorem dX12_lowestOf_37 : decode cX12_lowestOf 37 = .ok (.bipush 119, 2) := by decide +kernel
theorem dX12_lowestOf_39 : decode cX12_lowestOf 39 = .ok (.iload 4, 2) := by decide +kernel
theorem dX12_lowestOf_41 : decode cX12_lowestOf 41 = .ok (.iadd, 1) := by decide +kernel
theorem dX12_lowestOf_42 : decode cX12_lowestOf 42 = .ok (.iaload, 1) := by decide +kernel
theorem dX12_lowestOf_43 : decode cX12_lowestOf 43 = .ok (.ior, 1) := by decide +kernel
theorem dX12_lowestOf_44 : decode cX12_lowestOf 44 = .ok (.istore_n 2, 1) := by decide +kernel
theorem dX12_lowestOf_45 : decode cX12_lowestOf 45 = .ok (.iinc 4 1, 3) := by decide +kernel
theorem dX12_lowestOf_48 : decode cX12_lowestOf 48 = .ok (.goto (-32), 3) := by decide +kernel
theorem dX12_lowestOf_51 : decode cX12_lowestOf 51 = .ok (.goto (-45), 3) := by decide +kernel
theorem dX12_lowestOf_54 : decode cX12_lowestOf 54 = .ok (.iconst 0, 1) := by decide +kernel
theorem dX12_lowestOf_55 : decode cX12_lowestOf 55 = .ok (.istore 4, 2) := by decide +kernel
theorem dX12_lowestOf_57 : decode cX12_lowestOf 57 = .ok (.iload_n 2, 1) := by decide +kernel
theorem dX12_lowestOf_58 : decode cX12_lowestOf 58 = .ok (.iload 4, 2) := by decide +kernel
theorem dX12_lowestOf_60 : decode cX12_lowestOf 60 = .ok (.invokestatic 147, 3) := by decide +kernel
theorem dX12_lowestOf_63 : decode cX12_lowestOf 63 = .ok (.ifCond .ne 9, 3) := by decide +kernel
theorem dX12_lowestOf_66 : decode cX12_lowestOf 66 = .ok (.iinc 4 1, 3) := by decide +kernel
theorem dX12_lowestOf_69 : decode cX12_lowestOf 69 = .ok (.goto (-12), 3) := by decide +kernel
theorem dX12_lowestOf_72 : decode cX12_lowestOf 72 = .ok (.iload 4, 2) := by decide +kernel
theorem dX12_lowestOf_74 : decode cX12_lowestOf 74 = .ok (.ireturn, 1) := by decide +kernel
set_option maxRecDepth 20000 in
theorem s_X12_lowestOf {w : Wd} {d : Nat} {P : Int → IM → LM → Prop} {i : IM} {l : LM} (p0 : Int)  (h : gI w d X_X12_lowestOf P i l 6 [(0, vR (some 99)), (2, vI (ishl 1 p0)), (3, vI 0)] []) : gI w d X_X12_lowestOf P i l 0 [(0, vR (some 99)), (1, vI p0)] [] := by
  refine g_iconst (pc' := 1) dX12_lowestOf_0 rfl ?_
  refine g_iload_n (pc' := 2) 1 dX12_lowestOf_1 rfl rfl ?_
  refine g_ishl (pc' := 3) dX12_lowestOf_2 rfl ?_
  refine g_istore_n (pc' := 4) (L' := [(2, vI (ishl 1 p0)), (0, vR (some 99)), (1, vI p0)]) dX12_lowestOf_3 rfl (Nat.le_of_ble_eq_true rfl) rfl ?_
  refine g_iconst (pc' := 5) dX12_lowestOf_4 rfl ?_
  refine g_istore_n (pc' := 6) (L' := [(3, vI 0), (2, vI (ishl 1 p0)), (0, vR (some 99)), (1, vI p0)]) dX12_lowestOf_5 rfl (Nat.le_of_ble_eq_true rfl) rfl ?_
  refine g_sub (L' := [(0, vR (some 99)), (2, vI (ishl 1 p0)), (3, vI 0)]) [2, 1, 0] rfl ?_
  exact h
theorem e_X12_lowestOf {w : Wd} {d : Nat} {P : Int → IM → LM → Prop} {i : IM} {l : LM} {p0 : Int}  (h : gI w d X_X12_lowestOf P i l 0 [(0, vR (some 99)), (1, vI p0)] []) : cI w (d + 1) X_X12_lowestOf [vR (some 99), vI p0] i l P := CI_of (by decide +kernel) (Nat.le_of_ble_eq_true rfl) h
set_option maxRecDepth 20000 in
theorem s_X12_lowestOf_6 {w : Wd} {d : Nat} {P : Int → IM → LM → Prop} {i : IM} {l : LM} (x2 : Int) (x3 : Int)  (h : ((rg x2) ∧ (rg x3) ∧ ((x2 = x3) → gI w d X_X12_lowestOf P i l 57 [(2, vI x2), (4, vI 0)] []) ∧ ((¬ (x2 = x3)) → gI w d X_X12_lowestOf P i l 16 [(0, vR (some 99)), (2, vI x2), (3, vI x2), (4, vI 0)] []))) : gI w d X_X12_lowestOf P i l 6 [(0, vR (some 99)), (2, vI x2), (3, vI x3)] [] := by
  refine g_iload_n (pc' := 7) 1 dX12_lowestOf_6 rfl rfl ?_
  refine g_iload_n (pc' := 8) 2 dX12_lowestOf_7 rfl rfl ?_
  obtain ⟨hob2, hob3, hk5, hk6⟩ := h
  refine g_icmp_eq (tgt := 54) (pc' := 11) (hob2) (hob3) Iff.rfl dX12_lowestOf_8 rfl rfl (fun c4 => ?_) (fun c4 => ?_)
  · have h := hk5 c4
    refine g_iconst (pc' := 55) dX12_lowestOf_54 rfl ?_
    refine g_istore (pc' := 57) (L' := [(4, vI 0), (0, vR (some 99)), (2, vI x2), (3, vI x3)]) dX12_lowestOf_55 rfl (Nat.le_of_ble_eq_true rfl) rfl ?_
    refine g_sub (L' := [(2, vI x2), (4, vI 0)]) [2, 0] rfl ?_
    exact h
  · have h := hk6 c4
    refine g_iload_n (pc' := 12) 1 dX12_lowestOf_11 rfl rfl ?_
    refine g_istore_n (pc' := 13) (L' := [(3, vI x2), (0, vR (some 99)), (2, vI x2)]) dX12_lowestOf_12 rfl (Nat.le_of_ble_eq_true rfl) rfl ?_
    refine g_iconst (pc' := 14) dX12_lowestOf_13 rfl ?_
    refine g_istore (pc' := 16) (L' := [(4, vI 0), (3, vI x2), (0, vR (some 99)), (2, vI x2)]) dX12_lowestOf_14 rfl (Nat.le_of_ble_eq_true rfl) rfl ?_
    refine g_sub (L' := [(0, vR (some 99)), (2, vI x2), (3, vI x2), (4, vI 0)]) [2, 3, 1, 0] rfl ?_
    exact h
set_option maxRecDepth 20000 in
theorem s_X12_lowestOf_57 {w : Wd} {d : Nat} {P : Int → IM → LM → Prop} {i : IM} {l : LM} (x2 : Int) (x4 : Int)  (hd : 1 ≤ d) (h : (((iand (ishr x2 x4) 1 = 1) → ((rg x4) ∧ P x4 i l)) ∧ ((¬ (iand (ishr x2 x4) 1 = 1)) → gI w d X_X12_lowestOf P i l 57 [(2, vI x2), (4, vI (x4 + 1))] []))) : gI w d X_X12_lowestOf P i l 57 [(2, vI x2), (4, vI x4)] [] := by
  refine g_iload_n (pc' := 58) 0 dX12_lowestOf_57 rfl rfl ?_
  refine g_iload (pc' := 60) 1 dX12_lowestOf_58 rfl rfl ?_
  refine g_pSI (pc' := 63) (vs := [vI x2, vI x4]) (st := []) (val := bI (iand (ishr x2 x4) 1 = 1)) (sp_X12_isIn (le_hd hd rfl) ) mk_X12_isIn ms_X12_isIn lk_X12_147 rfl (Nat.le_of_ble_eq_true rfl) (Nat.le_of_ble_eq_true rfl) rfl dX12_lowestOf_60 rfl z2 (fun rg7 => ?_)
  obtain ⟨hk11, hk12⟩ := h
  have hk11g : (iand (ishr x2 x4) 1 = 1) → gI w d X_X12_lowestOf P i l 72 [(2, vI x2), (4, vI x4)] [] := by
    intro hp
    have h := hk11 hp
    obtain ⟨ob10, h⟩ := h
    refine g_iload (pc' := 74) 1 dX12_lowestOf_72 rfl rfl ?_
    exact g_retI rfl ob10 dX12_lowestOf_74 h
  have hk12g : (¬ (iand (ishr x2 x4) 1 = 1)) → gI w d X_X12_lowestOf P i l 66 [(2, vI x2), (4, vI x4)] [] := by
    intro hp
    have h := hk12 hp
    refine g_iinc (pc' := 69) (L' := [(4, vI (x4 + 1)), (2, vI x2)]) 1 dX12_lowestOf_66 rfl (Nat.le_of_ble_eq_true rfl) rfl rfl ?_
    refine g_goto (tgt := 57) dX12_lowestOf_69 rfl ?_
    refine g_sub (L' := [(2, vI x2), (4, vI (x4 + 1))]) [1, 0] rfl ?_
    exact h
  refine g_if_ne (tgt := 72) (pc' := 66) rg7 (bI_eq _) dX12_lowestOf_63 rfl rfl (fun c9n => ?_) (fun c9 => ?_)
  · have c9 := Decidable.of_not_not c9n
    exact hk11g c9
  · exact hk12g c9
set_option maxRecDepth 20000 in
theorem s_X12_lowestOf_16 {w : Wd} {d : Nat} {P : Int → IM → LM → Prop} {i : IM} {l : LM} (x2 : Int) (x3 : Int) (x4 : Int)  (hd : 1 ≤ d) (h : ((rg x4) ∧ ((8 ≤ x4) → gI w d X_X12_lowestOf P i l 6 [(0, vR (some 99)), (2, vI x2), (3, vI x3)] []) ∧ ((¬ (8 ≤ x4) ∧ (¬ (iand (ishr x3 x4) 1 = 1))) → gI w d X_X12_lowestOf P i l 16 [(0, vR (some 99)), (2, vI x2), (3, vI x3), (4, vI (x4 + 1))] []) ∧ ((¬ (8 ≤ x4) ∧ (iand (ishr x3 x4) 1 = 1)) → ((0 ≤ 119 + x4 ∧ 119 + x4 < 5120) ∧ gI w d X_X12_lowestOf P i l 16 [(0, vR (some 99)), (2, vI (ior x2 (i 101 (119 + x4)))), (3, vI x3), (4, vI (x4 + 1))] [])))) : gI w d X_X12_lowestOf P i l 16 [(0, vR (some 99)), (2, vI x2), (3, vI x3), (4, vI x4)] [] := by
  refine g_iload (pc' := 18) 3 dX12_lowestOf_16 rfl rfl ?_
  refine g_bipush (pc' := 20) dX12_lowestOf_18 rfl rfl ?_
  obtain ⟨hob14, hk22, hk23, hk24⟩ := h
  have hk22g : (8 ≤ x4) → gI w d X_X12_lowestOf P i l 51 [(0, vR (some 99)), (2, vI x2), (3, vI x3), (4, vI x4)] [] := by
    intro hp
    have h := hk22 hp
    refine g_goto (tgt := 6) dX12_lowestOf_51 rfl ?_
    refine g_sub (L' := [(0, vR (some 99)), (2, vI x2), (3, vI x3)]) [0, 1, 2] rfl ?_
    exact h
  have hk23g : (¬ (8 ≤ x4) ∧ (¬ (iand (ishr x3 x4) 1 = 1))) → gI w d X_X12_lowestOf P i l 45 [(0, vR (some 99)), (2, vI x2), (3, vI x3), (4, vI x4)] [] := by
    intro hp
    have h := hk23 hp
    refine g_iinc (pc' := 48) (L' := [(4, vI (x4 + 1)), (0, vR (some 99)), (2, vI x2), (3, vI x3)]) 3 dX12_lowestOf_45 rfl (Nat.le_of_ble_eq_true rfl) rfl rfl ?_
    refine g_goto (tgt := 16) dX12_lowestOf_48 rfl ?_
    refine g_sub (L' := [(0, vR (some 99)), (2, vI x2), (3, vI x3), (4, vI (x4 + 1))]) [1, 2, 3, 0] rfl ?_
    exact h
  have hk24g : (¬ (8 ≤ x4) ∧ (iand (ishr x3 x4) 1 = 1)) → gI w d X_X12_lowestOf P i l 32 [(0, vR (some 99)), (2, vI x2), (3, vI x3), (4, vI x4)] [] := by
    intro hp
    have h := hk24 hp
    obtain ⟨ob20, h⟩ := h
    refine g_iload_n (pc' := 33) 1 dX12_lowestOf_32 rfl rfl ?_
    refine g_aload_n (pc' := 34) 0 dX12_lowestOf_33 rfl rfl ?_
    refine g_getR (pc' := 37) (o := some 101) fl_X12_20 rfl rfl rfl dX12_lowestOf_34 rfl ?_
    refine g_bipush (pc' := 39) dX12_lowestOf_37 rfl rfl ?_
    refine g_iload (pc' := 41) 3 dX12_lowestOf_39 rfl rfl ?_
    refine g_iadd (pc' := 42) dX12_lowestOf_41 rfl ?_
    refine g_iald (pc' := 43) (N := 5120) rfl rfl (Nat.lt_of_lt_of_le (Nat.lt_succ_self _) (Nat.le_of_ble_eq_true rfl)) ob20 dX12_lowestOf_42 rfl (fun rg21 => ?_)
    refine g_ior (pc' := 44) dX12_lowestOf_43 rfl ?_
    refine g_istore_n (pc' := 45) (L' := [(2, vI (ior x2 (i 101 (119 + x4)))), (0, vR (some 99)), (3, vI x3), (4, vI x4)]) dX12_lowestOf_44 rfl (Nat.le_of_ble_eq_true rfl) rfl ?_
    refine g_iinc (pc' := 48) (L' := [(4, vI (x4 + 1)), (2, vI (ior x2 (i 101 (119 + x4)))), (0, vR (some 99)), (3, vI x3)]) 3 dX12_lowestOf_45 rfl (Nat.le_of_ble_eq_true rfl) rfl rfl ?_
    refine g_goto (tgt := 16) dX12_lowestOf_48 rfl ?_
    refine g_sub (L' := [(0, vR (some 99)), (2, vI (ior x2 (i 101 (119 + x4)))), (3, vI x3), (4, vI (x4 + 1))]) [2, 1, 3, 0] rfl ?_
    exact h
  refine g_icmp_ge (tgt := 51) (pc' := 23) (hob14) (rg_lit rfl) Iff.rfl dX12_lowestOf_20 rfl rfl (fun c15 => ?_) (fun c15 => ?_)
  · exact hk22g c15
  · refine g_iload_n (pc' := 24) 2 dX12_lowestOf_23 rfl rfl ?_
    refine g_iload (pc' := 26) 3 dX12_lowestOf_24 rfl rfl ?_
    refine g_pSI (pc' := 29) (vs := [vI x3, vI x4]) (st := []) (val := bI (iand (ishr x3 x4) 1 = 1)) (sp_X12_isIn (le_hd hd rfl) ) mk_X12_isIn ms_X12_isIn lk_X12_147 rfl (Nat.le_of_ble_eq_true rfl) (Nat.le_of_ble_eq_true rfl) rfl dX12_lowestOf_26 rfl z2 (fun rg16 => ?_)
    refine g_if_eq (tgt := 45) (pc' := 32) rg16 (bI_eq _) dX12_lowestOf_29 rfl rfl (fun c17 => ?_) (fun c17n => ?_)
    · exact hk23g ⟨c15, c17⟩
    · have c17 := Decidable.of_not_not c17n
      exact hk24g ⟨c15, c17⟩

theorem dX12_whereOf_0 : decode cX12_whereOf 0 = .ok (.iconst (-1), 1) := by decide +kernel
theorem dX12_whereOf_1 : decode cX12_whereOf 1 = .ok (.istore_n 3, 1) := by decide +kernel
theorem dX12_whereOf_2 : decode cX12_whereOf 2 = .ok (.iconst (-1), 1) := by decide +kernel
theorem dX12_whereOf_3 : decode cX12_whereOf 3 = .ok (.istore 4, 2) := by decide +kernel
theorem dX12_whereOf_5 : decode cX12_whereOf 5 = .ok (.iconst 0, 1) := by decide +kernel
theorem dX12_whereOf_6 : decode cX12_whereOf 6 = .ok (.istore 5, 2) := by decide +kernel
theorem dX12_whereOf_8 : decode cX12_whereOf 8 = .ok (.iload 5, 2) := by decide +kernel
theorem dX12_whereOf_10 : decode cX12_whereOf 10 = .ok (.aload_n 0, 1) := by decide +kernel
theorem dX12_whereOf_11 : decode cX12_whereOf 11 = .ok (.getfield 20, 3) := by decide +kernel
theorem dX12_whereOf_14 : decode cX12_whereOf 14 = .ok (.sipush 310, 3) := by decide +kernel
theorem dX12_whereOf_17 : decode cX12_whereOf 17 = .ok (.iaload, 1) := by decide +kernel
theorem dX12_whereOf_18 : decode cX12_whereOf 18 = .ok (.if_icmp .ge 76, 3) := by decide +kernel
theorem dX12_whereOf_21 : decode cX12_whereOf 21 = .ok (.aload_n 0, 1) := by decide +kernel
theorem dX12_whereOf_22 : decode cX12_whereOf 22 = .ok (.getfield 20, 3) := by decide +kernel
theorem dX12_whereOf_25 : decode cX12_whereOf 25 = .ok (.bipush 127, 2) := by decide +kernel
theorem dX12_whereOf_27 : decode cX12_whereOf 27 = .ok (.iconst 3, 1) := by decide +kernel
theorem dX12_whereOf_28 : decode cX12_whereOf 28 = .ok (.iload 5, 2) := by decide +kernel
theorem dX12_whereOf_30 : decode cX12_whereOf 30 = .ok (.imul, 1) := by decide +kernel
theorem dX12_whereOf_31 : decode cX12_whereOf 31 = .ok (.iadd, 1) := by decide +kernel
theorem dX12_whereOf_32 : decode cX12_whereOf 32 = .ok (.iconst 1, 1) := by decide +kernel
theorem dX12_whereOf_33 : decode cX12_whereOf 33 = .ok (.iadd, 1) := by decide +kernel
theorem dX12_whereOf_34 : decode cX12_whereOf 34 = .ok (.iaload, 1) := by decide +kernel
theorem dX12_whereOf_35 : decode cX12_whereOf 35 = .ok (.istore 6, 2) := by decide +kernel
theorem dX12_whereOf_37 : decode cX12_whereOf 37 = .ok (.aload_n 0, 1) := by decide +kernel
theorem dX12_whereOf_38 : decode cX12_whereOf 38 = .ok (.getfield 20, 3) := by decide +kernel
theorem dX12_whereOf_41 : decode cX12_whereOf 41 = .ok (.bipush 127, 2) := by decide +kernel
theorem dX12_whereOf_43 : decode cX12_whereOf 43 = .ok (.iconst 3, 1) := by decide +kernel
theorem dX12_whereOf_44 : decode cX12_whereOf 44 = .ok (.iload 5, 2) := by decide +kernel
theorem dX12_whereOf_46 : decode cX12_whereOf 46 = .ok (.imul, 1) := by decide +kernel
theorem dX12_whereOf_47 : decode cX12_whereOf 47 = .ok (.iadd, 1) := by decide +kernel
theorem dX12_whereOf_48 : decode cX12_whereOf 48 = .ok (.iaload, 1) := by decide +kernel
theorem dX12_whereOf_49 : decode cX12_whereOf 49 = .ok (.iload_n 1, 1) := by decide +kernel
theorem dX12_whereOf_50 : decode cX12_whereOf 50 = .ok (.if_icmp .ne 38, 3) := by decide +kernel
theorem dX12_whereOf_53 : decode cX12_whereOf 53 = .ok (.iload 6, 2) := by decide +kernel
theorem dX12_whereOf_55 : decode cX12_whereOf 55 = .ok (.iload_n 2, 1) := by decide +kernel
theorem dX12_whereOf_56 : decode cX12_whereOf 56 = .ok (.if_icmp .gt 32, 3) := by decide +kernel
theorem dX12_whereOf_59 : decode cX12_whereOf 59 = .ok (.iload 6, 2) := by decide +kernel
theorem dX12_whereOf_61 : decode cX12_whereOf 61 = .ok (.iload 4, 2) := by decide +kernel
theorem dX12_whereOf_63 : decode cX12_whereOf 63 = .ok (.if_icmp .ge 6, 3) := by decide +kernel
theorem dX12_whereOf_66 : decode cX12_whereOf 66 = .ok (.goto 22, 3) := by decide +kernel
theorem dX12_whereOf_69 : decode cX12_whereOf 69 = .ok (.iload 6, 2) := by decide +kernel
theorem dX12_whereOf_71 : decode cX12_whereOf 71 = .ok (.istore 4, 2) := by decide +kernel
theorem dX12_whereOf_73 : decode cX12_whereOf 73 = .ok (.aload_n 0, 1) := by decide +kernel
theorem dX12_whereOf_74 : decode cX12_whereOf 74 = .ok (.getfield 20, 3) := by decide +kernel
theorem dX12_whereOf_77 : decode cX12_whereOf 77 = .ok (.bipush 127, 2) := by decide +kernel
theorem dX12_whereOf_79 : decode cX12_whereOf 79 = .ok (.iconst 3, 1) := by decide +kernel
theorem dX12_whereOf_80 : decode cX12_whereOf 80 = .ok (.iload 5, 2) := by decide +kernel
theorem dX12_whereOf_82 : decode cX12_whereOf 82 = .ok (.imul, 1) := by decide +kernel
theorem dX12_whereOf_83 : decode cX12_whereOf 83 = .ok (.iadd, 1) := by decide +kernel
theorem dX12_whereOf_84 : decode cX12_whereOf 84 = .ok (.iconst 2, 1) := by decide +kernel
theorem dX12_whereOf_85 : decode cX12_whereOf 85 = .ok (.iadd, 1) := by decide +kernel
theorem dX12_whereOf_86 : decode cX12_whereOf 86 = .ok (.iaload, 1) := by decide +kernel
theorem dX12_whereOf_87 : decode cX12_whereOf 87 = .ok (.istore_n 3, 1) := by decide +kernel
theorem dX12_whereOf_88 : decode cX12_whereOf 88 = .ok (.iinc 5 1, 3) := by decide +kernel
theorem dX12_whereOf_91 : decode cX12_whereOf 91 = .ok (.goto (-83), 3) := by decide +kernel
theorem dX12_whereOf_94 : decode cX12_whereOf 94 = .ok (.iload_n 3, 1) := by decide +kernel
theorem dX12_whereOf_95 : decode cX12_whereOf 95 = .ok (.ireturn, 1) := by decide +kernel
set_option maxRecDepth 20000 in
theorem s_X12_whereOf {w : Wd} {d : Nat} {P : Int → IM → LM → Prop} {i : IM} {l : LM} (p0 : Int) (p1 : Int)  (h : gI w d X_X12_whereOf P i l 8 [(0, vR (some 99)), (1, vI p0), (2, vI p1), (3, vI (-1)), (4, vI (-1)), (5, vI 0)] []) : gI w d X_X12_whereOf P i l 0 [(0, vR (some 99)), (1, vI p0), (2, vI p1)] [] := by
  refine g_iconst (pc' := 1) dX12_whereOf_0 rfl ?_
  refine g_istore_n (pc' := 2) (L' := [(3, vI (-1)), (0, vR (some 99)), (1, vI p0), (2, vI p1)]) dX12_whereOf_1 rfl (Nat.le_of_ble_eq_true rfl) rfl ?_
  refine g_iconst (pc' := 3) dX12_whereOf_2 rfl ?_
  refine g_istore (pc' := 5) (L' := [(4, vI (-1)), (3, vI (-1)), (0, vR (some 99)), (1, vI p0), (2, vI p1)]) dX12_whereOf_3 rfl (Nat.le_of_ble_eq_true rfl) rfl ?_
  refine g_iconst (pc' := 6) dX12_whereOf_5 rfl ?_
  refine g_istore (pc' := 8) (L' := [(5, vI 0), (4, vI (-1)), (3, vI (-1)), (0, vR (some 99)), (1, vI p0), (2, vI p1)]) dX12_whereOf_6 rfl (Nat.le_of_ble_eq_true rfl) rfl ?_
  refine g_sub (L' := [(0, vR (some 99)), (1, vI p0), (2, vI p1), (3, vI (-1)), (4, vI (-1)), (5, vI 0)]) [3, 4, 5, 2, 1, 0] rfl ?_
  exact h
theorem e_X12_whereOf {w : Wd} {d : Nat} {P : Int → IM → LM → Prop} {i : IM} {l : LM} {p0 : Int} {p1 : Int}  (h : gI w d X_X12_whereOf P i l 0 [(0, vR (some 99)), (1, vI p0), (2, vI p1)] []) : cI w (d + 1) X_X12_whereOf [vR (some 99), vI p0, vI p1] i l P := CI_of (by decide +kernel) (Nat.le_of_ble_eq_true rfl) h
set_option maxRecDepth 20000 in
theorem s_X12_whereOf_8 {w : Wd} {d : Nat} {P : Int → IM → LM → Prop} {i : IM} {l : LM} (x1 : Int) (x2 : Int) (x3 : Int) (x4 : Int) (x5 : Int)  (h : ((rg x5) ∧ ((i 101 310 ≤ x5) → ((rg x3) ∧ P x3 i l)) ∧ ((¬ (i 101 310 ≤ x5)) → ((0 ≤ (127 + (3 * x5)) + 1 ∧ (127 + (3 * x5)) + 1 < 5120) ∧ (0 ≤ 127 + (3 * x5) ∧ 127 + (3 * x5) < 5120) ∧ ((rg x1) ∧ ((i 101 (127 + (3 * x5)) = x1) → rg x2) ∧ ((i 101 (127 + (3 * x5)) = x1) → ¬ (x2 < i 101 ((127 + (3 * x5)) + 1)) → rg x4) ∧ (((i 101 (127 + (3 * x5)) = x1) ∧ (¬ (x2 < i 101 ((127 + (3 * x5)) + 1)) ∧ (x4 ≤ i 101 ((127 + (3 * x5)) + 1)))) → ((0 ≤ (127 + (3 * x5)) + 2 ∧ (127 + (3 * x5)) + 2 < 5120) ∧ gI w d X_X12_whereOf P i l 8 [(0, vR (some 99)), (1, vI x1), (2, vI x2), (3, vI (i 101 ((127 + (3 * x5)) + 2))), (4, vI (i 101 ((127 + (3 * x5)) + 1))), (5, vI (x5 + 1))] [])) ∧ ((¬ ((i 101 (127 + (3 * x5)) = x1) ∧ (¬ (x2 < i 101 ((127 + (3 * x5)) + 1)) ∧ (x4 ≤ i 101 ((127 + (3 * x5)) + 1))))) → gI w d X_X12_whereOf P i l 8 [(0, vR (some 99)), (1, vI x1), (2, vI x2), (3, vI x3), (4, vI x4), (5, vI (x5 + 1))] [])))))) : gI w d X_X12_whereOf P i l 8 [(0, vR (some 99)), (1, vI x1), (2, vI x2), (3, vI x3), (4, vI x4), (5, vI x5)] [] := by
  refine g_iload (pc' := 10) 5 dX12_whereOf_8 rfl rfl ?_
  refine g_aload_n (pc' := 11) 0 dX12_whereOf_10 rfl rfl ?_
  refine g_getR (pc' := 14) (o := some 101) fl_X12_20 rfl rfl rfl dX12_whereOf_11 rfl ?_
  refine g_sipush (pc' := 17) dX12_whereOf_14 rfl rfl ?_
  refine g_iald (pc' := 18) (N := 5120) rfl rfl (Nat.lt_of_lt_of_le (Nat.lt_succ_self _) (Nat.le_of_ble_eq_true rfl)) (by decide) dX12_whereOf_17 rfl (fun rg1 => ?_)
  obtain ⟨hob3, hk23, hk24⟩ := h
  refine g_icmp_ge (tgt := 94) (pc' := 21) (hob3) rg1 Iff.rfl dX12_whereOf_18 rfl rfl (fun c4 => ?_) (fun c4 => ?_)
  · have h := hk23 c4
    obtain ⟨ob7, h⟩ := h
    refine g_iload_n (pc' := 95) 3 dX12_whereOf_94 rfl rfl ?_
    exact g_retI rfl ob7 dX12_whereOf_95 h
  · have h := hk24 c4
    obtain ⟨ob8, ob10, h⟩ := h
    refine g_aload_n (pc' := 22) 0 dX12_whereOf_21 rfl rfl ?_
    refine g_getR (pc' := 25) (o := some 101) fl_X12_20 rfl rfl rfl dX12_whereOf_22 rfl ?_
    refine g_bipush (pc' := 27) dX12_whereOf_25 rfl rfl ?_
    refine g_iconst (pc' := 28) dX12_whereOf_27 rfl ?_
    refine g_iload (pc' := 30) 5 dX12_whereOf_28 rfl rfl ?_
    refine g_imul (pc' := 31) dX12_whereOf_30 rfl ?_
    refine g_iadd (pc' := 32) dX12_whereOf_31 rfl ?_
    refine g_iconst (pc' := 33) dX12_whereOf_32 rfl ?_
    refine g_iadd (pc' := 34) dX12_whereOf_33 rfl ?_
    refine g_iald (pc' := 35) (N := 5120) rfl rfl (Nat.lt_of_lt_of_le (Nat.lt_succ_self _) (Nat.le_of_ble_eq_true rfl)) ob8 dX12_whereOf_34 rfl (fun rg9 => ?_)
    refine g_istore (pc' := 37) (L' := [(6, vI (i 101 ((127 + (3 * x5)) + 1))), (0, vR (some 99)), (1, vI x1), (2, vI x2), (3, vI x3), (4, vI x4), (5, vI x5)]) dX12_whereOf_35 rfl (Nat.le_of_ble_eq_true rfl) rfl ?_
    refine g_aload_n (pc' := 38) 1 dX12_whereOf_37 rfl rfl ?_
    refine g_getR (pc' := 41) (o := some 101) fl_X12_20 rfl rfl rfl dX12_whereOf_38 rfl ?_
    refine g_bipush (pc' := 43) dX12_whereOf_41 rfl rfl ?_
    refine g_iconst (pc' := 44) dX12_whereOf_43 rfl ?_
    refine g_iload (pc' := 46) 6 dX12_whereOf_44 rfl rfl ?_
    refine g_imul (pc' := 47) dX12_whereOf_46 rfl ?_
    refine g_iadd (pc' := 48) dX12_whereOf_47 rfl ?_
    refine g_iald (pc' := 49) (N := 5120) rfl rfl (Nat.lt_of_lt_of_le (Nat.lt_succ_self _) (Nat.le_of_ble_eq_true rfl)) ob10 dX12_whereOf_48 rfl (fun rg11 => ?_)
    refine g_iload_n (pc' := 50) 2 dX12_whereOf_49 rfl rfl ?_
    obtain ⟨hob13, hob15, hob17, hk21, hk22⟩ := h
    have hk21g : ((i 101 (127 + (3 * x5)) = x1) ∧ (¬ (x2 < i 101 ((127 + (3 * x5)) + 1)) ∧ (x4 ≤ i 101 ((127 + (3 * x5)) + 1)))) → gI w d X_X12_whereOf P i l 69 [(6, vI (i 101 ((127 + (3 * x5)) + 1))), (0, vR (some 99)), (1, vI x1), (2, vI x2), (3, vI x3), (4, vI x4), (5, vI x5)] [] := by
      intro hp
      have h := hk21 hp
      obtain ⟨ob19, h⟩ := h
      refine g_iload (pc' := 71) 0 dX12_whereOf_69 rfl rfl ?_
      refine g_istore (pc' := 73) (L' := [(4, vI (i 101 ((127 + (3 * x5)) + 1))), (6, vI (i 101 ((127 + (3 * x5)) + 1))), (0, vR (some 99)), (1, vI x1), (2, vI x2), (3, vI x3), (5, vI x5)]) dX12_whereOf_71 rfl (Nat.le_of_ble_eq_true rfl) rfl ?_
      refine g_aload_n (pc' := 74) 2 dX12_whereOf_73 rfl rfl ?_
      refine g_getR (pc' := 77) (o := some 101) fl_X12_20 rfl rfl rfl dX12_whereOf_74 rfl ?_
      refine g_bipush (pc' := 79) dX12_whereOf_77 rfl rfl ?_
      refine g_iconst (pc' := 80) dX12_whereOf_79 rfl ?_
      refine g_iload (pc' := 82) 6 dX12_whereOf_80 rfl rfl ?_
      refine g_imul (pc' := 83) dX12_whereOf_82 rfl ?_
      refine g_iadd (pc' := 84) dX12_whereOf_83 rfl ?_
      refine g_iconst (pc' := 85) dX12_whereOf_84 rfl ?_
      refine g_iadd (pc' := 86) dX12_whereOf_85 rfl ?_
      refine g_iald (pc' := 87) (N := 5120) rfl rfl (Nat.lt_of_lt_of_le (Nat.lt_succ_self _) (Nat.le_of_ble_eq_true rfl)) ob19 dX12_whereOf_86 rfl (fun rg20 => ?_)
      refine g_istore_n (pc' := 88) (L' := [(3, vI (i 101 ((127 + (3 * x5)) + 2))), (4, vI (i 101 ((127 + (3 * x5)) + 1))), (6, vI (i 101 ((127 + (3 * x5)) + 1))), (0, vR (some 99)), (1, vI x1), (2, vI x2), (5, vI x5)]) dX12_whereOf_87 rfl (Nat.le_of_ble_eq_true rfl) rfl ?_
      refine g_iinc (pc' := 91) (L' := [(5, vI (x5 + 1)), (3, vI (i 101 ((127 + (3 * x5)) + 2))), (4, vI (i 101 ((127 + (3 * x5)) + 1))), (6, vI (i 101 ((127 + (3 * x5)) + 1))), (0, vR (some 99)), (1, vI x1), (2, vI x2)]) 6 dX12_whereOf_88 rfl (Nat.le_of_ble_eq_true rfl) rfl rfl ?_
      refine g_goto (tgt := 8) dX12_whereOf_91 rfl ?_
      refine g_sub (L' := [(0, vR (some 99)), (1, vI x1), (2, vI x2), (3, vI (i 101 ((127 + (3 * x5)) + 2))), (4, vI (i 101 ((127 + (3 * x5)) + 1))), (5, vI (x5 + 1))]) [4, 5, 6, 1, 2, 0] rfl ?_
      exact h
    have hk22g : (¬ ((i 101 (127 + (3 * x5)) = x1) ∧ (¬ (x2 < i 101 ((127 + (3 * x5)) + 1)) ∧ (x4 ≤ i 101 ((127 + (3 * x5)) + 1))))) → gI w d X_X12_whereOf P i l 88 [(6, vI (i 101 ((127 + (3 * x5)) + 1))), (0, vR (some 99)), (1, vI x1), (2, vI x2), (3, vI x3), (4, vI x4), (5, vI x5)] [] := by
      intro hp
      have h := hk22 hp
      refine g_iinc (pc' := 91) (L' := [(5, vI (x5 + 1)), (6, vI (i 101 ((127 + (3 * x5)) + 1))), (0, vR (some 99)), (1, vI x1), (2, vI x2), (3, vI x3), (4, vI x4)]) 6 dX12_whereOf_88 rfl (Nat.le_of_ble_eq_true rfl) rfl rfl ?_
      refine g_goto (tgt := 8) dX12_whereOf_91 rfl ?_
      refine g_sub (L' := [(0, vR (some 99)), (1, vI x1), (2, vI x2), (3, vI x3), (4, vI x4), (5, vI (x5 + 1))]) [2, 3, 4, 5, 6, 0] rfl ?_
      exact h
    refine g_icmp_ne (tgt := 88) (pc' := 53) rg11 (hob13) Iff.rfl dX12_whereOf_50 rfl rfl (fun c14 => ?_) (fun c14 => ?_)
    · exact hk22g (fun q => c14 q.1)
    · refine g_iload (pc' := 55) 0 dX12_whereOf_53 rfl rfl ?_
      refine g_iload_n (pc' := 56) 3 dX12_whereOf_55 rfl rfl ?_
      refine g_icmp_gt (tgt := 88) (pc' := 59) rg9 (hob15 c14) Iff.rfl dX12_whereOf_56 rfl rfl (fun c16 => ?_) (fun c16 => ?_)
      · exact hk22g (fun q => (fun q => q.1 c16) q.2)
      · refine g_iload (pc' := 61) 0 dX12_whereOf_59 rfl rfl ?_
        refine g_iload (pc' := 63) 5 dX12_whereOf_61 rfl rfl ?_
        refine g_icmp_ge (tgt := 69) (pc' := 66) rg9 (hob17 c14 c16) Iff.rfl dX12_whereOf_63 rfl rfl (fun c18 => ?_) (fun c18 => ?_)
        · exact hk21g ⟨c14, ⟨c16, c18⟩⟩
        · refine g_goto (tgt := 88) dX12_whereOf_66 rfl ?_
          exact hk22g (fun q => (fun q => c18 q.2) q.2)
