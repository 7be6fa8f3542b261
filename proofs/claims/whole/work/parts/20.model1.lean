theorem dX12_refuses_0 : decode cX12_refuses 0 = .ok (.aload_n 0, 1) := by decide +kernel
theorem dX12_refuses_1 : decode cX12_refuses 1 = .ok (.iload_n 1, 1) := by decide +kernel
theorem dX12_refuses_2 : decode cX12_refuses 2 = .ok (.putfield 3, 3) := by decide +kernel
theorem dX12_refuses_5 : decode cX12_refuses 5 = .ok (.aload_n 0, 1) := by decide +kernel
theorem dX12_refuses_6 : decode cX12_refuses 6 = .ok (.getfield 7, 3) := by decide +kernel
theorem dX12_refuses_9 : decode cX12_refuses 9 = .ok (.iload_n 1, 1) := by decide +kernel
theorem dX12_refuses_10 : decode cX12_refuses 10 = .ok (.ineg, 1) := by decide +kernel
theorem dX12_refuses_11 : decode cX12_refuses 11 = .ok (.dup2, 1) := by decide +kernel
theorem dX12_refuses_12 : decode cX12_refuses 12 = .ok (.iaload, 1) := by decide +kernel
theorem dX12_refuses_13 : decode cX12_refuses 13 = .ok (.iconst 1, 1) := by decide +kernel
theorem dX12_refuses_14 : decode cX12_refuses 14 = .ok (.iadd, 1) := by decide +kernel
theorem dX12_refuses_15 : decode cX12_refuses 15 = .ok (.iastore, 1) := by decide +kernel
theorem dX12_refuses_16 : decode cX12_refuses 16 = .ok (.iload_n 1, 1) := by decide +kernel
theorem dX12_refuses_17 : decode cX12_refuses 17 = .ok (.ireturn, 1) := by decide +kernel
set_option maxRecDepth 20000 in
theorem s_X12_refuses {w : Wd} {d : Nat} {P : Int → IM → LM → Prop} {i : IM} {l : LM} (p0 : Int)  (h : ((rg p0) ∧ (0 ≤ -p0 ∧ -p0 < 7) ∧ (rg (((u2 i 99 0 p0) 100 (-p0)) + 1)) ∧ P p0 (u2 (u2 i 99 0 p0) 100 (-p0) (((u2 i 99 0 p0) 100 (-p0)) + 1)) l)) : gI w d X_X12_refuses P i l 0 [(0, vR (some 99)), (1, vI p0)] [] := by
  obtain ⟨ob1, ob2, ob4, h⟩ := h
  refine g_aload_n (pc' := 1) 0 dX12_refuses_0 rfl rfl ?_
  refine g_iload_n (pc' := 2) 1 dX12_refuses_1 rfl rfl ?_
  refine g_putI (pc' := 5) (z := 0) rfl fp_X12_3 rfl rfl ob1 dX12_refuses_2 rfl ?_
  refine g_aload_n (pc' := 6) 0 dX12_refuses_5 rfl rfl ?_
  refine g_getR (pc' := 9) (o := some 100) fl_X12_7 rfl rfl rfl dX12_refuses_6 rfl ?_
  refine g_iload_n (pc' := 10) 1 dX12_refuses_9 rfl rfl ?_
  refine g_ineg (pc' := 11) dX12_refuses_10 rfl ?_
  refine g_dup2_11 (pc' := 12) dX12_refuses_11 rfl rfl rfl ?_
  refine g_iald (pc' := 13) (N := 7) rfl rfl (Nat.lt_of_lt_of_le (Nat.lt_succ_self _) (Nat.le_of_ble_eq_true rfl)) ob2 dX12_refuses_12 rfl (fun rg3 => ?_)
  refine g_iconst (pc' := 14) dX12_refuses_13 rfl ?_
  refine g_iadd (pc' := 15) dX12_refuses_14 rfl ?_
  refine g_iast (pc' := 16) (N := 7) rfl rfl (Nat.lt_of_lt_of_le (Nat.lt_succ_self _) (Nat.le_of_ble_eq_true rfl)) ob2 ob4 dX12_refuses_15 rfl ?_
  refine g_iload_n (pc' := 17) 1 dX12_refuses_16 rfl rfl ?_
  exact g_retI rfl ob1 dX12_refuses_17 h
theorem e_X12_refuses {w : Wd} {d : Nat} {P : Int → IM → LM → Prop} {i : IM} {l : LM} {p0 : Int}  (h : gI w d X_X12_refuses P i l 0 [(0, vR (some 99)), (1, vI p0)] []) : cI w (d + 1) X_X12_refuses [vR (some 99), vI p0] i l P := CI_of (by decide +kernel) (Nat.le_of_ble_eq_true rfl) h

theorem dX12_good_0 : decode cX12_good 0 = .ok (.aload_n 0, 1) := by decide +kernel
theorem dX12_good_1 : decode cX12_good 1 = .ok (.iconst 0, 1) := by decide +kernel
theorem dX12_good_2 : decode cX12_good 2 = .ok (.putfield 3, 3) := by decide +kernel
theorem dX12_good_5 : decode cX12_good 5 = .ok (.aload_n 0, 1) := by decide +kernel
theorem dX12_good_6 : decode cX12_good 6 = .ok (.dup, 1) := by decide +kernel
theorem dX12_good_7 : decode cX12_good 7 = .ok (.getfield 11, 3) := by decide +kernel
theorem dX12_good_10 : decode cX12_good 10 = .ok (.iconst 1, 1) := by decide +kernel
theorem dX12_good_11 : decode cX12_good 11 = .ok (.iadd, 1) := by decide +kernel
theorem dX12_good_12 : decode cX12_good 12 = .ok (.putfield 11, 3) := by decide +kernel
theorem dX12_good_15 : decode cX12_good 15 = .ok (.iload_n 1, 1) := by decide +kernel
theorem dX12_good_16 : decode cX12_good 16 = .ok (.ireturn, 1) := by decide +kernel
set_option maxRecDepth 20000 in
theorem s_X12_good {w : Wd} {d : Nat} {P : Int → IM → LM → Prop} {i : IM} {l : LM} (p0 : Int)  (h : ((rg (((u2 i 99 0 0) 99 1) + 1)) ∧ (rg p0) ∧ P p0 (u2 (u2 i 99 0 0) 99 1 (((u2 i 99 0 0) 99 1) + 1)) l)) : gI w d X_X12_good P i l 0 [(0, vR (some 99)), (1, vI p0)] [] := by
  obtain ⟨ob2, ob3, h⟩ := h
  refine g_aload_n (pc' := 1) 0 dX12_good_0 rfl rfl ?_
  refine g_iconst (pc' := 2) dX12_good_1 rfl ?_
  refine g_putI (pc' := 5) (z := 0) rfl fp_X12_3 rfl rfl (rg_lit rfl) dX12_good_2 rfl ?_
  refine g_aload_n (pc' := 6) 0 dX12_good_5 rfl rfl ?_
  refine g_dup (pc' := 7) dX12_good_6 rfl rfl ?_
  refine g_getI (pc' := 10) (z := 1) rfl fl_X12_11 rfl rfl dX12_good_7 rfl (fun rg1 => ?_)
  refine g_iconst (pc' := 11) dX12_good_10 rfl ?_
  refine g_iadd (pc' := 12) dX12_good_11 rfl ?_
  refine g_putI (pc' := 15) (z := 1) rfl fp_X12_11 rfl rfl ob2 dX12_good_12 rfl ?_
  refine g_iload_n (pc' := 16) 1 dX12_good_15 rfl rfl ?_
  exact g_retI rfl ob3 dX12_good_16 h
theorem e_X12_good {w : Wd} {d : Nat} {P : Int → IM → LM → Prop} {i : IM} {l : LM} {p0 : Int}  (h : gI w d X_X12_good P i l 0 [(0, vR (some 99)), (1, vI p0)] []) : cI w (d + 1) X_X12_good [vR (some 99), vI p0] i l P := CI_of (by decide +kernel) (Nat.le_of_ble_eq_true rfl) h

theorem dX12_image_0 : decode cX12_image 0 = .ok (.iload_n 1, 1) := by decide +kernel
theorem dX12_image_1 : decode cX12_image 1 = .ok (.iconst 0, 1) := by decide +kernel
theorem dX12_image_2 : decode cX12_image 2 = .ok (.iconst 1, 1) := by decide +kernel
theorem dX12_image_3 : decode cX12_image 3 = .ok (.invokestatic 106, 3) := by decide +kernel
theorem dX12_image_6 : decode cX12_image 6 = .ok (.ifCond .ne 9, 3) := by decide +kernel
theorem dX12_image_9 : decode cX12_image 9 = .ok (.aload_n 0, 1) := by decide +kernel
theorem dX12_image_10 : decode cX12_image 10 = .ok (.iconst (-1), 1) := by decide +kernel
theorem dX12_image_11 : decode cX12_image 11 = .ok (.invokevirtual 110, 3) := by decide +kernel
theorem dX12_image_14 : decode cX12_image 14 = .ok (.ireturn, 1) := by decide +kernel
theorem dX12_image_15 : decode cX12_image 15 = .ok (.iconst 0, 1) := by decide +kernel
theorem dX12_image_16 : decode cX12_image 16 = .ok (.istore_n 2, 1) := by decide +kernel
theorem dX12_image_17 : decode cX12_image 17 = .ok (.iload_n 2, 1) := by decide +kernel
theorem dX12_image_18 : decode cX12_image 18 = .ok (.sipush 5120, 3) := by decide +kernel
theorem dX12_image_21 : decode cX12_image 21 = .ok (.if_icmp .ge 27, 3) := by decide +kernel
theorem dX12_image_24 : decode cX12_image 24 = .ok (.aload_n 0, 1) := by decide +kernel
theorem dX12_image_25 : decode cX12_image 25 = .ok (.getfield 23, 3) := by decide +kernel
theorem dX12_image_28 : decode cX12_image 28 = .ok (.sipush 5120, 3) := by decide +kernel
theorem dX12_image_31 : decode cX12_image 31 = .ok (.iload_n 1, 1) := by decide +kernel
theorem dX12_image_32 : decode cX12_image 32 = .ok (.imul, 1) := by decide +kernel
theorem dX12_image_33 : decode cX12_image 33 = .ok (.iload_n 2, 1) := by decide +kernel
theorem dX12_image_34 : decode cX12_image 34 = .ok (.iadd, 1) := by decide +kernel
theorem dX12_image_35 : decode cX12_image 35 = .ok (.aload_n 0, 1) := by decide +kernel
theorem dX12_image_36 : decode cX12_image 36 = .ok (.getfield 20, 3) := by decide +kernel
theorem dX12_image_39 : decode cX12_image 39 = .ok (.iload_n 2, 1) := by decide +kernel
theorem dX12_image_40 : decode cX12_image 40 = .ok (.iaload, 1) := by decide +kernel
theorem dX12_image_41 : decode cX12_image 41 = .ok (.iastore, 1) := by decide +kernel
theorem dX12_image_42 : decode cX12_image 42 = .ok (.iinc 2 1, 3) := by decide +kernel
theorem dX12_image_45 : decode cX12_image 45 = .ok (.goto (-28), 3) := by decide +kernel
theorem dX12_image_48 : decode cX12_image 48 = .ok (.aload_n 0, 1) := by decide +kernel
theorem dX12_image_49 : decode cX12_image 49 = .ok (.getfield 26, 3) := by decide +kernel
theorem dX12_image_52 : decode cX12_image 52 = .ok (.iload_n 1, 1) := by decide +kernel
theorem dX12_image_53 : decode cX12_image 53 = .ok (.iconst 1, 1) := by decide +kernel
theorem dX12_image_54 : decode cX12_image 54 = .ok (.bastore, 1) := by decide +kernel
theorem dX12_image_55 : decode cX12_image 55 = .ok (.aload_n 0, 1) := by decide +kernel
theorem dX12_image_56 : decode cX12_image 56 = .ok (.iconst 0, 1) := by decide +kernel
theorem dX12_image_57 : decode cX12_image 57 = .ok (.invokevirtual 114, 3) := by decide +kernel
theorem dX12_image_60 : decode cX12_image 60 = .ok (.ireturn, 1) := by decide +kernel
set_option maxRecDepth 20000 in
theorem s_X12_image {w : Wd} {d : Nat} {P : Int → IM → LM → Prop} {i : IM} {l : LM} (p0 : Int)  (hd : 1 ≤ d) (h : ((rg p0) ∧ (((0 ≤ p0 ∧ p0 ≤ 1) → gI w d X_X12_image P i l 17 [(0, vR (some 99)), (1, vI p0), (2, vI 0)] []) ∧ ((¬ (0 ≤ p0 ∧ p0 ≤ 1)) → cI w d X_X12_refuses [vR (some 99), vI (-1)] i l (fun r5 i5 l5 => P r5 i5 l5))))) : gI w d X_X12_image P i l 0 [(0, vR (some 99)), (1, vI p0)] [] := by
  obtain ⟨ob1, h⟩ := h
  refine g_iload_n (pc' := 1) 1 dX12_image_0 rfl rfl ?_
  refine g_iconst (pc' := 2) dX12_image_1 rfl ?_
  refine g_iconst (pc' := 3) dX12_image_2 rfl ?_
  refine g_pSI (pc' := 6) (vs := [vI p0, vI 0, vI 1]) (st := []) (val := bI (0 ≤ p0 ∧ p0 ≤ 1)) (sp_X12_lies (le_hd hd rfl) ob1 (rg_lit rfl) (rg_lit rfl)) mk_X12_lies ms_X12_lies lk_X12_106 rfl (Nat.le_of_ble_eq_true rfl) (Nat.le_of_ble_eq_true rfl) rfl dX12_image_3 rfl z2 (fun rg2 => ?_)
  obtain ⟨hk6, hk7⟩ := h
  have hk6g : (0 ≤ p0 ∧ p0 ≤ 1) → gI w d X_X12_image P i l 15 [(0, vR (some 99)), (1, vI p0)] [] := by
    intro hp
    have h := hk6 hp
    refine g_iconst (pc' := 16) dX12_image_15 rfl ?_
    refine g_istore_n (pc' := 17) (L' := [(2, vI 0), (0, vR (some 99)), (1, vI p0)]) dX12_image_16 rfl (Nat.le_of_ble_eq_true rfl) rfl ?_
    refine g_sub (L' := [(0, vR (some 99)), (1, vI p0), (2, vI 0)]) [1, 2, 0] rfl ?_
    exact h
  have hk7g : (¬ (0 ≤ p0 ∧ p0 ≤ 1)) → gI w d X_X12_image P i l 9 [(0, vR (some 99)), (1, vI p0)] [] := by
    intro hp
    have h := hk7 hp
    refine g_aload_n (pc' := 10) 0 dX12_image_9 rfl rfl ?_
    refine g_iconst (pc' := 11) dX12_image_10 rfl ?_
    refine g_cVI (pc' := 14) (vs := [vI (-1)]) (st := []) (c := 12) h mv_X12_refuses lk_X12_110 rfl rfl rfl rfl (Nat.le_of_ble_eq_true rfl) (Nat.le_of_ble_eq_true rfl) rfl dX12_image_11 rfl z2 (fun r5 i5 l5 rg5 h => ?_)
    exact g_retI rfl rg5 dX12_image_14 h
  refine g_if_ne (tgt := 15) (pc' := 9) rg2 (bI_eq _) dX12_image_6 rfl rfl (fun c4n => ?_) (fun c4 => ?_)
  · have c4 := Decidable.of_not_not c4n
    exact hk6g c4
  · exact hk7g c4
theorem e_X12_image {w : Wd} {d : Nat} {P : Int → IM → LM → Prop} {i : IM} {l : LM} {p0 : Int}  (h : gI w d X_X12_image P i l 0 [(0, vR (some 99)), (1, vI p0)] []) : cI w (d + 1) X_X12_image [vR (some 99), vI p0] i l P := CI_of (by decide +kernel) (Nat.le_of_ble_eq_true rfl) h
set_option maxRecDepth 20000 in
theorem s_X12_image_17 {w : Wd} {d : Nat} {P : Int → IM → LM → Prop} {i : IM} {l : LM} (x1 : Int) (x2 : Int)  (h : ((rg x2) ∧ ((5120 ≤ x2) → ((0 ≤ x1 ∧ x1 < 2) ∧ cI w d X_X12_good [vR (some 99), vI 0] (u2 i 103 x1 1) l (fun r14 i14 l14 => P r14 i14 l14))) ∧ ((¬ (5120 ≤ x2)) → ((0 ≤ x2 ∧ x2 < 5120) ∧ (0 ≤ (5120 * x1) + x2 ∧ (5120 * x1) + x2 < 10240) ∧ gI w d X_X12_image P (u2 i 102 ((5120 * x1) + x2) (i 101 x2)) l 17 [(0, vR (some 99)), (1, vI x1), (2, vI (x2 + 1))] [])))) : gI w d X_X12_image P i l 17 [(0, vR (some 99)), (1, vI x1), (2, vI x2)] [] := by
  refine g_iload_n (pc' := 18) 2 dX12_image_17 rfl rfl ?_
  refine g_sipush (pc' := 21) dX12_image_18 rfl rfl ?_
  obtain ⟨hob9, hk18, hk19⟩ := h
  refine g_icmp_ge (tgt := 48) (pc' := 24) (hob9) (rg_lit rfl) Iff.rfl dX12_image_21 rfl rfl (fun c10 => ?_) (fun c10 => ?_)
  · have h := hk18 c10
    obtain ⟨ob13, h⟩ := h
    refine g_aload_n (pc' := 49) 0 dX12_image_48 rfl rfl ?_
    refine g_getR (pc' := 52) (o := some 103) fl_X12_26 rfl rfl rfl dX12_image_49 rfl ?_
    refine g_iload_n (pc' := 53) 1 dX12_image_52 rfl rfl ?_
    refine g_iconst (pc' := 54) dX12_image_53 rfl ?_
    refine g_zast (pc' := 55) (N := 2) rfl rfl (Nat.lt_of_lt_of_le (Nat.lt_succ_self _) (Nat.le_of_ble_eq_true rfl)) ob13 (by decide) dX12_image_54 rfl ?_
    refine g_aload_n (pc' := 56) 0 dX12_image_55 rfl rfl ?_
    refine g_iconst (pc' := 57) dX12_image_56 rfl ?_
    refine g_cVI (pc' := 60) (vs := [vI 0]) (st := []) (c := 12) h mv_X12_good lk_X12_114 rfl rfl rfl rfl (Nat.le_of_ble_eq_true rfl) (Nat.le_of_ble_eq_true rfl) rfl dX12_image_57 rfl z2 (fun r14 i14 l14 rg14 h => ?_)
    exact g_retI rfl rg14 dX12_image_60 h
  · have h := hk19 c10
    obtain ⟨ob15, ob17, h⟩ := h
    refine g_aload_n (pc' := 25) 0 dX12_image_24 rfl rfl ?_
    refine g_getR (pc' := 28) (o := some 102) fl_X12_23 rfl rfl rfl dX12_image_25 rfl ?_
    refine g_sipush (pc' := 31) dX12_image_28 rfl rfl ?_
    refine g_iload_n (pc' := 32) 1 dX12_image_31 rfl rfl ?_
    refine g_imul (pc' := 33) dX12_image_32 rfl ?_
    refine g_iload_n (pc' := 34) 2 dX12_image_33 rfl rfl ?_
    refine g_iadd (pc' := 35) dX12_image_34 rfl ?_
    refine g_aload_n (pc' := 36) 0 dX12_image_35 rfl rfl ?_
    refine g_getR (pc' := 39) (o := some 101) fl_X12_20 rfl rfl rfl dX12_image_36 rfl ?_
    refine g_iload_n (pc' := 40) 2 dX12_image_39 rfl rfl ?_
    refine g_iald (pc' := 41) (N := 5120) rfl rfl (Nat.lt_of_lt_of_le (Nat.lt_succ_self _) (Nat.le_of_ble_eq_true rfl)) ob15 dX12_image_40 rfl (fun rg16 => ?_)
    refine g_iast (pc' := 42) (N := 10240) rfl rfl (Nat.lt_of_lt_of_le (Nat.lt_succ_self _) (Nat.le_of_ble_eq_true rfl)) ob17 rg16 dX12_image_41 rfl ?_
    refine g_iinc (pc' := 45) (L' := [(2, vI (x2 + 1)), (0, vR (some 99)), (1, vI x1)]) 2 dX12_image_42 rfl (Nat.le_of_ble_eq_true rfl) rfl rfl ?_
    refine g_goto (tgt := 17) dX12_image_45 rfl ?_
    refine g_sub (L' := [(0, vR (some 99)), (1, vI x1), (2, vI (x2 + 1))]) [1, 2, 0] rfl ?_
    exact h

theorem dX12_back_0 : decode cX12_back 0 = .ok (.iload_n 1, 1) := by decide +kernel
theorem dX12_back_1 : decode cX12_back 1 = .ok (.iconst 0, 1) := by decide +kernel
theorem dX12_back_2 : decode cX12_back 2 = .ok (.iconst 1, 1) := by decide +kernel
theorem dX12_back_3 : decode cX12_back 3 = .ok (.invokestatic 106, 3) := by decide +kernel
theorem dX12_back_6 : decode cX12_back 6 = .ok (.ifCond .ne 9, 3) := by decide +kernel
theorem dX12_back_9 : decode cX12_back 9 = .ok (.aload_n 0, 1) := by decide +kernel
theorem dX12_back_10 : decode cX12_back 10 = .ok (.iconst (-1), 1) := by decide +kernel
theorem dX12_back_11 : decode cX12_back 11 = .ok (.invokevirtual 110, 3) := by decide +kernel
theorem dX12_back_14 : decode cX12_back 14 = .ok (.ireturn, 1) := by decide +kernel
theorem dX12_back_15 : decode cX12_back 15 = .ok (.aload_n 0, 1) := by decide +kernel
theorem dX12_back_16 : decode cX12_back 16 = .ok (.getfield 26, 3) := by decide +kernel
theorem dX12_back_19 : decode cX12_back 19 = .ok (.iload_n 1, 1) := by decide +kernel
theorem dX12_back_20 : decode cX12_back 20 = .ok (.baload, 1) := by decide +kernel
theorem dX12_back_21 : decode cX12_back 21 = .ok (.ifCond .ne 10, 3) := by decide +kernel
theorem dX12_back_24 : decode cX12_back 24 = .ok (.aload_n 0, 1) := by decide +kernel
theorem dX12_back_25 : decode cX12_back 25 = .ok (.bipush (-2), 2) := by decide +kernel
theorem dX12_back_27 : decode cX12_back 27 = .ok (.invokevirtual 110, 3) := by decide +kernel
theorem dX12_back_30 : decode cX12_back 30 = .ok (.ireturn, 1) := by decide +kernel
theorem dX12_back_31 : decode cX12_back 31 = .ok (.iconst 0, 1) := by decide +kernel
theorem dX12_back_32 : decode cX12_back 32 = .ok (.istore_n 2, 1) := by decide +kernel
theorem dX12_back_33 : decode cX12_back 33 = .ok (.iload_n 2, 1) := by decide +kernel
theorem dX12_back_34 : decode cX12_back 34 = .ok (.sipush 5120, 3) := by decide +kernel
theorem dX12_back_37 : decode cX12_back 37 = .ok (.if_icmp .ge 27, 3) := by decide +kernel
theorem dX12_back_40 : decode cX12_back 40 = .ok (.aload_n 0, 1) := by decide +kernel
theorem dX12_back_41 : decode cX12_back 41 = .ok (.getfield 20, 3) := by decide +kernel
theorem dX12_back_44 : decode cX12_back 44 = .ok (.iload_n 2, 1) := by decide +kernel
theorem dX12_back_45 : decode cX12_back 45 = .ok (.aload_n 0, 1) := by decide +kernel
theorem dX12_back_46 : decode cX12_back 46 = .ok (.getfield 23, 3) := by decide +kernel
theorem dX12_back_49 : decode cX12_back 49 = .ok (.sipush 5120, 3) := by decide +kernel
theorem dX12_back_52 : decode cX12_back 52 = .ok (.iload_n 1, 1) := by decide +kernel
theorem dX12_back_53 : decode cX12_back 53 = .ok (.imul, 1) := by decide +kernel
theorem dX12_back_54 : decode cX12_back 54 = .ok (.iload_n 2, 1) := by decide +kernel
theorem dX12_back_55 : decode cX12_back 55 = .ok (.iadd, 1) := by decide +kernel
theorem dX12_back_56 : decode cX12_back 56 = .ok (.iaload, 1) := by decide +kernel
theorem dX12_back_57 : decode cX12_back 57 = .ok (.iastore, 1) := by decide +kernel
theorem dX12_back_58 : decode cX12_back 58 = .ok (.iinc 2 1, 3) := by decide +kernel
theorem dX12_back_61 : decode cX12_back 61 = .ok (.goto (-28), 3) := by decide +kernel
theorem dX12_back_64 : decode cX12_back 64 = .ok (.aload_n 0, 1) := by decide +kernel
theorem dX12_back_65 : decode cX12_back 65 = .ok (.iconst 0, 1) := by decide +kernel
theorem dX12_back_66 : decode cX12_back 66 = .ok (.invokevirtual 114, 3) := by decide +kernel
theorem dX12_back_69 : decode cX12_back 69 = .ok (.ireturn, 1) := by decide +kernel
set_option maxRecDepth 20000 in
theorem s_X12_back {w : Wd} {d : Nat} {P : Int → IM → LM → Prop} {i : IM} {l : LM} (p0 : Int)  (hd : 1 ≤ d) (h : ((rg p0) ∧ (((0 ≤ p0 ∧ p0 ≤ 1) → 0 ≤ p0 ∧ p0 < 2) ∧ (((0 ≤ p0 ∧ p0 ≤ 1) ∧ (¬ (i 103 p0 = 0))) → gI w d X_X12_back P i l 33 [(0, vR (some 99)), (1, vI p0), (2, vI 0)] []) ∧ (((0 ≤ p0 ∧ p0 ≤ 1) ∧ (i 103 p0 = 0)) → cI w d X_X12_refuses [vR (some 99), vI (-2)] i l (fun r8 i8 l8 => P r8 i8 l8)) ∧ ((¬ (0 ≤ p0 ∧ p0 ≤ 1)) → cI w d X_X12_refuses [vR (some 99), vI (-1)] i l (fun r9 i9 l9 => P r9 i9 l9))))) : gI w d X_X12_back P i l 0 [(0, vR (some 99)), (1, vI p0)] [] := by
  obtain ⟨ob1, h⟩ := h
  refine g_iload_n (pc' := 1) 1 dX12_back_0 rfl rfl ?_
  refine g_iconst (pc' := 2) dX12_back_1 rfl ?_
  refine g_iconst (pc' := 3) dX12_back_2 rfl ?_
  refine g_pSI (pc' := 6) (vs := [vI p0, vI 0, vI 1]) (st := []) (val := bI (0 ≤ p0 ∧ p0 ≤ 1)) (sp_X12_lies (le_hd hd rfl) ob1 (rg_lit rfl) (rg_lit rfl)) mk_X12_lies ms_X12_lies lk_X12_106 rfl (Nat.le_of_ble_eq_true rfl) (Nat.le_of_ble_eq_true rfl) rfl dX12_back_3 rfl z2 (fun rg2 => ?_)
  obtain ⟨hob5, hk10, hk11, hk12⟩ := h
  have hk10g : ((0 ≤ p0 ∧ p0 ≤ 1) ∧ (¬ (i 103 p0 = 0))) → gI w d X_X12_back P i l 31 [(0, vR (some 99)), (1, vI p0)] [] := by
    intro hp
    have h := hk10 hp
    refine g_iconst (pc' := 32) dX12_back_31 rfl ?_
    refine g_istore_n (pc' := 33) (L' := [(2, vI 0), (0, vR (some 99)), (1, vI p0)]) dX12_back_32 rfl (Nat.le_of_ble_eq_true rfl) rfl ?_
    refine g_sub (L' := [(0, vR (some 99)), (1, vI p0), (2, vI 0)]) [1, 2, 0] rfl ?_
    exact h
  have hk11g : ((0 ≤ p0 ∧ p0 ≤ 1) ∧ (i 103 p0 = 0)) → gI w d X_X12_back P i l 24 [(0, vR (some 99)), (1, vI p0)] [] := by
    intro hp
    have h := hk11 hp
    refine g_aload_n (pc' := 25) 0 dX12_back_24 rfl rfl ?_
    refine g_bipush (pc' := 27) dX12_back_25 rfl rfl ?_
    refine g_cVI (pc' := 30) (vs := [vI (-2)]) (st := []) (c := 12) h mv_X12_refuses lk_X12_110 rfl rfl rfl rfl (Nat.le_of_ble_eq_true rfl) (Nat.le_of_ble_eq_true rfl) rfl dX12_back_27 rfl z2 (fun r8 i8 l8 rg8 h => ?_)
    exact g_retI rfl rg8 dX12_back_30 h
  have hk12g : (¬ (0 ≤ p0 ∧ p0 ≤ 1)) → gI w d X_X12_back P i l 9 [(0, vR (some 99)), (1, vI p0)] [] := by
    intro hp
    have h := hk12 hp
    refine g_aload_n (pc' := 10) 0 dX12_back_9 rfl rfl ?_
    refine g_iconst (pc' := 11) dX12_back_10 rfl ?_
    refine g_cVI (pc' := 14) (vs := [vI (-1)]) (st := []) (c := 12) h mv_X12_refuses lk_X12_110 rfl rfl rfl rfl (Nat.le_of_ble_eq_true rfl) (Nat.le_of_ble_eq_true rfl) rfl dX12_back_11 rfl z2 (fun r9 i9 l9 rg9 h => ?_)
    exact g_retI rfl rg9 dX12_back_14 h
  refine g_if_ne (tgt := 15) (pc' := 9) rg2 (bI_eq _) dX12_back_6 rfl rfl (fun c4n => ?_) (fun c4 => ?_)
  · have c4 := Decidable.of_not_not c4n
    refine g_aload_n (pc' := 16) 0 dX12_back_15 rfl rfl ?_
    refine g_getR (pc' := 19) (o := some 103) fl_X12_26 rfl rfl rfl dX12_back_16 rfl ?_
    refine g_iload_n (pc' := 20) 1 dX12_back_19 rfl rfl ?_
    refine g_zald (pc' := 21) (N := 2) rfl rfl (Nat.lt_of_lt_of_le (Nat.lt_succ_self _) (Nat.le_of_ble_eq_true rfl)) (hob5 c4) dX12_back_20 rfl (fun rg6 => ?_)
    refine g_if_ne (tgt := 31) (pc' := 24) rg6 Iff.rfl dX12_back_21 rfl rfl (fun c7 => ?_) (fun c7 => ?_)
    · exact hk10g ⟨c4, c7⟩
    · exact hk11g ⟨c4, c7⟩
  · exact hk12g c4
theorem e_X12_back {w : Wd} {d : Nat} {P : Int → IM → LM → Prop} {i : IM} {l : LM} {p0 : Int}  (h : gI w d X_X12_back P i l 0 [(0, vR (some 99)), (1, vI p0)] []) : cI w (d + 1) X_X12_back [vR (some 99), vI p0] i l P := CI_of (by decide +kernel) (Nat.le_of_ble_eq_true rfl) h
set_option maxRecDepth 20000 in
theorem s_X12_back_33 {w : Wd} {d : Nat} {P : Int → IM → LM → Prop} {i : IM} {l : LM} (x1 : Int) (x2 : Int)  (h : ((rg x2) ∧ ((5120 ≤ x2) → cI w d X_X12_good [vR (some 99), vI 0] i l (fun r18 i18 l18 => P r18 i18 l18)) ∧ ((¬ (5120 ≤ x2)) → ((0 ≤ (5120 * x1) + x2 ∧ (5120 * x1) + x2 < 10240) ∧ (0 ≤ x2 ∧ x2 < 5120) ∧ gI w d X_X12_back P (u2 i 101 x2 (i 102 ((5120 * x1) + x2))) l 33 [(0, vR (some 99)), (1, vI x1), (2, vI (x2 + 1))] [])))) : gI w d X_X12_back P i l 33 [(0, vR (some 99)), (1, vI x1), (2, vI x2)] [] := by
  refine g_iload_n (pc' := 34) 2 dX12_back_33 rfl rfl ?_
  refine g_sipush (pc' := 37) dX12_back_34 rfl rfl ?_
  obtain ⟨hob14, hk22, hk23⟩ := h
  refine g_icmp_ge (tgt := 64) (pc' := 40) (hob14) (rg_lit rfl) Iff.rfl dX12_back_37 rfl rfl (fun c15 => ?_) (fun c15 => ?_)
  · have h := hk22 c15
    refine g_aload_n (pc' := 65) 0 dX12_back_64 rfl rfl ?_
    refine g_iconst (pc' := 66) dX12_back_65 rfl ?_
    refine g_cVI (pc' := 69) (vs := [vI 0]) (st := []) (c := 12) h mv_X12_good lk_X12_114 rfl rfl rfl rfl (Nat.le_of_ble_eq_true rfl) (Nat.le_of_ble_eq_true rfl) rfl dX12_back_66 rfl z2 (fun r18 i18 l18 rg18 h => ?_)
    exact g_retI rfl rg18 dX12_back_69 h
  · have h := hk23 c15
    obtain ⟨ob19, ob21, h⟩ := h
    refine g_aload_n (pc' := 41) 0 dX12_back_40 rfl rfl ?_
    refine g_getR (pc' := 44) (o := some 101) fl_X12_20 rfl rfl rfl dX12_back_41 rfl ?_
    refine g_iload_n (pc' := 45) 2 dX12_back_44 rfl rfl ?_
    refine g_aload_n (pc' := 46) 0 dX12_back_45 rfl rfl ?_
    refine g_getR (pc' := 49) (o := some 102) fl_X12_23 rfl rfl rfl dX12_back_46 rfl ?_
    refine g_sipush (pc' := 52) dX12_back_49 rfl rfl ?_
    refine g_iload_n (pc' := 53) 1 dX12_back_52 rfl rfl ?_
    refine g_imul (pc' := 54) dX12_back_53 rfl ?_
    refine g_iload_n (pc' := 55) 2 dX12_back_54 rfl rfl ?_
    refine g_iadd (pc' := 56) dX12_back_55 rfl ?_
    refine g_iald (pc' := 57) (N := 10240) rfl rfl (Nat.lt_of_lt_of_le (Nat.lt_succ_self _) (Nat.le_of_ble_eq_true rfl)) ob19 dX12_back_56 rfl (fun rg20 => ?_)
    refine g_iast (pc' := 58) (N := 5120) rfl rfl (Nat.lt_of_lt_of_le (Nat.lt_succ_self _) (Nat.le_of_ble_eq_true rfl)) ob21 rg20 dX12_back_57 rfl ?_
    refine g_iinc (pc' := 61) (L' := [(2, vI (x2 + 1)), (0, vR (some 99)), (1, vI x1)]) 2 dX12_back_58 rfl (Nat.le_of_ble_eq_true rfl) rfl rfl ?_
    refine g_goto (tgt := 33) dX12_back_61 rfl ?_
    refine g_sub (L' := [(0, vR (some 99)), (1, vI x1), (2, vI (x2 + 1))]) [1, 2, 0] rfl ?_
    exact h

theorem dX12_replaces_0 : decode cX12_replaces 0 = .ok (.aload_n 0, 1) := by decide +kernel
theorem dX12_replaces_1 : decode cX12_replaces 1 = .ok (.getfield 20, 3) := by decide +kernel
theorem dX12_replaces_4 : decode cX12_replaces 4 = .ok (.iload_n 1, 1) := by decide +kernel
theorem dX12_replaces_5 : decode cX12_replaces 5 = .ok (.iaload, 1) := by decide +kernel
theorem dX12_replaces_6 : decode cX12_replaces 6 = .ok (.istore_n 3, 1) := by decide +kernel
theorem dX12_replaces_7 : decode cX12_replaces 7 = .ok (.aload_n 0, 1) := by decide +kernel
theorem dX12_replaces_8 : decode cX12_replaces 8 = .ok (.getfield 20, 3) := by decide +kernel
theorem dX12_replaces_11 : decode cX12_replaces 11 = .ok (.iload_n 1, 1) := by decide +kernel
theorem dX12_replaces_12 : decode cX12_replaces 12 = .ok (.iload_n 2, 1) := by decide +kernel
theorem dX12_replaces_13 : decode cX12_replaces 13 = .ok (.iastore, 1) := by decide +kernel
theorem dX12_replaces_14 : decode cX12_replaces 14 = .ok (.aload_n 0, 1) := by decide +kernel
theorem dX12_replaces_15 : decode cX12_replaces 15 = .ok (.iload_n 3, 1) := by decide +kernel
theorem dX12_replaces_16 : decode cX12_replaces 16 = .ok (.invokevirtual 114, 3) := by decide +kernel
theorem dX12_replaces_19 : decode cX12_replaces 19 = .ok (.ireturn, 1) := by decide +kernel
set_option maxRecDepth 20000 in
theorem s_X12_replaces {w : Wd} {d : Nat} {P : Int → IM → LM → Prop} {i : IM} {l : LM} (p0 : Int) (p1 : Int)  (h : ((0 ≤ p0 ∧ p0 < 5120) ∧ (rg p1) ∧ cI w d X_X12_good [vR (some 99), vI (i 101 p0)] (u2 i 101 p0 p1) l (fun r4 i4 l4 => P r4 i4 l4))) : gI w d X_X12_replaces P i l 0 [(0, vR (some 99)), (1, vI p0), (2, vI p1)] [] := by
  obtain ⟨ob1, ob3, h⟩ := h
  refine g_aload_n (pc' := 1) 0 dX12_replaces_0 rfl rfl ?_
  refine g_getR (pc' := 4) (o := some 101) fl_X12_20 rfl rfl rfl dX12_replaces_1 rfl ?_
  refine g_iload_n (pc' := 5) 1 dX12_replaces_4 rfl rfl ?_
  refine g_iald (pc' := 6) (N := 5120) rfl rfl (Nat.lt_of_lt_of_le (Nat.lt_succ_self _) (Nat.le_of_ble_eq_true rfl)) ob1 dX12_replaces_5 rfl (fun rg2 => ?_)
  refine g_istore_n (pc' := 7) (L' := [(3, vI (i 101 p0)), (0, vR (some 99)), (1, vI p0), (2, vI p1)]) dX12_replaces_6 rfl (Nat.le_of_ble_eq_true rfl) rfl ?_
  refine g_aload_n (pc' := 8) 1 dX12_replaces_7 rfl rfl ?_
  refine g_getR (pc' := 11) (o := some 101) fl_X12_20 rfl rfl rfl dX12_replaces_8 rfl ?_
  refine g_iload_n (pc' := 12) 2 dX12_replaces_11 rfl rfl ?_
  refine g_iload_n (pc' := 13) 3 dX12_replaces_12 rfl rfl ?_
  refine g_iast (pc' := 14) (N := 5120) rfl rfl (Nat.lt_of_lt_of_le (Nat.lt_succ_self _) (Nat.le_of_ble_eq_true rfl)) ob1 ob3 dX12_replaces_13 rfl ?_
  refine g_aload_n (pc' := 15) 1 dX12_replaces_14 rfl rfl ?_
  refine g_iload_n (pc' := 16) 0 dX12_replaces_15 rfl rfl ?_
  refine g_cVI (pc' := 19) (vs := [vI (i 101 p0)]) (st := []) (c := 12) h mv_X12_good lk_X12_114 rfl rfl rfl rfl (Nat.le_of_ble_eq_true rfl) (Nat.le_of_ble_eq_true rfl) rfl dX12_replaces_16 rfl z2 (fun r4 i4 l4 rg4 h => ?_)
  exact g_retI rfl rg4 dX12_replaces_19 h
theorem e_X12_replaces {w : Wd} {d : Nat} {P : Int → IM → LM → Prop} {i : IM} {l : LM} {p0 : Int} {p1 : Int}  (h : gI w d X_X12_replaces P i l 0 [(0, vR (some 99)), (1, vI p0), (2, vI p1)] []) : cI w (d + 1) X_X12_replaces [vR (some 99), vI p0, vI p1] i l P := CI_of (by decide +kernel) (Nat.le_of_ble_eq_true rfl) h

theorem dX12_thing_0 : decode cX12_thing 0 = .ok (.iload_n 1, 1) := by decide +kernel
theorem dX12_thing_1 : decode cX12_thing 1 = .ok (.iconst 0, 1) := by decide +kernel
theorem dX12_thing_2 : decode cX12_thing 2 = .ok (.iconst 3, 1) := by decide +kernel
theorem dX12_thing_3 : decode cX12_thing 3 = .ok (.invokestatic 106, 3) := by decide +kernel
theorem dX12_thing_6 : decode cX12_thing 6 = .ok (.ifCond .eq 39, 3) := by decide +kernel
theorem dX12_thing_9 : decode cX12_thing 9 = .ok (.iload_n 2, 1) := by decide +kernel
theorem dX12_thing_10 : decode cX12_thing 10 = .ok (.invokestatic 127, 3) := by decide +kernel
theorem dX12_thing_13 : decode cX12_thing 13 = .ok (.ifCond .eq 32, 3) := by decide +kernel
theorem dX12_thing_16 : decode cX12_thing 16 = .ok (.iload_n 3, 1) := by decide +kernel
theorem dX12_thing_17 : decode cX12_thing 17 = .ok (.invokestatic 127, 3) := by decide +kernel
theorem dX12_thing_20 : decode cX12_thing 20 = .ok (.ifCond .eq 25, 3) := by decide +kernel
theorem dX12_thing_23 : decode cX12_thing 23 = .ok (.iload 4, 2) := by decide +kernel
theorem dX12_thing_25 : decode cX12_thing 25 = .ok (.iconst 0, 1) := by decide +kernel
theorem dX12_thing_26 : decode cX12_thing 26 = .ok (.bipush 99, 2) := by decide +kernel
theorem dX12_thing_28 : decode cX12_thing 28 = .ok (.invokestatic 106, 3) := by decide +kernel
theorem dX12_thing_31 : decode cX12_thing 31 = .ok (.ifCond .eq 14, 3) := by decide +kernel
theorem dX12_thing_34 : decode cX12_thing 34 = .ok (.iload 5, 2) := by decide +kernel
theorem dX12_thing_36 : decode cX12_thing 36 = .ok (.iconst 0, 1) := by decide +kernel
theorem dX12_thing_37 : decode cX12_thing 37 = .ok (.bipush 99, 2) := by decide +kernel
theorem dX12_thing_39 : decode cX12_thing 39 = .ok (.invokestatic 106, 3) := by decide +kernel
theorem dX12_thing_42 : decode cX12_thing 42 = .ok (.ifCond .ne 9, 3) := by decide +kernel
theorem dX12_thing_45 : decode cX12_thing 45 = .ok (.aload_n 0, 1) := by decide +kernel
theorem dX12_thing_46 : decode cX12_thing 46 = .ok (.iconst (-1), 1) := by decide +kernel
theorem dX12_thing_47 : decode cX12_thing 47 = .ok (.invokevirtual 110, 3) := by decide +kernel
theorem dX12_thing_50 : decode cX12_thing 50 = .ok (.ireturn, 1) := by decide +kernel
theorem dX12_thing_51 : decode cX12_thing 51 = .ok (.aload_n 0, 1) := by decide +kernel
theorem dX12_thing_52 : decode cX12_thing 52 = .ok (.invokevirtual 117, 3) := by decide +kernel
theorem dX12_thing_55 : decode cX12_thing 55 = .ok (.istore 6, 2) := by decide +kernel
theorem dX12_thing_57 : decode cX12_thing 57 = .ok (.iload 6, 2) := by decide +kernel
theorem dX12_thing_59 : decode cX12_thing 59 = .ok (.bipush 10, 2) := by decide +kernel
theorem dX12_thing_61 : decode cX12_thing 61 = .ok (.if_icmp .ne 10, 3) := by decide +kernel
theorem dX12_thing_64 : decode cX12_thing 64 = .ok (.aload_n 0, 1) := by decide +kernel
theorem dX12_thing_65 : decode cX12_thing 65 = .ok (.bipush (-5), 2) := by decide +kernel
theorem dX12_thing_67 : decode cX12_thing 67 = .ok (.invokevirtual 110, 3) := by decide +kernel
theorem dX12_thing_70 : decode cX12_thing 70 = .ok (.ireturn, 1) := by decide +kernel
theorem dX12_thing_71 : decode cX12_thing 71 = .ok (.iconst 0, 1) := by decide +kernel
theorem dX12_thing_72 : decode cX12_thing 72 = .ok (.bipush 8, 2) := by decide +kernel
theorem dX12_thing_74 : decode cX12_thing 74 = .ok (.iload 6, 2) := by decide +kernel
theorem dX12_thing_76 : decode cX12_thing 76 = .ok (.imul, 1) := by decide +kernel
theorem dX12_thing_77 : decode cX12_thing 77 = .ok (.iadd, 1) := by decide +kernel
theorem dX12_thing_78 : decode cX12_thing 78 = .ok (.istore 7, 2) := by decide +kernel
theorem dX12_thing_80 : decode cX12_thing 80 = .ok (.aload_n 0, 1) := by decide +kernel
theorem dX12_thing_81 : decode cX12_thing 81 = .ok (.getfield 20, 3) := by decide +kernel
theorem dX12_thing_84 : decode cX12_thing 84 = .ok (.iload 7, 2) := by decide +kernel
theorem dX12_thing_86 : decode cX12_thing 86 = .ok (.iload_n 1, 1) := by decide +kernel
theorem dX12_thing_87 : decode cX12_thing 87 = .ok (.iastore, 1) := by decide +kernel
theorem dX12_thing_88 : decode cX12_thing 88 = .ok (.aload_n 0, 1) := by decide +kernel
theorem dX12_thing_89 : decode cX12_thing 89 = .ok (.getfield 20, 3) := by decide +kernel
theorem dX12_thing_92 : decode cX12_thing 92 = .ok (.iload 7, 2) := by decide +kernel
theorem dX12_thing_94 : decode cX12_thing 94 = .ok (.iconst 1, 1) := by decide +kernel
theorem dX12_thing_95 : decode cX12_thing 95 = .ok (.iadd, 1) := by decide +kernel
theorem dX12_thing_96 : decode cX12_thing 96 = .ok (.iload_n 2, 1) := by decide +kernel
theorem dX12_thing_97 : decode cX12_thing 97 = .ok (.iastore, 1) := by decide +kernel
theorem dX12_thing_98 : decode cX12_thing 98 = .ok (.aload_n 0, 1) := by decide +kernel
theorem dX12_thing_99 : decode cX12_thing 99 = .ok (.getfield 20, 3) := by decide +kernel
theorem dX12_thing_102 : decode cX12_thing 102 = .ok (.iload 7, 2) := by decide +kernel
theorem dX12_thing_104 : decode cX12_thing 104 = .ok (.iconst 2, 1) := by decide +kernel
theorem dX12_thing_105 : decode cX12_thing 105 = .ok (.iadd, 1) := by decide +kernel
theorem dX12_thing_106 : decode cX12_thing 106 = .ok (.iload_n 3, 1) := by decide +kernel
theorem dX12_thing_107 : decode cX12_thing 107 = .ok (.iastore, 1) := by decide +kernel
theorem dX12_thing_108 : decode cX12_thing 108 = .ok (.aload_n 0, 1) := by decide +kernel
theorem dX12_thing_109 : decode cX12_thing 109 = .ok (.getfield 20, 3) := by decide +kernel
theorem dX12_thing_112 : decode cX12_thing 112 = .ok (.iload 7, 2) := by decide +kernel
theorem dX12_thing_114 : decode cX12_thing 114 = .ok (.iconst 3, 1) := by decide +kernel
theorem dX12_thing_115 : decode cX12_thing 115 = .ok (.iadd, 1) := by decide +kernel
theorem dX12_thing_116 : decode cX12_thing 116 = .ok (.iload 4, 2) := by decide +kernel
theorem dX12_thing_118 : decode cX12_thing 118 = .ok (.iastore, 1) := by decide +kernel
theorem dX12_thing_119 : decode cX12_thing 119 = .ok (.aload_n 0, 1) := by decide +kernel
theorem dX12_thing_120 : decode cX12_thing 120 = .ok (.getfield 20, 3) := by decide +kernel
theorem dX12_thing_123 : decode cX12_thing 123 = .ok (.iload 7, 2) := by decide +kernel
theorem dX12_thing_125 : decode cX12_thing 125 = .ok (.iconst 4, 1) := by decide +kernel
theorem dX12_thing_126 : decode cX12_thing 126 = .ok (.iadd, 1) := by decide +kernel
theorem dX12_thing_127 : decode cX12_thing 127 = .ok (.iload 5, 2) := by decide +kernel
theorem dX12_thing_129 : decode cX12_thing 129 = .ok (.iastore, 1) := by decide +kernel
theorem dX12_thing_130 : decode cX12_thing 130 = .ok (.iconst 5, 1) := by decide +kernel
theorem dX12_thing_131 : decode cX12_thing 131 = .ok (.istore 8, 2) := by decide +kernel
theorem dX12_thing_133 : decode cX12_thing 133 = .ok (.iload 8, 2) := by decide +kernel
theorem dX12_thing_135 : decode cX12_thing 135 = .ok (.bipush 7, 2) := by decide +kernel
theorem dX12_thing_137 : decode cX12_thing 137 = .ok (.if_icmp .gt 20, 3) := by decide +kernel
theorem dX12_thing_140 : decode cX12_thing 140 = .ok (.aload_n 0, 1) := by decide +kernel
theorem dX12_thing_141 : decode cX12_thing 141 = .ok (.getfield 20, 3) := by decide +kernel
theorem dX12_thing_144 : decode cX12_thing 144 = .ok (.iload 7, 2) := by decide +kernel
theorem dX12_thing_146 : decode cX12_thing 146 = .ok (.iload 8, 2) := by decide +kernel
theorem dX12_thing_148 : decode cX12_thing 148 = .ok (.iadd, 1) := by decide +kernel
theorem dX12_thing_149 : decode cX12_thing 149 = .ok (.iconst 0, 1) := by decide +kernel
theorem dX12_thing_150 : decode cX12_thing 150 = .ok (.iastore, 1) := by decide +kernel
theorem dX12_thing_151 : decode cX12_thing 151 = .ok (.iinc 8 1, 3) := by decide +kernel
theorem dX12_thing_154 : decode cX12_thing 154 = .ok (.goto (-21), 3) := by decide +kernel
theorem dX12_thing_157 : decode cX12_thing 157 = .ok (.aload_n 0, 1) := by decide +kernel
theorem dX12_thing_158 : decode cX12_thing 158 = .ok (.getfield 20, 3) := by decide +kernel
theorem dX12_thing_161 : decode cX12_thing 161 = .ok (.sipush 307, 3) := by decide +kernel
theorem dX12_thing_164 : decode cX12_thing 164 = .ok (.dup2, 1) := by decide +kernel
theorem dX12_thing_165 : decode cX12_thing 165 = .ok (.iaload, 1) := by decide +kernel
theorem dX12_thing_166 : decode cX12_thing 166 = .ok (.iconst 1, 1) := by decide +kernel
theorem dX12_thing_167 : decode cX12_thing 167 = .ok (.iadd, 1) := by decide +kernel
theorem dX12_thing_168 : decode cX12_thing 168 = .ok (.iastore, 1) := by decide +kernel
theorem dX12_thing_169 : decode cX12_thing 169 = .ok (.aload_n 0, 1) := by decide +kernel
theorem dX12_thing_170 : decode cX12_thing 170 = .ok (.iload 6, 2) := by decide +kernel
theorem dX12_thing_172 : decode cX12_thing 172 = .ok (.invokevirtual 114, 3) := by decide +kernel
theorem dX12_thing_175 : decode cX12_thing 175 = .ok (.ireturn, 1) := by decide +kernel
set_option maxRecDepth 20000 in
theorem s_X12_thing {w : Wd} {d : Nat} {P : Int → IM → LM → Prop} {i : IM} {l : LM} (p0 : Int) (p1 : Int) (p2 : Int) (p3 : Int) (p4 : Int)  (hd : 2 ≤ d) (h : ((rg p0) ∧ (((0 ≤ p0 ∧ p0 ≤ 3) → rg p1) ∧ ((0 ≤ p0 ∧ p0 ≤ 3) → (0 ≤ p1 ∧ p1 ≤ 7) → rg p2) ∧ ((0 ≤ p0 ∧ p0 ≤ 3) → (0 ≤ p1 ∧ p1 ≤ 7) → (0 ≤ p2 ∧ p2 ≤ 7) → rg p3) ∧ ((0 ≤ p0 ∧ p0 ≤ 3) → (0 ≤ p1 ∧ p1 ≤ 7) → (0 ≤ p2 ∧ p2 ≤ 7) → (0 ≤ p3 ∧ p3 ≤ 99) → rg p4) ∧ (((0 ≤ p0 ∧ p0 ≤ 3) ∧ ((0 ≤ p1 ∧ p1 ≤ 7) ∧ ((0 ≤ p2 ∧ p2 ≤ 7) ∧ ((0 ≤ p3 ∧ p3 ≤ 99) ∧ (0 ≤ p4 ∧ p4 ≤ 99))))) → (((i 101 307 = 10) → cI w d X_X12_refuses [vR (some 99), vI (-5)] i l (fun r31 i31 l31 => P r31 i31 l31)) ∧ ((¬ (i 101 307 = 10)) → ((0 ≤ 0 + (8 * (i 101 307)) ∧ 0 + (8 * (i 101 307)) < 5120) ∧ (0 ≤ (0 + (8 * (i 101 307))) + 1 ∧ (0 + (8 * (i 101 307))) + 1 < 5120) ∧ (rg p1) ∧ (0 ≤ (0 + (8 * (i 101 307))) + 2 ∧ (0 + (8 * (i 101 307))) + 2 < 5120) ∧ (rg p2) ∧ (0 ≤ (0 + (8 * (i 101 307))) + 3 ∧ (0 + (8 * (i 101 307))) + 3 < 5120) ∧ (rg p3) ∧ (0 ≤ (0 + (8 * (i 101 307))) + 4 ∧ (0 + (8 * (i 101 307))) + 4 < 5120) ∧ (rg p4) ∧ gI w d X_X12_thing P (u2 (u2 (u2 (u2 (u2 i 101 (0 + (8 * (i 101 307))) p0) 101 ((0 + (8 * (i 101 307))) + 1) p1) 101 ((0 + (8 * (i 101 307))) + 2) p2) 101 ((0 + (8 * (i 101 307))) + 3) p3) 101 ((0 + (8 * (i 101 307))) + 4) p4) l 133 [(0, vR (some 99)), (6, vI (i 101 307)), (7, vI (0 + (8 * (i 101 307)))), (8, vI 5)] [])))) ∧ ((¬ ((0 ≤ p0 ∧ p0 ≤ 3) ∧ ((0 ≤ p1 ∧ p1 ≤ 7) ∧ ((0 ≤ p2 ∧ p2 ≤ 7) ∧ ((0 ≤ p3 ∧ p3 ≤ 99) ∧ (0 ≤ p4 ∧ p4 ≤ 99)))))) → cI w d X_X12_refuses [vR (some 99), vI (-1)] i l (fun r18 i18 l18 => P r18 i18 l18))))) : gI w d X_X12_thing P i l 0 [(0, vR (some 99)), (1, vI p0), (2, vI p1), (3, vI p2), (4, vI p3), (5, vI p4)] [] := by
  obtain ⟨ob1, h⟩ := h
  refine g_iload_n (pc' := 1) 1 dX12_thing_0 rfl rfl ?_
  refine g_iconst (pc' := 2) dX12_thing_1 rfl ?_
  refine g_iconst (pc' := 3) dX12_thing_2 rfl ?_
  refine g_pSI (pc' := 6) (vs := [vI p0, vI 0, vI 3]) (st := []) (val := bI (0 ≤ p0 ∧ p0 ≤ 3)) (sp_X12_lies (le_hd hd rfl) ob1 (rg_lit rfl) (rg_lit rfl)) mk_X12_lies ms_X12_lies lk_X12_106 rfl (Nat.le_of_ble_eq_true rfl) (Nat.le_of_ble_eq_true rfl) rfl dX12_thing_3 rfl z2 (fun rg2 => ?_)
  obtain ⟨hob5, hob8, hob11, hob14, hk34, hk35⟩ := h
  have hk34g : ((0 ≤ p0 ∧ p0 ≤ 3) ∧ ((0 ≤ p1 ∧ p1 ≤ 7) ∧ ((0 ≤ p2 ∧ p2 ≤ 7) ∧ ((0 ≤ p3 ∧ p3 ≤ 99) ∧ (0 ≤ p4 ∧ p4 ≤ 99))))) → gI w d X_X12_thing P i l 51 [(0, vR (some 99)), (1, vI p0), (2, vI p1), (3, vI p2), (4, vI p3), (5, vI p4)] [] := by
    intro hp
    have h := hk34 hp
    refine g_aload_n (pc' := 52) 0 dX12_thing_51 rfl rfl ?_
    refine g_pVI (pc' := 55) (vs := []) (st := []) (val := i 101 307) (c := 12) (sp_X12_things (le_hd hd rfl) ) mv_X12_things lk_X12_117 rfl rfl rfl rfl (Nat.le_of_ble_eq_true rfl) (Nat.le_of_ble_eq_true rfl) rfl dX12_thing_52 rfl z2 (fun rg19 => ?_)
    refine g_istore (pc' := 57) (L' := [(6, vI (i 101 307)), (0, vR (some 99)), (1, vI p0), (2, vI p1), (3, vI p2), (4, vI p3), (5, vI p4)]) dX12_thing_55 rfl (Nat.le_of_ble_eq_true rfl) rfl ?_
    refine g_iload (pc' := 59) 0 dX12_thing_57 rfl rfl ?_
    refine g_bipush (pc' := 61) dX12_thing_59 rfl rfl ?_
    obtain ⟨hk32, hk33⟩ := h
    refine g_icmp_ne (tgt := 71) (pc' := 64) rg19 (rg_lit rfl) Iff.rfl dX12_thing_61 rfl rfl (fun c21 => ?_) (fun c21 => ?_)
    · have h := hk33 c21
      obtain ⟨ob22, ob23, ob24, ob25, ob26, ob27, ob28, ob29, ob30, h⟩ := h
      refine g_iconst (pc' := 72) dX12_thing_71 rfl ?_
      refine g_bipush (pc' := 74) dX12_thing_72 rfl rfl ?_
      refine g_iload (pc' := 76) 0 dX12_thing_74 rfl rfl ?_
      refine g_imul (pc' := 77) dX12_thing_76 rfl ?_
      refine g_iadd (pc' := 78) dX12_thing_77 rfl ?_
      refine g_istore (pc' := 80) (L' := [(7, vI (0 + (8 * (i 101 307)))), (6, vI (i 101 307)), (0, vR (some 99)), (1, vI p0), (2, vI p1), (3, vI p2), (4, vI p3), (5, vI p4)]) dX12_thing_78 rfl (Nat.le_of_ble_eq_true rfl) rfl ?_
      refine g_aload_n (pc' := 81) 2 dX12_thing_80 rfl rfl ?_
      refine g_getR (pc' := 84) (o := some 101) fl_X12_20 rfl rfl rfl dX12_thing_81 rfl ?_
      refine g_iload (pc' := 86) 0 dX12_thing_84 rfl rfl ?_
      refine g_iload_n (pc' := 87) 3 dX12_thing_86 rfl rfl ?_
      refine g_iast (pc' := 88) (N := 5120) rfl rfl (Nat.lt_of_lt_of_le (Nat.lt_succ_self _) (Nat.le_of_ble_eq_true rfl)) ob22 ob1 dX12_thing_87 rfl ?_
      refine g_aload_n (pc' := 89) 2 dX12_thing_88 rfl rfl ?_
      refine g_getR (pc' := 92) (o := some 101) fl_X12_20 rfl rfl rfl dX12_thing_89 rfl ?_
      refine g_iload (pc' := 94) 0 dX12_thing_92 rfl rfl ?_
      refine g_iconst (pc' := 95) dX12_thing_94 rfl ?_
      refine g_iadd (pc' := 96) dX12_thing_95 rfl ?_
      refine g_iload_n (pc' := 97) 4 dX12_thing_96 rfl rfl ?_
      refine g_iast (pc' := 98) (N := 5120) rfl rfl (Nat.lt_of_lt_of_le (Nat.lt_succ_self _) (Nat.le_of_ble_eq_true rfl)) ob23 ob24 dX12_thing_97 rfl ?_
      refine g_aload_n (pc' := 99) 2 dX12_thing_98 rfl rfl ?_
      refine g_getR (pc' := 102) (o := some 101) fl_X12_20 rfl rfl rfl dX12_thing_99 rfl ?_
      refine g_iload (pc' := 104) 0 dX12_thing_102 rfl rfl ?_
      refine g_iconst (pc' := 105) dX12_thing_104 rfl ?_
      refine g_iadd (pc' := 106) dX12_thing_105 rfl ?_
      refine g_iload_n (pc' := 107) 5 dX12_thing_106 rfl rfl ?_
      refine g_iast (pc' := 108) (N := 5120) rfl rfl (Nat.lt_of_lt_of_le (Nat.lt_succ_self _) (Nat.le_of_ble_eq_true rfl)) ob25 ob26 dX12_thing_107 rfl ?_
      refine g_aload_n (pc' := 109) 2 dX12_thing_108 rfl rfl ?_
      refine g_getR (pc' := 112) (o := some 101) fl_X12_20 rfl rfl rfl dX12_thing_109 rfl ?_
      refine g_iload (pc' := 114) 0 dX12_thing_112 rfl rfl ?_
      refine g_iconst (pc' := 115) dX12_thing_114 rfl ?_
      refine g_iadd (pc' := 116) dX12_thing_115 rfl ?_
      refine g_iload (pc' := 118) 6 dX12_thing_116 rfl rfl ?_
      refine g_iast (pc' := 119) (N := 5120) rfl rfl (Nat.lt_of_lt_of_le (Nat.lt_succ_self _) (Nat.le_of_ble_eq_true rfl)) ob27 ob28 dX12_thing_118 rfl ?_
      refine g_aload_n (pc' := 120) 2 dX12_thing_119 rfl rfl ?_
      refine g_getR (pc' := 123) (o := some 101) fl_X12_20 rfl rfl rfl dX12_thing_120 rfl ?_
      refine g_iload (pc' := 125) 0 dX12_thing_123 rfl rfl ?_
      refine g_iconst (pc' := 126) dX12_thing_125 rfl ?_
      refine g_iadd (pc' := 127) dX12_thing_126 rfl ?_
      refine g_iload (pc' := 129) 7 dX12_thing_127 rfl rfl ?_
      refine g_iast (pc' := 130) (N := 5120) rfl rfl (Nat.lt_of_lt_of_le (Nat.lt_succ_self _) (Nat.le_of_ble_eq_true rfl)) ob29 ob30 dX12_thing_129 rfl ?_
      refine g_iconst (pc' := 131) dX12_thing_130 rfl ?_
      refine g_istore (pc' := 133) (L' := [(8, vI 5), (7, vI (0 + (8 * (i 101 307)))), (6, vI (i 101 307)), (0, vR (some 99)), (1, vI p0), (2, vI p1), (3, vI p2), (4, vI p3), (5, vI p4)]) dX12_thing_131 rfl (Nat.le_of_ble_eq_true rfl) rfl ?_
      refine g_sub (L' := [(0, vR (some 99)), (6, vI (i 101 307)), (7, vI (0 + (8 * (i 101 307)))), (8, vI 5)]) [3, 2, 1, 0] rfl ?_
      exact h
    · have h := hk32 c21
      refine g_aload_n (pc' := 65) 1 dX12_thing_64 rfl rfl ?_
      refine g_bipush (pc' := 67) dX12_thing_65 rfl rfl ?_
      refine g_cVI (pc' := 70) (vs := [vI (-5)]) (st := []) (c := 12) h mv_X12_refuses lk_X12_110 rfl rfl rfl rfl (Nat.le_of_ble_eq_true rfl) (Nat.le_of_ble_eq_true rfl) rfl dX12_thing_67 rfl z2 (fun r31 i31 l31 rg31 h => ?_)
      exact g_retI rfl rg31 dX12_thing_70 h
  have hk35g : (¬ ((0 ≤ p0 ∧ p0 ≤ 3) ∧ ((0 ≤ p1 ∧ p1 ≤ 7) ∧ ((0 ≤ p2 ∧ p2 ≤ 7) ∧ ((0 ≤ p3 ∧ p3 ≤ 99) ∧ (0 ≤ p4 ∧ p4 ≤ 99)))))) → gI w d X_X12_thing P i l 45 [(0, vR (some 99)), (1, vI p0), (2, vI p1), (3, vI p2), (4, vI p3), (5, vI p4)] [] := by
    intro hp
    have h := hk35 hp
    refine g_aload_n (pc' := 46) 0 dX12_thing_45 rfl rfl ?_
    refine g_iconst (pc' := 47) dX12_thing_46 rfl ?_
    refine g_cVI (pc' := 50) (vs := [vI (-1)]) (st := []) (c := 12) h mv_X12_refuses lk_X12_110 rfl rfl rfl rfl (Nat.le_of_ble_eq_true rfl) (Nat.le_of_ble_eq_true rfl) rfl dX12_thing_47 rfl z2 (fun r18 i18 l18 rg18 h => ?_)
    exact g_retI rfl rg18 dX12_thing_50 h
  refine g_if_eq (tgt := 45) (pc' := 9) rg2 (bI_eq _) dX12_thing_6 rfl rfl (fun c4 => ?_) (fun c4n => ?_)
  · exact hk35g (fun q => c4 q.1)
  · have c4 := Decidable.of_not_not c4n
    refine g_iload_n (pc' := 10) 2 dX12_thing_9 rfl rfl ?_
    refine g_pSI (pc' := 13) (vs := [vI p1]) (st := []) (val := bI (0 ≤ p1 ∧ p1 ≤ 7)) (sp_X12_isColour (le_hd hd rfl) (hob5 c4)) mk_X12_isColour ms_X12_isColour lk_X12_127 rfl (Nat.le_of_ble_eq_true rfl) (Nat.le_of_ble_eq_true rfl) rfl dX12_thing_10 rfl z2 (fun rg6 => ?_)
    refine g_if_eq (tgt := 45) (pc' := 16) rg6 (bI_eq _) dX12_thing_13 rfl rfl (fun c7 => ?_) (fun c7n => ?_)
    · exact hk35g (fun q => (fun q => c7 q.1) q.2)
    · have c7 := Decidable.of_not_not c7n
      refine g_iload_n (pc' := 17) 3 dX12_thing_16 rfl rfl ?_
      refine g_pSI (pc' := 20) (vs := [vI p2]) (st := []) (val := bI (0 ≤ p2 ∧ p2 ≤ 7)) (sp_X12_isColour (le_hd hd rfl) (hob8 c4 c7)) mk_X12_isColour ms_X12_isColour lk_X12_127 rfl (Nat.le_of_ble_eq_true rfl) (Nat.le_of_ble_eq_true rfl) rfl dX12_thing_17 rfl z2 (fun rg9 => ?_)
      refine g_if_eq (tgt := 45) (pc' := 23) rg9 (bI_eq _) dX12_thing_20 rfl rfl (fun c10 => ?_) (fun c10n => ?_)
      · exact hk35g (fun q => (fun q => (fun q => c10 q.1) q.2) q.2)
      · have c10 := Decidable.of_not_not c10n
        refine g_iload (pc' := 25) 4 dX12_thing_23 rfl rfl ?_
        refine g_iconst (pc' := 26) dX12_thing_25 rfl ?_
        refine g_bipush (pc' := 28) dX12_thing_26 rfl rfl ?_
        refine g_pSI (pc' := 31) (vs := [vI p3, vI 0, vI 99]) (st := []) (val := bI (0 ≤ p3 ∧ p3 ≤ 99)) (sp_X12_lies (le_hd hd rfl) (hob11 c4 c7 c10) (rg_lit rfl) (rg_lit rfl)) mk_X12_lies ms_X12_lies lk_X12_106 rfl (Nat.le_of_ble_eq_true rfl) (Nat.le_of_ble_eq_true rfl) rfl dX12_thing_28 rfl z2 (fun rg12 => ?_)
        refine g_if_eq (tgt := 45) (pc' := 34) rg12 (bI_eq _) dX12_thing_31 rfl rfl (fun c13 => ?_) (fun c13n => ?_)
        · exact hk35g (fun q => (fun q => (fun q => (fun q => c13 q.1) q.2) q.2) q.2)
        · have c13 := Decidable.of_not_not c13n
          refine g_iload (pc' := 36) 5 dX12_thing_34 rfl rfl ?_
          refine g_iconst (pc' := 37) dX12_thing_36 rfl ?_
          refine g_bipush (pc' := 39) dX12_thing_37 rfl rfl ?_
          refine g_pSI (pc' := 42) (vs := [vI p4, vI 0, vI 99]) (st := []) (val := bI (0 ≤ p4 ∧ p4 ≤ 99)) (sp_X12_lies (le_hd hd rfl) (hob14 c4 c7 c10 c13) (rg_lit rfl) (rg_lit rfl)) mk_X12_lies ms_X12_lies lk_X12_106 rfl (Nat.le_of_ble_eq_true rfl) (Nat.le_of_ble_eq_true rfl) rfl dX12_thing_39 rfl z2 (fun rg15 => ?_)
          refine g_if_ne (tgt := 51) (pc' := 45) rg15 (bI_eq _) dX12_thing_42 rfl rfl (fun c16n => ?_) (fun c16 => ?_)
          · have c16 := Decidable.of_not_not c16n
            exact hk34g ⟨c4, ⟨c7, ⟨c10, ⟨c13, c16⟩⟩⟩⟩
          · exact hk35g (fun q => (fun q => (fun q => (fun q => c16 q.2) q.2) q.2) q.2)
theorem e_X12_thing {w : Wd} {d : Nat} {P : Int → IM → LM → Prop} {i : IM} {l : LM} {p0 : Int} {p1 : Int} {p2 : Int} {p3 : Int} {p4 : Int}  (h : gI w d X_X12_thing P i l 0 [(0, vR (some 99)), (1, vI p0), (2, vI p1), (3, vI p2), (4, vI p3), (5, vI p4)] []) : cI w (d + 1) X_X12_thing [vR (some 99), vI p0, vI p1, vI p2, vI p3, vI p4] i l P := CI_of (by decide +kernel) (Nat.le_of_ble_eq_true rfl) h
set_option maxRecDepth 20000 in
theorem s_X12_thing_133 {w : Wd} {d : Nat} {P : Int → IM → LM → Prop} {i : IM} {l : LM} (x6 : Int) (x7 : Int) (x8 : Int)  (h : ((rg x8) ∧ ((7 < x8) → ((rg ((i 101 307) + 1)) ∧ cI w d X_X12_good [vR (some 99), vI x6] (u2 i 101 307 ((i 101 307) + 1)) l (fun r42 i42 l42 => P r42 i42 l42))) ∧ ((¬ (7 < x8)) → ((0 ≤ x7 + x8 ∧ x7 + x8 < 5120) ∧ gI w d X_X12_thing P (u2 i 101 (x7 + x8) 0) l 133 [(0, vR (some 99)), (6, vI x6), (7, vI x7), (8, vI (x8 + 1))] [])))) : gI w d X_X12_thing P i l 133 [(0, vR (some 99)), (6, vI x6), (7, vI x7), (8, vI x8)] [] := by
  refine g_iload (pc' := 135) 3 dX12_thing_133 rfl rfl ?_
  refine g_bipush (pc' := 137) dX12_thing_135 rfl rfl ?_
  obtain ⟨hob37, hk44, hk45⟩ := h
  refine g_icmp_gt (tgt := 157) (pc' := 140) (hob37) (rg_lit rfl) Iff.rfl dX12_thing_137 rfl rfl (fun c38 => ?_) (fun c38 => ?_)
  · have h := hk44 c38
    obtain ⟨ob41, h⟩ := h
    refine g_aload_n (pc' := 158) 0 dX12_thing_157 rfl rfl ?_
    refine g_getR (pc' := 161) (o := some 101) fl_X12_20 rfl rfl rfl dX12_thing_158 rfl ?_
    refine g_sipush (pc' := 164) dX12_thing_161 rfl rfl ?_
    refine g_dup2_11 (pc' := 165) dX12_thing_164 rfl rfl rfl ?_
    refine g_iald (pc' := 166) (N := 5120) rfl rfl (Nat.lt_of_lt_of_le (Nat.lt_succ_self _) (Nat.le_of_ble_eq_true rfl)) (by decide) dX12_thing_165 rfl (fun rg40 => ?_)
    refine g_iconst (pc' := 167) dX12_thing_166 rfl ?_
    refine g_iadd (pc' := 168) dX12_thing_167 rfl ?_
    refine g_iast (pc' := 169) (N := 5120) rfl rfl (Nat.lt_of_lt_of_le (Nat.lt_succ_self _) (Nat.le_of_ble_eq_true rfl)) (by decide) ob41 dX12_thing_168 rfl ?_
    refine g_aload_n (pc' := 170) 0 dX12_thing_169 rfl rfl ?_
    refine g_iload (pc' := 172) 1 dX12_thing_170 rfl rfl ?_
    refine g_cVI (pc' := 175) (vs := [vI x6]) (st := []) (c := 12) h mv_X12_good lk_X12_114 rfl rfl rfl rfl (Nat.le_of_ble_eq_true rfl) (Nat.le_of_ble_eq_true rfl) rfl dX12_thing_172 rfl z2 (fun r42 i42 l42 rg42 h => ?_)
    exact g_retI rfl rg42 dX12_thing_175 h
  · have h := hk45 c38
    obtain ⟨ob43, h⟩ := h
    refine g_aload_n (pc' := 141) 0 dX12_thing_140 rfl rfl ?_
    refine g_getR (pc' := 144) (o := some 101) fl_X12_20 rfl rfl rfl dX12_thing_141 rfl ?_
    refine g_iload (pc' := 146) 2 dX12_thing_144 rfl rfl ?_
    refine g_iload (pc' := 148) 3 dX12_thing_146 rfl rfl ?_
    refine g_iadd (pc' := 149) dX12_thing_148 rfl ?_
    refine g_iconst (pc' := 150) dX12_thing_149 rfl ?_
    refine g_iast (pc' := 151) (N := 5120) rfl rfl (Nat.lt_of_lt_of_le (Nat.lt_succ_self _) (Nat.le_of_ble_eq_true rfl)) ob43 (rg_lit rfl) dX12_thing_150 rfl ?_
    refine g_iinc (pc' := 154) (L' := [(8, vI (x8 + 1)), (0, vR (some 99)), (6, vI x6), (7, vI x7)]) 3 dX12_thing_151 rfl (Nat.le_of_ble_eq_true rfl) rfl rfl ?_
    refine g_goto (tgt := 133) dX12_thing_154 rfl ?_
    refine g_sub (L' := [(0, vR (some 99)), (6, vI x6), (7, vI x7), (8, vI (x8 + 1))]) [1, 2, 3, 0] rfl ?_
    exact h

theorem dX12_put_0 : decode cX12_put 0 = .ok (.iload_n 2, 1) := by decide +kernel
theorem dX12_put_1 : decode cX12_put 1 = .ok (.iconst 0, 1) := by decide +kernel
theorem dX12_put_2 : decode cX12_put 2 = .ok (.iconst 5, 1) := by decide +kernel
theorem dX12_put_3 : decode cX12_put 3 = .ok (.invokestatic 106, 3) := by decide +kernel
theorem dX12_put_6 : decode cX12_put 6 = .ok (.ifCond .eq 15, 3) := by decide +kernel
theorem dX12_put_9 : decode cX12_put 9 = .ok (.iload_n 3, 1) := by decide +kernel
theorem dX12_put_10 : decode cX12_put 10 = .ok (.iconst 0, 1) := by decide +kernel
theorem dX12_put_11 : decode cX12_put 11 = .ok (.iload_n 2, 1) := by decide +kernel
theorem dX12_put_12 : decode cX12_put 12 = .ok (.invokestatic 131, 3) := by decide +kernel
theorem dX12_put_15 : decode cX12_put 15 = .ok (.invokestatic 106, 3) := by decide +kernel
theorem dX12_put_18 : decode cX12_put 18 = .ok (.ifCond .ne 9, 3) := by decide +kernel
theorem dX12_put_21 : decode cX12_put 21 = .ok (.aload_n 0, 1) := by decide +kernel
theorem dX12_put_22 : decode cX12_put 22 = .ok (.iconst (-1), 1) := by decide +kernel
theorem dX12_put_23 : decode cX12_put 23 = .ok (.invokevirtual 110, 3) := by decide +kernel
theorem dX12_put_26 : decode cX12_put 26 = .ok (.ireturn, 1) := by decide +kernel
theorem dX12_put_27 : decode cX12_put 27 = .ok (.aload_n 0, 1) := by decide +kernel
theorem dX12_put_28 : decode cX12_put 28 = .ok (.iload_n 1, 1) := by decide +kernel
theorem dX12_put_29 : decode cX12_put 29 = .ok (.invokevirtual 134, 3) := by decide +kernel
theorem dX12_put_32 : decode cX12_put 32 = .ok (.ifCond .ne 10, 3) := by decide +kernel
theorem dX12_put_35 : decode cX12_put 35 = .ok (.aload_n 0, 1) := by decide +kernel
theorem dX12_put_36 : decode cX12_put 36 = .ok (.bipush (-2), 2) := by decide +kernel
theorem dX12_put_38 : decode cX12_put 38 = .ok (.invokevirtual 110, 3) := by decide +kernel
theorem dX12_put_41 : decode cX12_put 41 = .ok (.ireturn, 1) := by decide +kernel
theorem dX12_put_42 : decode cX12_put 42 = .ok (.aload_n 0, 1) := by decide +kernel
theorem dX12_put_43 : decode cX12_put 43 = .ok (.iconst 0, 1) := by decide +kernel
theorem dX12_put_44 : decode cX12_put 44 = .ok (.bipush 8, 2) := by decide +kernel
theorem dX12_put_46 : decode cX12_put 46 = .ok (.iload_n 1, 1) := by decide +kernel
theorem dX12_put_47 : decode cX12_put 47 = .ok (.imul, 1) := by decide +kernel
theorem dX12_put_48 : decode cX12_put 48 = .ok (.iadd, 1) := by decide +kernel
theorem dX12_put_49 : decode cX12_put 49 = .ok (.iload_n 2, 1) := by decide +kernel
theorem dX12_put_50 : decode cX12_put 50 = .ok (.iadd, 1) := by decide +kernel
theorem dX12_put_51 : decode cX12_put 51 = .ok (.iload_n 3, 1) := by decide +kernel
theorem dX12_put_52 : decode cX12_put 52 = .ok (.invokevirtual 137, 3) := by decide +kernel
theorem dX12_put_55 : decode cX12_put 55 = .ok (.ireturn, 1) := by decide +kernel
set_option maxRecDepth 20000 in
theorem s_X12_put {w : Wd} {d : Nat} {P : Int → IM → LM → Prop} {i : IM} {l : LM} (p0 : Int) (p1 : Int) (p2 : Int)  (hd : 2 ≤ d) (h : ((rg p1) ∧ (((0 ≤ p1 ∧ p1 ≤ 5) → rg p2) ∧ ((0 ≤ p1 ∧ p1 ≤ 5) → (0 ≤ p2 ∧ p2 ≤ mostI p1) → rg p0) ∧ ((0 ≤ p1 ∧ p1 ≤ 5) → (0 ≤ p2 ∧ p2 ≤ mostI p1) → rg (i 101 307 - 1)) ∧ ((¬ (0 ≤ p1 ∧ p1 ≤ 5) ∨ (¬ (0 ≤ p2 ∧ p2 ≤ mostI p1))) → cI w d X_X12_refuses [vR (some 99), vI (-1)] i l (fun r13 i13 l13 => P r13 i13 l13)) ∧ (((0 ≤ p1 ∧ p1 ≤ 5) ∧ ((0 ≤ p2 ∧ p2 ≤ mostI p1) ∧ (0 ≤ p0 ∧ p0 < i 101 307))) → cI w d X_X12_replaces [vR (some 99), vI ((0 + (8 * p0)) + p1), vI p2] i l (fun r14 i14 l14 => P r14 i14 l14)) ∧ (((0 ≤ p1 ∧ p1 ≤ 5) ∧ ((0 ≤ p2 ∧ p2 ≤ mostI p1) ∧ (¬ (0 ≤ p0 ∧ p0 < i 101 307)))) → cI w d X_X12_refuses [vR (some 99), vI (-2)] i l (fun r15 i15 l15 => P r15 i15 l15))))) : gI w d X_X12_put P i l 0 [(0, vR (some 99)), (1, vI p0), (2, vI p1), (3, vI p2)] [] := by
  obtain ⟨ob1, h⟩ := h
  refine g_iload_n (pc' := 1) 2 dX12_put_0 rfl rfl ?_
  refine g_iconst (pc' := 2) dX12_put_1 rfl ?_
  refine g_iconst (pc' := 3) dX12_put_2 rfl ?_
  refine g_pSI (pc' := 6) (vs := [vI p1, vI 0, vI 5]) (st := []) (val := bI (0 ≤ p1 ∧ p1 ≤ 5)) (sp_X12_lies (le_hd hd rfl) ob1 (rg_lit rfl) (rg_lit rfl)) mk_X12_lies ms_X12_lies lk_X12_106 rfl (Nat.le_of_ble_eq_true rfl) (Nat.le_of_ble_eq_true rfl) rfl dX12_put_3 rfl z2 (fun rg2 => ?_)
  obtain ⟨hob6, hob9, hob10, hk16, hk17, hk18⟩ := h
  have hk16g : (¬ (0 ≤ p1 ∧ p1 ≤ 5) ∨ (¬ (0 ≤ p2 ∧ p2 ≤ mostI p1))) → gI w d X_X12_put P i l 21 [(0, vR (some 99)), (1, vI p0), (2, vI p1), (3, vI p2)] [] := by
    intro hp
    have h := hk16 hp
    refine g_aload_n (pc' := 22) 0 dX12_put_21 rfl rfl ?_
    refine g_iconst (pc' := 23) dX12_put_22 rfl ?_
    refine g_cVI (pc' := 26) (vs := [vI (-1)]) (st := []) (c := 12) h mv_X12_refuses lk_X12_110 rfl rfl rfl rfl (Nat.le_of_ble_eq_true rfl) (Nat.le_of_ble_eq_true rfl) rfl dX12_put_23 rfl z2 (fun r13 i13 l13 rg13 h => ?_)
    exact g_retI rfl rg13 dX12_put_26 h
  have hk17g : ((0 ≤ p1 ∧ p1 ≤ 5) ∧ ((0 ≤ p2 ∧ p2 ≤ mostI p1) ∧ (0 ≤ p0 ∧ p0 < i 101 307))) → gI w d X_X12_put P i l 42 [(0, vR (some 99)), (1, vI p0), (2, vI p1), (3, vI p2)] [] := by
    intro hp
    have h := hk17 hp
    refine g_aload_n (pc' := 43) 0 dX12_put_42 rfl rfl ?_
    refine g_iconst (pc' := 44) dX12_put_43 rfl ?_
    refine g_bipush (pc' := 46) dX12_put_44 rfl rfl ?_
    refine g_iload_n (pc' := 47) 1 dX12_put_46 rfl rfl ?_
    refine g_imul (pc' := 48) dX12_put_47 rfl ?_
    refine g_iadd (pc' := 49) dX12_put_48 rfl ?_
    refine g_iload_n (pc' := 50) 2 dX12_put_49 rfl rfl ?_
    refine g_iadd (pc' := 51) dX12_put_50 rfl ?_
    refine g_iload_n (pc' := 52) 3 dX12_put_51 rfl rfl ?_
    refine g_cVI (pc' := 55) (vs := [vI ((0 + (8 * p0)) + p1), vI p2]) (st := []) (c := 12) h mv_X12_replaces lk_X12_137 rfl rfl rfl rfl (Nat.le_of_ble_eq_true rfl) (Nat.le_of_ble_eq_true rfl) rfl dX12_put_52 rfl z2 (fun r14 i14 l14 rg14 h => ?_)
    exact g_retI rfl rg14 dX12_put_55 h
  have hk18g : ((0 ≤ p1 ∧ p1 ≤ 5) ∧ ((0 ≤ p2 ∧ p2 ≤ mostI p1) ∧ (¬ (0 ≤ p0 ∧ p0 < i 101 307)))) → gI w d X_X12_put P i l 35 [(0, vR (some 99)), (1, vI p0), (2, vI p1), (3, vI p2)] [] := by
    intro hp
    have h := hk18 hp
    refine g_aload_n (pc' := 36) 0 dX12_put_35 rfl rfl ?_
    refine g_bipush (pc' := 38) dX12_put_36 rfl rfl ?_
    refine g_cVI (pc' := 41) (vs := [vI (-2)]) (st := []) (c := 12) h mv_X12_refuses lk_X12_110 rfl rfl rfl rfl (Nat.le_of_ble_eq_true rfl) (Nat.le_of_ble_eq_true rfl) rfl dX12_put_38 rfl z2 (fun r15 i15 l15 rg15 h => ?_)
    exact g_retI rfl rg15 dX12_put_41 h
  refine g_if_eq (tgt := 21) (pc' := 9) rg2 (bI_eq _) dX12_put_6 rfl rfl (fun c4 => ?_) (fun c4n => ?_)
  · exact hk16g (Or.inl c4)
  · have c4 := Decidable.of_not_not c4n
    refine g_iload_n (pc' := 10) 3 dX12_put_9 rfl rfl ?_
    refine g_iconst (pc' := 11) dX12_put_10 rfl ?_
    refine g_iload_n (pc' := 12) 2 dX12_put_11 rfl rfl ?_
    refine g_pSI (pc' := 15) (vs := [vI p1]) (st := [vI 0, vI p2]) (val := mostI p1) (sp_X12_mostOf (le_hd hd rfl) ob1) mk_X12_mostOf ms_X12_mostOf lk_X12_131 rfl (Nat.le_of_ble_eq_true rfl) (Nat.le_of_ble_eq_true rfl) rfl dX12_put_12 rfl z2 (fun rg5 => ?_)
    refine g_pSI (pc' := 18) (vs := [vI p2, vI 0, vI (mostI p1)]) (st := []) (val := bI (0 ≤ p2 ∧ p2 ≤ mostI p1)) (sp_X12_lies (le_hd hd rfl) (hob6 c4) (rg_lit rfl) rg5) mk_X12_lies ms_X12_lies lk_X12_106 rfl (Nat.le_of_ble_eq_true rfl) (Nat.le_of_ble_eq_true rfl) rfl dX12_put_15 rfl z2 (fun rg7 => ?_)
    refine g_if_ne (tgt := 27) (pc' := 21) rg7 (bI_eq _) dX12_put_18 rfl rfl (fun c8n => ?_) (fun c8 => ?_)
    · have c8 := Decidable.of_not_not c8n
      refine g_aload_n (pc' := 28) 0 dX12_put_27 rfl rfl ?_
      refine g_iload_n (pc' := 29) 1 dX12_put_28 rfl rfl ?_
      refine g_pVI (pc' := 32) (vs := [vI p0]) (st := []) (val := bI (0 ≤ p0 ∧ p0 < i 101 307)) (c := 12) (sp_X12_isThing (le_hd hd rfl) (hob9 c4 c8) (hob10 c4 c8)) mv_X12_isThing lk_X12_134 rfl rfl rfl rfl (Nat.le_of_ble_eq_true rfl) (Nat.le_of_ble_eq_true rfl) rfl dX12_put_29 rfl z2 (fun rg11 => ?_)
      refine g_if_ne (tgt := 42) (pc' := 35) rg11 (bI_eq _) dX12_put_32 rfl rfl (fun c12n => ?_) (fun c12 => ?_)
      · have c12 := Decidable.of_not_not c12n
        exact hk17g ⟨c4, ⟨c8, c12⟩⟩
      · exact hk18g ⟨c4, ⟨c8, c12⟩⟩
    · exact hk16g (Or.inr c8)
theorem e_X12_put {w : Wd} {d : Nat} {P : Int → IM → LM → Prop} {i : IM} {l : LM} {p0 : Int} {p1 : Int} {p2 : Int}  (h : gI w d X_X12_put P i l 0 [(0, vR (some 99)), (1, vI p0), (2, vI p1), (3, vI p2)] []) : cI w (d + 1) X_X12_put [vR (some 99), vI p0, vI p1, vI p2] i l P := CI_of (by decide +kernel) (Nat.le_of_ble_eq_true rfl) h

theorem dX12_bloom_0 : decode cX12_bloom 0 = .ok (.iload_n 2, 1) := by decide +kernel
theorem dX12_bloom_1 : decode cX12_bloom 1 = .ok (.iconst 0, 1) := by decide +kernel
theorem dX12_bloom_2 : decode cX12_bloom 2 = .ok (.sipush 4095, 3) := by decide +kernel
theorem dX12_bloom_5 : decode cX12_bloom 5 = .ok (.invokestatic 106, 3) := by decide +kernel
theorem dX12_bloom_8 : decode cX12_bloom 8 = .ok (.ifCond .eq 10, 3) := by decide +kernel
theorem dX12_bloom_11 : decode cX12_bloom 11 = .ok (.iload_n 3, 1) := by decide +kernel
theorem dX12_bloom_12 : decode cX12_bloom 12 = .ok (.invokestatic 127, 3) := by decide +kernel
theorem dX12_bloom_15 : decode cX12_bloom 15 = .ok (.ifCond .ne 9, 3) := by decide +kernel
theorem dX12_bloom_18 : decode cX12_bloom 18 = .ok (.aload_n 0, 1) := by decide +kernel
theorem dX12_bloom_19 : decode cX12_bloom 19 = .ok (.iconst (-1), 1) := by decide +kernel
theorem dX12_bloom_20 : decode cX12_bloom 20 = .ok (.invokevirtual 110, 3) := by decide +kernel
theorem dX12_bloom_23 : decode cX12_bloom 23 = .ok (.ireturn, 1) := by decide +kernel
theorem dX12_bloom_24 : decode cX12_bloom 24 = .ok (.aload_n 0, 1) := by decide +kernel
theorem dX12_bloom_25 : decode cX12_bloom 25 = .ok (.iload_n 1, 1) := by decide +kernel
theorem dX12_bloom_26 : decode cX12_bloom 26 = .ok (.invokevirtual 134, 3) := by decide +kernel
theorem dX12_bloom_29 : decode cX12_bloom 29 = .ok (.ifCond .ne 10, 3) := by decide +kernel
theorem dX12_bloom_32 : decode cX12_bloom 32 = .ok (.aload_n 0, 1) := by decide +kernel
theorem dX12_bloom_33 : decode cX12_bloom 33 = .ok (.bipush (-2), 2) := by decide +kernel
theorem dX12_bloom_35 : decode cX12_bloom 35 = .ok (.invokevirtual 110, 3) := by decide +kernel
theorem dX12_bloom_38 : decode cX12_bloom 38 = .ok (.ireturn, 1) := by decide +kernel
theorem dX12_bloom_39 : decode cX12_bloom 39 = .ok (.aload_n 0, 1) := by decide +kernel
theorem dX12_bloom_40 : decode cX12_bloom 40 = .ok (.getfield 20, 3) := by decide +kernel
theorem dX12_bloom_43 : decode cX12_bloom 43 = .ok (.iconst 0, 1) := by decide +kernel
theorem dX12_bloom_44 : decode cX12_bloom 44 = .ok (.bipush 8, 2) := by decide +kernel
theorem dX12_bloom_46 : decode cX12_bloom 46 = .ok (.iload_n 1, 1) := by decide +kernel
theorem dX12_bloom_47 : decode cX12_bloom 47 = .ok (.imul, 1) := by decide +kernel
theorem dX12_bloom_48 : decode cX12_bloom 48 = .ok (.iadd, 1) := by decide +kernel
theorem dX12_bloom_49 : decode cX12_bloom 49 = .ok (.bipush 6, 2) := by decide +kernel
theorem dX12_bloom_51 : decode cX12_bloom 51 = .ok (.iadd, 1) := by decide +kernel
theorem dX12_bloom_52 : decode cX12_bloom 52 = .ok (.iload_n 2, 1) := by decide +kernel
theorem dX12_bloom_53 : decode cX12_bloom 53 = .ok (.iastore, 1) := by decide +kernel
theorem dX12_bloom_54 : decode cX12_bloom 54 = .ok (.aload_n 0, 1) := by decide +kernel
theorem dX12_bloom_55 : decode cX12_bloom 55 = .ok (.getfield 20, 3) := by decide +kernel
theorem dX12_bloom_58 : decode cX12_bloom 58 = .ok (.iconst 0, 1) := by decide +kernel
theorem dX12_bloom_59 : decode cX12_bloom 59 = .ok (.bipush 8, 2) := by decide +kernel
theorem dX12_bloom_61 : decode cX12_bloom 61 = .ok (.iload_n 1, 1) := by decide +kernel
theorem dX12_bloom_62 : decode cX12_bloom 62 = .ok (.imul, 1) := by decide +kernel
theorem dX12_bloom_63 : decode cX12_bloom 63 = .ok (.iadd, 1) := by decide +kernel
theorem dX12_bloom_64 : decode cX12_bloom 64 = .ok (.bipush 7, 2) := by decide +kernel
theorem dX12_bloom_66 : decode cX12_bloom 66 = .ok (.iadd, 1) := by decide +kernel
theorem dX12_bloom_67 : decode cX12_bloom 67 = .ok (.iload_n 3, 1) := by decide +kernel
theorem dX12_bloom_68 : decode cX12_bloom 68 = .ok (.iastore, 1) := by decide +kernel
theorem dX12_bloom_69 : decode cX12_bloom 69 = .ok (.aload_n 0, 1) := by decide +kernel
theorem dX12_bloom_70 : decode cX12_bloom 70 = .ok (.iconst 0, 1) := by decide +kernel
theorem dX12_bloom_71 : decode cX12_bloom 71 = .ok (.invokevirtual 114, 3) := by decide +kernel
theorem dX12_bloom_74 : decode cX12_bloom 74 = .ok (.ireturn, 1) := by decide +kernel
set_option maxRecDepth 20000 in
theorem s_X12_bloom {w : Wd} {d : Nat} {P : Int → IM → LM → Prop} {i : IM} {l : LM} (p0 : Int) (p1 : Int) (p2 : Int)  (hd : 2 ≤ d) (h : ((rg p1) ∧ (((0 ≤ p1 ∧ p1 ≤ 4095) → rg p2) ∧ ((0 ≤ p1 ∧ p1 ≤ 4095) → (0 ≤ p2 ∧ p2 ≤ 7) → rg p0) ∧ ((0 ≤ p1 ∧ p1 ≤ 4095) → (0 ≤ p2 ∧ p2 ≤ 7) → rg (i 101 307 - 1)) ∧ ((¬ (0 ≤ p1 ∧ p1 ≤ 4095) ∨ (¬ (0 ≤ p2 ∧ p2 ≤ 7))) → cI w d X_X12_refuses [vR (some 99), vI (-1)] i l (fun r12 i12 l12 => P r12 i12 l12)) ∧ (((0 ≤ p1 ∧ p1 ≤ 4095) ∧ ((0 ≤ p2 ∧ p2 ≤ 7) ∧ (0 ≤ p0 ∧ p0 < i 101 307))) → ((0 ≤ (0 + (8 * p0)) + 6 ∧ (0 + (8 * p0)) + 6 < 5120) ∧ (0 ≤ (0 + (8 * p0)) + 7 ∧ (0 + (8 * p0)) + 7 < 5120) ∧ (rg p2) ∧ cI w d X_X12_good [vR (some 99), vI 0] (u2 (u2 i 101 ((0 + (8 * p0)) + 6) p1) 101 ((0 + (8 * p0)) + 7) p2) l (fun r16 i16 l16 => P r16 i16 l16))) ∧ (((0 ≤ p1 ∧ p1 ≤ 4095) ∧ ((0 ≤ p2 ∧ p2 ≤ 7) ∧ (¬ (0 ≤ p0 ∧ p0 < i 101 307)))) → cI w d X_X12_refuses [vR (some 99), vI (-2)] i l (fun r17 i17 l17 => P r17 i17 l17))))) : gI w d X_X12_bloom P i l 0 [(0, vR (some 99)), (1, vI p0), (2, vI p1), (3, vI p2)] [] := by
  obtain ⟨ob1, h⟩ := h
  refine g_iload_n (pc' := 1) 2 dX12_bloom_0 rfl rfl ?_
  refine g_iconst (pc' := 2) dX12_bloom_1 rfl ?_
  refine g_sipush (pc' := 5) dX12_bloom_2 rfl rfl ?_
  refine g_pSI (pc' := 8) (vs := [vI p1, vI 0, vI 4095]) (st := []) (val := bI (0 ≤ p1 ∧ p1 ≤ 4095)) (sp_X12_lies (le_hd hd rfl) ob1 (rg_lit rfl) (rg_lit rfl)) mk_X12_lies ms_X12_lies lk_X12_106 rfl (Nat.le_of_ble_eq_true rfl) (Nat.le_of_ble_eq_true rfl) rfl dX12_bloom_5 rfl z2 (fun rg2 => ?_)
  obtain ⟨hob5, hob8, hob9, hk18, hk19, hk20⟩ := h
  have hk18g : (¬ (0 ≤ p1 ∧ p1 ≤ 4095) ∨ (¬ (0 ≤ p2 ∧ p2 ≤ 7))) → gI w d X_X12_bloom P i l 18 [(0, vR (some 99)), (1, vI p0), (2, vI p1), (3, vI p2)] [] := by
    intro hp
    have h := hk18 hp
    refine g_aload_n (pc' := 19) 0 dX12_bloom_18 rfl rfl ?_
    refine g_iconst (pc' := 20) dX12_bloom_19 rfl ?_
    refine g_cVI (pc' := 23) (vs := [vI (-1)]) (st := []) (c := 12) h mv_X12_refuses lk_X12_110 rfl rfl rfl rfl (Nat.le_of_ble_eq_true rfl) (Nat.le_of_ble_eq_true rfl) rfl dX12_bloom_20 rfl z2 (fun r12 i12 l12 rg12 h => ?_)
    exact g_retI rfl rg12 dX12_bloom_23 h
  have hk19g : ((0 ≤ p1 ∧ p1 ≤ 4095) ∧ ((0 ≤ p2 ∧ p2 ≤ 7) ∧ (0 ≤ p0 ∧ p0 < i 101 307))) → gI w d X_X12_bloom P i l 39 [(0, vR (some 99)), (1, vI p0), (2, vI p1), (3, vI p2)] [] := by
    intro hp
    have h := hk19 hp
    obtain ⟨ob13, ob14, ob15, h⟩ := h
    refine g_aload_n (pc' := 40) 0 dX12_bloom_39 rfl rfl ?_
    refine g_getR (pc' := 43) (o := some 101) fl_X12_20 rfl rfl rfl dX12_bloom_40 rfl ?_
    refine g_iconst (pc' := 44) dX12_bloom_43 rfl ?_
    refine g_bipush (pc' := 46) dX12_bloom_44 rfl rfl ?_
    refine g_iload_n (pc' := 47) 1 dX12_bloom_46 rfl rfl ?_
    refine g_imul (pc' := 48) dX12_bloom_47 rfl ?_
    refine g_iadd (pc' := 49) dX12_bloom_48 rfl ?_
    refine g_bipush (pc' := 51) dX12_bloom_49 rfl rfl ?_
    refine g_iadd (pc' := 52) dX12_bloom_51 rfl ?_
    refine g_iload_n (pc' := 53) 2 dX12_bloom_52 rfl rfl ?_
    refine g_iast (pc' := 54) (N := 5120) rfl rfl (Nat.lt_of_lt_of_le (Nat.lt_succ_self _) (Nat.le_of_ble_eq_true rfl)) ob13 ob1 dX12_bloom_53 rfl ?_
    refine g_aload_n (pc' := 55) 0 dX12_bloom_54 rfl rfl ?_
    refine g_getR (pc' := 58) (o := some 101) fl_X12_20 rfl rfl rfl dX12_bloom_55 rfl ?_
    refine g_iconst (pc' := 59) dX12_bloom_58 rfl ?_
    refine g_bipush (pc' := 61) dX12_bloom_59 rfl rfl ?_
    refine g_iload_n (pc' := 62) 1 dX12_bloom_61 rfl rfl ?_
    refine g_imul (pc' := 63) dX12_bloom_62 rfl ?_
    refine g_iadd (pc' := 64) dX12_bloom_63 rfl ?_
    refine g_bipush (pc' := 66) dX12_bloom_64 rfl rfl ?_
    refine g_iadd (pc' := 67) dX12_bloom_66 rfl ?_
    refine g_iload_n (pc' := 68) 3 dX12_bloom_67 rfl rfl ?_
    refine g_iast (pc' := 69) (N := 5120) rfl rfl (Nat.lt_of_lt_of_le (Nat.lt_succ_self _) (Nat.le_of_ble_eq_true rfl)) ob14 ob15 dX12_bloom_68 rfl ?_
    refine g_aload_n (pc' := 70) 0 dX12_bloom_69 rfl rfl ?_
    refine g_iconst (pc' := 71) dX12_bloom_70 rfl ?_
    refine g_cVI (pc' := 74) (vs := [vI 0]) (st := []) (c := 12) h mv_X12_good lk_X12_114 rfl rfl rfl rfl (Nat.le_of_ble_eq_true rfl) (Nat.le_of_ble_eq_true rfl) rfl dX12_bloom_71 rfl z2 (fun r16 i16 l16 rg16 h => ?_)
    exact g_retI rfl rg16 dX12_bloom_74 h
  have hk20g : ((0 ≤ p1 ∧ p1 ≤ 4095) ∧ ((0 ≤ p2 ∧ p2 ≤ 7) ∧ (¬ (0 ≤ p0 ∧ p0 < i 101 307)))) → gI w d X_X12_bloom P i l 32 [(0, vR (some 99)), (1, vI p0), (2, vI p1), (3, vI p2)] [] := by
    intro hp
    have h := hk20 hp
    refine g_aload_n (pc' := 33) 0 dX12_bloom_32 rfl rfl ?_
    refine g_bipush (pc' := 35) dX12_bloom_33 rfl rfl ?_
    refine g_cVI (pc' := 38) (vs := [vI (-2)]) (st := []) (c := 12) h mv_X12_refuses lk_X12_110 rfl rfl rfl rfl (Nat.le_of_ble_eq_true rfl) (Nat.le_of_ble_eq_true rfl) rfl dX12_bloom_35 rfl z2 (fun r17 i17 l17 rg17 h => ?_)
    exact g_retI rfl rg17 dX12_bloom_38 h
  refine g_if_eq (tgt := 18) (pc' := 11) rg2 (bI_eq _) dX12_bloom_8 rfl rfl (fun c4 => ?_) (fun c4n => ?_)
  · exact hk18g (Or.inl c4)
  · have c4 := Decidable.of_not_not c4n
    refine g_iload_n (pc' := 12) 3 dX12_bloom_11 rfl rfl ?_
    refine g_pSI (pc' := 15) (vs := [vI p2]) (st := []) (val := bI (0 ≤ p2 ∧ p2 ≤ 7)) (sp_X12_isColour (le_hd hd rfl) (hob5 c4)) mk_X12_isColour ms_X12_isColour lk_X12_127 rfl (Nat.le_of_ble_eq_true rfl) (Nat.le_of_ble_eq_true rfl) rfl dX12_bloom_12 rfl z2 (fun rg6 => ?_)
    refine g_if_ne (tgt := 24) (pc' := 18) rg6 (bI_eq _) dX12_bloom_15 rfl rfl (fun c7n => ?_) (fun c7 => ?_)
    · have c7 := Decidable.of_not_not c7n
      refine g_aload_n (pc' := 25) 0 dX12_bloom_24 rfl rfl ?_
      refine g_iload_n (pc' := 26) 1 dX12_bloom_25 rfl rfl ?_
      refine g_pVI (pc' := 29) (vs := [vI p0]) (st := []) (val := bI (0 ≤ p0 ∧ p0 < i 101 307)) (c := 12) (sp_X12_isThing (le_hd hd rfl) (hob8 c4 c7) (hob9 c4 c7)) mv_X12_isThing lk_X12_134 rfl rfl rfl rfl (Nat.le_of_ble_eq_true rfl) (Nat.le_of_ble_eq_true rfl) rfl dX12_bloom_26 rfl z2 (fun rg10 => ?_)
      refine g_if_ne (tgt := 39) (pc' := 32) rg10 (bI_eq _) dX12_bloom_29 rfl rfl (fun c11n => ?_) (fun c11 => ?_)
      · have c11 := Decidable.of_not_not c11n
        exact hk19g ⟨c4, ⟨c7, c11⟩⟩
      · exact hk20g ⟨c4, ⟨c7, c11⟩⟩
    · exact hk18g (Or.inr c7)
theorem e_X12_bloom {w : Wd} {d : Nat} {P : Int → IM → LM → Prop} {i : IM} {l : LM} {p0 : Int} {p1 : Int} {p2 : Int}  (h : gI w d X_X12_bloom P i l 0 [(0, vR (some 99)), (1, vI p0), (2, vI p1), (3, vI p2)] []) : cI w (d + 1) X_X12_bloom [vR (some 99), vI p0, vI p1, vI p2] i l P := CI_of (by decide +kernel) (Nat.le_of_ble_eq_true rfl) h

theorem dX12_window_0 : decode cX12_window 0 = .ok (.iload_n 1, 1) := by decide +kernel
theorem dX12_window_1 : decode cX12_window 1 = .ok (.iconst 0, 1) := by decide +kernel
theorem dX12_window_2 : decode cX12_window 2 = .ok (.sipush 1023, 3) := by decide +kernel
theorem dX12_window_5 : decode cX12_window 5 = .ok (.invokestatic 106, 3) := by decide +kernel
theorem dX12_window_8 : decode cX12_window 8 = .ok (.ifCond .eq 24, 3) := by decide +kernel
theorem dX12_window_11 : decode cX12_window 11 = .ok (.iload_n 2, 1) := by decide +kernel
theorem dX12_window_12 : decode cX12_window 12 = .ok (.iconst 0, 1) := by decide +kernel
theorem dX12_window_13 : decode cX12_window 13 = .ok (.sipush 1023, 3) := by decide +kernel
theorem dX12_window_16 : decode cX12_window 16 = .ok (.invokestatic 106, 3) := by decide +kernel
theorem dX12_window_19 : decode cX12_window 19 = .ok (.ifCond .eq 13, 3) := by decide +kernel
theorem dX12_window_22 : decode cX12_window 22 = .ok (.iload_n 3, 1) := by decide +kernel
theorem dX12_window_23 : decode cX12_window 23 = .ok (.iconst 0, 1) := by decide +kernel
theorem dX12_window_24 : decode cX12_window 24 = .ok (.bipush 99, 2) := by decide +kernel
theorem dX12_window_26 : decode cX12_window 26 = .ok (.invokestatic 106, 3) := by decide +kernel
theorem dX12_window_29 : decode cX12_window 29 = .ok (.ifCond .ne 9, 3) := by decide +kernel
theorem dX12_window_32 : decode cX12_window 32 = .ok (.aload_n 0, 1) := by decide +kernel
theorem dX12_window_33 : decode cX12_window 33 = .ok (.iconst (-1), 1) := by decide +kernel
theorem dX12_window_34 : decode cX12_window 34 = .ok (.invokevirtual 110, 3) := by decide +kernel
theorem dX12_window_37 : decode cX12_window 37 = .ok (.ireturn, 1) := by decide +kernel
theorem dX12_window_38 : decode cX12_window 38 = .ok (.aload_n 0, 1) := by decide +kernel
theorem dX12_window_39 : decode cX12_window 39 = .ok (.invokevirtual 121, 3) := by decide +kernel
theorem dX12_window_42 : decode cX12_window 42 = .ok (.istore 4, 2) := by decide +kernel
theorem dX12_window_44 : decode cX12_window 44 = .ok (.iload 4, 2) := by decide +kernel
theorem dX12_window_46 : decode cX12_window 46 = .ok (.bipush 8, 2) := by decide +kernel
theorem dX12_window_48 : decode cX12_window 48 = .ok (.if_icmp .ne 10, 3) := by decide +kernel
theorem dX12_window_51 : decode cX12_window 51 = .ok (.aload_n 0, 1) := by decide +kernel
theorem dX12_window_52 : decode cX12_window 52 = .ok (.bipush (-5), 2) := by decide +kernel
theorem dX12_window_54 : decode cX12_window 54 = .ok (.invokevirtual 110, 3) := by decide +kernel
theorem dX12_window_57 : decode cX12_window 57 = .ok (.ireturn, 1) := by decide +kernel
theorem dX12_window_58 : decode cX12_window 58 = .ok (.aload_n 0, 1) := by decide +kernel
theorem dX12_window_59 : decode cX12_window 59 = .ok (.getfield 20, 3) := by decide +kernel
theorem dX12_window_62 : decode cX12_window 62 = .ok (.bipush 80, 2) := by decide +kernel
theorem dX12_window_64 : decode cX12_window 64 = .ok (.iconst 3, 1) := by decide +kernel
theorem dX12_window_65 : decode cX12_window 65 = .ok (.iload 4, 2) := by decide +kernel
theorem dX12_window_67 : decode cX12_window 67 = .ok (.imul, 1) := by decide +kernel
theorem dX12_window_68 : decode cX12_window 68 = .ok (.iadd, 1) := by decide +kernel
theorem dX12_window_69 : decode cX12_window 69 = .ok (.iload_n 1, 1) := by decide +kernel
theorem dX12_window_70 : decode cX12_window 70 = .ok (.iastore, 1) := by decide +kernel
theorem dX12_window_71 : decode cX12_window 71 = .ok (.aload_n 0, 1) := by decide +kernel
theorem dX12_window_72 : decode cX12_window 72 = .ok (.getfield 20, 3) := by decide +kernel
theorem dX12_window_75 : decode cX12_window 75 = .ok (.bipush 80, 2) := by decide +kernel
theorem dX12_window_77 : decode cX12_window 77 = .ok (.iconst 3, 1) := by decide +kernel
theorem dX12_window_78 : decode cX12_window 78 = .ok (.iload 4, 2) := by decide +kernel
theorem dX12_window_80 : decode cX12_window 80 = .ok (.imul, 1) := by decide +kernel
theorem dX12_window_81 : decode cX12_window 81 = .ok (.iadd, 1) := by decide +kernel
theorem dX12_window_82 : decode cX12_window 82 = .ok (.iconst 1, 1) := by decide +kernel
theorem dX12_window_83 : decode cX12_window 83 = .ok (.iadd, 1) := by decide +kernel
theorem dX12_window_84 : decode cX12_window 84 = .ok (.iload_n 2, 1) := by decide +kernel
theorem dX12_window_85 : decode cX12_window 85 = .ok (.iastore, 1) := by decide +kernel
theorem dX12_window_86 : decode cX12_window 86 = .ok (.aload_n 0, 1) := by decide +kernel
theorem dX12_window_87 : decode cX12_window 87 = .ok (.getfield 20, 3) := by decide +kernel
theorem dX12_window_90 : decode cX12_window 90 = .ok (.bipush 80, 2) := by decide +kernel
theorem dX12_window_92 : decode cX12_window 92 = .ok (.iconst 3, 1) := by decide +kernel
theorem dX12_window_93 : decode cX12_window 93 = .ok (.iload 4, 2) := by decide +kernel
theorem dX12_window_95 : decode cX12_window 95 = .ok (.imul, 1) := by decide +kernel
theorem dX12_window_96 : decode cX12_window 96 = .ok (.iadd, 1) := by decide +kernel
theorem dX12_window_97 : decode cX12_window 97 = .ok (.iconst 2, 1) := by decide +kernel
theorem dX12_window_98 : decode cX12_window 98 = .ok (.iadd, 1) := by decide +kernel
theorem dX12_window_99 : decode cX12_window 99 = .ok (.iload_n 3, 1) := by decide +kernel
theorem dX12_window_100 : decode cX12_window 100 = .ok (.iastore, 1) := by decide +kernel
theorem dX12_window_101 : decode cX12_window 101 = .ok (.aload_n 0, 1) := by decide +kernel
theorem dX12_window_102 : decode cX12_window 102 = .ok (.getfield 20, 3) := by decide +kernel
theorem dX12_window_105 : decode cX12_window 105 = .ok (.sipush 308, 3) := by decide +kernel
theorem dX12_window_108 : decode cX12_window 108 = .ok (.dup2, 1) := by decide +kernel
theorem dX12_window_109 : decode cX12_window 109 = .ok (.iaload, 1) := by decide +kernel
theorem dX12_window_110 : decode cX12_window 110 = .ok (.iconst 1, 1) := by decide +kernel
theorem dX12_window_111 : decode cX12_window 111 = .ok (.iadd, 1) := by decide +kernel
theorem dX12_window_112 : decode cX12_window 112 = .ok (.iastore, 1) := by decide +kernel
theorem dX12_window_113 : decode cX12_window 113 = .ok (.aload_n 0, 1) := by decide +kernel
theorem dX12_window_114 : decode cX12_window 114 = .ok (.iload 4, 2) := by decide +kernel
theorem dX12_window_116 : decode cX12_window 116 = .ok (.invokevirtual 114, 3) := by decide +kernel
theorem dX12_window_119 : decode cX12_window 119 = .ok (.ireturn, 1) := by decide +kernel
set_option maxRecDepth 20000 in
theorem s_X12_window {w : Wd} {d : Nat} {P : Int → IM → LM → Prop} {i : IM} {l : LM} (p0 : Int) (p1 : Int) (p2 : Int)  (hd : 1 ≤ d) (h : ((rg p0) ∧ (((0 ≤ p0 ∧ p0 ≤ 1023) → rg p1) ∧ ((0 ≤ p0 ∧ p0 ≤ 1023) → (0 ≤ p1 ∧ p1 ≤ 1023) → rg p2) ∧ (((0 ≤ p0 ∧ p0 ≤ 1023) ∧ ((0 ≤ p1 ∧ p1 ≤ 1023) ∧ (0 ≤ p2 ∧ p2 ≤ 99))) → (((i 101 308 = 8) → cI w d X_X12_refuses [vR (some 99), vI (-5)] i l (fun r24 i24 l24 => P r24 i24 l24)) ∧ ((¬ (i 101 308 = 8)) → ((0 ≤ 80 + (3 * (i 101 308)) ∧ 80 + (3 * (i 101 308)) < 5120) ∧ (0 ≤ (80 + (3 * (i 101 308))) + 1 ∧ (80 + (3 * (i 101 308))) + 1 < 5120) ∧ (rg p1) ∧ (0 ≤ (80 + (3 * (i 101 308))) + 2 ∧ (80 + (3 * (i 101 308))) + 2 < 5120) ∧ (rg p2) ∧ (rg (((u2 (u2 (u2 i 101 (80 + (3 * (i 101 308))) p0) 101 ((80 + (3 * (i 101 308))) + 1) p1) 101 ((80 + (3 * (i 101 308))) + 2) p2) 101 308) + 1)) ∧ cI w d X_X12_good [vR (some 99), vI (i 101 308)] (u2 (u2 (u2 (u2 i 101 (80 + (3 * (i 101 308))) p0) 101 ((80 + (3 * (i 101 308))) + 1) p1) 101 ((80 + (3 * (i 101 308))) + 2) p2) 101 308 (((u2 (u2 (u2 i 101 (80 + (3 * (i 101 308))) p0) 101 ((80 + (3 * (i 101 308))) + 1) p1) 101 ((80 + (3 * (i 101 308))) + 2) p2) 101 308) + 1)) l (fun r23 i23 l23 => P r23 i23 l23))))) ∧ ((¬ ((0 ≤ p0 ∧ p0 ≤ 1023) ∧ ((0 ≤ p1 ∧ p1 ≤ 1023) ∧ (0 ≤ p2 ∧ p2 ≤ 99)))) → cI w d X_X12_refuses [vR (some 99), vI (-1)] i l (fun r12 i12 l12 => P r12 i12 l12))))) : gI w d X_X12_window P i l 0 [(0, vR (some 99)), (1, vI p0), (2, vI p1), (3, vI p2)] [] := by
  obtain ⟨ob1, h⟩ := h
  refine g_iload_n (pc' := 1) 1 dX12_window_0 rfl rfl ?_
  refine g_iconst (pc' := 2) dX12_window_1 rfl ?_
  refine g_sipush (pc' := 5) dX12_window_2 rfl rfl ?_
  refine g_pSI (pc' := 8) (vs := [vI p0, vI 0, vI 1023]) (st := []) (val := bI (0 ≤ p0 ∧ p0 ≤ 1023)) (sp_X12_lies (le_hd hd rfl) ob1 (rg_lit rfl) (rg_lit rfl)) mk_X12_lies ms_X12_lies lk_X12_106 rfl (Nat.le_of_ble_eq_true rfl) (Nat.le_of_ble_eq_true rfl) rfl dX12_window_5 rfl z2 (fun rg2 => ?_)
  obtain ⟨hob5, hob8, hk27, hk28⟩ := h
  have hk27g : ((0 ≤ p0 ∧ p0 ≤ 1023) ∧ ((0 ≤ p1 ∧ p1 ≤ 1023) ∧ (0 ≤ p2 ∧ p2 ≤ 99))) → gI w d X_X12_window P i l 38 [(0, vR (some 99)), (1, vI p0), (2, vI p1), (3, vI p2)] [] := by
    intro hp
    have h := hk27 hp
    refine g_aload_n (pc' := 39) 0 dX12_window_38 rfl rfl ?_
    refine g_pVI (pc' := 42) (vs := []) (st := []) (val := i 101 308) (c := 12) (sp_X12_windows (le_hd hd rfl) ) mv_X12_windows lk_X12_121 rfl rfl rfl rfl (Nat.le_of_ble_eq_true rfl) (Nat.le_of_ble_eq_true rfl) rfl dX12_window_39 rfl z2 (fun rg13 => ?_)
    refine g_istore (pc' := 44) (L' := [(4, vI (i 101 308)), (0, vR (some 99)), (1, vI p0), (2, vI p1), (3, vI p2)]) dX12_window_42 rfl (Nat.le_of_ble_eq_true rfl) rfl ?_
    refine g_iload (pc' := 46) 0 dX12_window_44 rfl rfl ?_
    refine g_bipush (pc' := 48) dX12_window_46 rfl rfl ?_
    obtain ⟨hk25, hk26⟩ := h
    refine g_icmp_ne (tgt := 58) (pc' := 51) rg13 (rg_lit rfl) Iff.rfl dX12_window_48 rfl rfl (fun c15 => ?_) (fun c15 => ?_)
    · have h := hk26 c15
      obtain ⟨ob16, ob17, ob18, ob19, ob20, ob22, h⟩ := h
      refine g_aload_n (pc' := 59) 1 dX12_window_58 rfl rfl ?_
      refine g_getR (pc' := 62) (o := some 101) fl_X12_20 rfl rfl rfl dX12_window_59 rfl ?_
      refine g_bipush (pc' := 64) dX12_window_62 rfl rfl ?_
      refine g_iconst (pc' := 65) dX12_window_64 rfl ?_
      refine g_iload (pc' := 67) 0 dX12_window_65 rfl rfl ?_
      refine g_imul (pc' := 68) dX12_window_67 rfl ?_
      refine g_iadd (pc' := 69) dX12_window_68 rfl ?_
      refine g_iload_n (pc' := 70) 2 dX12_window_69 rfl rfl ?_
      refine g_iast (pc' := 71) (N := 5120) rfl rfl (Nat.lt_of_lt_of_le (Nat.lt_succ_self _) (Nat.le_of_ble_eq_true rfl)) ob16 ob1 dX12_window_70 rfl ?_
      refine g_aload_n (pc' := 72) 1 dX12_window_71 rfl rfl ?_
      refine g_getR (pc' := 75) (o := some 101) fl_X12_20 rfl rfl rfl dX12_window_72 rfl ?_
      refine g_bipush (pc' := 77) dX12_window_75 rfl rfl ?_
      refine g_iconst (pc' := 78) dX12_window_77 rfl ?_
      refine g_iload (pc' := 80) 0 dX12_window_78 rfl rfl ?_
      refine g_imul (pc' := 81) dX12_window_80 rfl ?_
      refine g_iadd (pc' := 82) dX12_window_81 rfl ?_
      refine g_iconst (pc' := 83) dX12_window_82 rfl ?_
      refine g_iadd (pc' := 84) dX12_window_83 rfl ?_
      refine g_iload_n (pc' := 85) 3 dX12_window_84 rfl rfl ?_
      refine g_iast (pc' := 86) (N := 5120) rfl rfl (Nat.lt_of_lt_of_le (Nat.lt_succ_self _) (Nat.le_of_ble_eq_true rfl)) ob17 ob18 dX12_window_85 rfl ?_
      refine g_aload_n (pc' := 87) 1 dX12_window_86 rfl rfl ?_
      refine g_getR (pc' := 90) (o := some 101) fl_X12_20 rfl rfl rfl dX12_window_87 rfl ?_
      refine g_bipush (pc' := 92) dX12_window_90 rfl rfl ?_
      refine g_iconst (pc' := 93) dX12_window_92 rfl ?_
      refine g_iload (pc' := 95) 0 dX12_window_93 rfl rfl ?_
      refine g_imul (pc' := 96) dX12_window_95 rfl ?_
      refine g_iadd (pc' := 97) dX12_window_96 rfl ?_
      refine g_iconst (pc' := 98) dX12_window_97 rfl ?_
      refine g_iadd (pc' := 99) dX12_window_98 rfl ?_
      refine g_iload_n (pc' := 100) 4 dX12_window_99 rfl rfl ?_
      refine g_iast (pc' := 101) (N := 5120) rfl rfl (Nat.lt_of_lt_of_le (Nat.lt_succ_self _) (Nat.le_of_ble_eq_true rfl)) ob19 ob20 dX12_window_100 rfl ?_
      refine g_aload_n (pc' := 102) 1 dX12_window_101 rfl rfl ?_
      refine g_getR (pc' := 105) (o := some 101) fl_X12_20 rfl rfl rfl dX12_window_102 rfl ?_
      refine g_sipush (pc' := 108) dX12_window_105 rfl rfl ?_
      refine g_dup2_11 (pc' := 109) dX12_window_108 rfl rfl rfl ?_
      refine g_iald (pc' := 110) (N := 5120) rfl rfl (Nat.lt_of_lt_of_le (Nat.lt_succ_self _) (Nat.le_of_ble_eq_true rfl)) (by decide) dX12_window_109 rfl (fun rg21 => ?_)
      refine g_iconst (pc' := 111) dX12_window_110 rfl ?_
      refine g_iadd (pc' := 112) dX12_window_111 rfl ?_
      refine g_iast (pc' := 113) (N := 5120) rfl rfl (Nat.lt_of_lt_of_le (Nat.lt_succ_self _) (Nat.le_of_ble_eq_true rfl)) (by decide) ob22 dX12_window_112 rfl ?_
      refine g_aload_n (pc' := 114) 1 dX12_window_113 rfl rfl ?_
      refine g_iload (pc' := 116) 0 dX12_window_114 rfl rfl ?_
      refine g_cVI (pc' := 119) (vs := [vI (i 101 308)]) (st := []) (c := 12) h mv_X12_good lk_X12_114 rfl rfl rfl rfl (Nat.le_of_ble_eq_true rfl) (Nat.le_of_ble_eq_true rfl) rfl dX12_window_116 rfl z2 (fun r23 i23 l23 rg23 h => ?_)
      exact g_retI rfl rg23 dX12_window_119 h
    · have h := hk25 c15
      refine g_aload_n (pc' := 52) 1 dX12_window_51 rfl rfl ?_
      refine g_bipush (pc' := 54) dX12_window_52 rfl rfl ?_
      refine g_cVI (pc' := 57) (vs := [vI (-5)]) (st := []) (c := 12) h mv_X12_refuses lk_X12_110 rfl rfl rfl rfl (Nat.le_of_ble_eq_true rfl) (Nat.le_of_ble_eq_true rfl) rfl dX12_window_54 rfl z2 (fun r24 i24 l24 rg24 h => ?_)
      exact g_retI rfl rg24 dX12_window_57 h
  have hk28g : (¬ ((0 ≤ p0 ∧ p0 ≤ 1023) ∧ ((0 ≤ p1 ∧ p1 ≤ 1023) ∧ (0 ≤ p2 ∧ p2 ≤ 99)))) → gI w d X_X12_window P i l 32 [(0, vR (some 99)), (1, vI p0), (2, vI p1), (3, vI p2)] [] := by
    intro hp
    have h := hk28 hp
    refine g_aload_n (pc' := 33) 0 dX12_window_32 rfl rfl ?_
    refine g_iconst (pc' := 34) dX12_window_33 rfl ?_
    refine g_cVI (pc' := 37) (vs := [vI (-1)]) (st := []) (c := 12) h mv_X12_refuses lk_X12_110 rfl rfl rfl rfl (Nat.le_of_ble_eq_true rfl) (Nat.le_of_ble_eq_true rfl) rfl dX12_window_34 rfl z2 (fun r12 i12 l12 rg12 h => ?_)
    exact g_retI rfl rg12 dX12_window_37 h
  refine g_if_eq (tgt := 32) (pc' := 11) rg2 (bI_eq _) dX12_window_8 rfl rfl (fun c4 => ?_) (fun c4n => ?_)
  · exact hk28g (fun q => c4 q.1)
  · have c4 := Decidable.of_not_not c4n
    refine g_iload_n (pc' := 12) 2 dX12_window_11 rfl rfl ?_
    refine g_iconst (pc' := 13) dX12_window_12 rfl ?_
    refine g_sipush (pc' := 16) dX12_window_13 rfl rfl ?_
    refine g_pSI (pc' := 19) (vs := [vI p1, vI 0, vI 1023]) (st := []) (val := bI (0 ≤ p1 ∧ p1 ≤ 1023)) (sp_X12_lies (le_hd hd rfl) (hob5 c4) (rg_lit rfl) (rg_lit rfl)) mk_X12_lies ms_X12_lies lk_X12_106 rfl (Nat.le_of_ble_eq_true rfl) (Nat.le_of_ble_eq_true rfl) rfl dX12_window_16 rfl z2 (fun rg6 => ?_)
    refine g_if_eq (tgt := 32) (pc' := 22) rg6 (bI_eq _) dX12_window_19 rfl rfl (fun c7 => ?_) (fun c7n => ?_)
    · exact hk28g (fun q => (fun q => c7 q.1) q.2)
    · have c7 := Decidable.of_not_not c7n
      refine g_iload_n (pc' := 23) 3 dX12_window_22 rfl rfl ?_
      refine g_iconst (pc' := 24) dX12_window_23 rfl ?_
      refine g_bipush (pc' := 26) dX12_window_24 rfl rfl ?_
      refine g_pSI (pc' := 29) (vs := [vI p2, vI 0, vI 99]) (st := []) (val := bI (0 ≤ p2 ∧ p2 ≤ 99)) (sp_X12_lies (le_hd hd rfl) (hob8 c4 c7) (rg_lit rfl) (rg_lit rfl)) mk_X12_lies ms_X12_lies lk_X12_106 rfl (Nat.le_of_ble_eq_true rfl) (Nat.le_of_ble_eq_true rfl) rfl dX12_window_26 rfl z2 (fun rg9 => ?_)
      refine g_if_ne (tgt := 38) (pc' := 32) rg9 (bI_eq _) dX12_window_29 rfl rfl (fun c10n => ?_) (fun c10 => ?_)
      · have c10 := Decidable.of_not_not c10n
        exact hk27g ⟨c4, ⟨c7, c10⟩⟩
      · exact hk28g (fun q => (fun q => c10 q.2) q.2)
theorem e_X12_window {w : Wd} {d : Nat} {P : Int → IM → LM → Prop} {i : IM} {l : LM} {p0 : Int} {p1 : Int} {p2 : Int}  (h : gI w d X_X12_window P i l 0 [(0, vR (some 99)), (1, vI p0), (2, vI p1), (3, vI p2)] []) : cI w (d + 1) X_X12_window [vR (some 99), vI p0, vI p1, vI p2] i l P := CI_of (by decide +kernel) (Nat.le_of_ble_eq_true rfl) h

theorem dX12_turn_0 : decode cX12_turn 0 = .ok (.iload_n 2, 1) := by decide +kernel
theorem dX12_turn_1 : decode cX12_turn 1 = .ok (.iconst 0, 1) := by decide +kernel
theorem dX12_turn_2 : decode cX12_turn 2 = .ok (.iconst 2, 1) := by decide +kernel
theorem dX12_turn_3 : decode cX12_turn 3 = .ok (.invokestatic 106, 3) := by decide +kernel
theorem dX12_turn_6 : decode cX12_turn 6 = .ok (.ifCond .eq 24, 3) := by decide +kernel
theorem dX12_turn_9 : decode cX12_turn 9 = .ok (.iload_n 3, 1) := by decide +kernel
theorem dX12_turn_10 : decode cX12_turn 10 = .ok (.iconst 0, 1) := by decide +kernel
theorem dX12_turn_11 : decode cX12_turn 11 = .ok (.iload_n 2, 1) := by decide +kernel
theorem dX12_turn_12 : decode cX12_turn 12 = .ok (.iconst 2, 1) := by decide +kernel
theorem dX12_turn_13 : decode cX12_turn 13 = .ok (.if_icmp .ne 8, 3) := by decide +kernel
theorem dX12_turn_16 : decode cX12_turn 16 = .ok (.bipush 99, 2) := by decide +kernel
theorem dX12_turn_18 : decode cX12_turn 18 = .ok (.goto 6, 3) := by decide +kernel
theorem dX12_turn_21 : decode cX12_turn 21 = .ok (.sipush 1023, 3) := by decide +kernel
theorem dX12_turn_24 : decode cX12_turn 24 = .ok (.invokestatic 106, 3) := by decide +kernel
theorem dX12_turn_27 : decode cX12_turn 27 = .ok (.ifCond .ne 9, 3) := by decide +kernel
theorem dX12_turn_30 : decode cX12_turn 30 = .ok (.aload_n 0, 1) := by decide +kernel
theorem dX12_turn_31 : decode cX12_turn 31 = .ok (.iconst (-1), 1) := by decide +kernel
theorem dX12_turn_32 : decode cX12_turn 32 = .ok (.invokevirtual 110, 3) := by decide +kernel
theorem dX12_turn_35 : decode cX12_turn 35 = .ok (.ireturn, 1) := by decide +kernel
theorem dX12_turn_36 : decode cX12_turn 36 = .ok (.aload_n 0, 1) := by decide +kernel
theorem dX12_turn_37 : decode cX12_turn 37 = .ok (.iload_n 1, 1) := by decide +kernel
theorem dX12_turn_38 : decode cX12_turn 38 = .ok (.invokevirtual 141, 3) := by decide +kernel
theorem dX12_turn_41 : decode cX12_turn 41 = .ok (.ifCond .ne 10, 3) := by decide +kernel
theorem dX12_turn_44 : decode cX12_turn 44 = .ok (.aload_n 0, 1) := by decide +kernel
theorem dX12_turn_45 : decode cX12_turn 45 = .ok (.bipush (-2), 2) := by decide +kernel
theorem dX12_turn_47 : decode cX12_turn 47 = .ok (.invokevirtual 110, 3) := by decide +kernel
theorem dX12_turn_50 : decode cX12_turn 50 = .ok (.ireturn, 1) := by decide +kernel
theorem dX12_turn_51 : decode cX12_turn 51 = .ok (.aload_n 0, 1) := by decide +kernel
theorem dX12_turn_52 : decode cX12_turn 52 = .ok (.bipush 80, 2) := by decide +kernel
theorem dX12_turn_54 : decode cX12_turn 54 = .ok (.iconst 3, 1) := by decide +kernel
theorem dX12_turn_55 : decode cX12_turn 55 = .ok (.iload_n 1, 1) := by decide +kernel
theorem dX12_turn_56 : decode cX12_turn 56 = .ok (.imul, 1) := by decide +kernel
theorem dX12_turn_57 : decode cX12_turn 57 = .ok (.iadd, 1) := by decide +kernel
theorem dX12_turn_58 : decode cX12_turn 58 = .ok (.iload_n 2, 1) := by decide +kernel
theorem dX12_turn_59 : decode cX12_turn 59 = .ok (.iadd, 1) := by decide +kernel
theorem dX12_turn_60 : decode cX12_turn 60 = .ok (.iload_n 3, 1) := by decide +kernel
theorem dX12_turn_61 : decode cX12_turn 61 = .ok (.invokevirtual 137, 3) := by decide +kernel
theorem dX12_turn_64 : decode cX12_turn 64 = .ok (.ireturn, 1) := by decide +kernel
set_option maxRecDepth 20000 in
theorem s_X12_turn {w : Wd} {d : Nat} {P : Int → IM → LM → Prop} {i : IM} {l : LM} (p0 : Int) (p1 : Int) (p2 : Int)  (hd : 2 ≤ d) (h : ((rg p1) ∧ (((0 ≤ p1 ∧ p1 ≤ 2) → ((rg p2) ∧ (((0 ≤ p2 ∧ p2 ≤ (if (p1 = 2) then 99 else 1023)) → rg p0) ∧ ((0 ≤ p2 ∧ p2 ≤ (if (p1 = 2) then 99 else 1023)) → rg (i 101 308 - 1)) ∧ (((0 ≤ p2 ∧ p2 ≤ (if (p1 = 2) then 99 else 1023)) ∧ (0 ≤ p0 ∧ p0 < i 101 308)) → cI w d X_X12_replaces [vR (some 99), vI ((80 + (3 * p0)) + p1), vI p2] i l (fun r24 i24 l24 => P r24 i24 l24)) ∧ (((0 ≤ p2 ∧ p2 ≤ (if (p1 = 2) then 99 else 1023)) ∧ (¬ (0 ≤ p0 ∧ p0 < i 101 308))) → cI w d X_X12_refuses [vR (some 99), vI (-2)] i l (fun r25 i25 l25 => P r25 i25 l25)) ∧ ((¬ (0 ≤ p2 ∧ p2 ≤ (if (p1 = 2) then 99 else 1023))) → cI w d X_X12_refuses [vR (some 99), vI (-1)] i l (fun r26 i26 l26 => P r26 i26 l26))))) ∧ ((¬ (0 ≤ p1 ∧ p1 ≤ 2)) → cI w d X_X12_refuses [vR (some 99), vI (-1)] i l (fun r13 i13 l13 => P r13 i13 l13))))) : gI w d X_X12_turn P i l 0 [(0, vR (some 99)), (1, vI p0), (2, vI p1), (3, vI p2)] [] := by
  obtain ⟨ob1, h⟩ := h
  refine g_iload_n (pc' := 1) 2 dX12_turn_0 rfl rfl ?_
  refine g_iconst (pc' := 2) dX12_turn_1 rfl ?_
  refine g_iconst (pc' := 3) dX12_turn_2 rfl ?_
  refine g_pSI (pc' := 6) (vs := [vI p1, vI 0, vI 2]) (st := []) (val := bI (0 ≤ p1 ∧ p1 ≤ 2)) (sp_X12_lies (le_hd hd rfl) ob1 (rg_lit rfl) (rg_lit rfl)) mk_X12_lies ms_X12_lies lk_X12_106 rfl (Nat.le_of_ble_eq_true rfl) (Nat.le_of_ble_eq_true rfl) rfl dX12_turn_3 rfl z2 (fun rg2 => ?_)
  obtain ⟨hk30, hk31⟩ := h
  have hk30g : (0 ≤ p1 ∧ p1 ≤ 2) → gI w d X_X12_turn P i l 9 [(0, vR (some 99)), (1, vI p0), (2, vI p1), (3, vI p2)] [] := by
    intro hp
    have h := hk30 hp
    refine g_iload_n (pc' := 10) 3 dX12_turn_9 rfl rfl ?_
    refine g_iconst (pc' := 11) dX12_turn_10 rfl ?_
    refine g_iload_n (pc' := 12) 2 dX12_turn_11 rfl rfl ?_
    refine g_iconst (pc' := 13) dX12_turn_12 rfl ?_
    have hJ : gI w d X_X12_turn P i l 24 [(0, vR (some 99)), (1, vI p0), (2, vI p1), (3, vI p2)] [vI (if (p1 = 2) then 99 else 1023), vI 0, vI p2] := by
      obtain ⟨ob16, h⟩ := h
      refine g_pSI (pc' := 27) (vs := [vI p2, vI 0, vI (if (p1 = 2) then 99 else 1023)]) (st := []) (val := bI (0 ≤ p2 ∧ p2 ≤ (if (p1 = 2) then 99 else 1023))) (sp_X12_lies (le_hd hd rfl) ob16 (rg_lit rfl) (rg_ite (rg_lit rfl) (rg_lit rfl))) mk_X12_lies ms_X12_lies lk_X12_106 rfl (Nat.le_of_ble_eq_true rfl) (Nat.le_of_ble_eq_true rfl) rfl dX12_turn_24 rfl z2 (fun rg17 => ?_)
      obtain ⟨hob20, hob21, hk27, hk28, hk29⟩ := h
      have hk27g : ((0 ≤ p2 ∧ p2 ≤ (if (p1 = 2) then 99 else 1023)) ∧ (0 ≤ p0 ∧ p0 < i 101 308)) → gI w d X_X12_turn P i l 51 [(0, vR (some 99)), (1, vI p0), (2, vI p1), (3, vI p2)] [] := by
        intro hp
        have h := hk27 hp
        refine g_aload_n (pc' := 52) 0 dX12_turn_51 rfl rfl ?_
        refine g_bipush (pc' := 54) dX12_turn_52 rfl rfl ?_
        refine g_iconst (pc' := 55) dX12_turn_54 rfl ?_
        refine g_iload_n (pc' := 56) 1 dX12_turn_55 rfl rfl ?_
        refine g_imul (pc' := 57) dX12_turn_56 rfl ?_
        refine g_iadd (pc' := 58) dX12_turn_57 rfl ?_
        refine g_iload_n (pc' := 59) 2 dX12_turn_58 rfl rfl ?_
        refine g_iadd (pc' := 60) dX12_turn_59 rfl ?_
        refine g_iload_n (pc' := 61) 3 dX12_turn_60 rfl rfl ?_
        refine g_cVI (pc' := 64) (vs := [vI ((80 + (3 * p0)) + p1), vI p2]) (st := []) (c := 12) h mv_X12_replaces lk_X12_137 rfl rfl rfl rfl (Nat.le_of_ble_eq_true rfl) (Nat.le_of_ble_eq_true rfl) rfl dX12_turn_61 rfl z2 (fun r24 i24 l24 rg24 h => ?_)
        exact g_retI rfl rg24 dX12_turn_64 h
      have hk28g : ((0 ≤ p2 ∧ p2 ≤ (if (p1 = 2) then 99 else 1023)) ∧ (¬ (0 ≤ p0 ∧ p0 < i 101 308))) → gI w d X_X12_turn P i l 44 [(0, vR (some 99)), (1, vI p0), (2, vI p1), (3, vI p2)] [] := by
        intro hp
        have h := hk28 hp
        refine g_aload_n (pc' := 45) 0 dX12_turn_44 rfl rfl ?_
        refine g_bipush (pc' := 47) dX12_turn_45 rfl rfl ?_
        refine g_cVI (pc' := 50) (vs := [vI (-2)]) (st := []) (c := 12) h mv_X12_refuses lk_X12_110 rfl rfl rfl rfl (Nat.le_of_ble_eq_true rfl) (Nat.le_of_ble_eq_true rfl) rfl dX12_turn_47 rfl z2 (fun r25 i25 l25 rg25 h => ?_)
        exact g_retI rfl rg25 dX12_turn_50 h
      have hk29g : (¬ (0 ≤ p2 ∧ p2 ≤ (if (p1 = 2) then 99 else 1023))) → gI w d X_X12_turn P i l 30 [(0, vR (some 99)), (1, vI p0), (2, vI p1), (3, vI p2)] [] := by
        intro hp
        have h := hk29 hp
        refine g_aload_n (pc' := 31) 0 dX12_turn_30 rfl rfl ?_
        refine g_iconst (pc' := 32) dX12_turn_31 rfl ?_
        refine g_cVI (pc' := 35) (vs := [vI (-1)]) (st := []) (c := 12) h mv_X12_refuses lk_X12_110 rfl rfl rfl rfl (Nat.le_of_ble_eq_true rfl) (Nat.le_of_ble_eq_true rfl) rfl dX12_turn_32 rfl z2 (fun r26 i26 l26 rg26 h => ?_)
        exact g_retI rfl rg26 dX12_turn_35 h
      refine g_if_ne (tgt := 36) (pc' := 30) rg17 (bI_eq _) dX12_turn_27 rfl rfl (fun c19n => ?_) (fun c19 => ?_)
      · have c19 := Decidable.of_not_not c19n
        refine g_aload_n (pc' := 37) 0 dX12_turn_36 rfl rfl ?_
        refine g_iload_n (pc' := 38) 1 dX12_turn_37 rfl rfl ?_
        refine g_pVI (pc' := 41) (vs := [vI p0]) (st := []) (val := bI (0 ≤ p0 ∧ p0 < i 101 308)) (c := 12) (sp_X12_isWindow (le_hd hd rfl) (hob20 c19) (hob21 c19)) mv_X12_isWindow lk_X12_141 rfl rfl rfl rfl (Nat.le_of_ble_eq_true rfl) (Nat.le_of_ble_eq_true rfl) rfl dX12_turn_38 rfl z2 (fun rg22 => ?_)
        refine g_if_ne (tgt := 51) (pc' := 44) rg22 (bI_eq _) dX12_turn_41 rfl rfl (fun c23n => ?_) (fun c23 => ?_)
        · have c23 := Decidable.of_not_not c23n
          exact hk27g ⟨c19, c23⟩
        · exact hk28g ⟨c19, c23⟩
      · exact hk29g c19
    refine g_icmp_ne (tgt := 21) (pc' := 16) ob1 (rg_lit rfl) Iff.rfl dX12_turn_13 rfl rfl (fun c15 => ?_) (fun c15 => ?_)
    · refine g_sipush (pc' := 24) dX12_turn_21 rfl rfl ?_
      rw [if_neg c15 (α := Int) (t := 99) (e := 1023)] at hJ
      exact hJ
    · refine g_bipush (pc' := 18) dX12_turn_16 rfl rfl ?_
      refine g_goto (tgt := 24) dX12_turn_18 rfl ?_
      rw [if_pos c15 (α := Int) (t := 99) (e := 1023)] at hJ
      exact hJ
  have hk31g : (¬ (0 ≤ p1 ∧ p1 ≤ 2)) → gI w d X_X12_turn P i l 30 [(0, vR (some 99)), (1, vI p0), (2, vI p1), (3, vI p2)] [] := by
    intro hp
    have h := hk31 hp
    refine g_aload_n (pc' := 31) 0 dX12_turn_30 rfl rfl ?_
    refine g_iconst (pc' := 32) dX12_turn_31 rfl ?_
    refine g_cVI (pc' := 35) (vs := [vI (-1)]) (st := []) (c := 12) h mv_X12_refuses lk_X12_110 rfl rfl rfl rfl (Nat.le_of_ble_eq_true rfl) (Nat.le_of_ble_eq_true rfl) rfl dX12_turn_32 rfl z2 (fun r13 i13 l13 rg13 h => ?_)
    exact g_retI rfl rg13 dX12_turn_35 h
  refine g_if_eq (tgt := 30) (pc' := 9) rg2 (bI_eq _) dX12_turn_6 rfl rfl (fun c12 => ?_) (fun c12n => ?_)
  · exact hk31g c12
  · have c12 := Decidable.of_not_not c12n
    exact hk30g c12
theorem e_X12_turn {w : Wd} {d : Nat} {P : Int → IM → LM → Prop} {i : IM} {l : LM} {p0 : Int} {p1 : Int} {p2 : Int}  (h : gI w d X_X12_turn P i l 0 [(0, vR (some 99)), (1, vI p0), (2, vI p1), (3, vI p2)] []) : cI w (d + 1) X_X12_turn [vR (some 99), vI p0, vI p1, vI p2] i l P := CI_of (by decide +kernel) (Nat.le_of_ble_eq_true rfl) h

theorem dX12_of_0 : decode cX12_of 0 = .ok (.aload_n 0, 1) := by decide +kernel
theorem dX12_of_1 : decode cX12_of 1 = .ok (.iload_n 1, 1) := by decide +kernel
theorem dX12_of_2 : decode cX12_of 2 = .ok (.invokevirtual 134, 3) := by decide +kernel
theorem dX12_of_5 : decode cX12_of 5 = .ok (.ifCond .eq 13, 3) := by decide +kernel
theorem dX12_of_8 : decode cX12_of 8 = .ok (.iload_n 2, 1) := by decide +kernel
theorem dX12_of_9 : decode cX12_of 9 = .ok (.iconst 0, 1) := by decide +kernel
theorem dX12_of_10 : decode cX12_of 10 = .ok (.bipush 8, 2) := by decide +kernel
theorem dX12_of_12 : decode cX12_of 12 = .ok (.invokestatic 106, 3) := by decide +kernel
theorem dX12_of_15 : decode cX12_of 15 = .ok (.ifCond .ne 5, 3) := by decide +kernel
theorem dX12_of_18 : decode cX12_of 18 = .ok (.iconst (-1), 1) := by decide +kernel
theorem dX12_of_19 : decode cX12_of 19 = .ok (.ireturn, 1) := by decide +kernel
theorem dX12_of_20 : decode cX12_of 20 = .ok (.iload_n 2, 1) := by decide +kernel
theorem dX12_of_21 : decode cX12_of 21 = .ok (.bipush 8, 2) := by decide +kernel
theorem dX12_of_23 : decode cX12_of 23 = .ok (.if_icmp .ge 12, 3) := by decide +kernel
theorem dX12_of_26 : decode cX12_of 26 = .ok (.aload_n 0, 1) := by decide +kernel
theorem dX12_of_27 : decode cX12_of 27 = .ok (.iload_n 1, 1) := by decide +kernel
theorem dX12_of_28 : decode cX12_of 28 = .ok (.iload_n 2, 1) := by decide +kernel
theorem dX12_of_29 : decode cX12_of 29 = .ok (.invokevirtual 144, 3) := by decide +kernel
theorem dX12_of_32 : decode cX12_of 32 = .ok (.goto 22, 3) := by decide +kernel
theorem dX12_of_35 : decode cX12_of 35 = .ok (.aload_n 0, 1) := by decide +kernel
theorem dX12_of_36 : decode cX12_of 36 = .ok (.iload_n 1, 1) := by decide +kernel
theorem dX12_of_37 : decode cX12_of 37 = .ok (.aload_n 0, 1) := by decide +kernel
theorem dX12_of_38 : decode cX12_of 38 = .ok (.iload_n 1, 1) := by decide +kernel
theorem dX12_of_39 : decode cX12_of 39 = .ok (.iconst 1, 1) := by decide +kernel
theorem dX12_of_40 : decode cX12_of 40 = .ok (.invokevirtual 144, 3) := by decide +kernel
theorem dX12_of_43 : decode cX12_of 43 = .ok (.aload_n 0, 1) := by decide +kernel
theorem dX12_of_44 : decode cX12_of 44 = .ok (.getfield 20, 3) := by decide +kernel
theorem dX12_of_47 : decode cX12_of 47 = .ok (.sipush 313, 3) := by decide +kernel
theorem dX12_of_50 : decode cX12_of 50 = .ok (.iaload, 1) := by decide +kernel
theorem dX12_of_51 : decode cX12_of 51 = .ok (.invokevirtual 151, 3) := by decide +kernel
theorem dX12_of_54 : decode cX12_of 54 = .ok (.ireturn, 1) := by decide +kernel
set_option maxRecDepth 20000 in
theorem s_X12_of {w : Wd} {d : Nat} {P : Int → IM → LM → Prop} {i : IM} {l : LM} (p0 : Int) (p1 : Int)  (hd : 2 ≤ d) (h : ((rg p0) ∧ (rg (i 101 307 - 1)) ∧ (((0 ≤ p0 ∧ p0 < i 101 307) → rg p1) ∧ (((0 ≤ p0 ∧ p0 < i 101 307) ∧ (0 ≤ p1 ∧ p1 ≤ 8)) → ((rg p1) ∧ ((8 ≤ p1) → 0 ≤ 8 * p0 + 1 ∧ 8 * p0 + 1 < 5120) ∧ ((8 ≤ p1) → 0 ≤ p0 ∧ p0 < 10) ∧ (¬ (8 ≤ p1) → 0 ≤ 8 * p0 + p1 ∧ 8 * p0 + p1 < 5120) ∧ ((rg (if (8 ≤ p1) then mShows i p0 (i 101 (8 * p0 + 1)) (i 101 313) else i 101 (8 * p0 + p1))) ∧ P (if (8 ≤ p1) then mShows i p0 (i 101 (8 * p0 + 1)) (i 101 313) else i 101 (8 * p0 + p1)) i l))) ∧ ((¬ ((0 ≤ p0 ∧ p0 < i 101 307) ∧ (0 ≤ p1 ∧ p1 ≤ 8))) → P (-1) i l)))) : gI w d X_X12_of P i l 0 [(0, vR (some 99)), (1, vI p0), (2, vI p1)] [] := by
  obtain ⟨ob1, ob2, h⟩ := h
  refine g_aload_n (pc' := 1) 0 dX12_of_0 rfl rfl ?_
  refine g_iload_n (pc' := 2) 1 dX12_of_1 rfl rfl ?_
  refine g_pVI (pc' := 5) (vs := [vI p0]) (st := []) (val := bI (0 ≤ p0 ∧ p0 < i 101 307)) (c := 12) (sp_X12_isThing (le_hd hd rfl) ob1 ob2) mv_X12_isThing lk_X12_134 rfl rfl rfl rfl (Nat.le_of_ble_eq_true rfl) (Nat.le_of_ble_eq_true rfl) rfl dX12_of_2 rfl z2 (fun rg3 => ?_)
  obtain ⟨hob42, hk56, hk57⟩ := h
  have hk56g : ((0 ≤ p0 ∧ p0 < i 101 307) ∧ (0 ≤ p1 ∧ p1 ≤ 8)) → gI w d X_X12_of P i l 20 [(0, vR (some 99)), (1, vI p0), (2, vI p1)] [] := by
    intro hp
    have h := hk56 hp
    refine g_iload_n (pc' := 21) 2 dX12_of_20 rfl rfl ?_
    refine g_bipush (pc' := 23) dX12_of_21 rfl rfl ?_
    refine g_rg (fun hRG45 => ?_)
    obtain ⟨hob46, hob48, hob51, hob53, h⟩ := h
    have hJ : gI w d X_X12_of P i l 54 [(0, vR (some 99)), (1, vI p0), (2, vI p1)] [vI (if (8 ≤ p1) then mShows i p0 (i 101 (8 * p0 + 1)) (i 101 313) else i 101 (8 * p0 + p1))] := by
      obtain ⟨ob55, h⟩ := h
      exact g_retI rfl ob55 dX12_of_54 h
    refine g_icmp_ge (tgt := 35) (pc' := 26) (hob46) (rg_lit rfl) Iff.rfl dX12_of_23 rfl rfl (fun c47 => ?_) (fun c47 => ?_)
    · refine g_aload_n (pc' := 36) 0 dX12_of_35 rfl rfl ?_
      refine g_iload_n (pc' := 37) 1 dX12_of_36 rfl rfl ?_
      refine g_aload_n (pc' := 38) 0 dX12_of_37 rfl rfl ?_
      refine g_iload_n (pc' := 39) 1 dX12_of_38 rfl rfl ?_
      refine g_iconst (pc' := 40) dX12_of_39 rfl ?_
      refine g_pVI (pc' := 43) (vs := [vI p0, vI 1]) (st := [vI p0, vR (some 99)]) (val := i 101 (8 * p0 + 1)) (c := 12) (sp_X12_thingOf (le_hd hd rfl) (hob48 c47)) mv_X12_thingOf lk_X12_144 rfl rfl rfl rfl (Nat.le_of_ble_eq_true rfl) (Nat.le_of_ble_eq_true rfl) rfl dX12_of_40 rfl z2 (fun rg49 => ?_)
      refine g_aload_n (pc' := 44) 0 dX12_of_43 rfl rfl ?_
      refine g_getR (pc' := 47) (o := some 101) fl_X12_20 rfl rfl rfl dX12_of_44 rfl ?_
      refine g_sipush (pc' := 50) dX12_of_47 rfl rfl ?_
      refine g_iald (pc' := 51) (N := 5120) rfl rfl (Nat.lt_of_lt_of_le (Nat.lt_succ_self _) (Nat.le_of_ble_eq_true rfl)) (by decide) dX12_of_50 rfl (fun rg50 => ?_)
      refine g_pVI (pc' := 54) (vs := [vI p0, vI (i 101 (8 * p0 + 1)), vI (i 101 313)]) (st := []) (val := mShows i p0 (i 101 (8 * p0 + 1)) (i 101 313)) (c := 12) (sp_X12_shows (le_hd hd rfl) rg49 (hob51 c47)) mv_X12_shows lk_X12_151 rfl rfl rfl rfl (Nat.le_of_ble_eq_true rfl) (Nat.le_of_ble_eq_true rfl) rfl dX12_of_51 rfl z2 (fun rg52 => ?_)
      rw [if_pos c47 (α := Int) (t := mShows i p0 (i 101 (8 * p0 + 1)) (i 101 313)) (e := i 101 (8 * p0 + p1))] at hJ
      exact hJ
    · refine g_aload_n (pc' := 27) 0 dX12_of_26 rfl rfl ?_
      refine g_iload_n (pc' := 28) 1 dX12_of_27 rfl rfl ?_
      refine g_iload_n (pc' := 29) 2 dX12_of_28 rfl rfl ?_
      refine g_pVI (pc' := 32) (vs := [vI p0, vI p1]) (st := []) (val := i 101 (8 * p0 + p1)) (c := 12) (sp_X12_thingOf (le_hd hd rfl) (hob53 c47)) mv_X12_thingOf lk_X12_144 rfl rfl rfl rfl (Nat.le_of_ble_eq_true rfl) (Nat.le_of_ble_eq_true rfl) rfl dX12_of_29 rfl z2 (fun rg54 => ?_)
      refine g_goto (tgt := 54) dX12_of_32 rfl ?_
      rw [if_neg c47 (α := Int) (t := mShows i p0 (i 101 (8 * p0 + 1)) (i 101 313)) (e := i 101 (8 * p0 + p1))] at hJ
      exact hJ
  have hk57g : (¬ ((0 ≤ p0 ∧ p0 < i 101 307) ∧ (0 ≤ p1 ∧ p1 ≤ 8))) → gI w d X_X12_of P i l 18 [(0, vR (some 99)), (1, vI p0), (2, vI p1)] [] := by
    intro hp
    have h := hk57 hp
    refine g_iconst (pc' := 19) dX12_of_18 rfl ?_
    exact g_retI rfl (rg_lit rfl) dX12_of_19 h
  refine g_if_eq (tgt := 18) (pc' := 8) rg3 (bI_eq _) dX12_of_5 rfl rfl (fun c41 => ?_) (fun c41n => ?_)
  · exact hk57g (fun q => c41 q.1)
  · have c41 := Decidable.of_not_not c41n
    refine g_iload_n (pc' := 9) 2 dX12_of_8 rfl rfl ?_
    refine g_iconst (pc' := 10) dX12_of_9 rfl ?_
    refine g_bipush (pc' := 12) dX12_of_10 rfl rfl ?_
    refine g_pSI (pc' := 15) (vs := [vI p1, vI 0, vI 8]) (st := []) (val := bI (0 ≤ p1 ∧ p1 ≤ 8)) (sp_X12_lies (le_hd hd rfl) (hob42 c41) (rg_lit rfl) (rg_lit rfl)) mk_X12_lies ms_X12_lies lk_X12_106 rfl (Nat.le_of_ble_eq_true rfl) (Nat.le_of_ble_eq_true rfl) rfl dX12_of_12 rfl z2 (fun rg43 => ?_)
    refine g_if_ne (tgt := 20) (pc' := 18) rg43 (bI_eq _) dX12_of_15 rfl rfl (fun c44n => ?_) (fun c44 => ?_)
    · have c44 := Decidable.of_not_not c44n
      exact hk56g ⟨c41, c44⟩
    · exact hk57g (fun q => c44 q.2)
theorem e_X12_of {w : Wd} {d : Nat} {P : Int → IM → LM → Prop} {i : IM} {l : LM} {p0 : Int} {p1 : Int}  (h : gI w d X_X12_of P i l 0 [(0, vR (some 99)), (1, vI p0), (2, vI p1)] []) : cI w (d + 1) X_X12_of [vR (some 99), vI p0, vI p1] i l P := CI_of (by decide +kernel) (Nat.le_of_ble_eq_true rfl) h

theorem dX12_street_0 : decode cX12_street 0 = .ok (.iload_n 1, 1) := by decide +kernel
theorem dX12_street_1 : decode cX12_street 1 = .ok (.invokestatic 155, 3) := by decide +kernel
theorem dX12_street_4 : decode cX12_street 4 = .ok (.ifCond .eq 19, 3) := by decide +kernel
theorem dX12_street_7 : decode cX12_street 7 = .ok (.iload_n 2, 1) := by decide +kernel
theorem dX12_street_8 : decode cX12_street 8 = .ok (.invokestatic 155, 3) := by decide +kernel
theorem dX12_street_11 : decode cX12_street 11 = .ok (.ifCond .eq 12, 3) := by decide +kernel
theorem dX12_street_14 : decode cX12_street 14 = .ok (.iload_n 3, 1) := by decide +kernel
theorem dX12_street_15 : decode cX12_street 15 = .ok (.iconst 0, 1) := by decide +kernel
theorem dX12_street_16 : decode cX12_street 16 = .ok (.iconst 1, 1) := by decide +kernel
theorem dX12_street_17 : decode cX12_street 17 = .ok (.invokestatic 106, 3) := by decide +kernel
theorem dX12_street_20 : decode cX12_street 20 = .ok (.ifCond .ne 9, 3) := by decide +kernel
theorem dX12_street_23 : decode cX12_street 23 = .ok (.aload_n 0, 1) := by decide +kernel
theorem dX12_street_24 : decode cX12_street 24 = .ok (.iconst (-1), 1) := by decide +kernel
theorem dX12_street_25 : decode cX12_street 25 = .ok (.invokevirtual 110, 3) := by decide +kernel
theorem dX12_street_28 : decode cX12_street 28 = .ok (.ireturn, 1) := by decide +kernel
theorem dX12_street_29 : decode cX12_street 29 = .ok (.iload_n 1, 1) := by decide +kernel
theorem dX12_street_30 : decode cX12_street 30 = .ok (.iload_n 2, 1) := by decide +kernel
theorem dX12_street_31 : decode cX12_street 31 = .ok (.if_icmp .ne 10, 3) := by decide +kernel
theorem dX12_street_34 : decode cX12_street 34 = .ok (.aload_n 0, 1) := by decide +kernel
theorem dX12_street_35 : decode cX12_street 35 = .ok (.bipush (-3), 2) := by decide +kernel
theorem dX12_street_37 : decode cX12_street 37 = .ok (.invokevirtual 110, 3) := by decide +kernel
theorem dX12_street_40 : decode cX12_street 40 = .ok (.ireturn, 1) := by decide +kernel
theorem dX12_street_41 : decode cX12_street 41 = .ok (.aload_n 0, 1) := by decide +kernel
theorem dX12_street_42 : decode cX12_street 42 = .ok (.getfield 20, 3) := by decide +kernel
theorem dX12_street_45 : decode cX12_street 45 = .ok (.bipush 104, 2) := by decide +kernel
theorem dX12_street_47 : decode cX12_street 47 = .ok (.iload_n 1, 1) := by decide +kernel
theorem dX12_street_48 : decode cX12_street 48 = .ok (.iadd, 1) := by decide +kernel
theorem dX12_street_49 : decode cX12_street 49 = .ok (.iaload, 1) := by decide +kernel
theorem dX12_street_50 : decode cX12_street 50 = .ok (.iload_n 2, 1) := by decide +kernel
theorem dX12_street_51 : decode cX12_street 51 = .ok (.ishr, 1) := by decide +kernel
theorem dX12_street_52 : decode cX12_street 52 = .ok (.iconst 1, 1) := by decide +kernel
theorem dX12_street_53 : decode cX12_street 53 = .ok (.iand, 1) := by decide +kernel
theorem dX12_street_54 : decode cX12_street 54 = .ok (.istore 4, 2) := by decide +kernel
theorem dX12_street_56 : decode cX12_street 56 = .ok (.aload_n 0, 1) := by decide +kernel
theorem dX12_street_57 : decode cX12_street 57 = .ok (.getfield 20, 3) := by decide +kernel
theorem dX12_street_60 : decode cX12_street 60 = .ok (.bipush 104, 2) := by decide +kernel
theorem dX12_street_62 : decode cX12_street 62 = .ok (.iload_n 1, 1) := by decide +kernel
theorem dX12_street_63 : decode cX12_street 63 = .ok (.iadd, 1) := by decide +kernel
theorem dX12_street_64 : decode cX12_street 64 = .ok (.aload_n 0, 1) := by decide +kernel
theorem dX12_street_65 : decode cX12_street 65 = .ok (.getfield 20, 3) := by decide +kernel
theorem dX12_street_68 : decode cX12_street 68 = .ok (.bipush 104, 2) := by decide +kernel
theorem dX12_street_70 : decode cX12_street 70 = .ok (.iload_n 1, 1) := by decide +kernel
theorem dX12_street_71 : decode cX12_street 71 = .ok (.iadd, 1) := by decide +kernel
theorem dX12_street_72 : decode cX12_street 72 = .ok (.iaload, 1) := by decide +kernel
theorem dX12_street_73 : decode cX12_street 73 = .ok (.iconst 1, 1) := by decide +kernel
theorem dX12_street_74 : decode cX12_street 74 = .ok (.iload_n 2, 1) := by decide +kernel
theorem dX12_street_75 : decode cX12_street 75 = .ok (.ishl, 1) := by decide +kernel
theorem dX12_street_76 : decode cX12_street 76 = .ok (.iconst (-1), 1) := by decide +kernel
theorem dX12_street_77 : decode cX12_street 77 = .ok (.ixor, 1) := by decide +kernel
theorem dX12_street_78 : decode cX12_street 78 = .ok (.iand, 1) := by decide +kernel
theorem dX12_street_79 : decode cX12_street 79 = .ok (.iload_n 3, 1) := by decide +kernel
theorem dX12_street_80 : decode cX12_street 80 = .ok (.iload_n 2, 1) := by decide +kernel
theorem dX12_street_81 : decode cX12_street 81 = .ok (.ishl, 1) := by decide +kernel
theorem dX12_street_82 : decode cX12_street 82 = .ok (.ior, 1) := by decide +kernel
theorem dX12_street_83 : decode cX12_street 83 = .ok (.iastore, 1) := by decide +kernel
theorem dX12_street_84 : decode cX12_street 84 = .ok (.aload_n 0, 1) := by decide +kernel
theorem dX12_street_85 : decode cX12_street 85 = .ok (.getfield 20, 3) := by decide +kernel
theorem dX12_street_88 : decode cX12_street 88 = .ok (.bipush 104, 2) := by decide +kernel
theorem dX12_street_90 : decode cX12_street 90 = .ok (.iload_n 2, 1) := by decide +kernel
theorem dX12_street_91 : decode cX12_street 91 = .ok (.iadd, 1) := by decide +kernel
theorem dX12_street_92 : decode cX12_street 92 = .ok (.aload_n 0, 1) := by decide +kernel
theorem dX12_street_93 : decode cX12_street 93 = .ok (.getfield 20, 3) := by decide +kernel
theorem dX12_street_96 : decode cX12_street 96 = .ok (.bipush 104, 2) := by decide +kernel
theorem dX12_street_98 : decode cX12_street 98 = .ok (.iload_n 2, 1) := by decide +kernel
theorem dX12_street_99 : decode cX12_street 99 = .ok (.iadd, 1) := by decide +kernel
theorem dX12_street_100 : decode cX12_street 100 = .ok (.iaload, 1) := by decide +kernel
theorem dX12_street_101 : decode cX12_street 101 = .ok (.iconst 1, 1) := by decide +kernel
theorem dX12_street_102 : decode cX12_street 102 = .ok (.iload_n 1, 1) := by decide +kernel
theorem dX12_street_103 : decode cX12_street 103 = .ok (.ishl, 1) := by decide +kernel
theorem dX12_street_104 : decode cX12_street 104 = .ok (.iconst (-1), 1) := by decide +kernel
theorem dX12_street_105 : decode cX12_street 105 = .ok (.ixor, 1) := by decide +kernel
theorem dX12_street_106 : decode cX12_street 106 = .ok (.iand, 1) := by decide +kernel
theorem dX12_street_107 : decode cX12_street 107 = .ok (.iload_n 3, 1) := by decide +kernel
theorem dX12_street_108 : decode cX12_street 108 = .ok (.iload_n 1, 1) := by decide +kernel
theorem dX12_street_109 : decode cX12_street 109 = .ok (.ishl, 1) := by decide +kernel
theorem dX12_street_110 : decode cX12_street 110 = .ok (.ior, 1) := by decide +kernel
theorem dX12_street_111 : decode cX12_street 111 = .ok (.iastore, 1) := by decide +kernel
theorem dX12_street_112 : decode cX12_street 112 = .ok (.aload_n 0, 1) := by decide +kernel
theorem dX12_street_113 : decode cX12_street 113 = .ok (.iload 4, 2) := by decide +kernel
theorem dX12_street_115 : decode cX12_street 115 = .ok (.invokevirtual 114, 3) := by decide +kernel
theorem dX12_street_118 : decode cX12_street 118 = .ok (.ireturn, 1) := by decide +kernel
set_option maxRecDepth 20000 in
theorem s_X12_street {w : Wd} {d : Nat} {P : Int → IM → LM → Prop} {i : IM} {l : LM} (p0 : Int) (p1 : Int) (p2 : Int)  (hd : 2 ≤ d) (h : ((rg p0) ∧ (((0 ≤ p0 ∧ p0 ≤ 9) → rg p1) ∧ ((0 ≤ p0 ∧ p0 ≤ 9) → (0 ≤ p1 ∧ p1 ≤ 9) → rg p2) ∧ ((¬ (0 ≤ p0 ∧ p0 ≤ 9) ∨ (¬ (0 ≤ p1 ∧ p1 ≤ 9) ∨ (¬ (0 ≤ p2 ∧ p2 ≤ 1)))) → cI w d X_X12_refuses [vR (some 99), vI (-1)] i l (fun r14 i14 l14 => P r14 i14 l14)) ∧ (((0 ≤ p0 ∧ p0 ≤ 9) ∧ ((0 ≤ p1 ∧ p1 ≤ 9) ∧ ((0 ≤ p2 ∧ p2 ≤ 1) ∧ (¬ (p0 = p1))))) → ((0 ≤ 104 + p0 ∧ 104 + p0 < 5120) ∧ (0 ≤ 104 + p1 ∧ 104 + p1 < 5120) ∧ cI w d X_X12_good [vR (some 99), vI (iand (ishr (i 101 (104 + p0)) p1) 1)] (u2 (u2 i 101 (104 + p0) (ior (iand (i 101 (104 + p0)) (ixor (ishl 1 p1) (-1))) (ishl p2 p1))) 101 (104 + p1) (ior (iand ((u2 i 101 (104 + p0) (ior (iand (i 101 (104 + p0)) (ixor (ishl 1 p1) (-1))) (ishl p2 p1))) 101 (104 + p1)) (ixor (ishl 1 p0) (-1))) (ishl p2 p0))) l (fun r20 i20 l20 => P r20 i20 l20))) ∧ (((0 ≤ p0 ∧ p0 ≤ 9) ∧ ((0 ≤ p1 ∧ p1 ≤ 9) ∧ ((0 ≤ p2 ∧ p2 ≤ 1) ∧ (p0 = p1)))) → cI w d X_X12_refuses [vR (some 99), vI (-3)] i l (fun r21 i21 l21 => P r21 i21 l21))))) : gI w d X_X12_street P i l 0 [(0, vR (some 99)), (1, vI p0), (2, vI p1), (3, vI p2)] [] := by
  obtain ⟨ob1, h⟩ := h
  refine g_iload_n (pc' := 1) 1 dX12_street_0 rfl rfl ?_
  refine g_pSI (pc' := 4) (vs := [vI p0]) (st := []) (val := bI (0 ≤ p0 ∧ p0 ≤ 9)) (sp_X12_isPlace (le_hd hd rfl) ob1) mk_X12_isPlace ms_X12_isPlace lk_X12_155 rfl (Nat.le_of_ble_eq_true rfl) (Nat.le_of_ble_eq_true rfl) rfl dX12_street_1 rfl z2 (fun rg2 => ?_)
  obtain ⟨hob5, hob8, hk22, hk23, hk24⟩ := h
  have hk22g : (¬ (0 ≤ p0 ∧ p0 ≤ 9) ∨ (¬ (0 ≤ p1 ∧ p1 ≤ 9) ∨ (¬ (0 ≤ p2 ∧ p2 ≤ 1)))) → gI w d X_X12_street P i l 23 [(0, vR (some 99)), (1, vI p0), (2, vI p1), (3, vI p2)] [] := by
    intro hp
    have h := hk22 hp
    refine g_aload_n (pc' := 24) 0 dX12_street_23 rfl rfl ?_
    refine g_iconst (pc' := 25) dX12_street_24 rfl ?_
    refine g_cVI (pc' := 28) (vs := [vI (-1)]) (st := []) (c := 12) h mv_X12_refuses lk_X12_110 rfl rfl rfl rfl (Nat.le_of_ble_eq_true rfl) (Nat.le_of_ble_eq_true rfl) rfl dX12_street_25 rfl z2 (fun r14 i14 l14 rg14 h => ?_)
    exact g_retI rfl rg14 dX12_street_28 h
  have hk23g : ((0 ≤ p0 ∧ p0 ≤ 9) ∧ ((0 ≤ p1 ∧ p1 ≤ 9) ∧ ((0 ≤ p2 ∧ p2 ≤ 1) ∧ (¬ (p0 = p1))))) → gI w d X_X12_street P i l 41 [(0, vR (some 99)), (1, vI p0), (2, vI p1), (3, vI p2)] [] := by
    intro hp
    have h := hk23 hp
    obtain ⟨ob15, ob18, h⟩ := h
    refine g_aload_n (pc' := 42) 0 dX12_street_41 rfl rfl ?_
    refine g_getR (pc' := 45) (o := some 101) fl_X12_20 rfl rfl rfl dX12_street_42 rfl ?_
    refine g_bipush (pc' := 47) dX12_street_45 rfl rfl ?_
    refine g_iload_n (pc' := 48) 1 dX12_street_47 rfl rfl ?_
    refine g_iadd (pc' := 49) dX12_street_48 rfl ?_
    refine g_iald (pc' := 50) (N := 5120) rfl rfl (Nat.lt_of_lt_of_le (Nat.lt_succ_self _) (Nat.le_of_ble_eq_true rfl)) ob15 dX12_street_49 rfl (fun rg16 => ?_)
    refine g_iload_n (pc' := 51) 2 dX12_street_50 rfl rfl ?_
    refine g_ishr (pc' := 52) dX12_street_51 rfl ?_
    refine g_iconst (pc' := 53) dX12_street_52 rfl ?_
    refine g_iand (pc' := 54) dX12_street_53 rfl ?_
    refine g_istore (pc' := 56) (L' := [(4, vI (iand (ishr (i 101 (104 + p0)) p1) 1)), (0, vR (some 99)), (1, vI p0), (2, vI p1), (3, vI p2)]) dX12_street_54 rfl (Nat.le_of_ble_eq_true rfl) rfl ?_
    refine g_aload_n (pc' := 57) 1 dX12_street_56 rfl rfl ?_
    refine g_getR (pc' := 60) (o := some 101) fl_X12_20 rfl rfl rfl dX12_street_57 rfl ?_
    refine g_bipush (pc' := 62) dX12_street_60 rfl rfl ?_
    refine g_iload_n (pc' := 63) 2 dX12_street_62 rfl rfl ?_
    refine g_iadd (pc' := 64) dX12_street_63 rfl ?_
    refine g_aload_n (pc' := 65) 1 dX12_street_64 rfl rfl ?_
    refine g_getR (pc' := 68) (o := some 101) fl_X12_20 rfl rfl rfl dX12_street_65 rfl ?_
    refine g_bipush (pc' := 70) dX12_street_68 rfl rfl ?_
    refine g_iload_n (pc' := 71) 2 dX12_street_70 rfl rfl ?_
    refine g_iadd (pc' := 72) dX12_street_71 rfl ?_
    refine g_iald (pc' := 73) (N := 5120) rfl rfl (Nat.lt_of_lt_of_le (Nat.lt_succ_self _) (Nat.le_of_ble_eq_true rfl)) ob15 dX12_street_72 rfl (fun rg17 => ?_)
    refine g_iconst (pc' := 74) dX12_street_73 rfl ?_
    refine g_iload_n (pc' := 75) 3 dX12_street_74 rfl rfl ?_
    refine g_ishl (pc' := 76) dX12_street_75 rfl ?_
    refine g_iconst (pc' := 77) dX12_street_76 rfl ?_
    refine g_ixor (pc' := 78) dX12_street_77 rfl ?_
    refine g_iand (pc' := 79) dX12_street_78 rfl ?_
    refine g_iload_n (pc' := 80) 4 dX12_street_79 rfl rfl ?_
    refine g_iload_n (pc' := 81) 3 dX12_street_80 rfl rfl ?_
    refine g_ishl (pc' := 82) dX12_street_81 rfl ?_
    refine g_ior (pc' := 83) dX12_street_82 rfl ?_
    refine g_iast (pc' := 84) (N := 5120) rfl rfl (Nat.lt_of_lt_of_le (Nat.lt_succ_self _) (Nat.le_of_ble_eq_true rfl)) ob15 (rg_ior _ _) dX12_street_83 rfl ?_
    refine g_aload_n (pc' := 85) 1 dX12_street_84 rfl rfl ?_
    refine g_getR (pc' := 88) (o := some 101) fl_X12_20 rfl rfl rfl dX12_street_85 rfl ?_
    refine g_bipush (pc' := 90) dX12_street_88 rfl rfl ?_
    refine g_iload_n (pc' := 91) 3 dX12_street_90 rfl rfl ?_
    refine g_iadd (pc' := 92) dX12_street_91 rfl ?_
    refine g_aload_n (pc' := 93) 1 dX12_street_92 rfl rfl ?_
    refine g_getR (pc' := 96) (o := some 101) fl_X12_20 rfl rfl rfl dX12_street_93 rfl ?_
    refine g_bipush (pc' := 98) dX12_street_96 rfl rfl ?_
    refine g_iload_n (pc' := 99) 3 dX12_street_98 rfl rfl ?_
    refine g_iadd (pc' := 100) dX12_street_99 rfl ?_
    refine g_iald (pc' := 101) (N := 5120) rfl rfl (Nat.lt_of_lt_of_le (Nat.lt_succ_self _) (Nat.le_of_ble_eq_true rfl)) ob18 dX12_street_100 rfl (fun rg19 => ?_)
    refine g_iconst (pc' := 102) dX12_street_101 rfl ?_
    refine g_iload_n (pc' := 103) 2 dX12_street_102 rfl rfl ?_
    refine g_ishl (pc' := 104) dX12_street_103 rfl ?_
    refine g_iconst (pc' := 105) dX12_street_104 rfl ?_
    refine g_ixor (pc' := 106) dX12_street_105 rfl ?_
    refine g_iand (pc' := 107) dX12_street_106 rfl ?_
    refine g_iload_n (pc' := 108) 4 dX12_street_107 rfl rfl ?_
    refine g_iload_n (pc' := 109) 2 dX12_street_108 rfl rfl ?_
    refine g_ishl (pc' := 110) dX12_street_109 rfl ?_
    refine g_ior (pc' := 111) dX12_street_110 rfl ?_
    refine g_iast (pc' := 112) (N := 5120) rfl rfl (Nat.lt_of_lt_of_le (Nat.lt_succ_self _) (Nat.le_of_ble_eq_true rfl)) ob18 (rg_ior _ _) dX12_street_111 rfl ?_
    refine g_aload_n (pc' := 113) 1 dX12_street_112 rfl rfl ?_
    refine g_iload (pc' := 115) 0 dX12_street_113 rfl rfl ?_
    refine g_cVI (pc' := 118) (vs := [vI (iand (ishr (i 101 (104 + p0)) p1) 1)]) (st := []) (c := 12) h mv_X12_good lk_X12_114 rfl rfl rfl rfl (Nat.le_of_ble_eq_true rfl) (Nat.le_of_ble_eq_true rfl) rfl dX12_street_115 rfl z2 (fun r20 i20 l20 rg20 h => ?_)
    exact g_retI rfl rg20 dX12_street_118 h
  have hk24g : ((0 ≤ p0 ∧ p0 ≤ 9) ∧ ((0 ≤ p1 ∧ p1 ≤ 9) ∧ ((0 ≤ p2 ∧ p2 ≤ 1) ∧ (p0 = p1)))) → gI w d X_X12_street P i l 34 [(0, vR (some 99)), (1, vI p0), (2, vI p1), (3, vI p2)] [] := by
    intro hp
    have h := hk24 hp
    refine g_aload_n (pc' := 35) 0 dX12_street_34 rfl rfl ?_
    refine g_bipush (pc' := 37) dX12_street_35 rfl rfl ?_
    refine g_cVI (pc' := 40) (vs := [vI (-3)]) (st := []) (c := 12) h mv_X12_refuses lk_X12_110 rfl rfl rfl rfl (Nat.le_of_ble_eq_true rfl) (Nat.le_of_ble_eq_true rfl) rfl dX12_street_37 rfl z2 (fun r21 i21 l21 rg21 h => ?_)
    exact g_retI rfl rg21 dX12_street_40 h
  refine g_if_eq (tgt := 23) (pc' := 7) rg2 (bI_eq _) dX12_street_4 rfl rfl (fun c4 => ?_) (fun c4n => ?_)
  · exact hk22g (Or.inl c4)
  · have c4 := Decidable.of_not_not c4n
    refine g_iload_n (pc' := 8) 2 dX12_street_7 rfl rfl ?_
    refine g_pSI (pc' := 11) (vs := [vI p1]) (st := []) (val := bI (0 ≤ p1 ∧ p1 ≤ 9)) (sp_X12_isPlace (le_hd hd rfl) (hob5 c4)) mk_X12_isPlace ms_X12_isPlace lk_X12_155 rfl (Nat.le_of_ble_eq_true rfl) (Nat.le_of_ble_eq_true rfl) rfl dX12_street_8 rfl z2 (fun rg6 => ?_)
    refine g_if_eq (tgt := 23) (pc' := 14) rg6 (bI_eq _) dX12_street_11 rfl rfl (fun c7 => ?_) (fun c7n => ?_)
    · exact hk22g (Or.inr (Or.inl c7))
    · have c7 := Decidable.of_not_not c7n
      refine g_iload_n (pc' := 15) 3 dX12_street_14 rfl rfl ?_
      refine g_iconst (pc' := 16) dX12_street_15 rfl ?_
      refine g_iconst (pc' := 17) dX12_street_16 rfl ?_
      refine g_pSI (pc' := 20) (vs := [vI p2, vI 0, vI 1]) (st := []) (val := bI (0 ≤ p2 ∧ p2 ≤ 1)) (sp_X12_lies (le_hd hd rfl) (hob8 c4 c7) (rg_lit rfl) (rg_lit rfl)) mk_X12_lies ms_X12_lies lk_X12_106 rfl (Nat.le_of_ble_eq_true rfl) (Nat.le_of_ble_eq_true rfl) rfl dX12_street_17 rfl z2 (fun rg9 => ?_)
      refine g_if_ne (tgt := 29) (pc' := 23) rg9 (bI_eq _) dX12_street_20 rfl rfl (fun c10n => ?_) (fun c10 => ?_)
      · have c10 := Decidable.of_not_not c10n
        refine g_iload_n (pc' := 30) 1 dX12_street_29 rfl rfl ?_
        refine g_iload_n (pc' := 31) 2 dX12_street_30 rfl rfl ?_
        refine g_icmp_ne (tgt := 41) (pc' := 34) ob1 (hob5 c4) Iff.rfl dX12_street_31 rfl rfl (fun c11 => ?_) (fun c11 => ?_)
        · exact hk23g ⟨c4, ⟨c7, ⟨c10, c11⟩⟩⟩
        · exact hk24g ⟨c4, ⟨c7, ⟨c10, c11⟩⟩⟩
      · exact hk22g (Or.inr (Or.inr c10))
theorem e_X12_street {w : Wd} {d : Nat} {P : Int → IM → LM → Prop} {i : IM} {l : LM} {p0 : Int} {p1 : Int} {p2 : Int}  (h : gI w d X_X12_street P i l 0 [(0, vR (some 99)), (1, vI p0), (2, vI p1), (3, vI p2)] []) : cI w (d + 1) X_X12_street [vR (some 99), vI p0, vI p1, vI p2] i l P := CI_of (by decide +kernel) (Nat.le_of_ble_eq_true rfl) h

theorem dX12_person_0 : decode cX12_person 0 = .ok (.iload_n 1, 1) := by decide +kernel
theorem dX12_person_1 : decode cX12_person 1 = .ok (.invokestatic 127, 3) := by decide +kernel
theorem dX12_person_4 : decode cX12_person 4 = .ok (.ifCond .ne 9, 3) := by decide +kernel
theorem dX12_person_7 : decode cX12_person 7 = .ok (.aload_n 0, 1) := by decide +kernel
theorem dX12_person_8 : decode cX12_person 8 = .ok (.iconst (-1), 1) := by decide +kernel
theorem dX12_person_9 : decode cX12_person 9 = .ok (.invokevirtual 110, 3) := by decide +kernel
theorem dX12_person_12 : decode cX12_person 12 = .ok (.ireturn, 1) := by decide +kernel
theorem dX12_person_13 : decode cX12_person 13 = .ok (.aload_n 0, 1) := by decide +kernel
theorem dX12_person_14 : decode cX12_person 14 = .ok (.invokevirtual 124, 3) := by decide +kernel
theorem dX12_person_17 : decode cX12_person 17 = .ok (.istore_n 2, 1) := by decide +kernel
theorem dX12_person_18 : decode cX12_person 18 = .ok (.iload_n 2, 1) := by decide +kernel
theorem dX12_person_19 : decode cX12_person 19 = .ok (.iconst 5, 1) := by decide +kernel
theorem dX12_person_20 : decode cX12_person 20 = .ok (.if_icmp .ne 10, 3) := by decide +kernel
theorem dX12_person_23 : decode cX12_person 23 = .ok (.aload_n 0, 1) := by decide +kernel
theorem dX12_person_24 : decode cX12_person 24 = .ok (.bipush (-5), 2) := by decide +kernel
theorem dX12_person_26 : decode cX12_person 26 = .ok (.invokevirtual 110, 3) := by decide +kernel
theorem dX12_person_29 : decode cX12_person 29 = .ok (.ireturn, 1) := by decide +kernel
theorem dX12_person_30 : decode cX12_person 30 = .ok (.aload_n 0, 1) := by decide +kernel
theorem dX12_person_31 : decode cX12_person 31 = .ok (.getfield 20, 3) := by decide +kernel
theorem dX12_person_34 : decode cX12_person 34 = .ok (.bipush 114, 2) := by decide +kernel
theorem dX12_person_36 : decode cX12_person 36 = .ok (.iload_n 2, 1) := by decide +kernel
theorem dX12_person_37 : decode cX12_person 37 = .ok (.iadd, 1) := by decide +kernel
theorem dX12_person_38 : decode cX12_person 38 = .ok (.iload_n 1, 1) := by decide +kernel
theorem dX12_person_39 : decode cX12_person 39 = .ok (.iastore, 1) := by decide +kernel
theorem dX12_person_40 : decode cX12_person 40 = .ok (.aload_n 0, 1) := by decide +kernel
theorem dX12_person_41 : decode cX12_person 41 = .ok (.getfield 20, 3) := by decide +kernel
theorem dX12_person_44 : decode cX12_person 44 = .ok (.sipush 309, 3) := by decide +kernel
theorem dX12_person_47 : decode cX12_person 47 = .ok (.dup2, 1) := by decide +kernel
theorem dX12_person_48 : decode cX12_person 48 = .ok (.iaload, 1) := by decide +kernel
theorem dX12_person_49 : decode cX12_person 49 = .ok (.iconst 1, 1) := by decide +kernel
theorem dX12_person_50 : decode cX12_person 50 = .ok (.iadd, 1) := by decide +kernel
theorem dX12_person_51 : decode cX12_person 51 = .ok (.iastore, 1) := by decide +kernel
theorem dX12_person_52 : decode cX12_person 52 = .ok (.aload_n 0, 1) := by decide +kernel
theorem dX12_person_53 : decode cX12_person 53 = .ok (.iload_n 2, 1) := by decide +kernel
theorem dX12_person_54 : decode cX12_person 54 = .ok (.invokevirtual 114, 3) := by decide +kernel
theorem dX12_person_57 : decode cX12_person 57 = .ok (.ireturn, 1) := by decide +kernel
set_option maxRecDepth 20000 in
theorem s_X12_person {w : Wd} {d : Nat} {P : Int → IM → LM → Prop} {i : IM} {l : LM} (p0 : Int)  (hd : 2 ≤ d) (h : ((rg p0) ∧ (((0 ≤ p0 ∧ p0 ≤ 7) → (((i 101 309 = 5) → cI w d X_X12_refuses [vR (some 99), vI (-5)] i l (fun r13 i13 l13 => P r13 i13 l13)) ∧ ((¬ (i 101 309 = 5)) → ((0 ≤ 114 + (i 101 309) ∧ 114 + (i 101 309) < 5120) ∧ (rg (((u2 i 101 (114 + (i 101 309)) p0) 101 309) + 1)) ∧ cI w d X_X12_good [vR (some 99), vI (i 101 309)] (u2 (u2 i 101 (114 + (i 101 309)) p0) 101 309 (((u2 i 101 (114 + (i 101 309)) p0) 101 309) + 1)) l (fun r12 i12 l12 => P r12 i12 l12))))) ∧ ((¬ (0 ≤ p0 ∧ p0 ≤ 7)) → cI w d X_X12_refuses [vR (some 99), vI (-1)] i l (fun r16 i16 l16 => P r16 i16 l16))))) : gI w d X_X12_person P i l 0 [(0, vR (some 99)), (1, vI p0)] [] := by
  obtain ⟨ob1, h⟩ := h
  refine g_iload_n (pc' := 1) 1 dX12_person_0 rfl rfl ?_
  refine g_pSI (pc' := 4) (vs := [vI p0]) (st := []) (val := bI (0 ≤ p0 ∧ p0 ≤ 7)) (sp_X12_isColour (le_hd hd rfl) ob1) mk_X12_isColour ms_X12_isColour lk_X12_127 rfl (Nat.le_of_ble_eq_true rfl) (Nat.le_of_ble_eq_true rfl) rfl dX12_person_1 rfl z2 (fun rg2 => ?_)
  obtain ⟨hk17, hk18⟩ := h
  have hk17g : (0 ≤ p0 ∧ p0 ≤ 7) → gI w d X_X12_person P i l 13 [(0, vR (some 99)), (1, vI p0)] [] := by
    intro hp
    have h := hk17 hp
    refine g_aload_n (pc' := 14) 0 dX12_person_13 rfl rfl ?_
    refine g_pVI (pc' := 17) (vs := []) (st := []) (val := i 101 309) (c := 12) (sp_X12_people (le_hd hd rfl) ) mv_X12_people lk_X12_124 rfl rfl rfl rfl (Nat.le_of_ble_eq_true rfl) (Nat.le_of_ble_eq_true rfl) rfl dX12_person_14 rfl z2 (fun rg6 => ?_)
    refine g_istore_n (pc' := 18) (L' := [(2, vI (i 101 309)), (0, vR (some 99)), (1, vI p0)]) dX12_person_17 rfl (Nat.le_of_ble_eq_true rfl) rfl ?_
    refine g_iload_n (pc' := 19) 0 dX12_person_18 rfl rfl ?_
    refine g_iconst (pc' := 20) dX12_person_19 rfl ?_
    obtain ⟨hk14, hk15⟩ := h
    refine g_icmp_ne (tgt := 30) (pc' := 23) rg6 (rg_lit rfl) Iff.rfl dX12_person_20 rfl rfl (fun c8 => ?_) (fun c8 => ?_)
    · have h := hk15 c8
      obtain ⟨ob9, ob11, h⟩ := h
      refine g_aload_n (pc' := 31) 1 dX12_person_30 rfl rfl ?_
      refine g_getR (pc' := 34) (o := some 101) fl_X12_20 rfl rfl rfl dX12_person_31 rfl ?_
      refine g_bipush (pc' := 36) dX12_person_34 rfl rfl ?_
      refine g_iload_n (pc' := 37) 0 dX12_person_36 rfl rfl ?_
      refine g_iadd (pc' := 38) dX12_person_37 rfl ?_
      refine g_iload_n (pc' := 39) 2 dX12_person_38 rfl rfl ?_
      refine g_iast (pc' := 40) (N := 5120) rfl rfl (Nat.lt_of_lt_of_le (Nat.lt_succ_self _) (Nat.le_of_ble_eq_true rfl)) ob9 ob1 dX12_person_39 rfl ?_
      refine g_aload_n (pc' := 41) 1 dX12_person_40 rfl rfl ?_
      refine g_getR (pc' := 44) (o := some 101) fl_X12_20 rfl rfl rfl dX12_person_41 rfl ?_
      refine g_sipush (pc' := 47) dX12_person_44 rfl rfl ?_
      refine g_dup2_11 (pc' := 48) dX12_person_47 rfl rfl rfl ?_
      refine g_iald (pc' := 49) (N := 5120) rfl rfl (Nat.lt_of_lt_of_le (Nat.lt_succ_self _) (Nat.le_of_ble_eq_true rfl)) (by decide) dX12_person_48 rfl (fun rg10 => ?_)
      refine g_iconst (pc' := 50) dX12_person_49 rfl ?_
      refine g_iadd (pc' := 51) dX12_person_50 rfl ?_
      refine g_iast (pc' := 52) (N := 5120) rfl rfl (Nat.lt_of_lt_of_le (Nat.lt_succ_self _) (Nat.le_of_ble_eq_true rfl)) (by decide) ob11 dX12_person_51 rfl ?_
      refine g_aload_n (pc' := 53) 1 dX12_person_52 rfl rfl ?_
      refine g_iload_n (pc' := 54) 0 dX12_person_53 rfl rfl ?_
      refine g_cVI (pc' := 57) (vs := [vI (i 101 309)]) (st := []) (c := 12) h mv_X12_good lk_X12_114 rfl rfl rfl rfl (Nat.le_of_ble_eq_true rfl) (Nat.le_of_ble_eq_true rfl) rfl dX12_person_54 rfl z2 (fun r12 i12 l12 rg12 h => ?_)
      exact g_retI rfl rg12 dX12_person_57 h
    · have h := hk14 c8
      refine g_aload_n (pc' := 24) 1 dX12_person_23 rfl rfl ?_
      refine g_bipush (pc' := 26) dX12_person_24 rfl rfl ?_
      refine g_cVI (pc' := 29) (vs := [vI (-5)]) (st := []) (c := 12) h mv_X12_refuses lk_X12_110 rfl rfl rfl rfl (Nat.le_of_ble_eq_true rfl) (Nat.le_of_ble_eq_true rfl) rfl dX12_person_26 rfl z2 (fun r13 i13 l13 rg13 h => ?_)
      exact g_retI rfl rg13 dX12_person_29 h
  have hk18g : (¬ (0 ≤ p0 ∧ p0 ≤ 7)) → gI w d X_X12_person P i l 7 [(0, vR (some 99)), (1, vI p0)] [] := by
    intro hp
    have h := hk18 hp
    refine g_aload_n (pc' := 8) 0 dX12_person_7 rfl rfl ?_
    refine g_iconst (pc' := 9) dX12_person_8 rfl ?_
    refine g_cVI (pc' := 12) (vs := [vI (-1)]) (st := []) (c := 12) h mv_X12_refuses lk_X12_110 rfl rfl rfl rfl (Nat.le_of_ble_eq_true rfl) (Nat.le_of_ble_eq_true rfl) rfl dX12_person_9 rfl z2 (fun r16 i16 l16 rg16 h => ?_)
    exact g_retI rfl rg16 dX12_person_12 h
  refine g_if_ne (tgt := 13) (pc' := 7) rg2 (bI_eq _) dX12_person_4 rfl rfl (fun c4n => ?_) (fun c4 => ?_)
  · have c4 := Decidable.of_not_not c4n
    exact hk17g c4
  · exact hk18g c4
theorem e_X12_person {w : Wd} {d : Nat} {P : Int → IM → LM → Prop} {i : IM} {l : LM} {p0 : Int}  (h : gI w d X_X12_person P i l 0 [(0, vR (some 99)), (1, vI p0)] []) : cI w (d + 1) X_X12_person [vR (some 99), vI p0] i l P := CI_of (by decide +kernel) (Nat.le_of_ble_eq_true rfl) h

theorem dX12_coat_0 : decode cX12_coat 0 = .ok (.iload_n 2, 1) := by decide +kernel
theorem dX12_coat_1 : decode cX12_coat 1 = .ok (.invokestatic 127, 3) := by decide +kernel
theorem dX12_coat_4 : decode cX12_coat 4 = .ok (.ifCond .ne 9, 3) := by decide +kernel
theorem dX12_coat_7 : decode cX12_coat 7 = .ok (.aload_n 0, 1) := by decide +kernel
theorem dX12_coat_8 : decode cX12_coat 8 = .ok (.iconst (-1), 1) := by decide +kernel
theorem dX12_coat_9 : decode cX12_coat 9 = .ok (.invokevirtual 110, 3) := by decide +kernel
theorem dX12_coat_12 : decode cX12_coat 12 = .ok (.ireturn, 1) := by decide +kernel
theorem dX12_coat_13 : decode cX12_coat 13 = .ok (.aload_n 0, 1) := by decide +kernel
theorem dX12_coat_14 : decode cX12_coat 14 = .ok (.iload_n 1, 1) := by decide +kernel
theorem dX12_coat_15 : decode cX12_coat 15 = .ok (.invokevirtual 158, 3) := by decide +kernel
theorem dX12_coat_18 : decode cX12_coat 18 = .ok (.ifCond .ne 10, 3) := by decide +kernel
theorem dX12_coat_21 : decode cX12_coat 21 = .ok (.aload_n 0, 1) := by decide +kernel
theorem dX12_coat_22 : decode cX12_coat 22 = .ok (.bipush (-2), 2) := by decide +kernel
theorem dX12_coat_24 : decode cX12_coat 24 = .ok (.invokevirtual 110, 3) := by decide +kernel
theorem dX12_coat_27 : decode cX12_coat 27 = .ok (.ireturn, 1) := by decide +kernel
theorem dX12_coat_28 : decode cX12_coat 28 = .ok (.aload_n 0, 1) := by decide +kernel
theorem dX12_coat_29 : decode cX12_coat 29 = .ok (.bipush 114, 2) := by decide +kernel
theorem dX12_coat_31 : decode cX12_coat 31 = .ok (.iload_n 1, 1) := by decide +kernel
theorem dX12_coat_32 : decode cX12_coat 32 = .ok (.iadd, 1) := by decide +kernel
theorem dX12_coat_33 : decode cX12_coat 33 = .ok (.iload_n 2, 1) := by decide +kernel
theorem dX12_coat_34 : decode cX12_coat 34 = .ok (.invokevirtual 137, 3) := by decide +kernel
theorem dX12_coat_37 : decode cX12_coat 37 = .ok (.ireturn, 1) := by decide +kernel
set_option maxRecDepth 20000 in
theorem s_X12_coat {w : Wd} {d : Nat} {P : Int → IM → LM → Prop} {i : IM} {l : LM} (p0 : Int) (p1 : Int)  (hd : 2 ≤ d) (h : ((rg p1) ∧ (((0 ≤ p1 ∧ p1 ≤ 7) → rg p0) ∧ ((0 ≤ p1 ∧ p1 ≤ 7) → rg (i 101 309 - 1)) ∧ (((0 ≤ p1 ∧ p1 ≤ 7) ∧ (0 ≤ p0 ∧ p0 < i 101 309)) → cI w d X_X12_replaces [vR (some 99), vI (114 + p0), vI p1] i l (fun r9 i9 l9 => P r9 i9 l9)) ∧ (((0 ≤ p1 ∧ p1 ≤ 7) ∧ (¬ (0 ≤ p0 ∧ p0 < i 101 309))) → cI w d X_X12_refuses [vR (some 99), vI (-2)] i l (fun r10 i10 l10 => P r10 i10 l10)) ∧ ((¬ (0 ≤ p1 ∧ p1 ≤ 7)) → cI w d X_X12_refuses [vR (some 99), vI (-1)] i l (fun r11 i11 l11 => P r11 i11 l11))))) : gI w d X_X12_coat P i l 0 [(0, vR (some 99)), (1, vI p0), (2, vI p1)] [] := by
  obtain ⟨ob1, h⟩ := h
  refine g_iload_n (pc' := 1) 2 dX12_coat_0 rfl rfl ?_
  refine g_pSI (pc' := 4) (vs := [vI p1]) (st := []) (val := bI (0 ≤ p1 ∧ p1 ≤ 7)) (sp_X12_isColour (le_hd hd rfl) ob1) mk_X12_isColour ms_X12_isColour lk_X12_127 rfl (Nat.le_of_ble_eq_true rfl) (Nat.le_of_ble_eq_true rfl) rfl dX12_coat_1 rfl z2 (fun rg2 => ?_)
  obtain ⟨hob5, hob6, hk12, hk13, hk14⟩ := h
  have hk12g : ((0 ≤ p1 ∧ p1 ≤ 7) ∧ (0 ≤ p0 ∧ p0 < i 101 309)) → gI w d X_X12_coat P i l 28 [(0, vR (some 99)), (1, vI p0), (2, vI p1)] [] := by
    intro hp
    have h := hk12 hp
    refine g_aload_n (pc' := 29) 0 dX12_coat_28 rfl rfl ?_
    refine g_bipush (pc' := 31) dX12_coat_29 rfl rfl ?_
    refine g_iload_n (pc' := 32) 1 dX12_coat_31 rfl rfl ?_
    refine g_iadd (pc' := 33) dX12_coat_32 rfl ?_
    refine g_iload_n (pc' := 34) 2 dX12_coat_33 rfl rfl ?_
    refine g_cVI (pc' := 37) (vs := [vI (114 + p0), vI p1]) (st := []) (c := 12) h mv_X12_replaces lk_X12_137 rfl rfl rfl rfl (Nat.le_of_ble_eq_true rfl) (Nat.le_of_ble_eq_true rfl) rfl dX12_coat_34 rfl z2 (fun r9 i9 l9 rg9 h => ?_)
    exact g_retI rfl rg9 dX12_coat_37 h
  have hk13g : ((0 ≤ p1 ∧ p1 ≤ 7) ∧ (¬ (0 ≤ p0 ∧ p0 < i 101 309))) → gI w d X_X12_coat P i l 21 [(0, vR (some 99)), (1, vI p0), (2, vI p1)] [] := by
    intro hp
    have h := hk13 hp
    refine g_aload_n (pc' := 22) 0 dX12_coat_21 rfl rfl ?_
    refine g_bipush (pc' := 24) dX12_coat_22 rfl rfl ?_
    refine g_cVI (pc' := 27) (vs := [vI (-2)]) (st := []) (c := 12) h mv_X12_refuses lk_X12_110 rfl rfl rfl rfl (Nat.le_of_ble_eq_true rfl) (Nat.le_of_ble_eq_true rfl) rfl dX12_coat_24 rfl z2 (fun r10 i10 l10 rg10 h => ?_)
    exact g_retI rfl rg10 dX12_coat_27 h
  have hk14g : (¬ (0 ≤ p1 ∧ p1 ≤ 7)) → gI w d X_X12_coat P i l 7 [(0, vR (some 99)), (1, vI p0), (2, vI p1)] [] := by
    intro hp
    have h := hk14 hp
    refine g_aload_n (pc' := 8) 0 dX12_coat_7 rfl rfl ?_
    refine g_iconst (pc' := 9) dX12_coat_8 rfl ?_
    refine g_cVI (pc' := 12) (vs := [vI (-1)]) (st := []) (c := 12) h mv_X12_refuses lk_X12_110 rfl rfl rfl rfl (Nat.le_of_ble_eq_true rfl) (Nat.le_of_ble_eq_true rfl) rfl dX12_coat_9 rfl z2 (fun r11 i11 l11 rg11 h => ?_)
    exact g_retI rfl rg11 dX12_coat_12 h
  refine g_if_ne (tgt := 13) (pc' := 7) rg2 (bI_eq _) dX12_coat_4 rfl rfl (fun c4n => ?_) (fun c4 => ?_)
  · have c4 := Decidable.of_not_not c4n
    refine g_aload_n (pc' := 14) 0 dX12_coat_13 rfl rfl ?_
    refine g_iload_n (pc' := 15) 1 dX12_coat_14 rfl rfl ?_
    refine g_pVI (pc' := 18) (vs := [vI p0]) (st := []) (val := bI (0 ≤ p0 ∧ p0 < i 101 309)) (c := 12) (sp_X12_isPerson (le_hd hd rfl) (hob5 c4) (hob6 c4)) mv_X12_isPerson lk_X12_158 rfl rfl rfl rfl (Nat.le_of_ble_eq_true rfl) (Nat.le_of_ble_eq_true rfl) rfl dX12_coat_15 rfl z2 (fun rg7 => ?_)
    refine g_if_ne (tgt := 28) (pc' := 21) rg7 (bI_eq _) dX12_coat_18 rfl rfl (fun c8n => ?_) (fun c8 => ?_)
    · have c8 := Decidable.of_not_not c8n
      exact hk12g ⟨c4, c8⟩
    · exact hk13g ⟨c4, c8⟩
  · exact hk14g c4
theorem e_X12_coat {w : Wd} {d : Nat} {P : Int → IM → LM → Prop} {i : IM} {l : LM} {p0 : Int} {p1 : Int}  (h : gI w d X_X12_coat P i l 0 [(0, vR (some 99)), (1, vI p0), (2, vI p1)] []) : cI w (d + 1) X_X12_coat [vR (some 99), vI p0, vI p1] i l P := CI_of (by decide +kernel) (Nat.le_of_ble_eq_true rfl) h

theorem dX12_same_0 : decode cX12_same 0 = .ok (.iload_n 1, 1) := by decide +kernel
theorem dX12_same_1 : decode cX12_same 1 = .ok (.invokestatic 127, 3) := by decide +kernel
theorem dX12_same_4 : decode cX12_same 4 = .ok (.ifCond .eq 19, 3) := by decide +kernel
theorem dX12_same_7 : decode cX12_same 7 = .ok (.iload_n 2, 1) := by decide +kernel
theorem dX12_same_8 : decode cX12_same 8 = .ok (.invokestatic 127, 3) := by decide +kernel
theorem dX12_same_11 : decode cX12_same 11 = .ok (.ifCond .eq 12, 3) := by decide +kernel
theorem dX12_same_14 : decode cX12_same 14 = .ok (.iload_n 3, 1) := by decide +kernel
theorem dX12_same_15 : decode cX12_same 15 = .ok (.iconst 0, 1) := by decide +kernel
theorem dX12_same_16 : decode cX12_same 16 = .ok (.iconst 1, 1) := by decide +kernel
theorem dX12_same_17 : decode cX12_same 17 = .ok (.invokestatic 106, 3) := by decide +kernel
theorem dX12_same_20 : decode cX12_same 20 = .ok (.ifCond .ne 9, 3) := by decide +kernel
theorem dX12_same_23 : decode cX12_same 23 = .ok (.aload_n 0, 1) := by decide +kernel
theorem dX12_same_24 : decode cX12_same 24 = .ok (.iconst (-1), 1) := by decide +kernel
theorem dX12_same_25 : decode cX12_same 25 = .ok (.invokevirtual 110, 3) := by decide +kernel
theorem dX12_same_28 : decode cX12_same 28 = .ok (.ireturn, 1) := by decide +kernel
theorem dX12_same_29 : decode cX12_same 29 = .ok (.iload_n 1, 1) := by decide +kernel
theorem dX12_same_30 : decode cX12_same 30 = .ok (.iload_n 2, 1) := by decide +kernel
theorem dX12_same_31 : decode cX12_same 31 = .ok (.if_icmp .ne 10, 3) := by decide +kernel
theorem dX12_same_34 : decode cX12_same 34 = .ok (.aload_n 0, 1) := by decide +kernel
theorem dX12_same_35 : decode cX12_same 35 = .ok (.bipush (-3), 2) := by decide +kernel
theorem dX12_same_37 : decode cX12_same 37 = .ok (.invokevirtual 110, 3) := by decide +kernel
theorem dX12_same_40 : decode cX12_same 40 = .ok (.ireturn, 1) := by decide +kernel
theorem dX12_same_41 : decode cX12_same 41 = .ok (.aload_n 0, 1) := by decide +kernel
theorem dX12_same_42 : decode cX12_same 42 = .ok (.getfield 20, 3) := by decide +kernel
theorem dX12_same_45 : decode cX12_same 45 = .ok (.bipush 119, 2) := by decide +kernel
theorem dX12_same_47 : decode cX12_same 47 = .ok (.iload_n 1, 1) := by decide +kernel
theorem dX12_same_48 : decode cX12_same 48 = .ok (.iadd, 1) := by decide +kernel
theorem dX12_same_49 : decode cX12_same 49 = .ok (.iaload, 1) := by decide +kernel
theorem dX12_same_50 : decode cX12_same 50 = .ok (.iload_n 2, 1) := by decide +kernel
theorem dX12_same_51 : decode cX12_same 51 = .ok (.ishr, 1) := by decide +kernel
theorem dX12_same_52 : decode cX12_same 52 = .ok (.iconst 1, 1) := by decide +kernel
theorem dX12_same_53 : decode cX12_same 53 = .ok (.iand, 1) := by decide +kernel
theorem dX12_same_54 : decode cX12_same 54 = .ok (.istore 4, 2) := by decide +kernel
theorem dX12_same_56 : decode cX12_same 56 = .ok (.aload_n 0, 1) := by decide +kernel
theorem dX12_same_57 : decode cX12_same 57 = .ok (.getfield 20, 3) := by decide +kernel
theorem dX12_same_60 : decode cX12_same 60 = .ok (.bipush 119, 2) := by decide +kernel
theorem dX12_same_62 : decode cX12_same 62 = .ok (.iload_n 1, 1) := by decide +kernel
theorem dX12_same_63 : decode cX12_same 63 = .ok (.iadd, 1) := by decide +kernel
theorem dX12_same_64 : decode cX12_same 64 = .ok (.aload_n 0, 1) := by decide +kernel
theorem dX12_same_65 : decode cX12_same 65 = .ok (.getfield 20, 3) := by decide +kernel
theorem dX12_same_68 : decode cX12_same 68 = .ok (.bipush 119, 2) := by decide +kernel
theorem dX12_same_70 : decode cX12_same 70 = .ok (.iload_n 1, 1) := by decide +kernel
theorem dX12_same_71 : decode cX12_same 71 = .ok (.iadd, 1) := by decide +kernel
theorem dX12_same_72 : decode cX12_same 72 = .ok (.iaload, 1) := by decide +kernel
theorem dX12_same_73 : decode cX12_same 73 = .ok (.iconst 1, 1) := by decide +kernel
theorem dX12_same_74 : decode cX12_same 74 = .ok (.iload_n 2, 1) := by decide +kernel
theorem dX12_same_75 : decode cX12_same 75 = .ok (.ishl, 1) := by decide +kernel
theorem dX12_same_76 : decode cX12_same 76 = .ok (.iconst (-1), 1) := by decide +kernel
theorem dX12_same_77 : decode cX12_same 77 = .ok (.ixor, 1) := by decide +kernel
theorem dX12_same_78 : decode cX12_same 78 = .ok (.iand, 1) := by decide +kernel
theorem dX12_same_79 : decode cX12_same 79 = .ok (.iload_n 3, 1) := by decide +kernel
theorem dX12_same_80 : decode cX12_same 80 = .ok (.iload_n 2, 1) := by decide +kernel
theorem dX12_same_81 : decode cX12_same 81 = .ok (.ishl, 1) := by decide +kernel
theorem dX12_same_82 : decode cX12_same 82 = .ok (.ior, 1) := by decide +kernel
theorem dX12_same_83 : decode cX12_same 83 = .ok (.iastore, 1) := by decide +kernel
theorem dX12_same_84 : decode cX12_same 84 = .ok (.aload_n 0, 1) := by decide +kernel
theorem dX12_same_85 : decode cX12_same 85 = .ok (.getfield 20, 3) := by decide +kernel
theorem dX12_same_88 : decode cX12_same 88 = .ok (.bipush 119, 2) := by decide +kernel
theorem dX12_same_90 : decode cX12_same 90 = .ok (.iload_n 2, 1) := by decide +kernel
theorem dX12_same_91 : decode cX12_same 91 = .ok (.iadd, 1) := by decide +kernel
theorem dX12_same_92 : decode cX12_same 92 = .ok (.aload_n 0, 1) := by decide +kernel
theorem dX12_same_93 : decode cX12_same 93 = .ok (.getfield 20, 3) := by decide +kernel
theorem dX12_same_96 : decode cX12_same 96 = .ok (.bipush 119, 2) := by decide +kernel
theorem dX12_same_98 : decode cX12_same 98 = .ok (.iload_n 2, 1) := by decide +kernel
theorem dX12_same_99 : decode cX12_same 99 = .ok (.iadd, 1) := by decide +kernel
theorem dX12_same_100 : decode cX12_same 100 = .ok (.iaload, 1) := by decide +kernel
theorem dX12_same_101 : decode cX12_same 101 = .ok (.iconst 1, 1) := by decide +kernel
theorem dX12_same_102 : decode cX12_same 102 = .ok (.iload_n 1, 1) := by decide +kernel
theorem dX12_same_103 : decode cX12_same 103 = .ok (.ishl, 1) := by decide +kernel
theorem dX12_same_104 : decode cX12_same 104 = .ok (.iconst (-1), 1) := by decide +kernel
theorem dX12_same_105 : decode cX12_same 105 = .ok (.ixor, 1) := by decide +kernel
theorem dX12_same_106 : decode cX12_same 106 = .ok (.iand, 1) := by decide +kernel
theorem dX12_same_107 : decode cX12_same 107 = .ok (.iload_n 3, 1) := by decide +kernel
theorem dX12_same_108 : decode cX12_same 108 = .ok (.iload_n 1, 1) := by decide +kernel
theorem dX12_same_109 : decode cX12_same 109 = .ok (.ishl, 1) := by decide +kernel
theorem dX12_same_110 : decode cX12_same 110 = .ok (.ior, 1) := by decide +kernel
theorem dX12_same_111 : decode cX12_same 111 = .ok (.iastore, 1) := by decide +kernel
theorem dX12_same_112 : decode cX12_same 112 = .ok (.aload_n 0, 1) := by decide +kernel
theorem dX12_same_113 : decode cX12_same 113 = .ok (.iload 4, 2) := by decide +kernel
theorem dX12_same_115 : decode cX12_same 115 = .ok (.invokevirtual 114, 3) := by decide +kernel
theorem dX12_same_118 : decode cX12_same 118 = .ok (.ireturn, 1) := by decide +kernel
set_option maxRecDepth 20000 in
theorem s_X12_same {w : Wd} {d : Nat} {P : Int → IM → LM → Prop} {i : IM} {l : LM} (p0 : Int) (p1 : Int) (p2 : Int)  (hd : 2 ≤ d) (h : ((rg p0) ∧ (((0 ≤ p0 ∧ p0 ≤ 7) → rg p1) ∧ ((0 ≤ p0 ∧ p0 ≤ 7) → (0 ≤ p1 ∧ p1 ≤ 7) → rg p2) ∧ ((¬ (0 ≤ p0 ∧ p0 ≤ 7) ∨ (¬ (0 ≤ p1 ∧ p1 ≤ 7) ∨ (¬ (0 ≤ p2 ∧ p2 ≤ 1)))) → cI w d X_X12_refuses [vR (some 99), vI (-1)] i l (fun r14 i14 l14 => P r14 i14 l14)) ∧ (((0 ≤ p0 ∧ p0 ≤ 7) ∧ ((0 ≤ p1 ∧ p1 ≤ 7) ∧ ((0 ≤ p2 ∧ p2 ≤ 1) ∧ (¬ (p0 = p1))))) → ((0 ≤ 119 + p0 ∧ 119 + p0 < 5120) ∧ (0 ≤ 119 + p1 ∧ 119 + p1 < 5120) ∧ cI w d X_X12_good [vR (some 99), vI (iand (ishr (i 101 (119 + p0)) p1) 1)] (u2 (u2 i 101 (119 + p0) (ior (iand (i 101 (119 + p0)) (ixor (ishl 1 p1) (-1))) (ishl p2 p1))) 101 (119 + p1) (ior (iand ((u2 i 101 (119 + p0) (ior (iand (i 101 (119 + p0)) (ixor (ishl 1 p1) (-1))) (ishl p2 p1))) 101 (119 + p1)) (ixor (ishl 1 p0) (-1))) (ishl p2 p0))) l (fun r20 i20 l20 => P r20 i20 l20))) ∧ (((0 ≤ p0 ∧ p0 ≤ 7) ∧ ((0 ≤ p1 ∧ p1 ≤ 7) ∧ ((0 ≤ p2 ∧ p2 ≤ 1) ∧ (p0 = p1)))) → cI w d X_X12_refuses [vR (some 99), vI (-3)] i l (fun r21 i21 l21 => P r21 i21 l21))))) : gI w d X_X12_same P i l 0 [(0, vR (some 99)), (1, vI p0), (2, vI p1), (3, vI p2)] [] := by
  obtain ⟨ob1, h⟩ := h
  refine g_iload_n (pc' := 1) 1 dX12_same_0 rfl rfl ?_
  refine g_pSI (pc' := 4) (vs := [vI p0]) (st := []) (val := bI (0 ≤ p0 ∧ p0 ≤ 7)) (sp_X12_isColour (le_hd hd rfl) ob1) mk_X12_isColour ms_X12_isColour lk_X12_127 rfl (Nat.le_of_ble_eq_true rfl) (Nat.le_of_ble_eq_true rfl) rfl dX12_same_1 rfl z2 (fun rg2 => ?_)
  obtain ⟨hob5, hob8, hk22, hk23, hk24⟩ := h
  have hk22g : (¬ (0 ≤ p0 ∧ p0 ≤ 7) ∨ (¬ (0 ≤ p1 ∧ p1 ≤ 7) ∨ (¬ (0 ≤ p2 ∧ p2 ≤ 1)))) → gI w d X_X12_same P i l 23 [(0, vR (some 99)), (1, vI p0), (2, vI p1), (3, vI p2)] [] := by
    intro hp
    have h := hk22 hp
    refine g_aload_n (pc' := 24) 0 dX12_same_23 rfl rfl ?_
    refine g_iconst (pc' := 25) dX12_same_24 rfl ?_
    refine g_cVI (pc' := 28) (vs := [vI (-1)]) (st := []) (c := 12) h mv_X12_refuses lk_X12_110 rfl rfl rfl rfl (Nat.le_of_ble_eq_true rfl) (Nat.le_of_ble_eq_true rfl) rfl dX12_same_25 rfl z2 (fun r14 i14 l14 rg14 h => ?_)
    exact g_retI rfl rg14 dX12_same_28 h
  have hk23g : ((0 ≤ p0 ∧ p0 ≤ 7) ∧ ((0 ≤ p1 ∧ p1 ≤ 7) ∧ ((0 ≤ p2 ∧ p2 ≤ 1) ∧ (¬ (p0 = p1))))) → gI w d X_X12_same P i l 41 [(0, vR (some 99)), (1, vI p0), (2, vI p1), (3, vI p2)] [] := by
    intro hp
    have h := hk23 hp
    obtain ⟨ob15, ob18, h⟩ := h
    refine g_aload_n (pc' := 42) 0 dX12_same_41 rfl rfl ?_
    refine g_getR (pc' := 45) (o := some 101) fl_X12_20 rfl rfl rfl dX12_same_42 rfl ?_
    refine g_bipush (pc' := 47) dX12_same_45 rfl rfl ?_
    refine g_iload_n (pc' := 48) 1 dX12_same_47 rfl rfl ?_
    refine g_iadd (pc' := 49) dX12_same_48 rfl ?_
    refine g_iald (pc' := 50) (N := 5120) rfl rfl (Nat.lt_of_lt_of_le (Nat.lt_succ_self _) (Nat.le_of_ble_eq_true rfl)) ob15 dX12_same_49 rfl (fun rg16 => ?_)
    refine g_iload_n (pc' := 51) 2 dX12_same_50 rfl rfl ?_
    refine g_ishr (pc' := 52) dX12_same_51 rfl ?_
    refine g_iconst (pc' := 53) dX12_same_52 rfl ?_
    refine g_iand (pc' := 54) dX12_same_53 rfl ?_
    refine g_istore (pc' := 56) (L' := [(4, vI (iand (ishr (i 101 (119 + p0)) p1) 1)), (0, vR (some 99)), (1, vI p0), (2, vI p1), (3, vI p2)]) dX12_same_54 rfl (Nat.le_of_ble_eq_true rfl) rfl ?_
    refine g_aload_n (pc' := 57) 1 dX12_same_56 rfl rfl ?_
    refine g_getR (pc' := 60) (o := some 101) fl_X12_20 rfl rfl rfl dX12_same_57 rfl ?_
    refine g_bipush (pc' := 62) dX12_same_60 rfl rfl ?_
    refine g_iload_n (pc' := 63) 2 dX12_same_62 rfl rfl ?_
    refine g_iadd (pc' := 64) dX12_same_63 rfl ?_
    refine g_aload_n (pc' := 65) 1 dX12_same_64 rfl rfl ?_
    refine g_getR (pc' := 68) (o := some 101) fl_X12_20 rfl rfl rfl dX12_same_65 rfl ?_
    refine g_bipush (pc' := 70) dX12_same_68 rfl rfl ?_
    refine g_iload_n (pc' := 71) 2 dX12_same_70 rfl rfl ?_
    refine g_iadd (pc' := 72) dX12_same_71 rfl ?_
    refine g_iald (pc' := 73) (N := 5120) rfl rfl (Nat.lt_of_lt_of_le (Nat.lt_succ_self _) (Nat.le_of_ble_eq_true rfl)) ob15 dX12_same_72 rfl (fun rg17 => ?_)
    refine g_iconst (pc' := 74) dX12_same_73 rfl ?_
    refine g_iload_n (pc' := 75) 3 dX12_same_74 rfl rfl ?_
    refine g_ishl (pc' := 76) dX12_same_75 rfl ?_
    refine g_iconst (pc' := 77) dX12_same_76 rfl ?_
    refine g_ixor (pc' := 78) dX12_same_77 rfl ?_
    refine g_iand (pc' := 79) dX12_same_78 rfl ?_
    refine g_iload_n (pc' := 80) 4 dX12_same_79 rfl rfl ?_
    refine g_iload_n (pc' := 81) 3 dX12_same_80 rfl rfl ?_
    refine g_ishl (pc' := 82) dX12_same_81 rfl ?_
    refine g_ior (pc' := 83) dX12_same_82 rfl ?_
    refine g_iast (pc' := 84) (N := 5120) rfl rfl (Nat.lt_of_lt_of_le (Nat.lt_succ_self _) (Nat.le_of_ble_eq_true rfl)) ob15 (rg_ior _ _) dX12_same_83 rfl ?_
    refine g_aload_n (pc' := 85) 1 dX12_same_84 rfl rfl ?_
    refine g_getR (pc' := 88) (o := some 101) fl_X12_20 rfl rfl rfl dX12_same_85 rfl ?_
    refine g_bipush (pc' := 90) dX12_same_88 rfl rfl ?_
    refine g_iload_n (pc' := 91) 3 dX12_same_90 rfl rfl ?_
    refine g_iadd (pc' := 92) dX12_same_91 rfl ?_
    refine g_aload_n (pc' := 93) 1 dX12_same_92 rfl rfl ?_
    refine g_getR (pc' := 96) (o := some 101) fl_X12_20 rfl rfl rfl dX12_same_93 rfl ?_
    refine g_bipush (pc' := 98) dX12_same_96 rfl rfl ?_
    refine g_iload_n (pc' := 99) 3 dX12_same_98 rfl rfl ?_
    refine g_iadd (pc' := 100) dX12_same_99 rfl ?_
    refine g_iald (pc' := 101) (N := 5120) rfl rfl (Nat.lt_of_lt_of_le (Nat.lt_succ_self _) (Nat.le_of_ble_eq_true rfl)) ob18 dX12_same_100 rfl (fun rg19 => ?_)
    refine g_iconst (pc' := 102) dX12_same_101 rfl ?_
    refine g_iload_n (pc' := 103) 2 dX12_same_102 rfl rfl ?_
    refine g_ishl (pc' := 104) dX12_same_103 rfl ?_
    refine g_iconst (pc' := 105) dX12_same_104 rfl ?_
    refine g_ixor (pc' := 106) dX12_same_105 rfl ?_
    refine g_iand (pc' := 107) dX12_same_106 rfl ?_
    refine g_iload_n (pc' := 108) 4 dX12_same_107 rfl rfl ?_
    refine g_iload_n (pc' := 109) 2 dX12_same_108 rfl rfl ?_
    refine g_ishl (pc' := 110) dX12_same_109 rfl ?_
    refine g_ior (pc' := 111) dX12_same_110 rfl ?_
    refine g_iast (pc' := 112) (N := 5120) rfl rfl (Nat.lt_of_lt_of_le (Nat.lt_succ_self _) (Nat.le_of_ble_eq_true rfl)) ob18 (rg_ior _ _) dX12_same_111 rfl ?_
    refine g_aload_n (pc' := 113) 1 dX12_same_112 rfl rfl ?_
    refine g_iload (pc' := 115) 0 dX12_same_113 rfl rfl ?_
    refine g_cVI (pc' := 118) (vs := [vI (iand (ishr (i 101 (119 + p0)) p1) 1)]) (st := []) (c := 12) h mv_X12_good lk_X12_114 rfl rfl rfl rfl (Nat.le_of_ble_eq_true rfl) (Nat.le_of_ble_eq_true rfl) rfl dX12_same_115 rfl z2 (fun r20 i20 l20 rg20 h => ?_)
    exact g_retI rfl rg20 dX12_same_118 h
  have hk24g : ((0 ≤ p0 ∧ p0 ≤ 7) ∧ ((0 ≤ p1 ∧ p1 ≤ 7) ∧ ((0 ≤ p2 ∧ p2 ≤ 1) ∧ (p0 = p1)))) → gI w d X_X12_same P i l 34 [(0, vR (some 99)), (1, vI p0), (2, vI p1), (3, vI p2)] [] := by
    intro hp
    have h := hk24 hp
    refine g_aload_n (pc' := 35) 0 dX12_same_34 rfl rfl ?_
    refine g_bipush (pc' := 37) dX12_same_35 rfl rfl ?_
    refine g_cVI (pc' := 40) (vs := [vI (-3)]) (st := []) (c := 12) h mv_X12_refuses lk_X12_110 rfl rfl rfl rfl (Nat.le_of_ble_eq_true rfl) (Nat.le_of_ble_eq_true rfl) rfl dX12_same_37 rfl z2 (fun r21 i21 l21 rg21 h => ?_)
    exact g_retI rfl rg21 dX12_same_40 h
  refine g_if_eq (tgt := 23) (pc' := 7) rg2 (bI_eq _) dX12_same_4 rfl rfl (fun c4 => ?_) (fun c4n => ?_)
  · exact hk22g (Or.inl c4)
  · have c4 := Decidable.of_not_not c4n
    refine g_iload_n (pc' := 8) 2 dX12_same_7 rfl rfl ?_
    refine g_pSI (pc' := 11) (vs := [vI p1]) (st := []) (val := bI (0 ≤ p1 ∧ p1 ≤ 7)) (sp_X12_isColour (le_hd hd rfl) (hob5 c4)) mk_X12_isColour ms_X12_isColour lk_X12_127 rfl (Nat.le_of_ble_eq_true rfl) (Nat.le_of_ble_eq_true rfl) rfl dX12_same_8 rfl z2 (fun rg6 => ?_)
    refine g_if_eq (tgt := 23) (pc' := 14) rg6 (bI_eq _) dX12_same_11 rfl rfl (fun c7 => ?_) (fun c7n => ?_)
    · exact hk22g (Or.inr (Or.inl c7))
    · have c7 := Decidable.of_not_not c7n
      refine g_iload_n (pc' := 15) 3 dX12_same_14 rfl rfl ?_
      refine g_iconst (pc' := 16) dX12_same_15 rfl ?_
      refine g_iconst (pc' := 17) dX12_same_16 rfl ?_
      refine g_pSI (pc' := 20) (vs := [vI p2, vI 0, vI 1]) (st := []) (val := bI (0 ≤ p2 ∧ p2 ≤ 1)) (sp_X12_lies (le_hd hd rfl) (hob8 c4 c7) (rg_lit rfl) (rg_lit rfl)) mk_X12_lies ms_X12_lies lk_X12_106 rfl (Nat.le_of_ble_eq_true rfl) (Nat.le_of_ble_eq_true rfl) rfl dX12_same_17 rfl z2 (fun rg9 => ?_)
      refine g_if_ne (tgt := 29) (pc' := 23) rg9 (bI_eq _) dX12_same_20 rfl rfl (fun c10n => ?_) (fun c10 => ?_)
      · have c10 := Decidable.of_not_not c10n
        refine g_iload_n (pc' := 30) 1 dX12_same_29 rfl rfl ?_
        refine g_iload_n (pc' := 31) 2 dX12_same_30 rfl rfl ?_
        refine g_icmp_ne (tgt := 41) (pc' := 34) ob1 (hob5 c4) Iff.rfl dX12_same_31 rfl rfl (fun c11 => ?_) (fun c11 => ?_)
        · exact hk23g ⟨c4, ⟨c7, ⟨c10, c11⟩⟩⟩
        · exact hk24g ⟨c4, ⟨c7, ⟨c10, c11⟩⟩⟩
      · exact hk22g (Or.inr (Or.inr c10))
theorem e_X12_same {w : Wd} {d : Nat} {P : Int → IM → LM → Prop} {i : IM} {l : LM} {p0 : Int} {p1 : Int} {p2 : Int}  (h : gI w d X_X12_same P i l 0 [(0, vR (some 99)), (1, vI p0), (2, vI p1), (3, vI p2)] []) : cI w (d + 1) X_X12_same [vR (some 99), vI p0, vI p1, vI p2] i l P := CI_of (by decide +kernel) (Nat.le_of_ble_eq_true rfl) h

theorem dX12_counts_0 : decode cX12_counts 0 = .ok (.iload_n 1, 1) := by decide +kernel
theorem dX12_counts_1 : decode cX12_counts 1 = .ok (.invokestatic 127, 3) := by decide +kernel
theorem dX12_counts_4 : decode cX12_counts 4 = .ok (.ifCond .eq 11, 3) := by decide +kernel
theorem dX12_counts_7 : decode cX12_counts 7 = .ok (.aload_n 0, 1) := by decide +kernel
theorem dX12_counts_8 : decode cX12_counts 8 = .ok (.iload_n 1, 1) := by decide +kernel
theorem dX12_counts_9 : decode cX12_counts 9 = .ok (.invokevirtual 161, 3) := by decide +kernel
theorem dX12_counts_12 : decode cX12_counts 12 = .ok (.goto 4, 3) := by decide +kernel
theorem dX12_counts_15 : decode cX12_counts 15 = .ok (.iconst (-1), 1) := by decide +kernel
theorem dX12_counts_16 : decode cX12_counts 16 = .ok (.ireturn, 1) := by decide +kernel
set_option maxRecDepth 20000 in
theorem s_X12_counts {w : Wd} {d : Nat} {P : Int → IM → LM → Prop} {i : IM} {l : LM} (p0 : Int)  (hd : 2 ≤ d) (h : ((rg p0) ∧ (((0 ≤ p0 ∧ p0 ≤ 7) → 0 ≤ p0 ∧ p0 < 8) ∧ ((0 ≤ p0 ∧ p0 ≤ 7) → sameOK i) ∧ ((rg (if (0 ≤ p0 ∧ p0 ≤ 7) then mLow i p0 else (-1))) ∧ P (if (0 ≤ p0 ∧ p0 ≤ 7) then mLow i p0 else (-1)) i l)))) : gI w d X_X12_counts P i l 0 [(0, vR (some 99)), (1, vI p0)] [] := by
  obtain ⟨ob1, h⟩ := h
  refine g_iload_n (pc' := 1) 1 dX12_counts_0 rfl rfl ?_
  refine g_pSI (pc' := 4) (vs := [vI p0]) (st := []) (val := bI (0 ≤ p0 ∧ p0 ≤ 7)) (sp_X12_isColour (le_hd hd rfl) ob1) mk_X12_isColour ms_X12_isColour lk_X12_127 rfl (Nat.le_of_ble_eq_true rfl) (Nat.le_of_ble_eq_true rfl) rfl dX12_counts_1 rfl z2 (fun rg2 => ?_)
  obtain ⟨hob5, hob6, h⟩ := h
  have hJ : gI w d X_X12_counts P i l 16 [(0, vR (some 99)), (1, vI p0)] [vI (if (0 ≤ p0 ∧ p0 ≤ 7) then mLow i p0 else (-1))] := by
    obtain ⟨ob8, h⟩ := h
    exact g_retI rfl ob8 dX12_counts_16 h
  refine g_if_eq (tgt := 15) (pc' := 7) rg2 (bI_eq _) dX12_counts_4 rfl rfl (fun c4 => ?_) (fun c4n => ?_)
  · refine g_iconst (pc' := 16) dX12_counts_15 rfl ?_
    rw [if_neg c4 (α := Int) (t := mLow i p0) (e := (-1))] at hJ
    exact hJ
  · have c4 := Decidable.of_not_not c4n
    refine g_aload_n (pc' := 8) 0 dX12_counts_7 rfl rfl ?_
    refine g_iload_n (pc' := 9) 1 dX12_counts_8 rfl rfl ?_
    refine g_pVI (pc' := 12) (vs := [vI p0]) (st := []) (val := mLow i p0) (c := 12) (sp_X12_lowestOf (le_hd hd rfl) (hob5 c4) (hob6 c4)) mv_X12_lowestOf lk_X12_161 rfl rfl rfl rfl (Nat.le_of_ble_eq_true rfl) (Nat.le_of_ble_eq_true rfl) rfl dX12_counts_9 rfl z2 (fun rg7 => ?_)
    refine g_goto (tgt := 16) dX12_counts_12 rfl ?_
    rw [if_pos c4 (α := Int) (t := mLow i p0) (e := (-1))] at hJ
    exact hJ
theorem e_X12_counts {w : Wd} {d : Nat} {P : Int → IM → LM → Prop} {i : IM} {l : LM} {p0 : Int}  (h : gI w d X_X12_counts P i l 0 [(0, vR (some 99)), (1, vI p0)] []) : cI w (d + 1) X_X12_counts [vR (some 99), vI p0] i l P := CI_of (by decide +kernel) (Nat.le_of_ble_eq_true rfl) h

theorem dX12_month_0 : decode cX12_month 0 = .ok (.iload_n 1, 1) := by decide +kernel
theorem dX12_month_1 : decode cX12_month 1 = .ok (.iconst 0, 1) := by decide +kernel
theorem dX12_month_2 : decode cX12_month 2 = .ok (.bipush 11, 2) := by decide +kernel
theorem dX12_month_4 : decode cX12_month 4 = .ok (.invokestatic 106, 3) := by decide +kernel
theorem dX12_month_7 : decode cX12_month 7 = .ok (.ifCond .eq 14, 3) := by decide +kernel
theorem dX12_month_10 : decode cX12_month 10 = .ok (.aload_n 0, 1) := by decide +kernel
theorem dX12_month_11 : decode cX12_month 11 = .ok (.sipush 313, 3) := by decide +kernel
theorem dX12_month_14 : decode cX12_month 14 = .ok (.iload_n 1, 1) := by decide +kernel
theorem dX12_month_15 : decode cX12_month 15 = .ok (.invokevirtual 137, 3) := by decide +kernel
theorem dX12_month_18 : decode cX12_month 18 = .ok (.goto 8, 3) := by decide +kernel
theorem dX12_month_21 : decode cX12_month 21 = .ok (.aload_n 0, 1) := by decide +kernel
theorem dX12_month_22 : decode cX12_month 22 = .ok (.iconst (-1), 1) := by decide +kernel
theorem dX12_month_23 : decode cX12_month 23 = .ok (.invokevirtual 110, 3) := by decide +kernel
theorem dX12_month_26 : decode cX12_month 26 = .ok (.ireturn, 1) := by decide +kernel
set_option maxRecDepth 20000 in
theorem s_X12_month {w : Wd} {d : Nat} {P : Int → IM → LM → Prop} {i : IM} {l : LM} (p0 : Int)  (hd : 1 ≤ d) (h : ((rg p0) ∧ (((0 ≤ p0 ∧ p0 ≤ 11) → cI w d X_X12_replaces [vR (some 99), vI 313, vI p0] i l (fun r6 i6 l6 => P r6 i6 l6)) ∧ ((¬ (0 ≤ p0 ∧ p0 ≤ 11)) → cI w d X_X12_refuses [vR (some 99), vI (-1)] i l (fun r5 i5 l5 => P r5 i5 l5))))) : gI w d X_X12_month P i l 0 [(0, vR (some 99)), (1, vI p0)] [] := by
  obtain ⟨ob1, h⟩ := h
  refine g_iload_n (pc' := 1) 1 dX12_month_0 rfl rfl ?_
  refine g_iconst (pc' := 2) dX12_month_1 rfl ?_
  refine g_bipush (pc' := 4) dX12_month_2 rfl rfl ?_
  refine g_pSI (pc' := 7) (vs := [vI p0, vI 0, vI 11]) (st := []) (val := bI (0 ≤ p0 ∧ p0 ≤ 11)) (sp_X12_lies (le_hd hd rfl) ob1 (rg_lit rfl) (rg_lit rfl)) mk_X12_lies ms_X12_lies lk_X12_106 rfl (Nat.le_of_ble_eq_true rfl) (Nat.le_of_ble_eq_true rfl) rfl dX12_month_4 rfl z2 (fun rg2 => ?_)
  obtain ⟨hk7, hk8⟩ := h
  have hk7g : (0 ≤ p0 ∧ p0 ≤ 11) → gI w d X_X12_month P i l 10 [(0, vR (some 99)), (1, vI p0)] [] := by
    intro hp
    have h := hk7 hp
    refine g_aload_n (pc' := 11) 0 dX12_month_10 rfl rfl ?_
    refine g_sipush (pc' := 14) dX12_month_11 rfl rfl ?_
    refine g_iload_n (pc' := 15) 1 dX12_month_14 rfl rfl ?_
    refine g_cVI (pc' := 18) (vs := [vI 313, vI p0]) (st := []) (c := 12) h mv_X12_replaces lk_X12_137 rfl rfl rfl rfl (Nat.le_of_ble_eq_true rfl) (Nat.le_of_ble_eq_true rfl) rfl dX12_month_15 rfl z2 (fun r6 i6 l6 rg6 h => ?_)
    refine g_goto (tgt := 26) dX12_month_18 rfl ?_
    exact g_retI rfl rg6 dX12_month_26 h
  have hk8g : (¬ (0 ≤ p0 ∧ p0 ≤ 11)) → gI w d X_X12_month P i l 21 [(0, vR (some 99)), (1, vI p0)] [] := by
    intro hp
    have h := hk8 hp
    refine g_aload_n (pc' := 22) 0 dX12_month_21 rfl rfl ?_
    refine g_iconst (pc' := 23) dX12_month_22 rfl ?_
    refine g_cVI (pc' := 26) (vs := [vI (-1)]) (st := []) (c := 12) h mv_X12_refuses lk_X12_110 rfl rfl rfl rfl (Nat.le_of_ble_eq_true rfl) (Nat.le_of_ble_eq_true rfl) rfl dX12_month_23 rfl z2 (fun r5 i5 l5 rg5 h => ?_)
    exact g_retI rfl rg5 dX12_month_26 h
  refine g_if_eq (tgt := 21) (pc' := 10) rg2 (bI_eq _) dX12_month_7 rfl rfl (fun c4 => ?_) (fun c4n => ?_)
  · exact hk8g c4
  · have c4 := Decidable.of_not_not c4n
    exact hk7g c4
theorem e_X12_month {w : Wd} {d : Nat} {P : Int → IM → LM → Prop} {i : IM} {l : LM} {p0 : Int}  (h : gI w d X_X12_month P i l 0 [(0, vR (some 99)), (1, vI p0)] []) : cI w (d + 1) X_X12_month [vR (some 99), vI p0] i l P := CI_of (by decide +kernel) (Nat.le_of_ble_eq_true rfl) h

theorem dX12_walks_0 : decode cX12_walks 0 = .ok (.bipush 127, 2) := by decide +kernel
theorem dX12_walks_2 : decode cX12_walks 2 = .ok (.iconst 3, 1) := by decide +kernel
theorem dX12_walks_3 : decode cX12_walks 3 = .ok (.aload_n 0, 1) := by decide +kernel
theorem dX12_walks_4 : decode cX12_walks 4 = .ok (.getfield 20, 3) := by decide +kernel
theorem dX12_walks_7 : decode cX12_walks 7 = .ok (.sipush 310, 3) := by decide +kernel
theorem dX12_walks_10 : decode cX12_walks 10 = .ok (.iaload, 1) := by decide +kernel
theorem dX12_walks_11 : decode cX12_walks 11 = .ok (.imul, 1) := by decide +kernel
theorem dX12_walks_12 : decode cX12_walks 12 = .ok (.iadd, 1) := by decide +kernel
theorem dX12_walks_13 : decode cX12_walks 13 = .ok (.istore 4, 2) := by decide +kernel
theorem dX12_walks_15 : decode cX12_walks 15 = .ok (.aload_n 0, 1) := by decide +kernel
theorem dX12_walks_16 : decode cX12_walks 16 = .ok (.getfield 20, 3) := by decide +kernel
theorem dX12_walks_19 : decode cX12_walks 19 = .ok (.iload 4, 2) := by decide +kernel
theorem dX12_walks_21 : decode cX12_walks 21 = .ok (.iload_n 1, 1) := by decide +kernel
theorem dX12_walks_22 : decode cX12_walks 22 = .ok (.iastore, 1) := by decide +kernel
theorem dX12_walks_23 : decode cX12_walks 23 = .ok (.aload_n 0, 1) := by decide +kernel
theorem dX12_walks_24 : decode cX12_walks 24 = .ok (.getfield 20, 3) := by decide +kernel
theorem dX12_walks_27 : decode cX12_walks 27 = .ok (.iload 4, 2) := by decide +kernel
theorem dX12_walks_29 : decode cX12_walks 29 = .ok (.iconst 1, 1) := by decide +kernel
theorem dX12_walks_30 : decode cX12_walks 30 = .ok (.iadd, 1) := by decide +kernel
theorem dX12_walks_31 : decode cX12_walks 31 = .ok (.iload_n 2, 1) := by decide +kernel
theorem dX12_walks_32 : decode cX12_walks 32 = .ok (.iastore, 1) := by decide +kernel
theorem dX12_walks_33 : decode cX12_walks 33 = .ok (.aload_n 0, 1) := by decide +kernel
theorem dX12_walks_34 : decode cX12_walks 34 = .ok (.getfield 20, 3) := by decide +kernel
theorem dX12_walks_37 : decode cX12_walks 37 = .ok (.iload 4, 2) := by decide +kernel
theorem dX12_walks_39 : decode cX12_walks 39 = .ok (.iconst 2, 1) := by decide +kernel
theorem dX12_walks_40 : decode cX12_walks 40 = .ok (.iadd, 1) := by decide +kernel
theorem dX12_walks_41 : decode cX12_walks 41 = .ok (.iload_n 3, 1) := by decide +kernel
theorem dX12_walks_42 : decode cX12_walks 42 = .ok (.iastore, 1) := by decide +kernel
theorem dX12_walks_43 : decode cX12_walks 43 = .ok (.aload_n 0, 1) := by decide +kernel
theorem dX12_walks_44 : decode cX12_walks 44 = .ok (.getfield 20, 3) := by decide +kernel
theorem dX12_walks_47 : decode cX12_walks 47 = .ok (.sipush 310, 3) := by decide +kernel
theorem dX12_walks_50 : decode cX12_walks 50 = .ok (.dup2, 1) := by decide +kernel
theorem dX12_walks_51 : decode cX12_walks 51 = .ok (.iaload, 1) := by decide +kernel
theorem dX12_walks_52 : decode cX12_walks 52 = .ok (.iconst 1, 1) := by decide +kernel
theorem dX12_walks_53 : decode cX12_walks 53 = .ok (.iadd, 1) := by decide +kernel
theorem dX12_walks_54 : decode cX12_walks 54 = .ok (.iastore, 1) := by decide +kernel
theorem dX12_walks_55 : decode cX12_walks 55 = .ok (.return_, 1) := by decide +kernel
set_option maxRecDepth 20000 in
theorem s_X12_walks {w : Wd} {d : Nat} {P : IM → LM → Prop} {i : IM} {l : LM} (p0 : Int) (p1 : Int) (p2 : Int)  (h : ((0 ≤ 127 + (3 * (i 101 310)) ∧ 127 + (3 * (i 101 310)) < 5120) ∧ (rg p0) ∧ (0 ≤ (127 + (3 * (i 101 310))) + 1 ∧ (127 + (3 * (i 101 310))) + 1 < 5120) ∧ (rg p1) ∧ (0 ≤ (127 + (3 * (i 101 310))) + 2 ∧ (127 + (3 * (i 101 310))) + 2 < 5120) ∧ (rg p2) ∧ (rg (((u2 (u2 (u2 i 101 (127 + (3 * (i 101 310))) p0) 101 ((127 + (3 * (i 101 310))) + 1) p1) 101 ((127 + (3 * (i 101 310))) + 2) p2) 101 310) + 1)) ∧ P (u2 (u2 (u2 (u2 i 101 (127 + (3 * (i 101 310))) p0) 101 ((127 + (3 * (i 101 310))) + 1) p1) 101 ((127 + (3 * (i 101 310))) + 2) p2) 101 310 (((u2 (u2 (u2 i 101 (127 + (3 * (i 101 310))) p0) 101 ((127 + (3 * (i 101 310))) + 1) p1) 101 ((127 + (3 * (i 101 310))) + 2) p2) 101 310) + 1)) l)) : gV w d X_X12_walks P i l 0 [(0, vR (some 99)), (1, vI p0), (2, vI p1), (3, vI p2)] [] := by
  obtain ⟨ob2, ob3, ob4, ob5, ob6, ob7, ob9, h⟩ := h
  refine g_bipush (pc' := 2) dX12_walks_0 rfl rfl ?_
  refine g_iconst (pc' := 3) dX12_walks_2 rfl ?_
  refine g_aload_n (pc' := 4) 0 dX12_walks_3 rfl rfl ?_
  refine g_getR (pc' := 7) (o := some 101) fl_X12_20 rfl rfl rfl dX12_walks_4 rfl ?_
  refine g_sipush (pc' := 10) dX12_walks_7 rfl rfl ?_
  refine g_iald (pc' := 11) (N := 5120) rfl rfl (Nat.lt_of_lt_of_le (Nat.lt_succ_self _) (Nat.le_of_ble_eq_true rfl)) (by decide) dX12_walks_10 rfl (fun rg1 => ?_)
  refine g_imul (pc' := 12) dX12_walks_11 rfl ?_
  refine g_iadd (pc' := 13) dX12_walks_12 rfl ?_
  refine g_istore (pc' := 15) (L' := [(4, vI (127 + (3 * (i 101 310)))), (0, vR (some 99)), (1, vI p0), (2, vI p1), (3, vI p2)]) dX12_walks_13 rfl (Nat.le_of_ble_eq_true rfl) rfl ?_
  refine g_aload_n (pc' := 16) 1 dX12_walks_15 rfl rfl ?_
  refine g_getR (pc' := 19) (o := some 101) fl_X12_20 rfl rfl rfl dX12_walks_16 rfl ?_
  refine g_iload (pc' := 21) 0 dX12_walks_19 rfl rfl ?_
  refine g_iload_n (pc' := 22) 2 dX12_walks_21 rfl rfl ?_
  refine g_iast (pc' := 23) (N := 5120) rfl rfl (Nat.lt_of_lt_of_le (Nat.lt_succ_self _) (Nat.le_of_ble_eq_true rfl)) ob2 ob3 dX12_walks_22 rfl ?_
  refine g_aload_n (pc' := 24) 1 dX12_walks_23 rfl rfl ?_
  refine g_getR (pc' := 27) (o := some 101) fl_X12_20 rfl rfl rfl dX12_walks_24 rfl ?_
  refine g_iload (pc' := 29) 0 dX12_walks_27 rfl rfl ?_
  refine g_iconst (pc' := 30) dX12_walks_29 rfl ?_
  refine g_iadd (pc' := 31) dX12_walks_30 rfl ?_
  refine g_iload_n (pc' := 32) 3 dX12_walks_31 rfl rfl ?_
  refine g_iast (pc' := 33) (N := 5120) rfl rfl (Nat.lt_of_lt_of_le (Nat.lt_succ_self _) (Nat.le_of_ble_eq_true rfl)) ob4 ob5 dX12_walks_32 rfl ?_
  refine g_aload_n (pc' := 34) 1 dX12_walks_33 rfl rfl ?_
  refine g_getR (pc' := 37) (o := some 101) fl_X12_20 rfl rfl rfl dX12_walks_34 rfl ?_
  refine g_iload (pc' := 39) 0 dX12_walks_37 rfl rfl ?_
  refine g_iconst (pc' := 40) dX12_walks_39 rfl ?_
  refine g_iadd (pc' := 41) dX12_walks_40 rfl ?_
  refine g_iload_n (pc' := 42) 4 dX12_walks_41 rfl rfl ?_
  refine g_iast (pc' := 43) (N := 5120) rfl rfl (Nat.lt_of_lt_of_le (Nat.lt_succ_self _) (Nat.le_of_ble_eq_true rfl)) ob6 ob7 dX12_walks_42 rfl ?_
  refine g_aload_n (pc' := 44) 1 dX12_walks_43 rfl rfl ?_
  refine g_getR (pc' := 47) (o := some 101) fl_X12_20 rfl rfl rfl dX12_walks_44 rfl ?_
  refine g_sipush (pc' := 50) dX12_walks_47 rfl rfl ?_
  refine g_dup2_11 (pc' := 51) dX12_walks_50 rfl rfl rfl ?_
  refine g_iald (pc' := 52) (N := 5120) rfl rfl (Nat.lt_of_lt_of_le (Nat.lt_succ_self _) (Nat.le_of_ble_eq_true rfl)) (by decide) dX12_walks_51 rfl (fun rg8 => ?_)
  refine g_iconst (pc' := 53) dX12_walks_52 rfl ?_
  refine g_iadd (pc' := 54) dX12_walks_53 rfl ?_
  refine g_iast (pc' := 55) (N := 5120) rfl rfl (Nat.lt_of_lt_of_le (Nat.lt_succ_self _) (Nat.le_of_ble_eq_true rfl)) (by decide) ob9 dX12_walks_54 rfl ?_
  exact g_retV rfl dX12_walks_55 h
theorem e_X12_walks {w : Wd} {d : Nat} {P : IM → LM → Prop} {i : IM} {l : LM} {p0 : Int} {p1 : Int} {p2 : Int}  (h : gV w d X_X12_walks P i l 0 [(0, vR (some 99)), (1, vI p0), (2, vI p1), (3, vI p2)] []) : cVd w (d + 1) X_X12_walks [vR (some 99), vI p0, vI p1, vI p2] i l P := CV_of (by decide +kernel) (Nat.le_of_ble_eq_true rfl) h

theorem dX12_walk_0 : decode cX12_walk 0 = .ok (.iload_n 2, 1) := by decide +kernel
theorem dX12_walk_1 : decode cX12_walk 1 = .ok (.invokestatic 164, 3) := by decide +kernel
theorem dX12_walk_4 : decode cX12_walk 4 = .ok (.ifCond .eq 15, 3) := by decide +kernel
theorem dX12_walk_7 : decode cX12_walk 7 = .ok (.iload_n 3, 1) := by decide +kernel
theorem dX12_walk_8 : decode cX12_walk 8 = .ok (.iconst (-1), 1) := by decide +kernel
theorem dX12_walk_9 : decode cX12_walk 9 = .ok (.if_icmp .eq 16, 3) := by decide +kernel
theorem dX12_walk_12 : decode cX12_walk 12 = .ok (.iload_n 3, 1) := by decide +kernel
theorem dX12_walk_13 : decode cX12_walk 13 = .ok (.invokestatic 155, 3) := by decide +kernel
theorem dX12_walk_16 : decode cX12_walk 16 = .ok (.ifCond .ne 9, 3) := by decide +kernel
theorem dX12_walk_19 : decode cX12_walk 19 = .ok (.aload_n 0, 1) := by decide +kernel
theorem dX12_walk_20 : decode cX12_walk 20 = .ok (.iconst (-1), 1) := by decide +kernel
theorem dX12_walk_21 : decode cX12_walk 21 = .ok (.invokevirtual 110, 3) := by decide +kernel
theorem dX12_walk_24 : decode cX12_walk 24 = .ok (.ireturn, 1) := by decide +kernel
theorem dX12_walk_25 : decode cX12_walk 25 = .ok (.aload_n 0, 1) := by decide +kernel
theorem dX12_walk_26 : decode cX12_walk 26 = .ok (.iload_n 1, 1) := by decide +kernel
theorem dX12_walk_27 : decode cX12_walk 27 = .ok (.invokevirtual 158, 3) := by decide +kernel
theorem dX12_walk_30 : decode cX12_walk 30 = .ok (.ifCond .ne 10, 3) := by decide +kernel
theorem dX12_walk_33 : decode cX12_walk 33 = .ok (.aload_n 0, 1) := by decide +kernel
theorem dX12_walk_34 : decode cX12_walk 34 = .ok (.bipush (-2), 2) := by decide +kernel
theorem dX12_walk_36 : decode cX12_walk 36 = .ok (.invokevirtual 110, 3) := by decide +kernel
theorem dX12_walk_39 : decode cX12_walk 39 = .ok (.ireturn, 1) := by decide +kernel
theorem dX12_walk_40 : decode cX12_walk 40 = .ok (.aload_n 0, 1) := by decide +kernel
theorem dX12_walk_41 : decode cX12_walk 41 = .ok (.getfield 20, 3) := by decide +kernel
theorem dX12_walk_44 : decode cX12_walk 44 = .ok (.sipush 310, 3) := by decide +kernel
theorem dX12_walk_47 : decode cX12_walk 47 = .ok (.iaload, 1) := by decide +kernel
theorem dX12_walk_48 : decode cX12_walk 48 = .ok (.bipush 60, 2) := by decide +kernel
theorem dX12_walk_50 : decode cX12_walk 50 = .ok (.if_icmp .ne 10, 3) := by decide +kernel
theorem dX12_walk_53 : decode cX12_walk 53 = .ok (.aload_n 0, 1) := by decide +kernel
theorem dX12_walk_54 : decode cX12_walk 54 = .ok (.bipush (-5), 2) := by decide +kernel
theorem dX12_walk_56 : decode cX12_walk 56 = .ok (.invokevirtual 110, 3) := by decide +kernel
theorem dX12_walk_59 : decode cX12_walk 59 = .ok (.ireturn, 1) := by decide +kernel
theorem dX12_walk_60 : decode cX12_walk 60 = .ok (.aload_n 0, 1) := by decide +kernel
theorem dX12_walk_61 : decode cX12_walk 61 = .ok (.iload_n 1, 1) := by decide +kernel
theorem dX12_walk_62 : decode cX12_walk 62 = .ok (.iload_n 2, 1) := by decide +kernel
theorem dX12_walk_63 : decode cX12_walk 63 = .ok (.iload_n 3, 1) := by decide +kernel
theorem dX12_walk_64 : decode cX12_walk 64 = .ok (.invokevirtual 167, 3) := by decide +kernel
theorem dX12_walk_67 : decode cX12_walk 67 = .ok (.aload_n 0, 1) := by decide +kernel
theorem dX12_walk_68 : decode cX12_walk 68 = .ok (.aload_n 0, 1) := by decide +kernel
theorem dX12_walk_69 : decode cX12_walk 69 = .ok (.getfield 20, 3) := by decide +kernel
theorem dX12_walk_72 : decode cX12_walk 72 = .ok (.sipush 310, 3) := by decide +kernel
theorem dX12_walk_75 : decode cX12_walk 75 = .ok (.iaload, 1) := by decide +kernel
theorem dX12_walk_76 : decode cX12_walk 76 = .ok (.invokevirtual 114, 3) := by decide +kernel
theorem dX12_walk_79 : decode cX12_walk 79 = .ok (.ireturn, 1) := by decide +kernel
set_option maxRecDepth 20000 in
theorem s_X12_walk {w : Wd} {d : Nat} {P : Int → IM → LM → Prop} {i : IM} {l : LM} (p0 : Int) (p1 : Int) (p2 : Int)  (hd : 2 ≤ d) (h : ((rg p1) ∧ (((0 ≤ p1 ∧ p1 ≤ 119) → rg p2) ∧ (((0 ≤ p1 ∧ p1 ≤ 119) ∧ ((p2 = (-1)) ∨ (0 ≤ p2 ∧ p2 ≤ 9))) → gI w d X_X12_walk P i l 25 [(0, vR (some 99)), (1, vI p0), (2, vI p1), (3, vI p2)] []) ∧ ((¬ ((0 ≤ p1 ∧ p1 ≤ 119) ∧ ((p2 = (-1)) ∨ (0 ≤ p2 ∧ p2 ≤ 9)))) → cI w d X_X12_refuses [vR (some 99), vI (-1)] i l (fun r9 i9 l9 => P r9 i9 l9))))) : gI w d X_X12_walk P i l 0 [(0, vR (some 99)), (1, vI p0), (2, vI p1), (3, vI p2)] [] := by
  obtain ⟨ob1, h⟩ := h
  refine g_iload_n (pc' := 1) 2 dX12_walk_0 rfl rfl ?_
  refine g_pSI (pc' := 4) (vs := [vI p1]) (st := []) (val := bI (0 ≤ p1 ∧ p1 ≤ 119)) (sp_X12_isMinute (le_hd hd rfl) ob1) mk_X12_isMinute ms_X12_isMinute lk_X12_164 rfl (Nat.le_of_ble_eq_true rfl) (Nat.le_of_ble_eq_true rfl) rfl dX12_walk_1 rfl z2 (fun rg2 => ?_)
  obtain ⟨hob5, hk10, hk11⟩ := h
  have hk10g : ((0 ≤ p1 ∧ p1 ≤ 119) ∧ ((p2 = (-1)) ∨ (0 ≤ p2 ∧ p2 ≤ 9))) → gI w d X_X12_walk P i l 25 [(0, vR (some 99)), (1, vI p0), (2, vI p1), (3, vI p2)] [] := by
    intro hp
    have h := hk10 hp
    exact h
  have hk11g : (¬ ((0 ≤ p1 ∧ p1 ≤ 119) ∧ ((p2 = (-1)) ∨ (0 ≤ p2 ∧ p2 ≤ 9)))) → gI w d X_X12_walk P i l 19 [(0, vR (some 99)), (1, vI p0), (2, vI p1), (3, vI p2)] [] := by
    intro hp
    have h := hk11 hp
    refine g_aload_n (pc' := 20) 0 dX12_walk_19 rfl rfl ?_
    refine g_iconst (pc' := 21) dX12_walk_20 rfl ?_
    refine g_cVI (pc' := 24) (vs := [vI (-1)]) (st := []) (c := 12) h mv_X12_refuses lk_X12_110 rfl rfl rfl rfl (Nat.le_of_ble_eq_true rfl) (Nat.le_of_ble_eq_true rfl) rfl dX12_walk_21 rfl z2 (fun r9 i9 l9 rg9 h => ?_)
    exact g_retI rfl rg9 dX12_walk_24 h
  refine g_if_eq (tgt := 19) (pc' := 7) rg2 (bI_eq _) dX12_walk_4 rfl rfl (fun c4 => ?_) (fun c4n => ?_)
  · exact hk11g (fun q => c4 q.1)
  · have c4 := Decidable.of_not_not c4n
    refine g_iload_n (pc' := 8) 3 dX12_walk_7 rfl rfl ?_
    refine g_iconst (pc' := 9) dX12_walk_8 rfl ?_
    refine g_icmp_eq (tgt := 25) (pc' := 12) (hob5 c4) (rg_lit rfl) Iff.rfl dX12_walk_9 rfl rfl (fun c6 => ?_) (fun c6 => ?_)
    · exact hk10g ⟨c4, (Or.inl c6)⟩
    · refine g_iload_n (pc' := 13) 3 dX12_walk_12 rfl rfl ?_
      refine g_pSI (pc' := 16) (vs := [vI p2]) (st := []) (val := bI (0 ≤ p2 ∧ p2 ≤ 9)) (sp_X12_isPlace (le_hd hd rfl) (hob5 c4)) mk_X12_isPlace ms_X12_isPlace lk_X12_155 rfl (Nat.le_of_ble_eq_true rfl) (Nat.le_of_ble_eq_true rfl) rfl dX12_walk_13 rfl z2 (fun rg7 => ?_)
      refine g_if_ne (tgt := 25) (pc' := 19) rg7 (bI_eq _) dX12_walk_16 rfl rfl (fun c8n => ?_) (fun c8 => ?_)
      · have c8 := Decidable.of_not_not c8n
        exact hk10g ⟨c4, (Or.inr c8)⟩
      · exact hk11g (fun q => (fun q => q.elim c6 c8) q.2)
theorem e_X12_walk {w : Wd} {d : Nat} {P : Int → IM → LM → Prop} {i : IM} {l : LM} {p0 : Int} {p1 : Int} {p2 : Int}  (h : gI w d X_X12_walk P i l 0 [(0, vR (some 99)), (1, vI p0), (2, vI p1), (3, vI p2)] []) : cI w (d + 1) X_X12_walk [vR (some 99), vI p0, vI p1, vI p2] i l P := CI_of (by decide +kernel) (Nat.le_of_ble_eq_true rfl) h
set_option maxRecDepth 20000 in
theorem s_X12_walk_25 {w : Wd} {d : Nat} {P : Int → IM → LM → Prop} {i : IM} {l : LM} (x1 : Int) (x2 : Int) (x3 : Int)  (hd : 2 ≤ d) (h : ((rg x1) ∧ (rg (i 101 309 - 1)) ∧ ((((0 ≤ x1 ∧ x1 < i 101 309) ∧ (¬ (i 101 310 = 60))) → cVd w d X_X12_walks [vR (some 99), vI x1, vI x2, vI x3] i l (fun i19 l19 => cI w d X_X12_good [vR (some 99), vI (i19 101 310)] i19 l19 (fun r21 i21 l21 => P r21 i21 l21))) ∧ (((0 ≤ x1 ∧ x1 < i 101 309) ∧ (i 101 310 = 60)) → cI w d X_X12_refuses [vR (some 99), vI (-5)] i l (fun r22 i22 l22 => P r22 i22 l22)) ∧ ((¬ (0 ≤ x1 ∧ x1 < i 101 309)) → cI w d X_X12_refuses [vR (some 99), vI (-2)] i l (fun r23 i23 l23 => P r23 i23 l23))))) : gI w d X_X12_walk P i l 25 [(0, vR (some 99)), (1, vI x1), (2, vI x2), (3, vI x3)] [] := by
  obtain ⟨ob12, ob13, h⟩ := h
  refine g_aload_n (pc' := 26) 0 dX12_walk_25 rfl rfl ?_
  refine g_iload_n (pc' := 27) 1 dX12_walk_26 rfl rfl ?_
  refine g_pVI (pc' := 30) (vs := [vI x1]) (st := []) (val := bI (0 ≤ x1 ∧ x1 < i 101 309)) (c := 12) (sp_X12_isPerson (le_hd hd rfl) ob12 ob13) mv_X12_isPerson lk_X12_158 rfl rfl rfl rfl (Nat.le_of_ble_eq_true rfl) (Nat.le_of_ble_eq_true rfl) rfl dX12_walk_27 rfl z2 (fun rg14 => ?_)
  obtain ⟨hk24, hk25, hk26⟩ := h
  have hk24g : ((0 ≤ x1 ∧ x1 < i 101 309) ∧ (¬ (i 101 310 = 60))) → gI w d X_X12_walk P i l 60 [(0, vR (some 99)), (1, vI x1), (2, vI x2), (3, vI x3)] [] := by
    intro hp
    have h := hk24 hp
    refine g_aload_n (pc' := 61) 0 dX12_walk_60 rfl rfl ?_
    refine g_iload_n (pc' := 62) 1 dX12_walk_61 rfl rfl ?_
    refine g_iload_n (pc' := 63) 2 dX12_walk_62 rfl rfl ?_
    refine g_iload_n (pc' := 64) 3 dX12_walk_63 rfl rfl ?_
    refine g_cVV (pc' := 67) (vs := [vI x1, vI x2, vI x3]) (st := []) (c := 12) h mv_X12_walks lk_X12_167 rfl rfl rfl rfl (Nat.le_of_ble_eq_true rfl) (Nat.le_of_ble_eq_true rfl) rfl dX12_walk_64 rfl z2 (fun i19 l19 h => ?_)
    refine g_aload_n (pc' := 68) 0 dX12_walk_67 rfl rfl ?_
    refine g_aload_n (pc' := 69) 0 dX12_walk_68 rfl rfl ?_
    refine g_getR (pc' := 72) (o := some 101) fl_X12_20 rfl rfl rfl dX12_walk_69 rfl ?_
    refine g_sipush (pc' := 75) dX12_walk_72 rfl rfl ?_
    refine g_iald (pc' := 76) (N := 5120) rfl rfl (Nat.lt_of_lt_of_le (Nat.lt_succ_self _) (Nat.le_of_ble_eq_true rfl)) (by decide) dX12_walk_75 rfl (fun rg20 => ?_)
    refine g_cVI (pc' := 79) (vs := [vI (i19 101 310)]) (st := []) (c := 12) h mv_X12_good lk_X12_114 rfl rfl rfl rfl (Nat.le_of_ble_eq_true rfl) (Nat.le_of_ble_eq_true rfl) rfl dX12_walk_76 rfl z2 (fun r21 i21 l21 rg21 h => ?_)
    exact g_retI rfl rg21 dX12_walk_79 h
  have hk25g : ((0 ≤ x1 ∧ x1 < i 101 309) ∧ (i 101 310 = 60)) → gI w d X_X12_walk P i l 53 [(0, vR (some 99)), (1, vI x1), (2, vI x2), (3, vI x3)] [] := by
    intro hp
    have h := hk25 hp
    refine g_aload_n (pc' := 54) 0 dX12_walk_53 rfl rfl ?_
    refine g_bipush (pc' := 56) dX12_walk_54 rfl rfl ?_
    refine g_cVI (pc' := 59) (vs := [vI (-5)]) (st := []) (c := 12) h mv_X12_refuses lk_X12_110 rfl rfl rfl rfl (Nat.le_of_ble_eq_true rfl) (Nat.le_of_ble_eq_true rfl) rfl dX12_walk_56 rfl z2 (fun r22 i22 l22 rg22 h => ?_)
    exact g_retI rfl rg22 dX12_walk_59 h
  have hk26g : (¬ (0 ≤ x1 ∧ x1 < i 101 309)) → gI w d X_X12_walk P i l 33 [(0, vR (some 99)), (1, vI x1), (2, vI x2), (3, vI x3)] [] := by
    intro hp
    have h := hk26 hp
    refine g_aload_n (pc' := 34) 0 dX12_walk_33 rfl rfl ?_
    refine g_bipush (pc' := 36) dX12_walk_34 rfl rfl ?_
    refine g_cVI (pc' := 39) (vs := [vI (-2)]) (st := []) (c := 12) h mv_X12_refuses lk_X12_110 rfl rfl rfl rfl (Nat.le_of_ble_eq_true rfl) (Nat.le_of_ble_eq_true rfl) rfl dX12_walk_36 rfl z2 (fun r23 i23 l23 rg23 h => ?_)
    exact g_retI rfl rg23 dX12_walk_39 h
  refine g_if_ne (tgt := 40) (pc' := 33) rg14 (bI_eq _) dX12_walk_30 rfl rfl (fun c16n => ?_) (fun c16 => ?_)
  · have c16 := Decidable.of_not_not c16n
    refine g_aload_n (pc' := 41) 0 dX12_walk_40 rfl rfl ?_
    refine g_getR (pc' := 44) (o := some 101) fl_X12_20 rfl rfl rfl dX12_walk_41 rfl ?_
    refine g_sipush (pc' := 47) dX12_walk_44 rfl rfl ?_
    refine g_iald (pc' := 48) (N := 5120) rfl rfl (Nat.lt_of_lt_of_le (Nat.lt_succ_self _) (Nat.le_of_ble_eq_true rfl)) (by decide) dX12_walk_47 rfl (fun rg17 => ?_)
    refine g_bipush (pc' := 50) dX12_walk_48 rfl rfl ?_
    refine g_icmp_ne (tgt := 60) (pc' := 53) rg17 (rg_lit rfl) Iff.rfl dX12_walk_50 rfl rfl (fun c18 => ?_) (fun c18 => ?_)
    · exact hk24g ⟨c16, c18⟩
    · exact hk25g ⟨c16, c18⟩
  · exact hk26g c16

theorem dX12_where_0 : decode cX12_where 0 = .ok (.aload_n 0, 1) := by decide +kernel
theorem dX12_where_1 : decode cX12_where 1 = .ok (.iload_n 1, 1) := by decide +kernel
theorem dX12_where_2 : decode cX12_where 2 = .ok (.invokevirtual 158, 3) := by decide +kernel
theorem dX12_where_5 : decode cX12_where 5 = .ok (.ifCond .eq 19, 3) := by decide +kernel
theorem dX12_where_8 : decode cX12_where 8 = .ok (.iload_n 2, 1) := by decide +kernel
theorem dX12_where_9 : decode cX12_where 9 = .ok (.invokestatic 164, 3) := by decide +kernel
theorem dX12_where_12 : decode cX12_where 12 = .ok (.ifCond .eq 12, 3) := by decide +kernel
theorem dX12_where_15 : decode cX12_where 15 = .ok (.aload_n 0, 1) := by decide +kernel
theorem dX12_where_16 : decode cX12_where 16 = .ok (.iload_n 1, 1) := by decide +kernel
theorem dX12_where_17 : decode cX12_where 17 = .ok (.iload_n 2, 1) := by decide +kernel
theorem dX12_where_18 : decode cX12_where 18 = .ok (.invokevirtual 171, 3) := by decide +kernel
theorem dX12_where_21 : decode cX12_where 21 = .ok (.goto 4, 3) := by decide +kernel
theorem dX12_where_24 : decode cX12_where 24 = .ok (.iconst (-1), 1) := by decide +kernel
theorem dX12_where_25 : decode cX12_where 25 = .ok (.ireturn, 1) := by decide +kernel
set_option maxRecDepth 20000 in
theorem s_X12_where {w : Wd} {d : Nat} {P : Int → IM → LM → Prop} {i : IM} {l : LM} (p0 : Int) (p1 : Int)  (hd : 2 ≤ d) (h : ((rg p0) ∧ (rg (i 101 309 - 1)) ∧ (((0 ≤ p0 ∧ p0 < i 101 309) → rg p1) ∧ ((0 ≤ p0 ∧ p0 < i 101 309) → (0 ≤ p1 ∧ p1 ≤ 119) → 0 ≤ i 101 310 ∧ i 101 310 ≤ 60) ∧ ((rg (if (0 ≤ p0 ∧ p0 < i 101 309) then (if (0 ≤ p1 ∧ p1 ≤ 119) then mWhere i p0 p1 else (-1)) else (-1))) ∧ P (if (0 ≤ p0 ∧ p0 < i 101 309) then (if (0 ≤ p1 ∧ p1 ≤ 119) then mWhere i p0 p1 else (-1)) else (-1)) i l)))) : gI w d X_X12_where P i l 0 [(0, vR (some 99)), (1, vI p0), (2, vI p1)] [] := by
  obtain ⟨ob1, ob2, h⟩ := h
  refine g_aload_n (pc' := 1) 0 dX12_where_0 rfl rfl ?_
  refine g_iload_n (pc' := 2) 1 dX12_where_1 rfl rfl ?_
  refine g_pVI (pc' := 5) (vs := [vI p0]) (st := []) (val := bI (0 ≤ p0 ∧ p0 < i 101 309)) (c := 12) (sp_X12_isPerson (le_hd hd rfl) ob1 ob2) mv_X12_isPerson lk_X12_158 rfl rfl rfl rfl (Nat.le_of_ble_eq_true rfl) (Nat.le_of_ble_eq_true rfl) rfl dX12_where_2 rfl z2 (fun rg3 => ?_)
  obtain ⟨hob6, hob9, h⟩ := h
  have hJ : gI w d X_X12_where P i l 25 [(0, vR (some 99)), (1, vI p0), (2, vI p1)] [vI (if (0 ≤ p0 ∧ p0 < i 101 309) then (if (0 ≤ p1 ∧ p1 ≤ 119) then mWhere i p0 p1 else (-1)) else (-1))] := by
    obtain ⟨ob11, h⟩ := h
    exact g_retI rfl ob11 dX12_where_25 h
  refine g_if_eq (tgt := 24) (pc' := 8) rg3 (bI_eq _) dX12_where_5 rfl rfl (fun c5 => ?_) (fun c5n => ?_)
  · refine g_iconst (pc' := 25) dX12_where_24 rfl ?_
    rw [if_neg c5 (α := Int) (t := (if (0 ≤ p1 ∧ p1 ≤ 119) then mWhere i p0 p1 else (-1))) (e := (-1))] at hJ
    exact hJ
  · have c5 := Decidable.of_not_not c5n
    refine g_iload_n (pc' := 9) 2 dX12_where_8 rfl rfl ?_
    refine g_pSI (pc' := 12) (vs := [vI p1]) (st := []) (val := bI (0 ≤ p1 ∧ p1 ≤ 119)) (sp_X12_isMinute (le_hd hd rfl) (hob6 c5)) mk_X12_isMinute ms_X12_isMinute lk_X12_164 rfl (Nat.le_of_ble_eq_true rfl) (Nat.le_of_ble_eq_true rfl) rfl dX12_where_9 rfl z2 (fun rg7 => ?_)
    refine g_if_eq (tgt := 24) (pc' := 15) rg7 (bI_eq _) dX12_where_12 rfl rfl (fun c8 => ?_) (fun c8n => ?_)
    · refine g_iconst (pc' := 25) dX12_where_24 rfl ?_
      rw [if_pos c5 (α := Int) (t := (if (0 ≤ p1 ∧ p1 ≤ 119) then mWhere i p0 p1 else (-1))) (e := (-1)), if_neg c8 (α := Int) (t := mWhere i p0 p1) (e := (-1))] at hJ
      exact hJ
    · have c8 := Decidable.of_not_not c8n
      refine g_aload_n (pc' := 16) 0 dX12_where_15 rfl rfl ?_
      refine g_iload_n (pc' := 17) 1 dX12_where_16 rfl rfl ?_
      refine g_iload_n (pc' := 18) 2 dX12_where_17 rfl rfl ?_
      refine g_pVI (pc' := 21) (vs := [vI p0, vI p1]) (st := []) (val := mWhere i p0 p1) (c := 12) (sp_X12_whereOf (le_hd hd rfl) ob1 (hob6 c5) (hob9 c5 c8)) mv_X12_whereOf lk_X12_171 rfl rfl rfl rfl (Nat.le_of_ble_eq_true rfl) (Nat.le_of_ble_eq_true rfl) rfl dX12_where_18 rfl z2 (fun rg10 => ?_)
      refine g_goto (tgt := 25) dX12_where_21 rfl ?_
      rw [if_pos c5 (α := Int) (t := (if (0 ≤ p1 ∧ p1 ≤ 119) then mWhere i p0 p1 else (-1))) (e := (-1)), if_pos c8 (α := Int) (t := mWhere i p0 p1) (e := (-1))] at hJ
      exact hJ
theorem e_X12_where {w : Wd} {d : Nat} {P : Int → IM → LM → Prop} {i : IM} {l : LM} {p0 : Int} {p1 : Int}  (h : gI w d X_X12_where P i l 0 [(0, vR (some 99)), (1, vI p0), (2, vI p1)] []) : cI w (d + 1) X_X12_where [vR (some 99), vI p0, vI p1] i l P := CI_of (by decide +kernel) (Nat.le_of_ble_eq_true rfl) h

theorem dX12_row_0 : decode cX12_row 0 = .ok (.aload_n 0, 1) := by decide +kernel
theorem dX12_row_1 : decode cX12_row 1 = .ok (.getfield 174, 3) := by decide +kernel
theorem dX12_row_4 : decode cX12_row 4 = .ok (.istore_n 1, 1) := by decide +kernel
theorem dX12_row_5 : decode cX12_row 5 = .ok (.aload_n 0, 1) := by decide +kernel
theorem dX12_row_6 : decode cX12_row 6 = .ok (.iconst 0, 1) := by decide +kernel
theorem dX12_row_7 : decode cX12_row 7 = .ok (.putfield 174, 3) := by decide +kernel
theorem dX12_row_10 : decode cX12_row 10 = .ok (.iload_n 1, 1) := by decide +kernel
theorem dX12_row_11 : decode cX12_row 11 = .ok (.ifCond .ne 10, 3) := by decide +kernel
theorem dX12_row_14 : decode cX12_row 14 = .ok (.aload_n 0, 1) := by decide +kernel
theorem dX12_row_15 : decode cX12_row 15 = .ok (.bipush (-6), 2) := by decide +kernel
theorem dX12_row_17 : decode cX12_row 17 = .ok (.invokevirtual 110, 3) := by decide +kernel
theorem dX12_row_20 : decode cX12_row 20 = .ok (.ireturn, 1) := by decide +kernel
theorem dX12_row_21 : decode cX12_row 21 = .ok (.iconst 0, 1) := by decide +kernel
theorem dX12_row_22 : decode cX12_row 22 = .ok (.istore_n 2, 1) := by decide +kernel
theorem dX12_row_23 : decode cX12_row 23 = .ok (.aload_n 0, 1) := by decide +kernel
theorem dX12_row_24 : decode cX12_row 24 = .ok (.iload_n 1, 1) := by decide +kernel
theorem dX12_row_25 : decode cX12_row 25 = .ok (.iconst 3, 1) := by decide +kernel
theorem dX12_row_26 : decode cX12_row 26 = .ok (.irem, 1) := by decide +kernel
theorem dX12_row_27 : decode cX12_row 27 = .ok (.ifCond .ne 7, 3) := by decide +kernel
theorem dX12_row_30 : decode cX12_row 30 = .ok (.iconst 0, 1) := by decide +kernel
theorem dX12_row_31 : decode cX12_row 31 = .ok (.goto 4, 3) := by decide +kernel
theorem dX12_row_34 : decode cX12_row 34 = .ok (.iconst 1, 1) := by decide +kernel
theorem dX12_row_35 : decode cX12_row 35 = .ok (.putfield 177, 3) := by decide +kernel
theorem dX12_row_38 : decode cX12_row 38 = .ok (.iconst 0, 1) := by decide +kernel
theorem dX12_row_39 : decode cX12_row 39 = .ok (.istore_n 3, 1) := by decide +kernel
theorem dX12_row_40 : decode cX12_row 40 = .ok (.iload_n 3, 1) := by decide +kernel
theorem dX12_row_41 : decode cX12_row 41 = .ok (.iconst 3, 1) := by decide +kernel
theorem dX12_row_42 : decode cX12_row 42 = .ok (.iadd, 1) := by decide +kernel
theorem dX12_row_43 : decode cX12_row 43 = .ok (.iload_n 1, 1) := by decide +kernel
theorem dX12_row_44 : decode cX12_row 44 = .ok (.if_icmp .gt 180, 3) := by decide +kernel
theorem dX12_row_47 : decode cX12_row 47 = .ok (.aload_n 0, 1) := by decide +kernel
theorem dX12_row_48 : decode cX12_row 48 = .ok (.getfield 34, 3) := by decide +kernel
theorem dX12_row_51 : decode cX12_row 51 = .ok (.iload_n 3, 1) := by decide +kernel
theorem dX12_row_52 : decode cX12_row 52 = .ok (.iconst 2, 1) := by decide +kernel
theorem dX12_row_53 : decode cX12_row 53 = .ok (.iadd, 1) := by decide +kernel
theorem dX12_row_54 : decode cX12_row 54 = .ok (.baload, 1) := by decide +kernel
theorem dX12_row_55 : decode cX12_row 55 = .ok (.sipush 255, 3) := by decide +kernel
theorem dX12_row_58 : decode cX12_row 58 = .ok (.iand, 1) := by decide +kernel
theorem dX12_row_59 : decode cX12_row 59 = .ok (.sipush 255, 3) := by decide +kernel
theorem dX12_row_62 : decode cX12_row 62 = .ok (.if_icmp .ne 7, 3) := by decide +kernel
theorem dX12_row_65 : decode cX12_row 65 = .ok (.iconst (-1), 1) := by decide +kernel
theorem dX12_row_66 : decode cX12_row 66 = .ok (.goto 11, 3) := by decide +kernel
theorem dX12_row_69 : decode cX12_row 69 = .ok (.aload_n 0, 1) := by decide +kernel
theorem dX12_row_70 : decode cX12_row 70 = .ok (.getfield 34, 3) := by decide +kernel
theorem dX12_row_73 : decode cX12_row 73 = .ok (.iload_n 3, 1) := by decide +kernel
theorem dX12_row_74 : decode cX12_row 74 = .ok (.iconst 2, 1) := by decide +kernel
theorem dX12_row_75 : decode cX12_row 75 = .ok (.iadd, 1) := by decide +kernel
theorem dX12_row_76 : decode cX12_row 76 = .ok (.baload, 1) := by decide +kernel
theorem dX12_row_77 : decode cX12_row 77 = .ok (.istore 4, 2) := by decide +kernel
theorem dX12_row_79 : decode cX12_row 79 = .ok (.aload_n 0, 1) := by decide +kernel
theorem dX12_row_80 : decode cX12_row 80 = .ok (.aload_n 0, 1) := by decide +kernel
theorem dX12_row_81 : decode cX12_row 81 = .ok (.getfield 34, 3) := by decide +kernel
theorem dX12_row_84 : decode cX12_row 84 = .ok (.iload_n 3, 1) := by decide +kernel
theorem dX12_row_85 : decode cX12_row 85 = .ok (.baload, 1) := by decide +kernel
theorem dX12_row_86 : decode cX12_row 86 = .ok (.invokevirtual 158, 3) := by decide +kernel
theorem dX12_row_89 : decode cX12_row 89 = .ok (.ifCond .eq 69, 3) := by decide +kernel
theorem dX12_row_92 : decode cX12_row 92 = .ok (.aload_n 0, 1) := by decide +kernel
theorem dX12_row_93 : decode cX12_row 93 = .ok (.getfield 34, 3) := by decide +kernel
theorem dX12_row_96 : decode cX12_row 96 = .ok (.iload_n 3, 1) := by decide +kernel
theorem dX12_row_97 : decode cX12_row 97 = .ok (.iconst 1, 1) := by decide +kernel
theorem dX12_row_98 : decode cX12_row 98 = .ok (.iadd, 1) := by decide +kernel
theorem dX12_row_99 : decode cX12_row 99 = .ok (.baload, 1) := by decide +kernel
theorem dX12_row_100 : decode cX12_row 100 = .ok (.invokestatic 164, 3) := by decide +kernel
theorem dX12_row_103 : decode cX12_row 103 = .ok (.ifCond .eq 55, 3) := by decide +kernel
theorem dX12_row_106 : decode cX12_row 106 = .ok (.iload 4, 2) := by decide +kernel
theorem dX12_row_108 : decode cX12_row 108 = .ok (.iconst (-1), 1) := by decide +kernel
theorem dX12_row_109 : decode cX12_row 109 = .ok (.if_icmp .ne 24, 3) := by decide +kernel
theorem dX12_row_112 : decode cX12_row 112 = .ok (.aload_n 0, 1) := by decide +kernel
theorem dX12_row_113 : decode cX12_row 113 = .ok (.getfield 34, 3) := by decide +kernel
theorem dX12_row_116 : decode cX12_row 116 = .ok (.iload_n 3, 1) := by decide +kernel
theorem dX12_row_117 : decode cX12_row 117 = .ok (.iconst 2, 1) := by decide +kernel
theorem dX12_row_118 : decode cX12_row 118 = .ok (.iadd, 1) := by decide +kernel
theorem dX12_row_119 : decode cX12_row 119 = .ok (.baload, 1) := by decide +kernel
theorem dX12_row_120 : decode cX12_row 120 = .ok (.sipush 255, 3) := by decide +kernel
theorem dX12_row_123 : decode cX12_row 123 = .ok (.iand, 1) := by decide +kernel
theorem dX12_row_124 : decode cX12_row 124 = .ok (.sipush 255, 3) := by decide +kernel
theorem dX12_row_127 : decode cX12_row 127 = .ok (.if_icmp .ne 31, 3) := by decide +kernel
theorem dX12_row_130 : decode cX12_row 130 = .ok (.goto 11, 3) := by decide +kernel
theorem dX12_row_133 : decode cX12_row 133 = .ok (.iload 4, 2) := by decide +kernel
theorem dX12_row_135 : decode cX12_row 135 = .ok (.invokestatic 155, 3) := by decide +kernel
theorem dX12_row_138 : decode cX12_row 138 = .ok (.ifCond .eq 20, 3) := by decide +kernel
theorem dX12_row_141 : decode cX12_row 141 = .ok (.aload_n 0, 1) := by decide +kernel
theorem dX12_row_142 : decode cX12_row 142 = .ok (.getfield 20, 3) := by decide +kernel
theorem dX12_row_145 : decode cX12_row 145 = .ok (.sipush 310, 3) := by decide +kernel
theorem dX12_row_148 : decode cX12_row 148 = .ok (.iaload, 1) := by decide +kernel
theorem dX12_row_149 : decode cX12_row 149 = .ok (.bipush 60, 2) := by decide +kernel
theorem dX12_row_151 : decode cX12_row 151 = .ok (.if_icmp .ge 7, 3) := by decide +kernel
theorem dX12_row_154 : decode cX12_row 154 = .ok (.iconst 1, 1) := by decide +kernel
theorem dX12_row_155 : decode cX12_row 155 = .ok (.goto 4, 3) := by decide +kernel
theorem dX12_row_158 : decode cX12_row 158 = .ok (.iconst 0, 1) := by decide +kernel
theorem dX12_row_159 : decode cX12_row 159 = .ok (.istore 5, 2) := by decide +kernel
theorem dX12_row_161 : decode cX12_row 161 = .ok (.iload 5, 2) := by decide +kernel
theorem dX12_row_163 : decode cX12_row 163 = .ok (.ifCond .eq 23, 3) := by decide +kernel
theorem dX12_row_166 : decode cX12_row 166 = .ok (.aload_n 0, 1) := by decide +kernel
theorem dX12_row_167 : decode cX12_row 167 = .ok (.aload_n 0, 1) := by decide +kernel
theorem dX12_row_168 : decode cX12_row 168 = .ok (.getfield 34, 3) := by decide +kernel
theorem dX12_row_171 : decode cX12_row 171 = .ok (.iload_n 3, 1) := by decide +kernel
theorem dX12_row_172 : decode cX12_row 172 = .ok (.baload, 1) := by decide +kernel
theorem dX12_row_173 : decode cX12_row 173 = .ok (.aload_n 0, 1) := by decide +kernel
theorem dX12_row_174 : decode cX12_row 174 = .ok (.getfield 34, 3) := by decide +kernel
theorem dX12_row_177 : decode cX12_row 177 = .ok (.iload_n 3, 1) := by decide +kernel
theorem dX12_row_178 : decode cX12_row 178 = .ok (.iconst 1, 1) := by decide +kernel
theorem dX12_row_179 : decode cX12_row 179 = .ok (.iadd, 1) := by decide +kernel
theorem dX12_row_180 : decode cX12_row 180 = .ok (.baload, 1) := by decide +kernel
theorem dX12_row_181 : decode cX12_row 181 = .ok (.iload 4, 2) := by decide +kernel
theorem dX12_row_183 : decode cX12_row 183 = .ok (.invokevirtual 167, 3) := by decide +kernel
theorem dX12_row_186 : decode cX12_row 186 = .ok (.iload_n 2, 1) := by decide +kernel
theorem dX12_row_187 : decode cX12_row 187 = .ok (.iload 5, 2) := by decide +kernel
theorem dX12_row_189 : decode cX12_row 189 = .ok (.ifCond .eq 7, 3) := by decide +kernel
theorem dX12_row_192 : decode cX12_row 192 = .ok (.iconst 1, 1) := by decide +kernel
theorem dX12_row_193 : decode cX12_row 193 = .ok (.goto 4, 3) := by decide +kernel
theorem dX12_row_196 : decode cX12_row 196 = .ok (.iconst 0, 1) := by decide +kernel
theorem dX12_row_197 : decode cX12_row 197 = .ok (.iadd, 1) := by decide +kernel
theorem dX12_row_198 : decode cX12_row 198 = .ok (.istore_n 2, 1) := by decide +kernel
theorem dX12_row_199 : decode cX12_row 199 = .ok (.aload_n 0, 1) := by decide +kernel
theorem dX12_row_200 : decode cX12_row 200 = .ok (.dup, 1) := by decide +kernel
theorem dX12_row_201 : decode cX12_row 201 = .ok (.getfield 177, 3) := by decide +kernel
theorem dX12_row_204 : decode cX12_row 204 = .ok (.iload 5, 2) := by decide +kernel
theorem dX12_row_206 : decode cX12_row 206 = .ok (.ifCond .eq 7, 3) := by decide +kernel
theorem dX12_row_209 : decode cX12_row 209 = .ok (.iconst 0, 1) := by decide +kernel
theorem dX12_row_210 : decode cX12_row 210 = .ok (.goto 4, 3) := by decide +kernel
theorem dX12_row_213 : decode cX12_row 213 = .ok (.iconst 1, 1) := by decide +kernel
theorem dX12_row_214 : decode cX12_row 214 = .ok (.iadd, 1) := by decide +kernel
theorem dX12_row_215 : decode cX12_row 215 = .ok (.putfield 177, 3) := by decide +kernel
theorem dX12_row_218 : decode cX12_row 218 = .ok (.iinc 3 3, 3) := by decide +kernel
theorem dX12_row_221 : decode cX12_row 221 = .ok (.goto (-181), 3) := by decide +kernel
theorem dX12_row_224 : decode cX12_row 224 = .ok (.aload_n 0, 1) := by decide +kernel
theorem dX12_row_225 : decode cX12_row 225 = .ok (.iload_n 2, 1) := by decide +kernel
theorem dX12_row_226 : decode cX12_row 226 = .ok (.invokevirtual 114, 3) := by decide +kernel
theorem dX12_row_229 : decode cX12_row 229 = .ok (.ireturn, 1) := by decide +kernel
set_option maxRecDepth 20000 in
theorem s_X12_row {w : Wd} {d : Nat} {P : Int → IM → LM → Prop} {i : IM} {l : LM}   (h : (((i 99 10 = 0) → cI w d X_X12_refuses [vR (some 99), vI (-6)] (u2 i 99 10 0) l (fun r7 i7 l7 => P r7 i7 l7)) ∧ ((¬ (i 99 10 = 0)) → ((rg (Int.tmod (i 99 10) 3)) ∧ gI w d X_X12_row P (u2 (u2 i 99 10 0) 99 6 (bI (¬ (Int.tmod (i 99 10) 3 = 0)))) l 40 [(0, vR (some 99)), (1, vI (i 99 10)), (2, vI 0), (3, vI 0)] [])))) : gI w d X_X12_row P i l 0 [(0, vR (some 99))] [] := by
  refine g_aload_n (pc' := 1) 0 dX12_row_0 rfl rfl ?_
  refine g_getI (pc' := 4) (z := 10) rfl fl_X12_174 rfl rfl dX12_row_1 rfl (fun rg1 => ?_)
  refine g_istore_n (pc' := 5) (L' := [(1, vI (i 99 10)), (0, vR (some 99))]) dX12_row_4 rfl (Nat.le_of_ble_eq_true rfl) rfl ?_
  refine g_aload_n (pc' := 6) 1 dX12_row_5 rfl rfl ?_
  refine g_iconst (pc' := 7) dX12_row_6 rfl ?_
  refine g_putI (pc' := 10) (z := 10) rfl fp_X12_174 rfl rfl (rg_lit rfl) dX12_row_7 rfl ?_
  refine g_iload_n (pc' := 11) 0 dX12_row_10 rfl rfl ?_
  obtain ⟨hk8, hk9⟩ := h
  refine g_if_ne (tgt := 21) (pc' := 14) rg1 Iff.rfl dX12_row_11 rfl rfl (fun c3 => ?_) (fun c3 => ?_)
  · have h := hk9 c3
    refine g_iconst (pc' := 22) dX12_row_21 rfl ?_
    refine g_istore_n (pc' := 23) (L' := [(2, vI 0), (1, vI (i 99 10)), (0, vR (some 99))]) dX12_row_22 rfl (Nat.le_of_ble_eq_true rfl) rfl ?_
    refine g_aload_n (pc' := 24) 2 dX12_row_23 rfl rfl ?_
    refine g_iload_n (pc' := 25) 1 dX12_row_24 rfl rfl ?_
    refine g_iconst (pc' := 26) dX12_row_25 rfl ?_
    refine g_irem (pc' := 27) dX12_row_26 rfl rg1 (rg_lit rfl) (by decide) ?_
    obtain ⟨hob5, h⟩ := h
    have hJ : gI w d X_X12_row P (u2 i 99 10 0) l 35 [(2, vI 0), (1, vI (i 99 10)), (0, vR (some 99))] [vI (bI (¬ (Int.tmod (i 99 10) 3 = 0))), vR (some 99)] := by
      refine g_putI (pc' := 38) (z := 6) rfl fp_X12_177 rfl rfl (rg_bI _) dX12_row_35 rfl ?_
      refine g_iconst (pc' := 39) dX12_row_38 rfl ?_
      refine g_istore_n (pc' := 40) (L' := [(3, vI 0), (2, vI 0), (1, vI (i 99 10)), (0, vR (some 99))]) dX12_row_39 rfl (Nat.le_of_ble_eq_true rfl) rfl ?_
      refine g_sub (L' := [(0, vR (some 99)), (1, vI (i 99 10)), (2, vI 0), (3, vI 0)]) [3, 2, 1, 0] rfl ?_
      exact h
    refine g_if_ne (tgt := 34) (pc' := 30) (hob5) Iff.rfl dX12_row_27 rfl rfl (fun c6 => ?_) (fun c6 => ?_)
    · refine g_iconst (pc' := 35) dX12_row_34 rfl ?_
      rw [bI_t (p := (¬ (Int.tmod (i 99 10) 3 = 0))) c6] at hJ
      exact hJ
    · refine g_iconst (pc' := 31) dX12_row_30 rfl ?_
      refine g_goto (tgt := 35) dX12_row_31 rfl ?_
      rw [bI_f (p := (¬ (Int.tmod (i 99 10) 3 = 0))) (fun q => q c6)] at hJ
      exact hJ
  · have h := hk8 c3
    refine g_aload_n (pc' := 15) 1 dX12_row_14 rfl rfl ?_
    refine g_bipush (pc' := 17) dX12_row_15 rfl rfl ?_
    refine g_cVI (pc' := 20) (vs := [vI (-6)]) (st := []) (c := 12) h mv_X12_refuses lk_X12_110 rfl rfl rfl rfl (Nat.le_of_ble_eq_true rfl) (Nat.le_of_ble_eq_true rfl) rfl dX12_row_17 rfl z2 (fun r7 i7 l7 rg7 h => ?_)
    exact g_retI rfl rg7 dX12_row_20 h
theorem e_X12_row {w : Wd} {d : Nat} {P : Int → IM → LM → Prop} {i : IM} {l : LM}   (h : gI w d X_X12_row P i l 0 [(0, vR (some 99))] []) : cI w (d + 1) X_X12_row [vR (some 99)] i l P := CI_of (by decide +kernel) (Nat.le_of_ble_eq_true rfl) h
set_option maxRecDepth 20000 in
theorem s_X12_row_40 {w : Wd} {d : Nat} {P : Int → IM → LM → Prop} {i : IM} {l : LM} (x1 : Int) (x2 : Int) (x3 : Int)  (hd : 2 ≤ d) (h : ((rg (x3 + 3)) ∧ (rg x1) ∧ ((x1 < x3 + 3) → cI w d X_X12_good [vR (some 99), vI x2] i l (fun r42 i42 l42 => P r42 i42 l42)) ∧ ((¬ (x1 < x3 + 3)) → ((0 ≤ x3 + 2 ∧ x3 + 2 < 400) ∧ ((¬ (iand (i 105 (x3 + 2)) 255 = 255) → 0 ≤ x3 + 2 ∧ x3 + 2 < 400) ∧ ((0 ≤ x3 ∧ x3 < 400) ∧ (rg (i 101 309 - 1)) ∧ (((0 ≤ i 105 x3 ∧ i 105 x3 < i 101 309) → 0 ≤ x3 + 1 ∧ x3 + 1 < 400) ∧ ((0 ≤ i 105 x3 ∧ i 105 x3 < i 101 309) → (0 ≤ i 105 (x3 + 1) ∧ i 105 (x3 + 1) ≤ 119) → ((if (iand (i 105 (x3 + 2)) 255 = 255) then (-1) else i 105 (x3 + 2)) = (-1)) → 0 ≤ x3 + 2 ∧ x3 + 2 < 400) ∧ ((¬ (0 ≤ i 105 x3 ∧ i 105 x3 < i 101 309) ∨ (¬ (0 ≤ i 105 (x3 + 1) ∧ i 105 (x3 + 1) ≤ 119) ∨ ((((if (iand (i 105 (x3 + 2)) 255 = 255) then (-1) else i 105 (x3 + 2)) = (-1)) ∧ (¬ (iand (i 105 (x3 + 2)) 255 = 255))) ∨ (¬ ((if (iand (i 105 (x3 + 2)) 255 = 255) then (-1) else i 105 (x3 + 2)) = (-1)) ∧ (¬ (0 ≤ (if (iand (i 105 (x3 + 2)) 255 = 255) then (-1) else i 105 (x3 + 2)) ∧ (if (iand (i 105 (x3 + 2)) 255 = 255) then (-1) else i 105 (x3 + 2)) ≤ 9)))))) → gI w d X_X12_row P i l 158 [(0, vR (some 99)), (1, vI x1), (2, vI x2), (3, vI x3), (4, vI (if (iand (i 105 (x3 + 2)) 255 = 255) then (-1) else i 105 (x3 + 2)))] []) ∧ (((0 ≤ i 105 x3 ∧ i 105 x3 < i 101 309) ∧ ((0 ≤ i 105 (x3 + 1) ∧ i 105 (x3 + 1) ≤ 119) ∧ (¬ ((if (iand (i 105 (x3 + 2)) 255 = 255) then (-1) else i 105 (x3 + 2)) = (-1)) ∧ (0 ≤ (if (iand (i 105 (x3 + 2)) 255 = 255) then (-1) else i 105 (x3 + 2)) ∧ (if (iand (i 105 (x3 + 2)) 255 = 255) then (-1) else i 105 (x3 + 2)) ≤ 9)))) → gI w d X_X12_row P i l 141 [(0, vR (some 99)), (1, vI x1), (2, vI x2), (3, vI x3), (4, vI (if (iand (i 105 (x3 + 2)) 255 = 255) then (-1) else i 105 (x3 + 2)))] []) ∧ (((0 ≤ i 105 x3 ∧ i 105 x3 < i 101 309) ∧ ((0 ≤ i 105 (x3 + 1) ∧ i 105 (x3 + 1) ≤ 119) ∧ (((if (iand (i 105 (x3 + 2)) 255 = 255) then (-1) else i 105 (x3 + 2)) = (-1)) ∧ (iand (i 105 (x3 + 2)) 255 = 255)))) → gI w d X_X12_row P i l 141 [(0, vR (some 99)), (1, vI x1), (2, vI x2), (3, vI x3), (4, vI (if (iand (i 105 (x3 + 2)) 255 = 255) then (-1) else i 105 (x3 + 2)))] [])))))))) : gI w d X_X12_row P i l 40 [(0, vR (some 99)), (1, vI x1), (2, vI x2), (3, vI x3)] [] := by
  refine g_iload_n (pc' := 41) 3 dX12_row_40 rfl rfl ?_
  refine g_iconst (pc' := 42) dX12_row_41 rfl ?_
  refine g_iadd (pc' := 43) dX12_row_42 rfl ?_
  refine g_iload_n (pc' := 44) 1 dX12_row_43 rfl rfl ?_
  obtain ⟨hob39, hob40, hk68, hk69⟩ := h
  refine g_icmp_gt (tgt := 224) (pc' := 47) (hob39) (hob40) Iff.rfl dX12_row_44 rfl rfl (fun c41 => ?_) (fun c41 => ?_)
  · have h := hk68 c41
    refine g_aload_n (pc' := 225) 0 dX12_row_224 rfl rfl ?_
    refine g_iload_n (pc' := 226) 2 dX12_row_225 rfl rfl ?_
    refine g_cVI (pc' := 229) (vs := [vI x2]) (st := []) (c := 12) h mv_X12_good lk_X12_114 rfl rfl rfl rfl (Nat.le_of_ble_eq_true rfl) (Nat.le_of_ble_eq_true rfl) rfl dX12_row_226 rfl z2 (fun r42 i42 l42 rg42 h => ?_)
    exact g_retI rfl rg42 dX12_row_229 h
  · have h := hk69 c41
    obtain ⟨ob43, h⟩ := h
    refine g_aload_n (pc' := 48) 0 dX12_row_47 rfl rfl ?_
    refine g_getR (pc' := 51) (o := some 105) fl_X12_34 rfl rfl rfl dX12_row_48 rfl ?_
    refine g_iload_n (pc' := 52) 3 dX12_row_51 rfl rfl ?_
    refine g_iconst (pc' := 53) dX12_row_52 rfl ?_
    refine g_iadd (pc' := 54) dX12_row_53 rfl ?_
    refine g_bald (pc' := 55) (N := 400) rfl rfl (Nat.lt_of_lt_of_le (Nat.lt_succ_self _) (Nat.le_of_ble_eq_true rfl)) ob43 dX12_row_54 rfl (fun rg44 => ?_)
    refine g_sipush (pc' := 58) dX12_row_55 rfl rfl ?_
    refine g_iand (pc' := 59) dX12_row_58 rfl ?_
    refine g_sipush (pc' := 62) dX12_row_59 rfl rfl ?_
    refine g_rg (fun hRG45 => ?_)
    obtain ⟨hob47, h⟩ := h
    have hJ : gI w d X_X12_row P i l 77 [(0, vR (some 99)), (1, vI x1), (2, vI x2), (3, vI x3)] [vI (if (iand (i 105 (x3 + 2)) 255 = 255) then (-1) else i 105 (x3 + 2))] := by
      obtain ⟨ob49, ob51, h⟩ := h
      refine g_istore (pc' := 79) (L' := [(4, vI (if (iand (i 105 (x3 + 2)) 255 = 255) then (-1) else i 105 (x3 + 2))), (0, vR (some 99)), (1, vI x1), (2, vI x2), (3, vI x3)]) dX12_row_77 rfl (Nat.le_of_ble_eq_true rfl) rfl ?_
      refine g_aload_n (pc' := 80) 1 dX12_row_79 rfl rfl ?_
      refine g_aload_n (pc' := 81) 1 dX12_row_80 rfl rfl ?_
      refine g_getR (pc' := 84) (o := some 105) fl_X12_34 rfl rfl rfl dX12_row_81 rfl ?_
      refine g_iload_n (pc' := 85) 4 dX12_row_84 rfl rfl ?_
      refine g_bald (pc' := 86) (N := 400) rfl rfl (Nat.lt_of_lt_of_le (Nat.lt_succ_self _) (Nat.le_of_ble_eq_true rfl)) ob49 dX12_row_85 rfl (fun rg50 => ?_)
      refine g_pVI (pc' := 89) (vs := [vI (i 105 x3)]) (st := []) (val := bI (0 ≤ i 105 x3 ∧ i 105 x3 < i 101 309)) (c := 12) (sp_X12_isPerson (le_hd hd rfl) rg50 ob51) mv_X12_isPerson lk_X12_158 rfl rfl rfl rfl (Nat.le_of_ble_eq_true rfl) (Nat.le_of_ble_eq_true rfl) rfl dX12_row_86 rfl z2 (fun rg52 => ?_)
      obtain ⟨hob55, hob62, hk65, hk66, hk67⟩ := h
      have hk65g : (¬ (0 ≤ i 105 x3 ∧ i 105 x3 < i 101 309) ∨ (¬ (0 ≤ i 105 (x3 + 1) ∧ i 105 (x3 + 1) ≤ 119) ∨ ((((if (iand (i 105 (x3 + 2)) 255 = 255) then (-1) else i 105 (x3 + 2)) = (-1)) ∧ (¬ (iand (i 105 (x3 + 2)) 255 = 255))) ∨ (¬ ((if (iand (i 105 (x3 + 2)) 255 = 255) then (-1) else i 105 (x3 + 2)) = (-1)) ∧ (¬ (0 ≤ (if (iand (i 105 (x3 + 2)) 255 = 255) then (-1) else i 105 (x3 + 2)) ∧ (if (iand (i 105 (x3 + 2)) 255 = 255) then (-1) else i 105 (x3 + 2)) ≤ 9)))))) → gI w d X_X12_row P i l 158 [(4, vI (if (iand (i 105 (x3 + 2)) 255 = 255) then (-1) else i 105 (x3 + 2))), (0, vR (some 99)), (1, vI x1), (2, vI x2), (3, vI x3)] [] := by
        intro hp
        have h := hk65 hp
        refine g_sub (L' := [(0, vR (some 99)), (1, vI x1), (2, vI x2), (3, vI x3), (4, vI (if (iand (i 105 (x3 + 2)) 255 = 255) then (-1) else i 105 (x3 + 2)))]) [1, 2, 3, 4, 0] rfl ?_
        exact h
      have hk66g : ((0 ≤ i 105 x3 ∧ i 105 x3 < i 101 309) ∧ ((0 ≤ i 105 (x3 + 1) ∧ i 105 (x3 + 1) ≤ 119) ∧ (¬ ((if (iand (i 105 (x3 + 2)) 255 = 255) then (-1) else i 105 (x3 + 2)) = (-1)) ∧ (0 ≤ (if (iand (i 105 (x3 + 2)) 255 = 255) then (-1) else i 105 (x3 + 2)) ∧ (if (iand (i 105 (x3 + 2)) 255 = 255) then (-1) else i 105 (x3 + 2)) ≤ 9)))) → gI w d X_X12_row P i l 141 [(4, vI (if (iand (i 105 (x3 + 2)) 255 = 255) then (-1) else i 105 (x3 + 2))), (0, vR (some 99)), (1, vI x1), (2, vI x2), (3, vI x3)] [] := by
        intro hp
        have h := hk66 hp
        refine g_sub (L' := [(0, vR (some 99)), (1, vI x1), (2, vI x2), (3, vI x3), (4, vI (if (iand (i 105 (x3 + 2)) 255 = 255) then (-1) else i 105 (x3 + 2)))]) [1, 2, 3, 4, 0] rfl ?_
        exact h
      have hk67g : ((0 ≤ i 105 x3 ∧ i 105 x3 < i 101 309) ∧ ((0 ≤ i 105 (x3 + 1) ∧ i 105 (x3 + 1) ≤ 119) ∧ (((if (iand (i 105 (x3 + 2)) 255 = 255) then (-1) else i 105 (x3 + 2)) = (-1)) ∧ (iand (i 105 (x3 + 2)) 255 = 255)))) → gI w d X_X12_row P i l 130 [(4, vI (if (iand (i 105 (x3 + 2)) 255 = 255) then (-1) else i 105 (x3 + 2))), (0, vR (some 99)), (1, vI x1), (2, vI x2), (3, vI x3)] [] := by
        intro hp
        have h := hk67 hp
        refine g_goto (tgt := 141) dX12_row_130 rfl ?_
        refine g_sub (L' := [(0, vR (some 99)), (1, vI x1), (2, vI x2), (3, vI x3), (4, vI (if (iand (i 105 (x3 + 2)) 255 = 255) then (-1) else i 105 (x3 + 2)))]) [1, 2, 3, 4, 0] rfl ?_
        exact h
      refine g_if_eq (tgt := 158) (pc' := 92) rg52 (bI_eq _) dX12_row_89 rfl rfl (fun c54 => ?_) (fun c54n => ?_)
      · exact hk65g (Or.inl c54)
      · have c54 := Decidable.of_not_not c54n
        refine g_aload_n (pc' := 93) 1 dX12_row_92 rfl rfl ?_
        refine g_getR (pc' := 96) (o := some 105) fl_X12_34 rfl rfl rfl dX12_row_93 rfl ?_
        refine g_iload_n (pc' := 97) 4 dX12_row_96 rfl rfl ?_
        refine g_iconst (pc' := 98) dX12_row_97 rfl ?_
        refine g_iadd (pc' := 99) dX12_row_98 rfl ?_
        refine g_bald (pc' := 100) (N := 400) rfl rfl (Nat.lt_of_lt_of_le (Nat.lt_succ_self _) (Nat.le_of_ble_eq_true rfl)) (hob55 c54) dX12_row_99 rfl (fun rg56 => ?_)
        refine g_pSI (pc' := 103) (vs := [vI (i 105 (x3 + 1))]) (st := []) (val := bI (0 ≤ i 105 (x3 + 1) ∧ i 105 (x3 + 1) ≤ 119)) (sp_X12_isMinute (le_hd hd rfl) rg56) mk_X12_isMinute ms_X12_isMinute lk_X12_164 rfl (Nat.le_of_ble_eq_true rfl) (Nat.le_of_ble_eq_true rfl) rfl dX12_row_100 rfl z2 (fun rg57 => ?_)
        refine g_if_eq (tgt := 158) (pc' := 106) rg57 (bI_eq _) dX12_row_103 rfl rfl (fun c58 => ?_) (fun c58n => ?_)
        · exact hk65g (Or.inr (Or.inl c58))
        · have c58 := Decidable.of_not_not c58n
          refine g_iload (pc' := 108) 0 dX12_row_106 rfl rfl ?_
          refine g_iconst (pc' := 109) dX12_row_108 rfl ?_
          refine g_icmp_ne (tgt := 133) (pc' := 112) (rg_ite (rg_lit rfl) (hRG45 _ _)) (rg_lit rfl) Iff.rfl dX12_row_109 rfl rfl (fun c59 => ?_) (fun c59 => ?_)
          · refine g_iload (pc' := 135) 0 dX12_row_133 rfl rfl ?_
            refine g_pSI (pc' := 138) (vs := [vI (if (iand (i 105 (x3 + 2)) 255 = 255) then (-1) else i 105 (x3 + 2))]) (st := []) (val := bI (0 ≤ (if (iand (i 105 (x3 + 2)) 255 = 255) then (-1) else i 105 (x3 + 2)) ∧ (if (iand (i 105 (x3 + 2)) 255 = 255) then (-1) else i 105 (x3 + 2)) ≤ 9)) (sp_X12_isPlace (le_hd hd rfl) (rg_ite (rg_lit rfl) (hRG45 _ _))) mk_X12_isPlace ms_X12_isPlace lk_X12_155 rfl (Nat.le_of_ble_eq_true rfl) (Nat.le_of_ble_eq_true rfl) rfl dX12_row_135 rfl z2 (fun rg60 => ?_)
            refine g_if_eq (tgt := 158) (pc' := 141) rg60 (bI_eq _) dX12_row_138 rfl rfl (fun c61 => ?_) (fun c61n => ?_)
            · exact hk65g (Or.inr (Or.inr (Or.inr ⟨c59, c61⟩)))
            · have c61 := Decidable.of_not_not c61n
              exact hk66g ⟨c54, ⟨c58, ⟨c59, c61⟩⟩⟩
          · refine g_aload_n (pc' := 113) 1 dX12_row_112 rfl rfl ?_
            refine g_getR (pc' := 116) (o := some 105) fl_X12_34 rfl rfl rfl dX12_row_113 rfl ?_
            refine g_iload_n (pc' := 117) 4 dX12_row_116 rfl rfl ?_
            refine g_iconst (pc' := 118) dX12_row_117 rfl ?_
            refine g_iadd (pc' := 119) dX12_row_118 rfl ?_
            refine g_bald (pc' := 120) (N := 400) rfl rfl (Nat.lt_of_lt_of_le (Nat.lt_succ_self _) (Nat.le_of_ble_eq_true rfl)) (hob62 c54 c58 c59) dX12_row_119 rfl (fun rg63 => ?_)
            refine g_sipush (pc' := 123) dX12_row_120 rfl rfl ?_
            refine g_iand (pc' := 124) dX12_row_123 rfl ?_
            refine g_sipush (pc' := 127) dX12_row_124 rfl rfl ?_
            refine g_icmp_ne (tgt := 158) (pc' := 130) (rg_iand _ _) (rg_lit rfl) Iff.rfl dX12_row_127 rfl rfl (fun c64 => ?_) (fun c64 => ?_)
            · exact hk65g (Or.inr (Or.inr (Or.inl ⟨c59, c64⟩)))
            · exact hk67g ⟨c54, ⟨c58, ⟨c59, c64⟩⟩⟩
    refine g_icmp_ne (tgt := 69) (pc' := 65) (rg_iand _ _) (rg_lit rfl) Iff.rfl dX12_row_62 rfl rfl (fun c46 => ?_) (fun c46 => ?_)
    · refine g_aload_n (pc' := 70) 0 dX12_row_69 rfl rfl ?_
      refine g_getR (pc' := 73) (o := some 105) fl_X12_34 rfl rfl rfl dX12_row_70 rfl ?_
      refine g_iload_n (pc' := 74) 3 dX12_row_73 rfl rfl ?_
      refine g_iconst (pc' := 75) dX12_row_74 rfl ?_
      refine g_iadd (pc' := 76) dX12_row_75 rfl ?_
      refine g_bald (pc' := 77) (N := 400) rfl rfl (Nat.lt_of_lt_of_le (Nat.lt_succ_self _) (Nat.le_of_ble_eq_true rfl)) (hob47 c46) dX12_row_76 rfl (fun rg48 => ?_)
      rw [if_neg c46 (α := Int) (t := (-1)) (e := i 105 (x3 + 2))] at hJ
      exact hJ
    · refine g_iconst (pc' := 66) dX12_row_65 rfl ?_
      refine g_goto (tgt := 77) dX12_row_66 rfl ?_
      rw [if_pos c46 (α := Int) (t := (-1)) (e := i 105 (x3 + 2))] at hJ
      exact hJ
set_option maxRecDepth 20000 in
theorem s_X12_row_158 {w : Wd} {d : Nat} {P : Int → IM → LM → Prop} {i : IM} {l : LM} (x1 : Int) (x2 : Int) (x3 : Int) (x4 : Int)  (h : gI w d X_X12_row P i l 186 [(0, vR (some 99)), (1, vI x1), (2, vI x2), (3, vI x3), (5, vI 0)] []) : gI w d X_X12_row P i l 158 [(0, vR (some 99)), (1, vI x1), (2, vI x2), (3, vI x3), (4, vI x4)] [] := by
  refine g_iconst (pc' := 159) dX12_row_158 rfl ?_
  refine g_istore (pc' := 161) (L' := [(5, vI 0), (0, vR (some 99)), (1, vI x1), (2, vI x2), (3, vI x3), (4, vI x4)]) dX12_row_159 rfl (Nat.le_of_ble_eq_true rfl) rfl ?_
  refine g_iload (pc' := 163) 0 dX12_row_161 rfl rfl ?_
  refine g_if_eq (tgt := 186) (pc' := 166) (rg_lit rfl) Iff.rfl dX12_row_163 rfl rfl (fun _ => ?_) (fun c => absurd (by decide) c)
  refine g_sub (L' := [(0, vR (some 99)), (1, vI x1), (2, vI x2), (3, vI x3), (5, vI 0)]) [1, 2, 3, 4, 0] rfl ?_
  exact h
set_option maxRecDepth 20000 in
theorem s_X12_row_141 {w : Wd} {d : Nat} {P : Int → IM → LM → Prop} {i : IM} {l : LM} (x1 : Int) (x2 : Int) (x3 : Int) (x4 : Int)  (h : (((60 ≤ i 101 310) → gI w d X_X12_row P i l 158 [(0, vR (some 99)), (1, vI x1), (2, vI x2), (3, vI x3), (4, vI x4)] []) ∧ ((¬ (60 ≤ i 101 310)) → ((0 ≤ x3 ∧ x3 < 400) ∧ (0 ≤ x3 + 1 ∧ x3 + 1 < 400) ∧ cVd w d X_X12_walks [vR (some 99), vI (i 105 x3), vI (i 105 (x3 + 1)), vI x4] i l (fun i77 l77 => gI w d X_X12_row P i77 l77 186 [(0, vR (some 99)), (1, vI x1), (2, vI x2), (3, vI x3), (5, vI 1)] []))))) : gI w d X_X12_row P i l 141 [(0, vR (some 99)), (1, vI x1), (2, vI x2), (3, vI x3), (4, vI x4)] [] := by
  refine g_aload_n (pc' := 142) 0 dX12_row_141 rfl rfl ?_
  refine g_getR (pc' := 145) (o := some 101) fl_X12_20 rfl rfl rfl dX12_row_142 rfl ?_
  refine g_sipush (pc' := 148) dX12_row_145 rfl rfl ?_
  refine g_iald (pc' := 149) (N := 5120) rfl rfl (Nat.lt_of_lt_of_le (Nat.lt_succ_self _) (Nat.le_of_ble_eq_true rfl)) (by decide) dX12_row_148 rfl (fun rg70 => ?_)
  refine g_bipush (pc' := 151) dX12_row_149 rfl rfl ?_
  obtain ⟨hk78, hk79⟩ := h
  refine g_icmp_ge (tgt := 158) (pc' := 154) rg70 (rg_lit rfl) Iff.rfl dX12_row_151 rfl rfl (fun c72 => ?_) (fun c72 => ?_)
  · have h := hk78 c72
    exact h
  · refine g_iconst (pc' := 155) dX12_row_154 rfl ?_
    refine g_goto (tgt := 159) dX12_row_155 rfl ?_
    have h := hk79 c72
    obtain ⟨ob73, ob75, h⟩ := h
    refine g_istore (pc' := 161) (L' := [(5, vI 1), (0, vR (some 99)), (1, vI x1), (2, vI x2), (3, vI x3), (4, vI x4)]) dX12_row_159 rfl (Nat.le_of_ble_eq_true rfl) rfl ?_
    refine g_iload (pc' := 163) 0 dX12_row_161 rfl rfl ?_
    refine g_if_eq (tgt := 186) (pc' := 166) (rg_lit rfl) Iff.rfl dX12_row_163 rfl rfl (fun c => absurd c (by decide)) (fun _ => ?_)
    refine g_aload_n (pc' := 167) 1 dX12_row_166 rfl rfl ?_
    refine g_aload_n (pc' := 168) 1 dX12_row_167 rfl rfl ?_
    refine g_getR (pc' := 171) (o := some 105) fl_X12_34 rfl rfl rfl dX12_row_168 rfl ?_
    refine g_iload_n (pc' := 172) 4 dX12_row_171 rfl rfl ?_
    refine g_bald (pc' := 173) (N := 400) rfl rfl (Nat.lt_of_lt_of_le (Nat.lt_succ_self _) (Nat.le_of_ble_eq_true rfl)) ob73 dX12_row_172 rfl (fun rg74 => ?_)
    refine g_aload_n (pc' := 174) 1 dX12_row_173 rfl rfl ?_
    refine g_getR (pc' := 177) (o := some 105) fl_X12_34 rfl rfl rfl dX12_row_174 rfl ?_
    refine g_iload_n (pc' := 178) 4 dX12_row_177 rfl rfl ?_
    refine g_iconst (pc' := 179) dX12_row_178 rfl ?_
    refine g_iadd (pc' := 180) dX12_row_179 rfl ?_
    refine g_bald (pc' := 181) (N := 400) rfl rfl (Nat.lt_of_lt_of_le (Nat.lt_succ_self _) (Nat.le_of_ble_eq_true rfl)) ob75 dX12_row_180 rfl (fun rg76 => ?_)
    refine g_iload (pc' := 183) 5 dX12_row_181 rfl rfl ?_
    refine g_cVV (pc' := 186) (vs := [vI (i 105 x3), vI (i 105 (x3 + 1)), vI x4]) (st := []) (c := 12) h mv_X12_walks lk_X12_167 rfl rfl rfl rfl (Nat.le_of_ble_eq_true rfl) (Nat.le_of_ble_eq_true rfl) rfl dX12_row_183 rfl z2 (fun i77 l77 h => ?_)
    refine g_sub (L' := [(0, vR (some 99)), (1, vI x1), (2, vI x2), (3, vI x3), (5, vI 1)]) [1, 2, 3, 4, 0] rfl ?_
    exact h
set_option maxRecDepth 20000 in
theorem s_X12_row_186 {w : Wd} {d : Nat} {P : Int → IM → LM → Prop} {i : IM} {l : LM} (x1 : Int) (x2 : Int) (x3 : Int) (x5 : Int)  (h : ((rg x5) ∧ ((rg x5) ∧ ((rg ((i 99 6) + (bI (x5 = 0)))) ∧ gI w d X_X12_row P (u2 i 99 6 ((i 99 6) + (bI (x5 = 0)))) l 40 [(0, vR (some 99)), (1, vI x1), (2, vI (x2 + (bI (¬ (x5 = 0))))), (3, vI (x3 + 3))] [])))) : gI w d X_X12_row P i l 186 [(0, vR (some 99)), (1, vI x1), (2, vI x2), (3, vI x3), (5, vI x5)] [] := by
  refine g_iload_n (pc' := 187) 2 dX12_row_186 rfl rfl ?_
  refine g_iload (pc' := 189) 4 dX12_row_187 rfl rfl ?_
  obtain ⟨hob81, h⟩ := h
  have hJ : gI w d X_X12_row P i l 197 [(0, vR (some 99)), (1, vI x1), (2, vI x2), (3, vI x3), (5, vI x5)] [vI (bI (¬ (x5 = 0))), vI x2] := by
    refine g_iadd (pc' := 198) dX12_row_197 rfl ?_
    refine g_istore_n (pc' := 199) (L' := [(2, vI (x2 + (bI (¬ (x5 = 0))))), (0, vR (some 99)), (1, vI x1), (3, vI x3), (5, vI x5)]) dX12_row_198 rfl (Nat.le_of_ble_eq_true rfl) rfl ?_
    refine g_aload_n (pc' := 200) 1 dX12_row_199 rfl rfl ?_
    refine g_dup (pc' := 201) dX12_row_200 rfl rfl ?_
    refine g_getI (pc' := 204) (z := 6) rfl fl_X12_177 rfl rfl dX12_row_201 rfl (fun rg83 => ?_)
    refine g_iload (pc' := 206) 4 dX12_row_204 rfl rfl ?_
    obtain ⟨hob85, h⟩ := h
    have hJ : gI w d X_X12_row P i l 214 [(2, vI (x2 + (bI (¬ (x5 = 0))))), (0, vR (some 99)), (1, vI x1), (3, vI x3), (5, vI x5)] [vI (bI (x5 = 0)), vI (i 99 6), vR (some 99)] := by
      obtain ⟨ob87, h⟩ := h
      refine g_iadd (pc' := 215) dX12_row_214 rfl ?_
      refine g_putI (pc' := 218) (z := 6) rfl fp_X12_177 rfl rfl ob87 dX12_row_215 rfl ?_
      refine g_iinc (pc' := 221) (L' := [(3, vI (x3 + 3)), (2, vI (x2 + (bI (¬ (x5 = 0))))), (0, vR (some 99)), (1, vI x1), (5, vI x5)]) 3 dX12_row_218 rfl (Nat.le_of_ble_eq_true rfl) rfl rfl ?_
      refine g_goto (tgt := 40) dX12_row_221 rfl ?_
      refine g_sub (L' := [(0, vR (some 99)), (1, vI x1), (2, vI (x2 + (bI (¬ (x5 = 0))))), (3, vI (x3 + 3))]) [2, 3, 1, 0] rfl ?_
      exact h
    refine g_if_eq (tgt := 213) (pc' := 209) (hob85) Iff.rfl dX12_row_206 rfl rfl (fun c86 => ?_) (fun c86 => ?_)
    · refine g_iconst (pc' := 214) dX12_row_213 rfl ?_
      rw [bI_t (p := (x5 = 0)) c86] at hJ
      exact hJ
    · refine g_iconst (pc' := 210) dX12_row_209 rfl ?_
      refine g_goto (tgt := 214) dX12_row_210 rfl ?_
      rw [bI_f (p := (x5 = 0)) c86] at hJ
      exact hJ
  refine g_if_eq (tgt := 196) (pc' := 192) (hob81) Iff.rfl dX12_row_189 rfl rfl (fun c82 => ?_) (fun c82 => ?_)
  · refine g_iconst (pc' := 197) dX12_row_196 rfl ?_
    rw [bI_f (p := (¬ (x5 = 0))) (fun q => q c82)] at hJ
    exact hJ
  · refine g_iconst (pc' := 193) dX12_row_192 rfl ?_
    refine g_goto (tgt := 197) dX12_row_193 rfl ?_
    rw [bI_t (p := (¬ (x5 = 0))) c82] at hJ
    exact hJ

theorem dX12_spoilt_0 : decode cX12_spoilt 0 = .ok (.aload_n 0, 1) := by decide +kernel
theorem dX12_spoilt_1 : decode cX12_spoilt 1 = .ok (.getfield 177, 3) := by decide +kernel
theorem dX12_spoilt_4 : decode cX12_spoilt 4 = .ok (.ireturn, 1) := by decide +kernel
set_option maxRecDepth 20000 in
theorem s_X12_spoilt {w : Wd} {d : Nat} {P : Int → IM → LM → Prop} {i : IM} {l : LM}   (h : P (i 99 6) i l) : gI w d X_X12_spoilt P i l 0 [(0, vR (some 99))] [] := by
  refine g_aload_n (pc' := 1) 0 dX12_spoilt_0 rfl rfl ?_
  refine g_getI (pc' := 4) (z := 6) rfl fl_X12_177 rfl rfl dX12_spoilt_1 rfl (fun rg1 => ?_)
  exact g_retI rfl rg1 dX12_spoilt_4 h
theorem e_X12_spoilt {w : Wd} {d : Nat} {P : Int → IM → LM → Prop} {i : IM} {l : LM}   (h : gI w d X_X12_spoilt P i l 0 [(0, vR (some 99))] []) : cI w (d + 1) X_X12_spoilt [vR (some 99)] i l P := CI_of (by decide +kernel) (Nat.le_of_ble_eq_true rfl) h

theorem dX12_feed_0 : decode cX12_feed 0 = .ok (.aload_n 0, 1) := by decide +kernel
theorem dX12_feed_1 : decode cX12_feed 1 = .ok (.getfield 174, 3) := by decide +kernel
theorem dX12_feed_4 : decode cX12_feed 4 = .ok (.bipush 20, 2) := by decide +kernel
theorem dX12_feed_6 : decode cX12_feed 6 = .ok (.iadd, 1) := by decide +kernel
theorem dX12_feed_7 : decode cX12_feed 7 = .ok (.sipush 400, 3) := by decide +kernel
theorem dX12_feed_10 : decode cX12_feed 10 = .ok (.if_icmp .le 5, 3) := by decide +kernel
theorem dX12_feed_13 : decode cX12_feed 13 = .ok (.iconst (-1), 1) := by decide +kernel
theorem dX12_feed_14 : decode cX12_feed 14 = .ok (.ireturn, 1) := by decide +kernel
theorem dX12_feed_15 : decode cX12_feed 15 = .ok (.aload_n 0, 1) := by decide +kernel
theorem dX12_feed_16 : decode cX12_feed 16 = .ok (.getfield 37, 3) := by decide +kernel
theorem dX12_feed_19 : decode cX12_feed 19 = .ok (.iconst 0, 1) := by decide +kernel
theorem dX12_feed_20 : decode cX12_feed 20 = .ok (.iload_n 1, 1) := by decide +kernel
theorem dX12_feed_21 : decode cX12_feed 21 = .ok (.iastore, 1) := by decide +kernel
theorem dX12_feed_22 : decode cX12_feed 22 = .ok (.aload_n 0, 1) := by decide +kernel
theorem dX12_feed_23 : decode cX12_feed 23 = .ok (.getfield 37, 3) := by decide +kernel
theorem dX12_feed_26 : decode cX12_feed 26 = .ok (.iconst 1, 1) := by decide +kernel
theorem dX12_feed_27 : decode cX12_feed 27 = .ok (.iload_n 2, 1) := by decide +kernel
theorem dX12_feed_28 : decode cX12_feed 28 = .ok (.iastore, 1) := by decide +kernel
theorem dX12_feed_29 : decode cX12_feed 29 = .ok (.aload_n 0, 1) := by decide +kernel
theorem dX12_feed_30 : decode cX12_feed 30 = .ok (.getfield 37, 3) := by decide +kernel
theorem dX12_feed_33 : decode cX12_feed 33 = .ok (.iconst 2, 1) := by decide +kernel
theorem dX12_feed_34 : decode cX12_feed 34 = .ok (.iload_n 3, 1) := by decide +kernel
theorem dX12_feed_35 : decode cX12_feed 35 = .ok (.iastore, 1) := by decide +kernel
theorem dX12_feed_36 : decode cX12_feed 36 = .ok (.aload_n 0, 1) := by decide +kernel
theorem dX12_feed_37 : decode cX12_feed 37 = .ok (.getfield 37, 3) := by decide +kernel
theorem dX12_feed_40 : decode cX12_feed 40 = .ok (.iconst 3, 1) := by decide +kernel
theorem dX12_feed_41 : decode cX12_feed 41 = .ok (.iload 4, 2) := by decide +kernel
theorem dX12_feed_43 : decode cX12_feed 43 = .ok (.iastore, 1) := by decide +kernel
theorem dX12_feed_44 : decode cX12_feed 44 = .ok (.aload_n 0, 1) := by decide +kernel
theorem dX12_feed_45 : decode cX12_feed 45 = .ok (.getfield 37, 3) := by decide +kernel
theorem dX12_feed_48 : decode cX12_feed 48 = .ok (.iconst 4, 1) := by decide +kernel
theorem dX12_feed_49 : decode cX12_feed 49 = .ok (.iload 5, 2) := by decide +kernel
theorem dX12_feed_51 : decode cX12_feed 51 = .ok (.iastore, 1) := by decide +kernel
theorem dX12_feed_52 : decode cX12_feed 52 = .ok (.iconst 0, 1) := by decide +kernel
theorem dX12_feed_53 : decode cX12_feed 53 = .ok (.istore 6, 2) := by decide +kernel
theorem dX12_feed_55 : decode cX12_feed 55 = .ok (.iload 6, 2) := by decide +kernel
theorem dX12_feed_57 : decode cX12_feed 57 = .ok (.bipush 20, 2) := by decide +kernel
theorem dX12_feed_59 : decode cX12_feed 59 = .ok (.if_icmp .ge 42, 3) := by decide +kernel
theorem dX12_feed_62 : decode cX12_feed 62 = .ok (.aload_n 0, 1) := by decide +kernel
theorem dX12_feed_63 : decode cX12_feed 63 = .ok (.getfield 34, 3) := by decide +kernel
theorem dX12_feed_66 : decode cX12_feed 66 = .ok (.aload_n 0, 1) := by decide +kernel
theorem dX12_feed_67 : decode cX12_feed 67 = .ok (.getfield 174, 3) := by decide +kernel
theorem dX12_feed_70 : decode cX12_feed 70 = .ok (.iload 6, 2) := by decide +kernel
theorem dX12_feed_72 : decode cX12_feed 72 = .ok (.iadd, 1) := by decide +kernel
theorem dX12_feed_73 : decode cX12_feed 73 = .ok (.aload_n 0, 1) := by decide +kernel
theorem dX12_feed_74 : decode cX12_feed 74 = .ok (.getfield 37, 3) := by decide +kernel
theorem dX12_feed_77 : decode cX12_feed 77 = .ok (.iload 6, 2) := by decide +kernel
theorem dX12_feed_79 : decode cX12_feed 79 = .ok (.iconst 4, 1) := by decide +kernel
theorem dX12_feed_80 : decode cX12_feed 80 = .ok (.idiv, 1) := by decide +kernel
theorem dX12_feed_81 : decode cX12_feed 81 = .ok (.iaload, 1) := by decide +kernel
theorem dX12_feed_82 : decode cX12_feed 82 = .ok (.bipush 24, 2) := by decide +kernel
theorem dX12_feed_84 : decode cX12_feed 84 = .ok (.bipush 8, 2) := by decide +kernel
theorem dX12_feed_86 : decode cX12_feed 86 = .ok (.iload 6, 2) := by decide +kernel
theorem dX12_feed_88 : decode cX12_feed 88 = .ok (.iconst 4, 1) := by decide +kernel
theorem dX12_feed_89 : decode cX12_feed 89 = .ok (.irem, 1) := by decide +kernel
theorem dX12_feed_90 : decode cX12_feed 90 = .ok (.imul, 1) := by decide +kernel
theorem dX12_feed_91 : decode cX12_feed 91 = .ok (.isub, 1) := by decide +kernel
theorem dX12_feed_92 : decode cX12_feed 92 = .ok (.ishr, 1) := by decide +kernel
theorem dX12_feed_93 : decode cX12_feed 93 = .ok (.i2b, 1) := by decide +kernel
theorem dX12_feed_94 : decode cX12_feed 94 = .ok (.bastore, 1) := by decide +kernel
theorem dX12_feed_95 : decode cX12_feed 95 = .ok (.iinc 6 1, 3) := by decide +kernel
theorem dX12_feed_98 : decode cX12_feed 98 = .ok (.goto (-43), 3) := by decide +kernel
theorem dX12_feed_101 : decode cX12_feed 101 = .ok (.aload_n 0, 1) := by decide +kernel
theorem dX12_feed_102 : decode cX12_feed 102 = .ok (.dup, 1) := by decide +kernel
theorem dX12_feed_103 : decode cX12_feed 103 = .ok (.getfield 174, 3) := by decide +kernel
theorem dX12_feed_106 : decode cX12_feed 106 = .ok (.bipush 20, 2) := by decide +kernel
theorem dX12_feed_108 : decode cX12_feed 108 = .ok (.iadd, 1) := by decide +kernel
theorem dX12_feed_109 : decode cX12_feed 109 = .ok (.putfield 174, 3) := by decide +kernel
theorem dX12_feed_112 : decode cX12_feed 112 = .ok (.aload_n 0, 1) := by decide +kernel
theorem dX12_feed_113 : decode cX12_feed 113 = .ok (.getfield 174, 3) := by decide +kernel
theorem dX12_feed_116 : decode cX12_feed 116 = .ok (.ireturn, 1) := by decide +kernel
set_option maxRecDepth 20000 in
theorem s_X12_feed {w : Wd} {d : Nat} {P : Int → IM → LM → Prop} {i : IM} {l : LM} (p0 : Int) (p1 : Int) (p2 : Int) (p3 : Int) (p4 : Int)  (h : ((rg ((i 99 10) + 20)) ∧ (((i 99 10) + 20 ≤ 400) → ((rg p0) ∧ (rg p1) ∧ (rg p2) ∧ (rg p3) ∧ (rg p4) ∧ gI w d X_X12_feed P (u2 (u2 (u2 (u2 (u2 i 106 0 p0) 106 1 p1) 106 2 p2) 106 3 p3) 106 4 p4) l 55 [(0, vR (some 99)), (6, vI 0)] [])) ∧ ((¬ ((i 99 10) + 20 ≤ 400)) → P (-1) i l))) : gI w d X_X12_feed P i l 0 [(0, vR (some 99)), (1, vI p0), (2, vI p1), (3, vI p2), (4, vI p3), (5, vI p4)] [] := by
  refine g_aload_n (pc' := 1) 0 dX12_feed_0 rfl rfl ?_
  refine g_getI (pc' := 4) (z := 10) rfl fl_X12_174 rfl rfl dX12_feed_1 rfl (fun rg1 => ?_)
  refine g_bipush (pc' := 6) dX12_feed_4 rfl rfl ?_
  refine g_iadd (pc' := 7) dX12_feed_6 rfl ?_
  refine g_sipush (pc' := 10) dX12_feed_7 rfl rfl ?_
  obtain ⟨hob3, hk10, hk11⟩ := h
  refine g_icmp_le (tgt := 15) (pc' := 13) (hob3) (rg_lit rfl) Iff.rfl dX12_feed_10 rfl rfl (fun c4 => ?_) (fun c4 => ?_)
  · have h := hk10 c4
    obtain ⟨ob5, ob6, ob7, ob8, ob9, h⟩ := h
    refine g_aload_n (pc' := 16) 0 dX12_feed_15 rfl rfl ?_
    refine g_getR (pc' := 19) (o := some 106) fl_X12_37 rfl rfl rfl dX12_feed_16 rfl ?_
    refine g_iconst (pc' := 20) dX12_feed_19 rfl ?_
    refine g_iload_n (pc' := 21) 1 dX12_feed_20 rfl rfl ?_
    refine g_iast (pc' := 22) (N := 5) rfl rfl (Nat.lt_of_lt_of_le (Nat.lt_succ_self _) (Nat.le_of_ble_eq_true rfl)) (by decide) ob5 dX12_feed_21 rfl ?_
    refine g_aload_n (pc' := 23) 0 dX12_feed_22 rfl rfl ?_
    refine g_getR (pc' := 26) (o := some 106) fl_X12_37 rfl rfl rfl dX12_feed_23 rfl ?_
    refine g_iconst (pc' := 27) dX12_feed_26 rfl ?_
    refine g_iload_n (pc' := 28) 2 dX12_feed_27 rfl rfl ?_
    refine g_iast (pc' := 29) (N := 5) rfl rfl (Nat.lt_of_lt_of_le (Nat.lt_succ_self _) (Nat.le_of_ble_eq_true rfl)) (by decide) ob6 dX12_feed_28 rfl ?_
    refine g_aload_n (pc' := 30) 0 dX12_feed_29 rfl rfl ?_
    refine g_getR (pc' := 33) (o := some 106) fl_X12_37 rfl rfl rfl dX12_feed_30 rfl ?_
    refine g_iconst (pc' := 34) dX12_feed_33 rfl ?_
    refine g_iload_n (pc' := 35) 3 dX12_feed_34 rfl rfl ?_
    refine g_iast (pc' := 36) (N := 5) rfl rfl (Nat.lt_of_lt_of_le (Nat.lt_succ_self _) (Nat.le_of_ble_eq_true rfl)) (by decide) ob7 dX12_feed_35 rfl ?_
    refine g_aload_n (pc' := 37) 0 dX12_feed_36 rfl rfl ?_
    refine g_getR (pc' := 40) (o := some 106) fl_X12_37 rfl rfl rfl dX12_feed_37 rfl ?_
    refine g_iconst (pc' := 41) dX12_feed_40 rfl ?_
    refine g_iload (pc' := 43) 4 dX12_feed_41 rfl rfl ?_
    refine g_iast (pc' := 44) (N := 5) rfl rfl (Nat.lt_of_lt_of_le (Nat.lt_succ_self _) (Nat.le_of_ble_eq_true rfl)) (by decide) ob8 dX12_feed_43 rfl ?_
    refine g_aload_n (pc' := 45) 0 dX12_feed_44 rfl rfl ?_
    refine g_getR (pc' := 48) (o := some 106) fl_X12_37 rfl rfl rfl dX12_feed_45 rfl ?_
    refine g_iconst (pc' := 49) dX12_feed_48 rfl ?_
    refine g_iload (pc' := 51) 5 dX12_feed_49 rfl rfl ?_
    refine g_iast (pc' := 52) (N := 5) rfl rfl (Nat.lt_of_lt_of_le (Nat.lt_succ_self _) (Nat.le_of_ble_eq_true rfl)) (by decide) ob9 dX12_feed_51 rfl ?_
    refine g_iconst (pc' := 53) dX12_feed_52 rfl ?_
    refine g_istore (pc' := 55) (L' := [(6, vI 0), (0, vR (some 99)), (1, vI p0), (2, vI p1), (3, vI p2), (4, vI p3), (5, vI p4)]) dX12_feed_53 rfl (Nat.le_of_ble_eq_true rfl) rfl ?_
    refine g_sub (L' := [(0, vR (some 99)), (6, vI 0)]) [1, 0] rfl ?_
    exact h
  · have h := hk11 c4
    refine g_iconst (pc' := 14) dX12_feed_13 rfl ?_
    exact g_retI rfl (rg_lit rfl) dX12_feed_14 h
theorem e_X12_feed {w : Wd} {d : Nat} {P : Int → IM → LM → Prop} {i : IM} {l : LM} {p0 : Int} {p1 : Int} {p2 : Int} {p3 : Int} {p4 : Int}  (h : gI w d X_X12_feed P i l 0 [(0, vR (some 99)), (1, vI p0), (2, vI p1), (3, vI p2), (4, vI p3), (5, vI p4)] []) : cI w (d + 1) X_X12_feed [vR (some 99), vI p0, vI p1, vI p2, vI p3, vI p4] i l P := CI_of (by decide +kernel) (Nat.le_of_ble_eq_true rfl) h
set_option maxRecDepth 20000 in
theorem s_X12_feed_55 {w : Wd} {d : Nat} {P : Int → IM → LM → Prop} {i : IM} {l : LM} (x6 : Int)  (h : ((rg x6) ∧ ((20 ≤ x6) → ((rg ((i 99 10) + 20)) ∧ P ((u2 i 99 10 ((i 99 10) + 20)) 99 10) (u2 i 99 10 ((i 99 10) + 20)) l)) ∧ ((¬ (20 ≤ x6)) → ((rg x6) ∧ (0 ≤ Int.tdiv x6 4 ∧ Int.tdiv x6 4 < 5) ∧ (0 ≤ (i 99 10) + x6 ∧ (i 99 10) + x6 < 400) ∧ gI w d X_X12_feed P (u2 i 105 ((i 99 10) + x6) (i8 (i8 (ishr (i 106 (Int.tdiv x6 4)) (24 - (8 * (Int.tmod x6 4))))))) l 55 [(0, vR (some 99)), (6, vI (x6 + 1))] [])))) : gI w d X_X12_feed P i l 55 [(0, vR (some 99)), (6, vI x6)] [] := by
  refine g_iload (pc' := 57) 1 dX12_feed_55 rfl rfl ?_
  refine g_bipush (pc' := 59) dX12_feed_57 rfl rfl ?_
  obtain ⟨hob13, hk27, hk28⟩ := h
  refine g_icmp_ge (tgt := 101) (pc' := 62) (hob13) (rg_lit rfl) Iff.rfl dX12_feed_59 rfl rfl (fun c14 => ?_) (fun c14 => ?_)
  · have h := hk27 c14
    obtain ⟨ob20, h⟩ := h
    refine g_aload_n (pc' := 102) 0 dX12_feed_101 rfl rfl ?_
    refine g_dup (pc' := 103) dX12_feed_102 rfl rfl ?_
    refine g_getI (pc' := 106) (z := 10) rfl fl_X12_174 rfl rfl dX12_feed_103 rfl (fun rg19 => ?_)
    refine g_bipush (pc' := 108) dX12_feed_106 rfl rfl ?_
    refine g_iadd (pc' := 109) dX12_feed_108 rfl ?_
    refine g_putI (pc' := 112) (z := 10) rfl fp_X12_174 rfl rfl ob20 dX12_feed_109 rfl ?_
    refine g_aload_n (pc' := 113) 0 dX12_feed_112 rfl rfl ?_
    refine g_getI (pc' := 116) (z := 10) rfl fl_X12_174 rfl rfl dX12_feed_113 rfl (fun rg21 => ?_)
    exact g_retI rfl rg21 dX12_feed_116 h
  · have h := hk28 c14
    obtain ⟨ob23, ob24, ob26, h⟩ := h
    refine g_aload_n (pc' := 63) 0 dX12_feed_62 rfl rfl ?_
    refine g_getR (pc' := 66) (o := some 105) fl_X12_34 rfl rfl rfl dX12_feed_63 rfl ?_
    refine g_aload_n (pc' := 67) 0 dX12_feed_66 rfl rfl ?_
    refine g_getI (pc' := 70) (z := 10) rfl fl_X12_174 rfl rfl dX12_feed_67 rfl (fun rg22 => ?_)
    refine g_iload (pc' := 72) 1 dX12_feed_70 rfl rfl ?_
    refine g_iadd (pc' := 73) dX12_feed_72 rfl ?_
    refine g_aload_n (pc' := 74) 0 dX12_feed_73 rfl rfl ?_
    refine g_getR (pc' := 77) (o := some 106) fl_X12_37 rfl rfl rfl dX12_feed_74 rfl ?_
    refine g_iload (pc' := 79) 1 dX12_feed_77 rfl rfl ?_
    refine g_iconst (pc' := 80) dX12_feed_79 rfl ?_
    refine g_idiv (pc' := 81) dX12_feed_80 rfl ob23 (rg_lit rfl) (by decide) ?_
    refine g_iald (pc' := 82) (N := 5) rfl rfl (Nat.lt_of_lt_of_le (Nat.lt_succ_self _) (Nat.le_of_ble_eq_true rfl)) ob24 dX12_feed_81 rfl (fun rg25 => ?_)
    refine g_bipush (pc' := 84) dX12_feed_82 rfl rfl ?_
    refine g_bipush (pc' := 86) dX12_feed_84 rfl rfl ?_
    refine g_iload (pc' := 88) 1 dX12_feed_86 rfl rfl ?_
    refine g_iconst (pc' := 89) dX12_feed_88 rfl ?_
    refine g_irem (pc' := 90) dX12_feed_89 rfl ob23 (rg_lit rfl) (by decide) ?_
    refine g_imul (pc' := 91) dX12_feed_90 rfl ?_
    refine g_isub (pc' := 92) dX12_feed_91 rfl ?_
    refine g_ishr (pc' := 93) dX12_feed_92 rfl ?_
    refine g_i2b (pc' := 94) dX12_feed_93 rfl ?_
    refine g_bast (pc' := 95) (N := 400) rfl rfl (Nat.lt_of_lt_of_le (Nat.lt_succ_self _) (Nat.le_of_ble_eq_true rfl)) ob26 dX12_feed_94 rfl ?_
    refine g_iinc (pc' := 98) (L' := [(6, vI (x6 + 1)), (0, vR (some 99))]) 1 dX12_feed_95 rfl (Nat.le_of_ble_eq_true rfl) rfl rfl ?_
    refine g_goto (tgt := 55) dX12_feed_98 rfl ?_
    refine g_sub (L' := [(0, vR (some 99)), (6, vI (x6 + 1))]) [1, 0] rfl ?_
    exact h
