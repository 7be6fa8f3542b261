theorem dX5_fewestOf_0 : decode cX5_fewestOf 0 = .ok (.aload_n 0, 1) := by decide +kernel
theorem dX5_fewestOf_1 : decode cX5_fewestOf 1 = .ok (.getfield 52, 3) := by decide +kernel
theorem dX5_fewestOf_4 : decode cX5_fewestOf 4 = .ok (.bipush 8, 2) := by decide +kernel
theorem dX5_fewestOf_6 : decode cX5_fewestOf 6 = .ok (.iload_n 1, 1) := by decide +kernel
theorem dX5_fewestOf_7 : decode cX5_fewestOf 7 = .ok (.imul, 1) := by decide +kernel
theorem dX5_fewestOf_8 : decode cX5_fewestOf 8 = .ok (.ishr, 1) := by decide +kernel
theorem dX5_fewestOf_9 : decode cX5_fewestOf 9 = .ok (.sipush 255, 3) := by decide +kernel
theorem dX5_fewestOf_12 : decode cX5_fewestOf 12 = .ok (.iand, 1) := by decide +kernel
theorem dX5_fewestOf_13 : decode cX5_fewestOf 13 = .ok (.ireturn, 1) := by decide +kernel
set_option maxRecDepth 20000 in
theorem s_X5_fewestOf {w : Wd} {d : Nat} {P : Int → IM → LM → Prop} {i : IM} {l : LM} (p0 : Int) {a : Nat} (ha : a = 63 ∨ a = 73) (h : P (iand (ishr (i a 14) (8 * p0)) 255) i l) : gI w d X_X5_fewestOf P i l 0 [(0, vR (some a)), (1, vI p0)] [] := by
  refine g_aload_n (pc' := 1) 0 dX5_fewestOf_0 rfl rfl ?_
  refine g_getI (pc' := 4) (z := 14) rfl fl_X5_52 (shP0 ha) rfl dX5_fewestOf_1 rfl (fun rg1 => ?_)
  refine g_bipush (pc' := 6) dX5_fewestOf_4 rfl rfl ?_
  refine g_iload_n (pc' := 7) 1 dX5_fewestOf_6 rfl rfl ?_
  refine g_imul (pc' := 8) dX5_fewestOf_7 rfl ?_
  refine g_ishr (pc' := 9) dX5_fewestOf_8 rfl ?_
  refine g_sipush (pc' := 12) dX5_fewestOf_9 rfl rfl ?_
  refine g_iand (pc' := 13) dX5_fewestOf_12 rfl ?_
  exact g_retI rfl (rg_iand _ _) dX5_fewestOf_13 h
theorem e_X5_fewestOf {w : Wd} {d : Nat} {P : Int → IM → LM → Prop} {i : IM} {l : LM} {p0 : Int} {a : Nat} (h : gI w d X_X5_fewestOf P i l 0 [(0, vR (some a)), (1, vI p0)] []) : cI w (d + 1) X_X5_fewestOf [vR (some a), vI p0] i l P := CI_of (by decide +kernel) (Nat.le_of_ble_eq_true rfl) h

theorem dX5_survey_0 : decode cX5_survey 0 = .ok (.aload_n 0, 1) := by decide +kernel
theorem dX5_survey_1 : decode cX5_survey 1 = .ok (.getfield 40, 3) := by decide +kernel
theorem dX5_survey_4 : decode cX5_survey 4 = .ok (.aload_n 0, 1) := by decide +kernel
theorem dX5_survey_5 : decode cX5_survey 5 = .ok (.getfield 44, 3) := by decide +kernel
theorem dX5_survey_8 : decode cX5_survey 8 = .ok (.getfield 55, 3) := by decide +kernel
theorem dX5_survey_11 : decode cX5_survey 11 = .ok (.if_icmp .ne 12, 3) := by decide +kernel
theorem dX5_survey_14 : decode cX5_survey 14 = .ok (.aload_n 0, 1) := by decide +kernel
theorem dX5_survey_15 : decode cX5_survey 15 = .ok (.getfield 58, 3) := by decide +kernel
theorem dX5_survey_18 : decode cX5_survey 18 = .ok (.iload_n 1, 1) := by decide +kernel
theorem dX5_survey_19 : decode cX5_survey 19 = .ok (.if_icmp .ne 4, 3) := by decide +kernel
theorem dX5_survey_22 : decode cX5_survey 22 = .ok (.return_, 1) := by decide +kernel
theorem dX5_survey_23 : decode cX5_survey 23 = .ok (.aload_n 0, 1) := by decide +kernel
theorem dX5_survey_24 : decode cX5_survey 24 = .ok (.aload_n 0, 1) := by decide +kernel
theorem dX5_survey_25 : decode cX5_survey 25 = .ok (.getfield 44, 3) := by decide +kernel
theorem dX5_survey_28 : decode cX5_survey 28 = .ok (.getfield 55, 3) := by decide +kernel
theorem dX5_survey_31 : decode cX5_survey 31 = .ok (.putfield 40, 3) := by decide +kernel
theorem dX5_survey_34 : decode cX5_survey 34 = .ok (.aload_n 0, 1) := by decide +kernel
theorem dX5_survey_35 : decode cX5_survey 35 = .ok (.iload_n 1, 1) := by decide +kernel
theorem dX5_survey_36 : decode cX5_survey 36 = .ok (.putfield 58, 3) := by decide +kernel
theorem dX5_survey_39 : decode cX5_survey 39 = .ok (.aload_n 0, 1) := by decide +kernel
theorem dX5_survey_40 : decode cX5_survey 40 = .ok (.iconst 0, 1) := by decide +kernel
theorem dX5_survey_41 : decode cX5_survey 41 = .ok (.sipush 255, 3) := by decide +kernel
theorem dX5_survey_44 : decode cX5_survey 44 = .ok (.iconst (-1), 1) := by decide +kernel
theorem dX5_survey_45 : decode cX5_survey 45 = .ok (.invokevirtual 61, 3) := by decide +kernel
theorem dX5_survey_48 : decode cX5_survey 48 = .ok (.aload_n 0, 1) := by decide +kernel
theorem dX5_survey_49 : decode cX5_survey 49 = .ok (.iconst 0, 1) := by decide +kernel
theorem dX5_survey_50 : decode cX5_survey 50 = .ok (.putfield 65, 3) := by decide +kernel
theorem dX5_survey_53 : decode cX5_survey 53 = .ok (.aload_n 0, 1) := by decide +kernel
theorem dX5_survey_54 : decode cX5_survey 54 = .ok (.invokevirtual 68, 3) := by decide +kernel
theorem dX5_survey_57 : decode cX5_survey 57 = .ok (.return_, 1) := by decide +kernel
set_option maxRecDepth 20000 in
theorem s_X5_survey {w : Wd} {d : Nat} {P : IM → LM → Prop} {i : IM} {l : LM} (p0 : Int) {a : Nat} (ha : a = 63 ∨ a = 73) (h : (((i a 18 = i 7 15) → rg p0) ∧ (((i a 18 = i 7 15) ∧ (i a 17 = p0)) → P i l) ∧ ((¬ ((i a 18 = i 7 15) ∧ (i a 17 = p0))) → gV w d X_X5_survey P i l 23 [(0, vR (some a)), (1, vI p0)] []))) : gV w d X_X5_survey P i l 0 [(0, vR (some a)), (1, vI p0)] [] := by
  refine g_aload_n (pc' := 1) 0 dX5_survey_0 rfl rfl ?_
  refine g_getI (pc' := 4) (z := 18) rfl fl_X5_40 (shP0 ha) rfl dX5_survey_1 rfl (fun rg1 => ?_)
  refine g_aload_n (pc' := 5) 0 dX5_survey_4 rfl rfl ?_
  refine g_getR (pc' := 8) (o := some 7) fl_X5_44 (shP0 ha) rfl (rfPt ha) dX5_survey_5 rfl ?_
  refine g_getI (pc' := 11) (z := 15) rfl fl_X5_55 rfl rfl dX5_survey_8 rfl (fun rg2 => ?_)
  obtain ⟨hob6, hk8, hk9⟩ := h
  have hk8g : ((i a 18 = i 7 15) ∧ (i a 17 = p0)) → gV w d X_X5_survey P i l 22 [(0, vR (some a)), (1, vI p0)] [] := by
    intro hp
    have h := hk8 hp
    exact g_retV rfl dX5_survey_22 h
  have hk9g : (¬ ((i a 18 = i 7 15) ∧ (i a 17 = p0))) → gV w d X_X5_survey P i l 23 [(0, vR (some a)), (1, vI p0)] [] := by
    intro hp
    have h := hk9 hp
    exact h
  refine g_icmp_ne (tgt := 23) (pc' := 14) rg1 rg2 Iff.rfl dX5_survey_11 rfl rfl (fun c4 => ?_) (fun c4 => ?_)
  · exact hk9g (fun q => c4 q.1)
  · refine g_aload_n (pc' := 15) 0 dX5_survey_14 rfl rfl ?_
    refine g_getI (pc' := 18) (z := 17) rfl fl_X5_58 (shP0 ha) rfl dX5_survey_15 rfl (fun rg5 => ?_)
    refine g_iload_n (pc' := 19) 1 dX5_survey_18 rfl rfl ?_
    refine g_icmp_ne (tgt := 23) (pc' := 22) rg5 (hob6 c4) Iff.rfl dX5_survey_19 rfl rfl (fun c7 => ?_) (fun c7 => ?_)
    · exact hk9g (fun q => c7 q.2)
    · exact hk8g ⟨c4, c7⟩
theorem e_X5_survey {w : Wd} {d : Nat} {P : IM → LM → Prop} {i : IM} {l : LM} {p0 : Int} {a : Nat} (h : gV w d X_X5_survey P i l 0 [(0, vR (some a)), (1, vI p0)] []) : cVd w (d + 1) X_X5_survey [vR (some a), vI p0] i l P := CV_of (by decide +kernel) (Nat.le_of_ble_eq_true rfl) h
set_option maxRecDepth 20000 in
theorem s_X5_survey_23 {w : Wd} {d : Nat} {P : IM → LM → Prop} {i : IM} {l : LM} (x1 : Int) {a : Nat} (ha : a = 63 ∨ a = 73) (h : ((rg x1) ∧ cVd w d X_X5_start [vR (some a), vI 0, vI 255, vI (-1)] (u2 (u2 i a 18 (i 7 15)) a 17 x1) l (fun i12 l12 => cVd w d X_X5_go [vR (some a)] (u2 i12 a 12 0) l12 (fun i13 l13 => P i13 l13)))) : gV w d X_X5_survey P i l 23 [(0, vR (some a)), (1, vI x1)] [] := by
  obtain ⟨ob11, h⟩ := h
  refine g_aload_n (pc' := 24) 0 dX5_survey_23 rfl rfl ?_
  refine g_aload_n (pc' := 25) 0 dX5_survey_24 rfl rfl ?_
  refine g_getR (pc' := 28) (o := some 7) fl_X5_44 (shP0 ha) rfl (rfPt ha) dX5_survey_25 rfl ?_
  refine g_getI (pc' := 31) (z := 15) rfl fl_X5_55 rfl rfl dX5_survey_28 rfl (fun rg10 => ?_)
  refine g_putI (pc' := 34) (z := 18) rfl fp_X5_40 (shP0 ha) rfl rg10 dX5_survey_31 rfl ?_
  refine g_aload_n (pc' := 35) 0 dX5_survey_34 rfl rfl ?_
  refine g_iload_n (pc' := 36) 1 dX5_survey_35 rfl rfl ?_
  refine g_putI (pc' := 39) (z := 17) rfl fp_X5_58 (shP0 ha) rfl ob11 dX5_survey_36 rfl ?_
  refine g_aload_n (pc' := 40) 0 dX5_survey_39 rfl rfl ?_
  refine g_iconst (pc' := 41) dX5_survey_40 rfl ?_
  refine g_sipush (pc' := 44) dX5_survey_41 rfl rfl ?_
  refine g_iconst (pc' := 45) dX5_survey_44 rfl ?_
  refine g_cVV (pc' := 48) (vs := [vI 0, vI 255, vI (-1)]) (st := []) (c := 5) h mv_X5_start lk_X5_61 rfl rfl (shP0 ha) rfl (Nat.le_of_ble_eq_true rfl) (Nat.le_of_ble_eq_true rfl) rfl dX5_survey_45 rfl z2 (fun i12 l12 h => ?_)
  refine g_aload_n (pc' := 49) 0 dX5_survey_48 rfl rfl ?_
  refine g_iconst (pc' := 50) dX5_survey_49 rfl ?_
  refine g_putI (pc' := 53) (z := 12) rfl fp_X5_65 (shP0 ha) rfl (rg_lit rfl) dX5_survey_50 rfl ?_
  refine g_aload_n (pc' := 54) 0 dX5_survey_53 rfl rfl ?_
  refine g_cVV (pc' := 57) (vs := []) (st := []) (c := 5) h mv_X5_go lk_X5_68 rfl rfl (shP0 ha) rfl (Nat.le_of_ble_eq_true rfl) (Nat.le_of_ble_eq_true rfl) rfl dX5_survey_54 rfl z2 (fun i13 l13 h => ?_)
  exact g_retV rfl dX5_survey_57 h

theorem dX5_finds_0 : decode cX5_finds 0 = .ok (.aload_n 0, 1) := by decide +kernel
theorem dX5_finds_1 : decode cX5_finds 1 = .ok (.iconst 1, 1) := by decide +kernel
theorem dX5_finds_2 : decode cX5_finds 2 = .ok (.iload_n 1, 1) := by decide +kernel
theorem dX5_finds_3 : decode cX5_finds 3 = .ok (.iconst (-1), 1) := by decide +kernel
theorem dX5_finds_4 : decode cX5_finds 4 = .ok (.invokevirtual 61, 3) := by decide +kernel
theorem dX5_finds_7 : decode cX5_finds 7 = .ok (.aload_n 0, 1) := by decide +kernel
theorem dX5_finds_8 : decode cX5_finds 8 = .ok (.iconst 0, 1) := by decide +kernel
theorem dX5_finds_9 : decode cX5_finds 9 = .ok (.putfield 65, 3) := by decide +kernel
theorem dX5_finds_12 : decode cX5_finds 12 = .ok (.aload_n 0, 1) := by decide +kernel
theorem dX5_finds_13 : decode cX5_finds 13 = .ok (.invokevirtual 68, 3) := by decide +kernel
theorem dX5_finds_16 : decode cX5_finds 16 = .ok (.aload_n 0, 1) := by decide +kernel
theorem dX5_finds_17 : decode cX5_finds 17 = .ok (.getfield 71, 3) := by decide +kernel
theorem dX5_finds_20 : decode cX5_finds 20 = .ok (.ifCond .le 7, 3) := by decide +kernel
theorem dX5_finds_23 : decode cX5_finds 23 = .ok (.iconst 1, 1) := by decide +kernel
theorem dX5_finds_24 : decode cX5_finds 24 = .ok (.goto 4, 3) := by decide +kernel
theorem dX5_finds_27 : decode cX5_finds 27 = .ok (.iconst 0, 1) := by decide +kernel
theorem dX5_finds_28 : decode cX5_finds 28 = .ok (.ireturn, 1) := by decide +kernel
set_option maxRecDepth 20000 in
theorem s_X5_finds {w : Wd} {d : Nat} {P : Int → IM → LM → Prop} {i : IM} {l : LM} (p0 : Int) {a : Nat} (ha : a = 63 ∨ a = 73) (h : cVd w d X_X5_start [vR (some a), vI 1, vI p0, vI (-1)] i l (fun i1 l1 => cVd w d X_X5_go [vR (some a)] (u2 i1 a 12 0) l1 (fun i2 l2 => P (bI (¬ (i2 a 11 ≤ 0))) i2 l2))) : gI w d X_X5_finds P i l 0 [(0, vR (some a)), (1, vI p0)] [] := by
  refine g_aload_n (pc' := 1) 0 dX5_finds_0 rfl rfl ?_
  refine g_iconst (pc' := 2) dX5_finds_1 rfl ?_
  refine g_iload_n (pc' := 3) 1 dX5_finds_2 rfl rfl ?_
  refine g_iconst (pc' := 4) dX5_finds_3 rfl ?_
  refine g_cVV (pc' := 7) (vs := [vI 1, vI p0, vI (-1)]) (st := []) (c := 5) h mv_X5_start lk_X5_61 rfl rfl (shP0 ha) rfl (Nat.le_of_ble_eq_true rfl) (Nat.le_of_ble_eq_true rfl) rfl dX5_finds_4 rfl z2 (fun i1 l1 h => ?_)
  refine g_aload_n (pc' := 8) 0 dX5_finds_7 rfl rfl ?_
  refine g_iconst (pc' := 9) dX5_finds_8 rfl ?_
  refine g_putI (pc' := 12) (z := 12) rfl fp_X5_65 (shP0 ha) rfl (rg_lit rfl) dX5_finds_9 rfl ?_
  refine g_aload_n (pc' := 13) 0 dX5_finds_12 rfl rfl ?_
  refine g_cVV (pc' := 16) (vs := []) (st := []) (c := 5) h mv_X5_go lk_X5_68 rfl rfl (shP0 ha) rfl (Nat.le_of_ble_eq_true rfl) (Nat.le_of_ble_eq_true rfl) rfl dX5_finds_13 rfl z2 (fun i2 l2 h => ?_)
  refine g_aload_n (pc' := 17) 0 dX5_finds_16 rfl rfl ?_
  refine g_getI (pc' := 20) (z := 11) rfl fl_X5_71 (shP0 ha) rfl dX5_finds_17 rfl (fun rg3 => ?_)
  have hJ : gI w d X_X5_finds P i2 l2 28 [(0, vR (some a)), (1, vI p0)] [vI (bI (¬ (i2 a 11 ≤ 0)))] := by
    exact g_retZ rfl (bI_01 _) dX5_finds_28 h
  refine g_if_le (tgt := 27) (pc' := 23) rg3 Iff.rfl dX5_finds_20 rfl rfl (fun c5 => ?_) (fun c5 => ?_)
  · refine g_iconst (pc' := 28) dX5_finds_27 rfl ?_
    rw [bI_f (p := (¬ (i2 a 11 ≤ 0))) (fun q => q c5)] at hJ
    exact hJ
  · refine g_iconst (pc' := 24) dX5_finds_23 rfl ?_
    refine g_goto (tgt := 28) dX5_finds_24 rfl ?_
    rw [bI_t (p := (¬ (i2 a 11 ≤ 0))) c5] at hJ
    exact hJ
theorem e_X5_finds {w : Wd} {d : Nat} {P : Int → IM → LM → Prop} {i : IM} {l : LM} {p0 : Int} {a : Nat} (h : gI w d X_X5_finds P i l 0 [(0, vR (some a)), (1, vI p0)] []) : cI w (d + 1) X_X5_finds [vR (some a), vI p0] i l P := CI_of (by decide +kernel) (Nat.le_of_ble_eq_true rfl) h

theorem dX5_highest_0 : decode cX5_highest 0 = .ok (.aload_n 0, 1) := by decide +kernel
theorem dX5_highest_1 : decode cX5_highest 1 = .ok (.iconst 2, 1) := by decide +kernel
theorem dX5_highest_2 : decode cX5_highest 2 = .ok (.sipush 255, 3) := by decide +kernel
theorem dX5_highest_5 : decode cX5_highest 5 = .ok (.iload_n 1, 1) := by decide +kernel
theorem dX5_highest_6 : decode cX5_highest 6 = .ok (.invokevirtual 61, 3) := by decide +kernel
theorem dX5_highest_9 : decode cX5_highest 9 = .ok (.aload_n 0, 1) := by decide +kernel
theorem dX5_highest_10 : decode cX5_highest 10 = .ok (.iload_n 2, 1) := by decide +kernel
theorem dX5_highest_11 : decode cX5_highest 11 = .ok (.putfield 74, 3) := by decide +kernel
theorem dX5_highest_14 : decode cX5_highest 14 = .ok (.aload_n 0, 1) := by decide +kernel
theorem dX5_highest_15 : decode cX5_highest 15 = .ok (.iconst 1, 1) := by decide +kernel
theorem dX5_highest_16 : decode cX5_highest 16 = .ok (.putfield 65, 3) := by decide +kernel
theorem dX5_highest_19 : decode cX5_highest 19 = .ok (.aload_n 0, 1) := by decide +kernel
theorem dX5_highest_20 : decode cX5_highest 20 = .ok (.invokevirtual 68, 3) := by decide +kernel
theorem dX5_highest_23 : decode cX5_highest 23 = .ok (.aload_n 0, 1) := by decide +kernel
theorem dX5_highest_24 : decode cX5_highest 24 = .ok (.getfield 74, 3) := by decide +kernel
theorem dX5_highest_27 : decode cX5_highest 27 = .ok (.ireturn, 1) := by decide +kernel
set_option maxRecDepth 20000 in
theorem s_X5_highest {w : Wd} {d : Nat} {P : Int → IM → LM → Prop} {i : IM} {l : LM} (p0 : Int) (p1 : Int) {a : Nat} (ha : a = 63 ∨ a = 73) (h : cVd w d X_X5_start [vR (some a), vI 2, vI 255, vI p0] i l (fun i1 l1 => ((rg p1) ∧ cVd w d X_X5_go [vR (some a)] (u2 (u2 i1 a 13 p1) a 12 1) l1 (fun i3 l3 => P (i3 a 13) i3 l3)))) : gI w d X_X5_highest P i l 0 [(0, vR (some a)), (1, vI p0), (2, vI p1)] [] := by
  refine g_aload_n (pc' := 1) 0 dX5_highest_0 rfl rfl ?_
  refine g_iconst (pc' := 2) dX5_highest_1 rfl ?_
  refine g_sipush (pc' := 5) dX5_highest_2 rfl rfl ?_
  refine g_iload_n (pc' := 6) 1 dX5_highest_5 rfl rfl ?_
  refine g_cVV (pc' := 9) (vs := [vI 2, vI 255, vI p0]) (st := []) (c := 5) h mv_X5_start lk_X5_61 rfl rfl (shP0 ha) rfl (Nat.le_of_ble_eq_true rfl) (Nat.le_of_ble_eq_true rfl) rfl dX5_highest_6 rfl z2 (fun i1 l1 h => ?_)
  obtain ⟨ob2, h⟩ := h
  refine g_aload_n (pc' := 10) 0 dX5_highest_9 rfl rfl ?_
  refine g_iload_n (pc' := 11) 2 dX5_highest_10 rfl rfl ?_
  refine g_putI (pc' := 14) (z := 13) rfl fp_X5_74 (shP0 ha) rfl ob2 dX5_highest_11 rfl ?_
  refine g_aload_n (pc' := 15) 0 dX5_highest_14 rfl rfl ?_
  refine g_iconst (pc' := 16) dX5_highest_15 rfl ?_
  refine g_putI (pc' := 19) (z := 12) rfl fp_X5_65 (shP0 ha) rfl (rg_lit rfl) dX5_highest_16 rfl ?_
  refine g_aload_n (pc' := 20) 0 dX5_highest_19 rfl rfl ?_
  refine g_cVV (pc' := 23) (vs := []) (st := []) (c := 5) h mv_X5_go lk_X5_68 rfl rfl (shP0 ha) rfl (Nat.le_of_ble_eq_true rfl) (Nat.le_of_ble_eq_true rfl) rfl dX5_highest_20 rfl z2 (fun i3 l3 h => ?_)
  refine g_aload_n (pc' := 24) 0 dX5_highest_23 rfl rfl ?_
  refine g_getI (pc' := 27) (z := 13) rfl fl_X5_74 (shP0 ha) rfl dX5_highest_24 rfl (fun rg4 => ?_)
  exact g_retI rfl rg4 dX5_highest_27 h
theorem e_X5_highest {w : Wd} {d : Nat} {P : Int → IM → LM → Prop} {i : IM} {l : LM} {p0 : Int} {p1 : Int} {a : Nat} (h : gI w d X_X5_highest P i l 0 [(0, vR (some a)), (1, vI p0), (2, vI p1)] []) : cI w (d + 1) X_X5_highest [vR (some a), vI p0, vI p1] i l P := CI_of (by decide +kernel) (Nat.le_of_ble_eq_true rfl) h

theorem dX5_start_0 : decode cX5_start 0 = .ok (.aload_n 0, 1) := by decide +kernel
theorem dX5_start_1 : decode cX5_start 1 = .ok (.iload_n 1, 1) := by decide +kernel
theorem dX5_start_2 : decode cX5_start 2 = .ok (.putfield 77, 3) := by decide +kernel
theorem dX5_start_5 : decode cX5_start 5 = .ok (.aload_n 0, 1) := by decide +kernel
theorem dX5_start_6 : decode cX5_start 6 = .ok (.iload_n 2, 1) := by decide +kernel
theorem dX5_start_7 : decode cX5_start 7 = .ok (.invokestatic 80, 3) := by decide +kernel
theorem dX5_start_10 : decode cX5_start 10 = .ok (.putfield 86, 3) := by decide +kernel
theorem dX5_start_13 : decode cX5_start 13 = .ok (.aload_n 0, 1) := by decide +kernel
theorem dX5_start_14 : decode cX5_start 14 = .ok (.iconst 0, 1) := by decide +kernel
theorem dX5_start_15 : decode cX5_start 15 = .ok (.putfield 71, 3) := by decide +kernel
theorem dX5_start_18 : decode cX5_start 18 = .ok (.aload_n 0, 1) := by decide +kernel
theorem dX5_start_19 : decode cX5_start 19 = .ok (.ldc 90, 2) := by decide +kernel
theorem dX5_start_21 : decode cX5_start 21 = .ok (.putfield 52, 3) := by decide +kernel
theorem dX5_start_24 : decode cX5_start 24 = .ok (.iconst 0, 1) := by decide +kernel
theorem dX5_start_25 : decode cX5_start 25 = .ok (.istore 4, 2) := by decide +kernel
theorem dX5_start_27 : decode cX5_start 27 = .ok (.iload 4, 2) := by decide +kernel
theorem dX5_start_29 : decode cX5_start 29 = .ok (.aload_n 0, 1) := by decide +kernel
theorem dX5_start_30 : decode cX5_start 30 = .ok (.getfield 48, 3) := by decide +kernel
theorem dX5_start_33 : decode cX5_start 33 = .ok (.getfield 91, 3) := by decide +kernel
theorem dX5_start_36 : decode cX5_start 36 = .ok (.if_icmp .ge 35, 3) := by decide +kernel
theorem dX5_start_39 : decode cX5_start 39 = .ok (.aload_n 0, 1) := by decide +kernel
theorem dX5_start_40 : decode cX5_start 40 = .ok (.getfield 15, 3) := by decide +kernel
theorem dX5_start_43 : decode cX5_start 43 = .ok (.iload 4, 2) := by decide +kernel
theorem dX5_start_45 : decode cX5_start 45 = .ok (.aload_n 0, 1) := by decide +kernel
theorem dX5_start_46 : decode cX5_start 46 = .ok (.getfield 48, 3) := by decide +kernel
theorem dX5_start_49 : decode cX5_start 49 = .ok (.iload 4, 2) := by decide +kernel
theorem dX5_start_51 : decode cX5_start 51 = .ok (.iload_n 2, 1) := by decide +kernel
theorem dX5_start_52 : decode cX5_start 52 = .ok (.iload_n 3, 1) := by decide +kernel
theorem dX5_start_53 : decode cX5_start 53 = .ok (.invokevirtual 94, 3) := by decide +kernel
theorem dX5_start_56 : decode cX5_start 56 = .ok (.lastore, 1) := by decide +kernel
theorem dX5_start_57 : decode cX5_start 57 = .ok (.aload_n 0, 1) := by decide +kernel
theorem dX5_start_58 : decode cX5_start 58 = .ok (.getfield 9, 3) := by decide +kernel
theorem dX5_start_61 : decode cX5_start 61 = .ok (.iload 4, 2) := by decide +kernel
theorem dX5_start_63 : decode cX5_start 63 = .ok (.lconst 0, 1) := by decide +kernel
theorem dX5_start_64 : decode cX5_start 64 = .ok (.lastore, 1) := by decide +kernel
theorem dX5_start_65 : decode cX5_start 65 = .ok (.iinc 4 1, 3) := by decide +kernel
theorem dX5_start_68 : decode cX5_start 68 = .ok (.goto (-41), 3) := by decide +kernel
theorem dX5_start_71 : decode cX5_start 71 = .ok (.aload_n 0, 1) := by decide +kernel
theorem dX5_start_72 : decode cX5_start 72 = .ok (.getfield 22, 3) := by decide +kernel
theorem dX5_start_75 : decode cX5_start 75 = .ok (.aload_n 0, 1) := by decide +kernel
theorem dX5_start_76 : decode cX5_start 76 = .ok (.getfield 44, 3) := by decide +kernel
theorem dX5_start_79 : decode cX5_start 79 = .ok (.getfield 98, 3) := by decide +kernel
theorem dX5_start_82 : decode cX5_start 82 = .ok (.iconst 1, 1) := by decide +kernel
theorem dX5_start_83 : decode cX5_start 83 = .ok (.iastore, 1) := by decide +kernel
theorem dX5_start_84 : decode cX5_start 84 = .ok (.aload_n 0, 1) := by decide +kernel
theorem dX5_start_85 : decode cX5_start 85 = .ok (.getfield 25, 3) := by decide +kernel
theorem dX5_start_88 : decode cX5_start 88 = .ok (.aload_n 0, 1) := by decide +kernel
theorem dX5_start_89 : decode cX5_start 89 = .ok (.getfield 44, 3) := by decide +kernel
theorem dX5_start_92 : decode cX5_start 92 = .ok (.getfield 98, 3) := by decide +kernel
theorem dX5_start_95 : decode cX5_start 95 = .ok (.iconst 1, 1) := by decide +kernel
theorem dX5_start_96 : decode cX5_start 96 = .ok (.iastore, 1) := by decide +kernel
theorem dX5_start_97 : decode cX5_start 97 = .ok (.aload_n 0, 1) := by decide +kernel
theorem dX5_start_98 : decode cX5_start 98 = .ok (.getfield 28, 3) := by decide +kernel
theorem dX5_start_101 : decode cX5_start 101 = .ok (.aload_n 0, 1) := by decide +kernel
theorem dX5_start_102 : decode cX5_start 102 = .ok (.getfield 44, 3) := by decide +kernel
theorem dX5_start_105 : decode cX5_start 105 = .ok (.getfield 98, 3) := by decide +kernel
theorem dX5_start_108 : decode cX5_start 108 = .ok (.iconst 0, 1) := by decide +kernel
theorem dX5_start_109 : decode cX5_start 109 = .ok (.iastore, 1) := by decide +kernel
theorem dX5_start_110 : decode cX5_start 110 = .ok (.aload_n 0, 1) := by decide +kernel
theorem dX5_start_111 : decode cX5_start 111 = .ok (.getfield 31, 3) := by decide +kernel
theorem dX5_start_114 : decode cX5_start 114 = .ok (.aload_n 0, 1) := by decide +kernel
theorem dX5_start_115 : decode cX5_start 115 = .ok (.getfield 44, 3) := by decide +kernel
theorem dX5_start_118 : decode cX5_start 118 = .ok (.getfield 98, 3) := by decide +kernel
theorem dX5_start_121 : decode cX5_start 121 = .ok (.iconst 0, 1) := by decide +kernel
theorem dX5_start_122 : decode cX5_start 122 = .ok (.iastore, 1) := by decide +kernel
theorem dX5_start_123 : decode cX5_start 123 = .ok (.aload_n 0, 1) := by decide +kernel
theorem dX5_start_124 : decode cX5_start 124 = .ok (.getfield 44, 3) := by decide +kernel
theorem dX5_start_127 : decode cX5_start 127 = .ok (.getfield 98, 3) := by decide +kernel
theorem dX5_start_130 : decode cX5_start 130 = .ok (.iconst 1, 1) := by decide +kernel
theorem dX5_start_131 : decode cX5_start 131 = .ok (.isub, 1) := by decide +kernel
theorem dX5_start_132 : decode cX5_start 132 = .ok (.istore 4, 2) := by decide +kernel
theorem dX5_start_134 : decode cX5_start 134 = .ok (.iload 4, 2) := by decide +kernel
theorem dX5_start_136 : decode cX5_start 136 = .ok (.ifCond .lt 15, 3) := by decide +kernel
theorem dX5_start_139 : decode cX5_start 139 = .ok (.aload_n 0, 1) := by decide +kernel
theorem dX5_start_140 : decode cX5_start 140 = .ok (.iload 4, 2) := by decide +kernel
theorem dX5_start_142 : decode cX5_start 142 = .ok (.invokevirtual 101, 3) := by decide +kernel
theorem dX5_start_145 : decode cX5_start 145 = .ok (.iinc 4 (-1), 3) := by decide +kernel
theorem dX5_start_148 : decode cX5_start 148 = .ok (.goto (-14), 3) := by decide +kernel
theorem dX5_start_151 : decode cX5_start 151 = .ok (.return_, 1) := by decide +kernel
set_option maxRecDepth 20000 in
theorem s_X5_start {w : Wd} {d : Nat} {P : IM → LM → Prop} {i : IM} {l : LM} (p0 : Int) (p1 : Int) (p2 : Int) {a : Nat} (ha : a = 63 ∨ a = 73) (hd : 1 ≤ d) (h : ((rg p0) ∧ gV w d X_X5_start P (u2 (u2 (u2 i a 15 p0) a 11 0) a 14 16777215) (u2l l a 16 (bytL p1)) 27 [(0, vR (some a)), (2, vI p1), (3, vI p2), (4, vI 0)] [])) : gV w d X_X5_start P i l 0 [(0, vR (some a)), (1, vI p0), (2, vI p1), (3, vI p2)] [] := by
  obtain ⟨ob1, h⟩ := h
  refine g_aload_n (pc' := 1) 0 dX5_start_0 rfl rfl ?_
  refine g_iload_n (pc' := 2) 1 dX5_start_1 rfl rfl ?_
  refine g_putI (pc' := 5) (z := 15) rfl fp_X5_77 (shP0 ha) rfl ob1 dX5_start_2 rfl ?_
  refine g_aload_n (pc' := 6) 0 dX5_start_5 rfl rfl ?_
  refine g_iload_n (pc' := 7) 2 dX5_start_6 rfl rfl ?_
  refine g_pSL (pc' := 10) (vs := [vI p1]) (st := [vR (some a)]) (val := bytL p1) (sp_X1_bytesOf (le_hd hd rfl) ) mk_X1_bytesOf ms_X1_bytesOf lk_X5_80 rfl (Nat.le_of_ble_eq_true rfl) (Nat.le_of_ble_eq_true rfl) rfl dX5_start_7 rfl z2 ?_
  refine g_putL (pc' := 13) (z := 16) rfl fp_X5_86 (shP0 ha) rfl dX5_start_10 rfl ?_
  refine g_aload_n (pc' := 14) 0 dX5_start_13 rfl rfl ?_
  refine g_iconst (pc' := 15) dX5_start_14 rfl ?_
  refine g_putI (pc' := 18) (z := 11) rfl fp_X5_71 (shP0 ha) rfl (rg_lit rfl) dX5_start_15 rfl ?_
  refine g_aload_n (pc' := 19) 0 dX5_start_18 rfl rfl ?_
  refine g_ldc (pc' := 21) dX5_start_19 rfl kc_X5_90 ?_
  refine g_putI (pc' := 24) (z := 14) rfl fp_X5_52 (shP0 ha) rfl (rg_lit rfl) dX5_start_21 rfl ?_
  refine g_iconst (pc' := 25) dX5_start_24 rfl ?_
  refine g_istore (pc' := 27) (L' := [(4, vI 0), (0, vR (some a)), (1, vI p0), (2, vI p1), (3, vI p2)]) dX5_start_25 rfl (Nat.le_of_ble_eq_true rfl) rfl ?_
  refine g_sub (L' := [(0, vR (some a)), (2, vI p1), (3, vI p2), (4, vI 0)]) [1, 3, 4, 0] rfl ?_
  exact h
theorem e_X5_start {w : Wd} {d : Nat} {P : IM → LM → Prop} {i : IM} {l : LM} {p0 : Int} {p1 : Int} {p2 : Int} {a : Nat} (h : gV w d X_X5_start P i l 0 [(0, vR (some a)), (1, vI p0), (2, vI p1), (3, vI p2)] []) : cVd w (d + 1) X_X5_start [vR (some a), vI p0, vI p1, vI p2] i l P := CV_of (by decide +kernel) (Nat.le_of_ble_eq_true rfl) h
set_option maxRecDepth 20000 in
theorem s_X5_start_27 {w : Wd} {d : Nat} {P : IM → LM → Prop} {i : IM} {l : LM} (x2 : Int) (x3 : Int) (x4 : Int) {a : Nat} (ha : a = 63 ∨ a = 73) (hd : 2 ≤ d) (h : ((rg x4) ∧ ((i 51 13 ≤ x4) → ((0 ≤ i 7 8 ∧ i 7 8 < 11) ∧ (0 ≤ (u2 i (a + 4) (i 7 8) 1) 7 8 ∧ (u2 i (a + 4) (i 7 8) 1) 7 8 < 11) ∧ (0 ≤ (u2 (u2 i (a + 4) (i 7 8) 1) (a + 5) ((u2 i (a + 4) (i 7 8) 1) 7 8) 1) 7 8 ∧ (u2 (u2 i (a + 4) (i 7 8) 1) (a + 5) ((u2 i (a + 4) (i 7 8) 1) 7 8) 1) 7 8 < 11) ∧ (0 ≤ (u2 (u2 (u2 i (a + 4) (i 7 8) 1) (a + 5) ((u2 i (a + 4) (i 7 8) 1) 7 8) 1) (a + 6) ((u2 (u2 i (a + 4) (i 7 8) 1) (a + 5) ((u2 i (a + 4) (i 7 8) 1) 7 8) 1) 7 8) 0) 7 8 ∧ (u2 (u2 (u2 i (a + 4) (i 7 8) 1) (a + 5) ((u2 i (a + 4) (i 7 8) 1) 7 8) 1) (a + 6) ((u2 (u2 i (a + 4) (i 7 8) 1) (a + 5) ((u2 i (a + 4) (i 7 8) 1) 7 8) 1) 7 8) 0) 7 8 < 11) ∧ gV w d X_X5_start P (u2 (u2 (u2 (u2 i (a + 4) (i 7 8) 1) (a + 5) ((u2 i (a + 4) (i 7 8) 1) 7 8) 1) (a + 6) ((u2 (u2 i (a + 4) (i 7 8) 1) (a + 5) ((u2 i (a + 4) (i 7 8) 1) 7 8) 1) 7 8) 0) (a + 7) ((u2 (u2 (u2 i (a + 4) (i 7 8) 1) (a + 5) ((u2 i (a + 4) (i 7 8) 1) 7 8) 1) (a + 6) ((u2 (u2 i (a + 4) (i 7 8) 1) (a + 5) ((u2 i (a + 4) (i 7 8) 1) 7 8) 1) 7 8) 0) 7 8) 0) l 134 [(0, vR (some a)), (4, vI (((u2 (u2 (u2 (u2 i (a + 4) (i 7 8) 1) (a + 5) ((u2 i (a + 4) (i 7 8) 1) 7 8) 1) (a + 6) ((u2 (u2 i (a + 4) (i 7 8) 1) (a + 5) ((u2 i (a + 4) (i 7 8) 1) 7 8) 1) 7 8) 0) (a + 7) ((u2 (u2 (u2 i (a + 4) (i 7 8) 1) (a + 5) ((u2 i (a + 4) (i 7 8) 1) 7 8) 1) (a + 6) ((u2 (u2 i (a + 4) (i 7 8) 1) (a + 5) ((u2 i (a + 4) (i 7 8) 1) 7 8) 1) 7 8) 0) 7 8) 0) 7 8) - 1))] [])) ∧ ((¬ (i 51 13 ≤ x4)) → ((0 ≤ x4 ∧ x4 < 12) ∧ (rg x3) ∧ (0 ≤ x4 ∧ x4 < 132) ∧ gV w d X_X5_start P i (u2l (u2l l (a + 2) x4 (sparL l x4 x2 x3)) (a + 1) x4 0) 27 [(0, vR (some a)), (2, vI x2), (3, vI x3), (4, vI (x4 + 1))] [])))) : gV w d X_X5_start P i l 27 [(0, vR (some a)), (2, vI x2), (3, vI x3), (4, vI x4)] [] := by
  refine g_iload (pc' := 29) 3 dX5_start_27 rfl rfl ?_
  refine g_aload_n (pc' := 30) 0 dX5_start_29 rfl rfl ?_
  refine g_getR (pc' := 33) (o := some 51) fl_X5_48 (shP0 ha) rfl (rfPc ha) dX5_start_30 rfl ?_
  refine g_getI (pc' := 36) (z := 13) rfl fl_X5_91 rfl rfl dX5_start_33 rfl (fun rg3 => ?_)
  obtain ⟨hob5, hk24, hk25⟩ := h
  refine g_icmp_ge (tgt := 71) (pc' := 39) (hob5) rg3 Iff.rfl dX5_start_36 rfl rfl (fun c6 => ?_) (fun c6 => ?_)
  · have h := hk24 c6
    obtain ⟨ob12, ob14, ob16, ob18, h⟩ := h
    refine g_aload_n (pc' := 72) 0 dX5_start_71 rfl rfl ?_
    refine g_getR (pc' := 75) (o := some (a + 4)) fl_X5_22 (shP0 ha) rfl (rfP ha (k := 3) (by decide)) dX5_start_72 rfl ?_
    refine g_aload_n (pc' := 76) 0 dX5_start_75 rfl rfl ?_
    refine g_getR (pc' := 79) (o := some 7) fl_X5_44 (shP0 ha) rfl (rfPt ha) dX5_start_76 rfl ?_
    refine g_getI (pc' := 82) (z := 8) rfl fl_X5_98 rfl rfl dX5_start_79 rfl (fun rg11 => ?_)
    refine g_iconst (pc' := 83) dX5_start_82 rfl ?_
    refine g_iast (pc' := 84) (N := 11) (shP4 ha) rfl (Nat.lt_of_lt_of_le (Nat.lt_succ_self _) (Nat.le_of_ble_eq_true rfl)) ob12 (rg_lit rfl) dX5_start_83 rfl ?_
    refine g_aload_n (pc' := 85) 0 dX5_start_84 rfl rfl ?_
    refine g_getR (pc' := 88) (o := some (a + 5)) fl_X5_25 (shP0 ha) rfl (rfP ha (k := 4) (by decide)) dX5_start_85 rfl ?_
    refine g_aload_n (pc' := 89) 0 dX5_start_88 rfl rfl ?_
    refine g_getR (pc' := 92) (o := some 7) fl_X5_44 (shP0 ha) rfl (rfPt ha) dX5_start_89 rfl ?_
    refine g_getI (pc' := 95) (z := 8) rfl fl_X5_98 rfl rfl dX5_start_92 rfl (fun rg13 => ?_)
    refine g_iconst (pc' := 96) dX5_start_95 rfl ?_
    refine g_iast (pc' := 97) (N := 11) (shP5 ha) rfl (Nat.lt_of_lt_of_le (Nat.lt_succ_self _) (Nat.le_of_ble_eq_true rfl)) ob14 (rg_lit rfl) dX5_start_96 rfl ?_
    refine g_aload_n (pc' := 98) 0 dX5_start_97 rfl rfl ?_
    refine g_getR (pc' := 101) (o := some (a + 6)) fl_X5_28 (shP0 ha) rfl (rfP ha (k := 5) (by decide)) dX5_start_98 rfl ?_
    refine g_aload_n (pc' := 102) 0 dX5_start_101 rfl rfl ?_
    refine g_getR (pc' := 105) (o := some 7) fl_X5_44 (shP0 ha) rfl (rfPt ha) dX5_start_102 rfl ?_
    refine g_getI (pc' := 108) (z := 8) rfl fl_X5_98 rfl rfl dX5_start_105 rfl (fun rg15 => ?_)
    refine g_iconst (pc' := 109) dX5_start_108 rfl ?_
    refine g_iast (pc' := 110) (N := 11) (shP6 ha) rfl (Nat.lt_of_lt_of_le (Nat.lt_succ_self _) (Nat.le_of_ble_eq_true rfl)) ob16 (rg_lit rfl) dX5_start_109 rfl ?_
    refine g_aload_n (pc' := 111) 0 dX5_start_110 rfl rfl ?_
    refine g_getR (pc' := 114) (o := some (a + 7)) fl_X5_31 (shP0 ha) rfl (rfP ha (k := 6) (by decide)) dX5_start_111 rfl ?_
    refine g_aload_n (pc' := 115) 0 dX5_start_114 rfl rfl ?_
    refine g_getR (pc' := 118) (o := some 7) fl_X5_44 (shP0 ha) rfl (rfPt ha) dX5_start_115 rfl ?_
    refine g_getI (pc' := 121) (z := 8) rfl fl_X5_98 rfl rfl dX5_start_118 rfl (fun rg17 => ?_)
    refine g_iconst (pc' := 122) dX5_start_121 rfl ?_
    refine g_iast (pc' := 123) (N := 11) (shP7 ha) rfl (Nat.lt_of_lt_of_le (Nat.lt_succ_self _) (Nat.le_of_ble_eq_true rfl)) ob18 (rg_lit rfl) dX5_start_122 rfl ?_
    refine g_aload_n (pc' := 124) 0 dX5_start_123 rfl rfl ?_
    refine g_getR (pc' := 127) (o := some 7) fl_X5_44 (shP0 ha) rfl (rfPt ha) dX5_start_124 rfl ?_
    refine g_getI (pc' := 130) (z := 8) rfl fl_X5_98 rfl rfl dX5_start_127 rfl (fun rg19 => ?_)
    refine g_iconst (pc' := 131) dX5_start_130 rfl ?_
    refine g_isub (pc' := 132) dX5_start_131 rfl ?_
    refine g_istore (pc' := 134) (L' := [(4, vI (((u2 (u2 (u2 (u2 i (a + 4) (i 7 8) 1) (a + 5) ((u2 i (a + 4) (i 7 8) 1) 7 8) 1) (a + 6) ((u2 (u2 i (a + 4) (i 7 8) 1) (a + 5) ((u2 i (a + 4) (i 7 8) 1) 7 8) 1) 7 8) 0) (a + 7) ((u2 (u2 (u2 i (a + 4) (i 7 8) 1) (a + 5) ((u2 i (a + 4) (i 7 8) 1) 7 8) 1) (a + 6) ((u2 (u2 i (a + 4) (i 7 8) 1) (a + 5) ((u2 i (a + 4) (i 7 8) 1) 7 8) 1) 7 8) 0) 7 8) 0) 7 8) - 1)), (0, vR (some a)), (2, vI x2), (3, vI x3)]) dX5_start_132 rfl (Nat.le_of_ble_eq_true rfl) rfl ?_
    refine g_sub (L' := [(0, vR (some a)), (4, vI (((u2 (u2 (u2 (u2 i (a + 4) (i 7 8) 1) (a + 5) ((u2 i (a + 4) (i 7 8) 1) 7 8) 1) (a + 6) ((u2 (u2 i (a + 4) (i 7 8) 1) (a + 5) ((u2 i (a + 4) (i 7 8) 1) 7 8) 1) 7 8) 0) (a + 7) ((u2 (u2 (u2 i (a + 4) (i 7 8) 1) (a + 5) ((u2 i (a + 4) (i 7 8) 1) 7 8) 1) (a + 6) ((u2 (u2 i (a + 4) (i 7 8) 1) (a + 5) ((u2 i (a + 4) (i 7 8) 1) 7 8) 1) 7 8) 0) 7 8) 0) 7 8) - 1))]) [1, 0] rfl ?_
    exact h
  · have h := hk25 c6
    obtain ⟨ob20, ob21, ob23, h⟩ := h
    refine g_aload_n (pc' := 40) 0 dX5_start_39 rfl rfl ?_
    refine g_getR (pc' := 43) (o := some (a + 2)) fl_X5_15 (shP0 ha) rfl (rfP ha (k := 1) (by decide)) dX5_start_40 rfl ?_
    refine g_iload (pc' := 45) 3 dX5_start_43 rfl rfl ?_
    refine g_aload_n (pc' := 46) 0 dX5_start_45 rfl rfl ?_
    refine g_getR (pc' := 49) (o := some 51) fl_X5_48 (shP0 ha) rfl (rfPc ha) dX5_start_46 rfl ?_
    refine g_iload (pc' := 51) 3 dX5_start_49 rfl rfl ?_
    refine g_iload_n (pc' := 52) 1 dX5_start_51 rfl rfl ?_
    refine g_iload_n (pc' := 53) 2 dX5_start_52 rfl rfl ?_
    refine g_pVL (pc' := 56) (vs := [vI x4, vI x2, vI x3]) (st := [vI x4, vR (some (a + 2))]) (val := sparL l x4 x2 x3) (c := 1) (sp_X1_spareOf (le_hd hd rfl) ob20 ob21) mv_X1_spareOf lk_X5_94 rfl rfl rfl rfl (Nat.le_of_ble_eq_true rfl) (Nat.le_of_ble_eq_true rfl) rfl dX5_start_53 rfl z2 ?_
    refine g_last (pc' := 57) (N := 12) (shP2 ha) rfl (Nat.lt_of_lt_of_le (Nat.lt_succ_self _) (Nat.le_of_ble_eq_true rfl)) ob20 dX5_start_56 rfl ?_
    refine g_aload_n (pc' := 58) 0 dX5_start_57 rfl rfl ?_
    refine g_getR (pc' := 61) (o := some (a + 1)) fl_X5_9 (shP0 ha) rfl (rfP ha (k := 0) (by decide)) dX5_start_58 rfl ?_
    refine g_iload (pc' := 63) 3 dX5_start_61 rfl rfl ?_
    refine g_lconst (pc' := 64) (v := 0) dX5_start_63 rfl rfl ?_
    refine g_last (pc' := 65) (N := 132) (shP1 ha) rfl (Nat.lt_of_lt_of_le (Nat.lt_succ_self _) (Nat.le_of_ble_eq_true rfl)) ob23 dX5_start_64 rfl ?_
    refine g_iinc (pc' := 68) (L' := [(4, vI (x4 + 1)), (0, vR (some a)), (2, vI x2), (3, vI x3)]) 3 dX5_start_65 rfl (Nat.le_of_ble_eq_true rfl) rfl rfl ?_
    refine g_goto (tgt := 27) dX5_start_68 rfl ?_
    refine g_sub (L' := [(0, vR (some a)), (2, vI x2), (3, vI x3), (4, vI (x4 + 1))]) [1, 2, 3, 0] rfl ?_
    exact h
set_option maxRecDepth 20000 in
theorem s_X5_start_134 {w : Wd} {d : Nat} {P : IM → LM → Prop} {i : IM} {l : LM} (x4 : Int) {a : Nat} (ha : a = 63 ∨ a = 73) (h : ((rg x4) ∧ ((x4 < 0) → P i l) ∧ ((¬ (x4 < 0)) → cVd w d X_X5_sumUp [vR (some a), vI x4] i l (fun i29 l29 => gV w d X_X5_start P i29 l29 134 [(0, vR (some a)), (4, vI (x4 + (-1)))] [])))) : gV w d X_X5_start P i l 134 [(0, vR (some a)), (4, vI x4)] [] := by
  refine g_iload (pc' := 136) 1 dX5_start_134 rfl rfl ?_
  obtain ⟨hob27, hk30, hk31⟩ := h
  refine g_if_lt (tgt := 151) (pc' := 139) (hob27) Iff.rfl dX5_start_136 rfl rfl (fun c28 => ?_) (fun c28 => ?_)
  · have h := hk30 c28
    exact g_retV rfl dX5_start_151 h
  · have h := hk31 c28
    refine g_aload_n (pc' := 140) 0 dX5_start_139 rfl rfl ?_
    refine g_iload (pc' := 142) 1 dX5_start_140 rfl rfl ?_
    refine g_cVV (pc' := 145) (vs := [vI x4]) (st := []) (c := 5) h mv_X5_sumUp lk_X5_101 rfl rfl (shP0 ha) rfl (Nat.le_of_ble_eq_true rfl) (Nat.le_of_ble_eq_true rfl) rfl dX5_start_142 rfl z2 (fun i29 l29 h => ?_)
    refine g_iinc (pc' := 148) (L' := [(4, vI (x4 + (-1))), (0, vR (some a))]) 1 dX5_start_145 rfl (Nat.le_of_ble_eq_true rfl) rfl rfl ?_
    refine g_goto (tgt := 134) dX5_start_148 rfl ?_
    refine g_sub (L' := [(0, vR (some a)), (4, vI (x4 + (-1)))]) [1, 0] rfl ?_
    exact h

theorem dX5_sumUp_0 : decode cX5_sumUp 0 = .ok (.iconst 0, 1) := by decide +kernel
theorem dX5_sumUp_1 : decode cX5_sumUp 1 = .ok (.istore_n 2, 1) := by decide +kernel
theorem dX5_sumUp_2 : decode cX5_sumUp 2 = .ok (.iconst 0, 1) := by decide +kernel
theorem dX5_sumUp_3 : decode cX5_sumUp 3 = .ok (.istore_n 3, 1) := by decide +kernel
theorem dX5_sumUp_4 : decode cX5_sumUp 4 = .ok (.iconst 0, 1) := by decide +kernel
theorem dX5_sumUp_5 : decode cX5_sumUp 5 = .ok (.istore 4, 2) := by decide +kernel
theorem dX5_sumUp_7 : decode cX5_sumUp 7 = .ok (.iconst 0, 1) := by decide +kernel
theorem dX5_sumUp_8 : decode cX5_sumUp 8 = .ok (.istore 5, 2) := by decide +kernel
theorem dX5_sumUp_10 : decode cX5_sumUp 10 = .ok (.iconst 0, 1) := by decide +kernel
theorem dX5_sumUp_11 : decode cX5_sumUp 11 = .ok (.istore 6, 2) := by decide +kernel
theorem dX5_sumUp_13 : decode cX5_sumUp 13 = .ok (.iload 6, 2) := by decide +kernel
theorem dX5_sumUp_15 : decode cX5_sumUp 15 = .ok (.iconst 3, 1) := by decide +kernel
theorem dX5_sumUp_16 : decode cX5_sumUp 16 = .ok (.if_icmp .ge 122, 3) := by decide +kernel
theorem dX5_sumUp_19 : decode cX5_sumUp 19 = .ok (.aload_n 0, 1) := by decide +kernel
theorem dX5_sumUp_20 : decode cX5_sumUp 20 = .ok (.getfield 48, 3) := by decide +kernel
theorem dX5_sumUp_23 : decode cX5_sumUp 23 = .ok (.getfield 105, 3) := by decide +kernel
theorem dX5_sumUp_26 : decode cX5_sumUp 26 = .ok (.iload_n 1, 1) := by decide +kernel
theorem dX5_sumUp_27 : decode cX5_sumUp 27 = .ok (.iaload, 1) := by decide +kernel
theorem dX5_sumUp_28 : decode cX5_sumUp 28 = .ok (.iload 6, 2) := by decide +kernel
theorem dX5_sumUp_30 : decode cX5_sumUp 30 = .ok (.ishr, 1) := by decide +kernel
theorem dX5_sumUp_31 : decode cX5_sumUp 31 = .ok (.iconst 1, 1) := by decide +kernel
theorem dX5_sumUp_32 : decode cX5_sumUp 32 = .ok (.iand, 1) := by decide +kernel
theorem dX5_sumUp_33 : decode cX5_sumUp 33 = .ok (.ifCond .ne 6, 3) := by decide +kernel
theorem dX5_sumUp_36 : decode cX5_sumUp 36 = .ok (.goto 96, 3) := by decide +kernel
theorem dX5_sumUp_39 : decode cX5_sumUp 39 = .ok (.aload_n 0, 1) := by decide +kernel
theorem dX5_sumUp_40 : decode cX5_sumUp 40 = .ok (.getfield 48, 3) := by decide +kernel
theorem dX5_sumUp_43 : decode cX5_sumUp 43 = .ok (.getfield 108, 3) := by decide +kernel
theorem dX5_sumUp_46 : decode cX5_sumUp 46 = .ok (.iload_n 1, 1) := by decide +kernel
theorem dX5_sumUp_47 : decode cX5_sumUp 47 = .ok (.iconst 3, 1) := by decide +kernel
theorem dX5_sumUp_48 : decode cX5_sumUp 48 = .ok (.imul, 1) := by decide +kernel
theorem dX5_sumUp_49 : decode cX5_sumUp 49 = .ok (.iload 6, 2) := by decide +kernel
theorem dX5_sumUp_51 : decode cX5_sumUp 51 = .ok (.iadd, 1) := by decide +kernel
theorem dX5_sumUp_52 : decode cX5_sumUp 52 = .ok (.iaload, 1) := by decide +kernel
theorem dX5_sumUp_53 : decode cX5_sumUp 53 = .ok (.istore 7, 2) := by decide +kernel
theorem dX5_sumUp_55 : decode cX5_sumUp 55 = .ok (.aload_n 0, 1) := by decide +kernel
theorem dX5_sumUp_56 : decode cX5_sumUp 56 = .ok (.getfield 48, 3) := by decide +kernel
theorem dX5_sumUp_59 : decode cX5_sumUp 59 = .ok (.getfield 111, 3) := by decide +kernel
theorem dX5_sumUp_62 : decode cX5_sumUp 62 = .ok (.iload_n 1, 1) := by decide +kernel
theorem dX5_sumUp_63 : decode cX5_sumUp 63 = .ok (.iconst 3, 1) := by decide +kernel
theorem dX5_sumUp_64 : decode cX5_sumUp 64 = .ok (.imul, 1) := by decide +kernel
theorem dX5_sumUp_65 : decode cX5_sumUp 65 = .ok (.iload 6, 2) := by decide +kernel
theorem dX5_sumUp_67 : decode cX5_sumUp 67 = .ok (.iadd, 1) := by decide +kernel
theorem dX5_sumUp_68 : decode cX5_sumUp 68 = .ok (.iaload, 1) := by decide +kernel
theorem dX5_sumUp_69 : decode cX5_sumUp 69 = .ok (.istore 8, 2) := by decide +kernel
theorem dX5_sumUp_71 : decode cX5_sumUp 71 = .ok (.iload_n 2, 1) := by decide +kernel
theorem dX5_sumUp_72 : decode cX5_sumUp 72 = .ok (.ifCond .ne 8, 3) := by decide +kernel
theorem dX5_sumUp_75 : decode cX5_sumUp 75 = .ok (.iload 8, 2) := by decide +kernel
theorem dX5_sumUp_77 : decode cX5_sumUp 77 = .ok (.goto 10, 3) := by decide +kernel
theorem dX5_sumUp_80 : decode cX5_sumUp 80 = .ok (.iload 5, 2) := by decide +kernel
theorem dX5_sumUp_82 : decode cX5_sumUp 82 = .ok (.iload 8, 2) := by decide +kernel
theorem dX5_sumUp_84 : decode cX5_sumUp 84 = .ok (.invokestatic 114, 3) := by decide +kernel
theorem dX5_sumUp_87 : decode cX5_sumUp 87 = .ok (.istore 5, 2) := by decide +kernel
theorem dX5_sumUp_89 : decode cX5_sumUp 89 = .ok (.iload_n 2, 1) := by decide +kernel
theorem dX5_sumUp_90 : decode cX5_sumUp 90 = .ok (.ifCond .eq 10, 3) := by decide +kernel
theorem dX5_sumUp_93 : decode cX5_sumUp 93 = .ok (.iload 7, 2) := by decide +kernel
theorem dX5_sumUp_95 : decode cX5_sumUp 95 = .ok (.iload 4, 2) := by decide +kernel
theorem dX5_sumUp_97 : decode cX5_sumUp 97 = .ok (.if_icmp .le 17, 3) := by decide +kernel
theorem dX5_sumUp_100 : decode cX5_sumUp 100 = .ok (.iload 7, 2) := by decide +kernel
theorem dX5_sumUp_102 : decode cX5_sumUp 102 = .ok (.istore 4, 2) := by decide +kernel
theorem dX5_sumUp_104 : decode cX5_sumUp 104 = .ok (.iconst 0, 1) := by decide +kernel
theorem dX5_sumUp_105 : decode cX5_sumUp 105 = .ok (.istore_n 3, 1) := by decide +kernel
theorem dX5_sumUp_106 : decode cX5_sumUp 106 = .ok (.aload_n 0, 1) := by decide +kernel
theorem dX5_sumUp_107 : decode cX5_sumUp 107 = .ok (.getfield 34, 3) := by decide +kernel
theorem dX5_sumUp_110 : decode cX5_sumUp 110 = .ok (.iload_n 1, 1) := by decide +kernel
theorem dX5_sumUp_111 : decode cX5_sumUp 111 = .ok (.iload 6, 2) := by decide +kernel
theorem dX5_sumUp_113 : decode cX5_sumUp 113 = .ok (.iastore, 1) := by decide +kernel
theorem dX5_sumUp_114 : decode cX5_sumUp 114 = .ok (.iload_n 3, 1) := by decide +kernel
theorem dX5_sumUp_115 : decode cX5_sumUp 115 = .ok (.iload 7, 2) := by decide +kernel
theorem dX5_sumUp_117 : decode cX5_sumUp 117 = .ok (.iload 4, 2) := by decide +kernel
theorem dX5_sumUp_119 : decode cX5_sumUp 119 = .ok (.if_icmp .ne 7, 3) := by decide +kernel
theorem dX5_sumUp_122 : decode cX5_sumUp 122 = .ok (.iconst 1, 1) := by decide +kernel
theorem dX5_sumUp_123 : decode cX5_sumUp 123 = .ok (.goto 4, 3) := by decide +kernel
theorem dX5_sumUp_126 : decode cX5_sumUp 126 = .ok (.iconst 0, 1) := by decide +kernel
theorem dX5_sumUp_127 : decode cX5_sumUp 127 = .ok (.iadd, 1) := by decide +kernel
theorem dX5_sumUp_128 : decode cX5_sumUp 128 = .ok (.istore_n 3, 1) := by decide +kernel
theorem dX5_sumUp_129 : decode cX5_sumUp 129 = .ok (.iinc 2 1, 3) := by decide +kernel
theorem dX5_sumUp_132 : decode cX5_sumUp 132 = .ok (.iinc 6 1, 3) := by decide +kernel
theorem dX5_sumUp_135 : decode cX5_sumUp 135 = .ok (.goto (-122), 3) := by decide +kernel
theorem dX5_sumUp_138 : decode cX5_sumUp 138 = .ok (.aload_n 0, 1) := by decide +kernel
theorem dX5_sumUp_139 : decode cX5_sumUp 139 = .ok (.getfield 22, 3) := by decide +kernel
theorem dX5_sumUp_142 : decode cX5_sumUp 142 = .ok (.iload_n 1, 1) := by decide +kernel
theorem dX5_sumUp_143 : decode cX5_sumUp 143 = .ok (.aload_n 0, 1) := by decide +kernel
theorem dX5_sumUp_144 : decode cX5_sumUp 144 = .ok (.getfield 22, 3) := by decide +kernel
theorem dX5_sumUp_147 : decode cX5_sumUp 147 = .ok (.iload_n 1, 1) := by decide +kernel
theorem dX5_sumUp_148 : decode cX5_sumUp 148 = .ok (.iconst 1, 1) := by decide +kernel
theorem dX5_sumUp_149 : decode cX5_sumUp 149 = .ok (.iadd, 1) := by decide +kernel
theorem dX5_sumUp_150 : decode cX5_sumUp 150 = .ok (.iaload, 1) := by decide +kernel
theorem dX5_sumUp_151 : decode cX5_sumUp 151 = .ok (.iload_n 2, 1) := by decide +kernel
theorem dX5_sumUp_152 : decode cX5_sumUp 152 = .ok (.imul, 1) := by decide +kernel
theorem dX5_sumUp_153 : decode cX5_sumUp 153 = .ok (.iastore, 1) := by decide +kernel
theorem dX5_sumUp_154 : decode cX5_sumUp 154 = .ok (.aload_n 0, 1) := by decide +kernel
theorem dX5_sumUp_155 : decode cX5_sumUp 155 = .ok (.getfield 25, 3) := by decide +kernel
theorem dX5_sumUp_158 : decode cX5_sumUp 158 = .ok (.iload_n 1, 1) := by decide +kernel
theorem dX5_sumUp_159 : decode cX5_sumUp 159 = .ok (.aload_n 0, 1) := by decide +kernel
theorem dX5_sumUp_160 : decode cX5_sumUp 160 = .ok (.getfield 25, 3) := by decide +kernel
theorem dX5_sumUp_163 : decode cX5_sumUp 163 = .ok (.iload_n 1, 1) := by decide +kernel
theorem dX5_sumUp_164 : decode cX5_sumUp 164 = .ok (.iconst 1, 1) := by decide +kernel
theorem dX5_sumUp_165 : decode cX5_sumUp 165 = .ok (.iadd, 1) := by decide +kernel
theorem dX5_sumUp_166 : decode cX5_sumUp 166 = .ok (.iaload, 1) := by decide +kernel
theorem dX5_sumUp_167 : decode cX5_sumUp 167 = .ok (.iload_n 3, 1) := by decide +kernel
theorem dX5_sumUp_168 : decode cX5_sumUp 168 = .ok (.imul, 1) := by decide +kernel
theorem dX5_sumUp_169 : decode cX5_sumUp 169 = .ok (.iastore, 1) := by decide +kernel
theorem dX5_sumUp_170 : decode cX5_sumUp 170 = .ok (.aload_n 0, 1) := by decide +kernel
theorem dX5_sumUp_171 : decode cX5_sumUp 171 = .ok (.getfield 28, 3) := by decide +kernel
theorem dX5_sumUp_174 : decode cX5_sumUp 174 = .ok (.iload_n 1, 1) := by decide +kernel
theorem dX5_sumUp_175 : decode cX5_sumUp 175 = .ok (.aload_n 0, 1) := by decide +kernel
theorem dX5_sumUp_176 : decode cX5_sumUp 176 = .ok (.getfield 28, 3) := by decide +kernel
theorem dX5_sumUp_179 : decode cX5_sumUp 179 = .ok (.iload_n 1, 1) := by decide +kernel
theorem dX5_sumUp_180 : decode cX5_sumUp 180 = .ok (.iconst 1, 1) := by decide +kernel
theorem dX5_sumUp_181 : decode cX5_sumUp 181 = .ok (.iadd, 1) := by decide +kernel
theorem dX5_sumUp_182 : decode cX5_sumUp 182 = .ok (.iaload, 1) := by decide +kernel
theorem dX5_sumUp_183 : decode cX5_sumUp 183 = .ok (.iload 4, 2) := by decide +kernel
theorem dX5_sumUp_185 : decode cX5_sumUp 185 = .ok (.iadd, 1) := by decide +kernel
theorem dX5_sumUp_186 : decode cX5_sumUp 186 = .ok (.iastore, 1) := by decide +kernel
theorem dX5_sumUp_187 : decode cX5_sumUp 187 = .ok (.aload_n 0, 1) := by decide +kernel
theorem dX5_sumUp_188 : decode cX5_sumUp 188 = .ok (.getfield 31, 3) := by decide +kernel
theorem dX5_sumUp_191 : decode cX5_sumUp 191 = .ok (.iload_n 1, 1) := by decide +kernel
theorem dX5_sumUp_192 : decode cX5_sumUp 192 = .ok (.aload_n 0, 1) := by decide +kernel
theorem dX5_sumUp_193 : decode cX5_sumUp 193 = .ok (.getfield 31, 3) := by decide +kernel
theorem dX5_sumUp_196 : decode cX5_sumUp 196 = .ok (.iload_n 1, 1) := by decide +kernel
theorem dX5_sumUp_197 : decode cX5_sumUp 197 = .ok (.iconst 1, 1) := by decide +kernel
theorem dX5_sumUp_198 : decode cX5_sumUp 198 = .ok (.iadd, 1) := by decide +kernel
theorem dX5_sumUp_199 : decode cX5_sumUp 199 = .ok (.iaload, 1) := by decide +kernel
theorem dX5_sumUp_200 : decode cX5_sumUp 200 = .ok (.iload 5, 2) := by decide +kernel
theorem dX5_sumUp_202 : decode cX5_sumUp 202 = .ok (.iadd, 1) := by decide +kernel
theorem dX5_sumUp_203 : decode cX5_sumUp 203 = .ok (.iastore, 1) := by decide +kernel
theorem dX5_sumUp_204 : decode cX5_sumUp 204 = .ok (.return_, 1) := by decide +kernel
set_option maxRecDepth 20000 in
theorem s_X5_sumUp {w : Wd} {d : Nat} {P : IM → LM → Prop} {i : IM} {l : LM} (p0 : Int) {a : Nat} (ha : a = 63 ∨ a = 73) (h : gV w d X_X5_sumUp P i l 13 [(0, vR (some a)), (1, vI p0), (2, vI 0), (3, vI 0), (4, vI 0), (5, vI 0), (6, vI 0)] []) : gV w d X_X5_sumUp P i l 0 [(0, vR (some a)), (1, vI p0)] [] := by
  refine g_iconst (pc' := 1) dX5_sumUp_0 rfl ?_
  refine g_istore_n (pc' := 2) (L' := [(2, vI 0), (0, vR (some a)), (1, vI p0)]) dX5_sumUp_1 rfl (Nat.le_of_ble_eq_true rfl) rfl ?_
  refine g_iconst (pc' := 3) dX5_sumUp_2 rfl ?_
  refine g_istore_n (pc' := 4) (L' := [(3, vI 0), (2, vI 0), (0, vR (some a)), (1, vI p0)]) dX5_sumUp_3 rfl (Nat.le_of_ble_eq_true rfl) rfl ?_
  refine g_iconst (pc' := 5) dX5_sumUp_4 rfl ?_
  refine g_istore (pc' := 7) (L' := [(4, vI 0), (3, vI 0), (2, vI 0), (0, vR (some a)), (1, vI p0)]) dX5_sumUp_5 rfl (Nat.le_of_ble_eq_true rfl) rfl ?_
  refine g_iconst (pc' := 8) dX5_sumUp_7 rfl ?_
  refine g_istore (pc' := 10) (L' := [(5, vI 0), (4, vI 0), (3, vI 0), (2, vI 0), (0, vR (some a)), (1, vI p0)]) dX5_sumUp_8 rfl (Nat.le_of_ble_eq_true rfl) rfl ?_
  refine g_iconst (pc' := 11) dX5_sumUp_10 rfl ?_
  refine g_istore (pc' := 13) (L' := [(6, vI 0), (5, vI 0), (4, vI 0), (3, vI 0), (2, vI 0), (0, vR (some a)), (1, vI p0)]) dX5_sumUp_11 rfl (Nat.le_of_ble_eq_true rfl) rfl ?_
  refine g_sub (L' := [(0, vR (some a)), (1, vI p0), (2, vI 0), (3, vI 0), (4, vI 0), (5, vI 0), (6, vI 0)]) [5, 6, 4, 3, 2, 1, 0] rfl ?_
  exact h
theorem e_X5_sumUp {w : Wd} {d : Nat} {P : IM → LM → Prop} {i : IM} {l : LM} {p0 : Int} {a : Nat} (h : gV w d X_X5_sumUp P i l 0 [(0, vR (some a)), (1, vI p0)] []) : cVd w (d + 1) X_X5_sumUp [vR (some a), vI p0] i l P := CV_of (by decide +kernel) (Nat.le_of_ble_eq_true rfl) h
set_option maxRecDepth 20000 in
theorem s_X5_sumUp_13 {w : Wd} {d : Nat} {P : IM → LM → Prop} {i : IM} {l : LM} (x1 : Int) (x2 : Int) (x3 : Int) (x4 : Int) (x5 : Int) (x6 : Int) {a : Nat} (ha : a = 63 ∨ a = 73) (hd : 2 ≤ d) (h : ((rg x6) ∧ (¬ (3 ≤ x6) → 0 ≤ x1 ∧ x1 < 10) ∧ ((3 ≤ x6) → ((0 ≤ x1 + 1 ∧ x1 + 1 < 11) ∧ (0 ≤ x1 ∧ x1 < 11) ∧ (rg ((i (a + 4) (x1 + 1)) * x2)) ∧ (rg (((u2 i (a + 4) x1 ((i (a + 4) (x1 + 1)) * x2)) (a + 5) (x1 + 1)) * x3)) ∧ (rg (((u2 (u2 i (a + 4) x1 ((i (a + 4) (x1 + 1)) * x2)) (a + 5) x1 (((u2 i (a + 4) x1 ((i (a + 4) (x1 + 1)) * x2)) (a + 5) (x1 + 1)) * x3)) (a + 6) (x1 + 1)) + x4)) ∧ (rg (((u2 (u2 (u2 i (a + 4) x1 ((i (a + 4) (x1 + 1)) * x2)) (a + 5) x1 (((u2 i (a + 4) x1 ((i (a + 4) (x1 + 1)) * x2)) (a + 5) (x1 + 1)) * x3)) (a + 6) x1 (((u2 (u2 i (a + 4) x1 ((i (a + 4) (x1 + 1)) * x2)) (a + 5) x1 (((u2 i (a + 4) x1 ((i (a + 4) (x1 + 1)) * x2)) (a + 5) (x1 + 1)) * x3)) (a + 6) (x1 + 1)) + x4)) (a + 7) (x1 + 1)) + x5)) ∧ P (u2 (u2 (u2 (u2 i (a + 4) x1 ((i (a + 4) (x1 + 1)) * x2)) (a + 5) x1 (((u2 i (a + 4) x1 ((i (a + 4) (x1 + 1)) * x2)) (a + 5) (x1 + 1)) * x3)) (a + 6) x1 (((u2 (u2 i (a + 4) x1 ((i (a + 4) (x1 + 1)) * x2)) (a + 5) x1 (((u2 i (a + 4) x1 ((i (a + 4) (x1 + 1)) * x2)) (a + 5) (x1 + 1)) * x3)) (a + 6) (x1 + 1)) + x4)) (a + 7) x1 (((u2 (u2 (u2 i (a + 4) x1 ((i (a + 4) (x1 + 1)) * x2)) (a + 5) x1 (((u2 i (a + 4) x1 ((i (a + 4) (x1 + 1)) * x2)) (a + 5) (x1 + 1)) * x3)) (a + 6) x1 (((u2 (u2 i (a + 4) x1 ((i (a + 4) (x1 + 1)) * x2)) (a + 5) x1 (((u2 i (a + 4) x1 ((i (a + 4) (x1 + 1)) * x2)) (a + 5) (x1 + 1)) * x3)) (a + 6) (x1 + 1)) + x4)) (a + 7) (x1 + 1)) + x5)) l)) ∧ ((¬ (3 ≤ x6) ∧ (¬ (iand (ishr (i 52 x1) x6) 1 = 0))) → ((0 ≤ (x1 * 3) + x6 ∧ (x1 * 3) + x6 < 30) ∧ ((rg x2) ∧ ((rg x2) ∧ (¬ (x2 = 0) → rg x4) ∧ (((x2 = 0) ∨ (¬ (i 54 ((x1 * 3) + x6) ≤ x4))) → gV w d X_X5_sumUp P i l 100 [(0, vR (some a)), (1, vI x1), (2, vI x2), (5, vI (if (x2 = 0) then i 55 ((x1 * 3) + x6) else leastI x5 (i 55 ((x1 * 3) + x6)))), (6, vI x6), (7, vI (i 54 ((x1 * 3) + x6)))] []) ∧ ((¬ ((x2 = 0) ∨ (¬ (i 54 ((x1 * 3) + x6) ≤ x4)))) → ((rg x4) ∧ gV w d X_X5_sumUp P i l 13 [(0, vR (some a)), (1, vI x1), (2, vI (x2 + 1)), (3, vI (x3 + (bI (i 54 ((x1 * 3) + x6) = x4)))), (4, vI x4), (5, vI (if (x2 = 0) then i 55 ((x1 * 3) + x6) else leastI x5 (i 55 ((x1 * 3) + x6)))), (6, vI (x6 + 1))] [])))))) ∧ ((¬ (3 ≤ x6) ∧ (iand (ishr (i 52 x1) x6) 1 = 0)) → gV w d X_X5_sumUp P i l 13 [(0, vR (some a)), (1, vI x1), (2, vI x2), (3, vI x3), (4, vI x4), (5, vI x5), (6, vI (x6 + 1))] []))) : gV w d X_X5_sumUp P i l 13 [(0, vR (some a)), (1, vI x1), (2, vI x2), (3, vI x3), (4, vI x4), (5, vI x5), (6, vI x6)] [] := by
  refine g_iload (pc' := 15) 6 dX5_sumUp_13 rfl rfl ?_
  refine g_iconst (pc' := 16) dX5_sumUp_15 rfl ?_
  obtain ⟨hob2, hob6, hk38, hk39, hk40⟩ := h
  have hk38g : (3 ≤ x6) → gV w d X_X5_sumUp P i l 138 [(0, vR (some a)), (1, vI x1), (2, vI x2), (3, vI x3), (4, vI x4), (5, vI x5), (6, vI x6)] [] := by
    intro hp
    have h := hk38 hp
    obtain ⟨ob11, ob13, ob14, ob16, ob18, ob20, h⟩ := h
    refine g_aload_n (pc' := 139) 0 dX5_sumUp_138 rfl rfl ?_
    refine g_getR (pc' := 142) (o := some (a + 4)) fl_X5_22 (shP0 ha) rfl (rfP ha (k := 3) (by decide)) dX5_sumUp_139 rfl ?_
    refine g_iload_n (pc' := 143) 1 dX5_sumUp_142 rfl rfl ?_
    refine g_aload_n (pc' := 144) 0 dX5_sumUp_143 rfl rfl ?_
    refine g_getR (pc' := 147) (o := some (a + 4)) fl_X5_22 (shP0 ha) rfl (rfP ha (k := 3) (by decide)) dX5_sumUp_144 rfl ?_
    refine g_iload_n (pc' := 148) 1 dX5_sumUp_147 rfl rfl ?_
    refine g_iconst (pc' := 149) dX5_sumUp_148 rfl ?_
    refine g_iadd (pc' := 150) dX5_sumUp_149 rfl ?_
    refine g_iald (pc' := 151) (N := 11) (shP4 ha) rfl (Nat.lt_of_lt_of_le (Nat.lt_succ_self _) (Nat.le_of_ble_eq_true rfl)) ob11 dX5_sumUp_150 rfl (fun rg12 => ?_)
    refine g_iload_n (pc' := 152) 2 dX5_sumUp_151 rfl rfl ?_
    refine g_imul (pc' := 153) dX5_sumUp_152 rfl ?_
    refine g_iast (pc' := 154) (N := 11) (shP4 ha) rfl (Nat.lt_of_lt_of_le (Nat.lt_succ_self _) (Nat.le_of_ble_eq_true rfl)) ob13 ob14 dX5_sumUp_153 rfl ?_
    refine g_aload_n (pc' := 155) 0 dX5_sumUp_154 rfl rfl ?_
    refine g_getR (pc' := 158) (o := some (a + 5)) fl_X5_25 (shP0 ha) rfl (rfP ha (k := 4) (by decide)) dX5_sumUp_155 rfl ?_
    refine g_iload_n (pc' := 159) 1 dX5_sumUp_158 rfl rfl ?_
    refine g_aload_n (pc' := 160) 0 dX5_sumUp_159 rfl rfl ?_
    refine g_getR (pc' := 163) (o := some (a + 5)) fl_X5_25 (shP0 ha) rfl (rfP ha (k := 4) (by decide)) dX5_sumUp_160 rfl ?_
    refine g_iload_n (pc' := 164) 1 dX5_sumUp_163 rfl rfl ?_
    refine g_iconst (pc' := 165) dX5_sumUp_164 rfl ?_
    refine g_iadd (pc' := 166) dX5_sumUp_165 rfl ?_
    refine g_iald (pc' := 167) (N := 11) (shP5 ha) rfl (Nat.lt_of_lt_of_le (Nat.lt_succ_self _) (Nat.le_of_ble_eq_true rfl)) ob11 dX5_sumUp_166 rfl (fun rg15 => ?_)
    refine g_iload_n (pc' := 168) 3 dX5_sumUp_167 rfl rfl ?_
    refine g_imul (pc' := 169) dX5_sumUp_168 rfl ?_
    refine g_iast (pc' := 170) (N := 11) (shP5 ha) rfl (Nat.lt_of_lt_of_le (Nat.lt_succ_self _) (Nat.le_of_ble_eq_true rfl)) ob13 ob16 dX5_sumUp_169 rfl ?_
    refine g_aload_n (pc' := 171) 0 dX5_sumUp_170 rfl rfl ?_
    refine g_getR (pc' := 174) (o := some (a + 6)) fl_X5_28 (shP0 ha) rfl (rfP ha (k := 5) (by decide)) dX5_sumUp_171 rfl ?_
    refine g_iload_n (pc' := 175) 1 dX5_sumUp_174 rfl rfl ?_
    refine g_aload_n (pc' := 176) 0 dX5_sumUp_175 rfl rfl ?_
    refine g_getR (pc' := 179) (o := some (a + 6)) fl_X5_28 (shP0 ha) rfl (rfP ha (k := 5) (by decide)) dX5_sumUp_176 rfl ?_
    refine g_iload_n (pc' := 180) 1 dX5_sumUp_179 rfl rfl ?_
    refine g_iconst (pc' := 181) dX5_sumUp_180 rfl ?_
    refine g_iadd (pc' := 182) dX5_sumUp_181 rfl ?_
    refine g_iald (pc' := 183) (N := 11) (shP6 ha) rfl (Nat.lt_of_lt_of_le (Nat.lt_succ_self _) (Nat.le_of_ble_eq_true rfl)) ob11 dX5_sumUp_182 rfl (fun rg17 => ?_)
    refine g_iload (pc' := 185) 4 dX5_sumUp_183 rfl rfl ?_
    refine g_iadd (pc' := 186) dX5_sumUp_185 rfl ?_
    refine g_iast (pc' := 187) (N := 11) (shP6 ha) rfl (Nat.lt_of_lt_of_le (Nat.lt_succ_self _) (Nat.le_of_ble_eq_true rfl)) ob13 ob18 dX5_sumUp_186 rfl ?_
    refine g_aload_n (pc' := 188) 0 dX5_sumUp_187 rfl rfl ?_
    refine g_getR (pc' := 191) (o := some (a + 7)) fl_X5_31 (shP0 ha) rfl (rfP ha (k := 6) (by decide)) dX5_sumUp_188 rfl ?_
    refine g_iload_n (pc' := 192) 1 dX5_sumUp_191 rfl rfl ?_
    refine g_aload_n (pc' := 193) 0 dX5_sumUp_192 rfl rfl ?_
    refine g_getR (pc' := 196) (o := some (a + 7)) fl_X5_31 (shP0 ha) rfl (rfP ha (k := 6) (by decide)) dX5_sumUp_193 rfl ?_
    refine g_iload_n (pc' := 197) 1 dX5_sumUp_196 rfl rfl ?_
    refine g_iconst (pc' := 198) dX5_sumUp_197 rfl ?_
    refine g_iadd (pc' := 199) dX5_sumUp_198 rfl ?_
    refine g_iald (pc' := 200) (N := 11) (shP7 ha) rfl (Nat.lt_of_lt_of_le (Nat.lt_succ_self _) (Nat.le_of_ble_eq_true rfl)) ob11 dX5_sumUp_199 rfl (fun rg19 => ?_)
    refine g_iload (pc' := 202) 5 dX5_sumUp_200 rfl rfl ?_
    refine g_iadd (pc' := 203) dX5_sumUp_202 rfl ?_
    refine g_iast (pc' := 204) (N := 11) (shP7 ha) rfl (Nat.lt_of_lt_of_le (Nat.lt_succ_self _) (Nat.le_of_ble_eq_true rfl)) ob13 ob20 dX5_sumUp_203 rfl ?_
    exact g_retV rfl dX5_sumUp_204 h
  have hk39g : (¬ (3 ≤ x6) ∧ (¬ (iand (ishr (i 52 x1) x6) 1 = 0))) → gV w d X_X5_sumUp P i l 39 [(0, vR (some a)), (1, vI x1), (2, vI x2), (3, vI x3), (4, vI x4), (5, vI x5), (6, vI x6)] [] := by
    intro hp
    have h := hk39 hp
    obtain ⟨ob21, h⟩ := h
    refine g_aload_n (pc' := 40) 0 dX5_sumUp_39 rfl rfl ?_
    refine g_getR (pc' := 43) (o := some 51) fl_X5_48 (shP0 ha) rfl (rfPc ha) dX5_sumUp_40 rfl ?_
    refine g_getR (pc' := 46) (o := some 54) fl_X5_108 rfl rfl rfl dX5_sumUp_43 rfl ?_
    refine g_iload_n (pc' := 47) 1 dX5_sumUp_46 rfl rfl ?_
    refine g_iconst (pc' := 48) dX5_sumUp_47 rfl ?_
    refine g_imul (pc' := 49) dX5_sumUp_48 rfl ?_
    refine g_iload (pc' := 51) 6 dX5_sumUp_49 rfl rfl ?_
    refine g_iadd (pc' := 52) dX5_sumUp_51 rfl ?_
    refine g_iald (pc' := 53) (N := 30) rfl rfl (Nat.lt_of_lt_of_le (Nat.lt_succ_self _) (Nat.le_of_ble_eq_true rfl)) ob21 dX5_sumUp_52 rfl (fun rg22 => ?_)
    refine g_istore (pc' := 55) (L' := [(7, vI (i 54 ((x1 * 3) + x6))), (0, vR (some a)), (1, vI x1), (2, vI x2), (3, vI x3), (4, vI x4), (5, vI x5), (6, vI x6)]) dX5_sumUp_53 rfl (Nat.le_of_ble_eq_true rfl) rfl ?_
    refine g_aload_n (pc' := 56) 1 dX5_sumUp_55 rfl rfl ?_
    refine g_getR (pc' := 59) (o := some 51) fl_X5_48 (shP0 ha) rfl (rfPc ha) dX5_sumUp_56 rfl ?_
    refine g_getR (pc' := 62) (o := some 55) fl_X5_111 rfl rfl rfl dX5_sumUp_59 rfl ?_
    refine g_iload_n (pc' := 63) 2 dX5_sumUp_62 rfl rfl ?_
    refine g_iconst (pc' := 64) dX5_sumUp_63 rfl ?_
    refine g_imul (pc' := 65) dX5_sumUp_64 rfl ?_
    refine g_iload (pc' := 67) 7 dX5_sumUp_65 rfl rfl ?_
    refine g_iadd (pc' := 68) dX5_sumUp_67 rfl ?_
    refine g_iald (pc' := 69) (N := 30) rfl rfl (Nat.lt_of_lt_of_le (Nat.lt_succ_self _) (Nat.le_of_ble_eq_true rfl)) ob21 dX5_sumUp_68 rfl (fun rg23 => ?_)
    refine g_istore (pc' := 71) (L' := [(8, vI (i 55 ((x1 * 3) + x6))), (7, vI (i 54 ((x1 * 3) + x6))), (0, vR (some a)), (1, vI x1), (2, vI x2), (3, vI x3), (4, vI x4), (5, vI x5), (6, vI x6)]) dX5_sumUp_69 rfl (Nat.le_of_ble_eq_true rfl) rfl ?_
    refine g_iload_n (pc' := 72) 4 dX5_sumUp_71 rfl rfl ?_
    refine g_rg (fun hRG24 => ?_)
    obtain ⟨hob25, h⟩ := h
    have hJ : gV w d X_X5_sumUp P i l 87 [(8, vI (i 55 ((x1 * 3) + x6))), (7, vI (i 54 ((x1 * 3) + x6))), (0, vR (some a)), (1, vI x1), (2, vI x2), (3, vI x3), (4, vI x4), (5, vI x5), (6, vI x6)] [vI (if (x2 = 0) then i 55 ((x1 * 3) + x6) else leastI x5 (i 55 ((x1 * 3) + x6)))] := by
      refine g_istore (pc' := 89) (L' := [(5, vI (if (x2 = 0) then i 55 ((x1 * 3) + x6) else leastI x5 (i 55 ((x1 * 3) + x6)))), (8, vI (i 55 ((x1 * 3) + x6))), (7, vI (i 54 ((x1 * 3) + x6))), (0, vR (some a)), (1, vI x1), (2, vI x2), (3, vI x3), (4, vI x4), (6, vI x6)]) dX5_sumUp_87 rfl (Nat.le_of_ble_eq_true rfl) rfl ?_
      refine g_iload_n (pc' := 90) 5 dX5_sumUp_89 rfl rfl ?_
      obtain ⟨hob29, hob31, hk36, hk37⟩ := h
      have hk36g : ((x2 = 0) ∨ (¬ (i 54 ((x1 * 3) + x6) ≤ x4))) → gV w d X_X5_sumUp P i l 100 [(5, vI (if (x2 = 0) then i 55 ((x1 * 3) + x6) else leastI x5 (i 55 ((x1 * 3) + x6)))), (8, vI (i 55 ((x1 * 3) + x6))), (7, vI (i 54 ((x1 * 3) + x6))), (0, vR (some a)), (1, vI x1), (2, vI x2), (3, vI x3), (4, vI x4), (6, vI x6)] [] := by
        intro hp
        have h := hk36 hp
        refine g_sub (L' := [(0, vR (some a)), (1, vI x1), (2, vI x2), (5, vI (if (x2 = 0) then i 55 ((x1 * 3) + x6) else leastI x5 (i 55 ((x1 * 3) + x6)))), (6, vI x6), (7, vI (i 54 ((x1 * 3) + x6)))]) [3, 4, 5, 0, 8, 2] rfl ?_
        exact h
      have hk37g : (¬ ((x2 = 0) ∨ (¬ (i 54 ((x1 * 3) + x6) ≤ x4)))) → gV w d X_X5_sumUp P i l 114 [(5, vI (if (x2 = 0) then i 55 ((x1 * 3) + x6) else leastI x5 (i 55 ((x1 * 3) + x6)))), (8, vI (i 55 ((x1 * 3) + x6))), (7, vI (i 54 ((x1 * 3) + x6))), (0, vR (some a)), (1, vI x1), (2, vI x2), (3, vI x3), (4, vI x4), (6, vI x6)] [] := by
        intro hp
        have h := hk37 hp
        refine g_iload_n (pc' := 115) 6 dX5_sumUp_114 rfl rfl ?_
        refine g_iload (pc' := 117) 2 dX5_sumUp_115 rfl rfl ?_
        refine g_iload (pc' := 119) 7 dX5_sumUp_117 rfl rfl ?_
        obtain ⟨hob34, h⟩ := h
        have hJ : gV w d X_X5_sumUp P i l 127 [(5, vI (if (x2 = 0) then i 55 ((x1 * 3) + x6) else leastI x5 (i 55 ((x1 * 3) + x6)))), (8, vI (i 55 ((x1 * 3) + x6))), (7, vI (i 54 ((x1 * 3) + x6))), (0, vR (some a)), (1, vI x1), (2, vI x2), (3, vI x3), (4, vI x4), (6, vI x6)] [vI (bI (i 54 ((x1 * 3) + x6) = x4)), vI x3] := by
          refine g_iadd (pc' := 128) dX5_sumUp_127 rfl ?_
          refine g_istore_n (pc' := 129) (L' := [(3, vI (x3 + (bI (i 54 ((x1 * 3) + x6) = x4)))), (5, vI (if (x2 = 0) then i 55 ((x1 * 3) + x6) else leastI x5 (i 55 ((x1 * 3) + x6)))), (8, vI (i 55 ((x1 * 3) + x6))), (7, vI (i 54 ((x1 * 3) + x6))), (0, vR (some a)), (1, vI x1), (2, vI x2), (4, vI x4), (6, vI x6)]) dX5_sumUp_128 rfl (Nat.le_of_ble_eq_true rfl) rfl ?_
          refine g_iinc (pc' := 132) (L' := [(2, vI (x2 + 1)), (3, vI (x3 + (bI (i 54 ((x1 * 3) + x6) = x4)))), (5, vI (if (x2 = 0) then i 55 ((x1 * 3) + x6) else leastI x5 (i 55 ((x1 * 3) + x6)))), (8, vI (i 55 ((x1 * 3) + x6))), (7, vI (i 54 ((x1 * 3) + x6))), (0, vR (some a)), (1, vI x1), (4, vI x4), (6, vI x6)]) 6 dX5_sumUp_129 rfl (Nat.le_of_ble_eq_true rfl) rfl rfl ?_
          refine g_iinc (pc' := 135) (L' := [(6, vI (x6 + 1)), (2, vI (x2 + 1)), (3, vI (x3 + (bI (i 54 ((x1 * 3) + x6) = x4)))), (5, vI (if (x2 = 0) then i 55 ((x1 * 3) + x6) else leastI x5 (i 55 ((x1 * 3) + x6)))), (8, vI (i 55 ((x1 * 3) + x6))), (7, vI (i 54 ((x1 * 3) + x6))), (0, vR (some a)), (1, vI x1), (4, vI x4)]) 8 dX5_sumUp_132 rfl (Nat.le_of_ble_eq_true rfl) rfl rfl ?_
          refine g_goto (tgt := 13) dX5_sumUp_135 rfl ?_
          refine g_sub (L' := [(0, vR (some a)), (1, vI x1), (2, vI (x2 + 1)), (3, vI (x3 + (bI (i 54 ((x1 * 3) + x6) = x4)))), (4, vI x4), (5, vI (if (x2 = 0) then i 55 ((x1 * 3) + x6) else leastI x5 (i 55 ((x1 * 3) + x6)))), (6, vI (x6 + 1))]) [6, 7, 1, 2, 8, 3, 0] rfl ?_
          exact h
        refine g_icmp_ne (tgt := 126) (pc' := 122) rg22 (hob34) Iff.rfl dX5_sumUp_119 rfl rfl (fun c35 => ?_) (fun c35 => ?_)
        · refine g_iconst (pc' := 127) dX5_sumUp_126 rfl ?_
          rw [bI_f (p := (i 54 ((x1 * 3) + x6) = x4)) c35] at hJ
          exact hJ
        · refine g_iconst (pc' := 123) dX5_sumUp_122 rfl ?_
          refine g_goto (tgt := 127) dX5_sumUp_123 rfl ?_
          rw [bI_t (p := (i 54 ((x1 * 3) + x6) = x4)) c35] at hJ
          exact hJ
      refine g_if_eq (tgt := 100) (pc' := 93) (hob29) Iff.rfl dX5_sumUp_90 rfl rfl (fun c30 => ?_) (fun c30 => ?_)
      · exact hk36g (Or.inl c30)
      · refine g_iload (pc' := 95) 2 dX5_sumUp_93 rfl rfl ?_
        refine g_iload (pc' := 97) 7 dX5_sumUp_95 rfl rfl ?_
        refine g_icmp_le (tgt := 114) (pc' := 100) rg22 (hob31 c30) Iff.rfl dX5_sumUp_97 rfl rfl (fun c32 => ?_) (fun c32 => ?_)
        · exact hk37g (fun q => q.elim c30 (fun q => q c32))
        · exact hk36g (Or.inr c32)
    refine g_if_ne (tgt := 80) (pc' := 75) (hob25) Iff.rfl dX5_sumUp_72 rfl rfl (fun c26 => ?_) (fun c26 => ?_)
    · refine g_iload (pc' := 82) 7 dX5_sumUp_80 rfl rfl ?_
      refine g_iload (pc' := 84) 0 dX5_sumUp_82 rfl rfl ?_
      refine g_pSI (pc' := 87) (vs := [vI x5, vI (i 55 ((x1 * 3) + x6))]) (st := []) (val := leastI x5 (i 55 ((x1 * 3) + x6))) (sp_X5_leastOf (le_hd hd rfl) ) mk_X5_leastOf ms_X5_leastOf lk_X5_114 rfl (Nat.le_of_ble_eq_true rfl) (Nat.le_of_ble_eq_true rfl) rfl dX5_sumUp_84 rfl z2 (fun rg27 => ?_)
      rw [if_neg c26 (α := Int) (t := i 55 ((x1 * 3) + x6)) (e := leastI x5 (i 55 ((x1 * 3) + x6)))] at hJ
      exact hJ
    · refine g_iload (pc' := 77) 0 dX5_sumUp_75 rfl rfl ?_
      refine g_goto (tgt := 87) dX5_sumUp_77 rfl ?_
      rw [if_pos c26 (α := Int) (t := i 55 ((x1 * 3) + x6)) (e := leastI x5 (i 55 ((x1 * 3) + x6)))] at hJ
      exact hJ
  have hk40g : (¬ (3 ≤ x6) ∧ (iand (ishr (i 52 x1) x6) 1 = 0)) → gV w d X_X5_sumUp P i l 132 [(0, vR (some a)), (1, vI x1), (2, vI x2), (3, vI x3), (4, vI x4), (5, vI x5), (6, vI x6)] [] := by
    intro hp
    have h := hk40 hp
    refine g_iinc (pc' := 135) (L' := [(6, vI (x6 + 1)), (0, vR (some a)), (1, vI x1), (2, vI x2), (3, vI x3), (4, vI x4), (5, vI x5)]) 6 dX5_sumUp_132 rfl (Nat.le_of_ble_eq_true rfl) rfl rfl ?_
    refine g_goto (tgt := 13) dX5_sumUp_135 rfl ?_
    refine g_sub (L' := [(0, vR (some a)), (1, vI x1), (2, vI x2), (3, vI x3), (4, vI x4), (5, vI x5), (6, vI (x6 + 1))]) [1, 2, 3, 4, 5, 6, 0] rfl ?_
    exact h
  refine g_icmp_ge (tgt := 138) (pc' := 19) (hob2) (rg_lit rfl) Iff.rfl dX5_sumUp_16 rfl rfl (fun c3 => ?_) (fun c3 => ?_)
  · exact hk38g c3
  · refine g_aload_n (pc' := 20) 0 dX5_sumUp_19 rfl rfl ?_
    refine g_getR (pc' := 23) (o := some 51) fl_X5_48 (shP0 ha) rfl (rfPc ha) dX5_sumUp_20 rfl ?_
    refine g_getR (pc' := 26) (o := some 52) fl_X5_105 rfl rfl rfl dX5_sumUp_23 rfl ?_
    refine g_iload_n (pc' := 27) 1 dX5_sumUp_26 rfl rfl ?_
    refine g_iald (pc' := 28) (N := 10) rfl rfl (Nat.lt_of_lt_of_le (Nat.lt_succ_self _) (Nat.le_of_ble_eq_true rfl)) (hob6 c3) dX5_sumUp_27 rfl (fun rg7 => ?_)
    refine g_iload (pc' := 30) 6 dX5_sumUp_28 rfl rfl ?_
    refine g_ishr (pc' := 31) dX5_sumUp_30 rfl ?_
    refine g_iconst (pc' := 32) dX5_sumUp_31 rfl ?_
    refine g_iand (pc' := 33) dX5_sumUp_32 rfl ?_
    refine g_if_ne (tgt := 39) (pc' := 36) (rg_iand _ _) Iff.rfl dX5_sumUp_33 rfl rfl (fun c8 => ?_) (fun c8 => ?_)
    · exact hk39g ⟨c3, c8⟩
    · refine g_goto (tgt := 132) dX5_sumUp_36 rfl ?_
      exact hk40g ⟨c3, c8⟩
set_option maxRecDepth 20000 in
theorem s_X5_sumUp_100 {w : Wd} {d : Nat} {P : IM → LM → Prop} {i : IM} {l : LM} (x1 : Int) (x2 : Int) (x5 : Int) (x6 : Int) (x7 : Int) {a : Nat} (ha : a = 63 ∨ a = 73) (h : ((0 ≤ x1 ∧ x1 < 10) ∧ (rg x6) ∧ ((rg x7) ∧ gV w d X_X5_sumUp P (u2 i (a + 8) x1 x6) l 13 [(0, vR (some a)), (1, vI x1), (2, vI (x2 + 1)), (3, vI (0 + (bI (x7 = x7)))), (4, vI x7), (5, vI x5), (6, vI (x6 + 1))] []))) : gV w d X_X5_sumUp P i l 100 [(0, vR (some a)), (1, vI x1), (2, vI x2), (5, vI x5), (6, vI x6), (7, vI x7)] [] := by
  obtain ⟨ob41, ob42, h⟩ := h
  refine g_iload (pc' := 102) 5 dX5_sumUp_100 rfl rfl ?_
  refine g_istore (pc' := 104) (L' := [(4, vI x7), (0, vR (some a)), (1, vI x1), (2, vI x2), (5, vI x5), (6, vI x6), (7, vI x7)]) dX5_sumUp_102 rfl (Nat.le_of_ble_eq_true rfl) rfl ?_
  refine g_iconst (pc' := 105) dX5_sumUp_104 rfl ?_
  refine g_istore_n (pc' := 106) (L' := [(3, vI 0), (4, vI x7), (0, vR (some a)), (1, vI x1), (2, vI x2), (5, vI x5), (6, vI x6), (7, vI x7)]) dX5_sumUp_105 rfl (Nat.le_of_ble_eq_true rfl) rfl ?_
  refine g_aload_n (pc' := 107) 2 dX5_sumUp_106 rfl rfl ?_
  refine g_getR (pc' := 110) (o := some (a + 8)) fl_X5_34 (shP0 ha) rfl (rfP ha (k := 7) (by decide)) dX5_sumUp_107 rfl ?_
  refine g_iload_n (pc' := 111) 3 dX5_sumUp_110 rfl rfl ?_
  refine g_iload (pc' := 113) 6 dX5_sumUp_111 rfl rfl ?_
  refine g_iast (pc' := 114) (N := 10) (shP8 ha) rfl (Nat.lt_of_lt_of_le (Nat.lt_succ_self _) (Nat.le_of_ble_eq_true rfl)) ob41 ob42 dX5_sumUp_113 rfl ?_
  refine g_iload_n (pc' := 115) 0 dX5_sumUp_114 rfl rfl ?_
  refine g_iload (pc' := 117) 7 dX5_sumUp_115 rfl rfl ?_
  refine g_iload (pc' := 119) 1 dX5_sumUp_117 rfl rfl ?_
  obtain ⟨hob44, h⟩ := h
  have hJ : gV w d X_X5_sumUp P (u2 i (a + 8) x1 x6) l 127 [(3, vI 0), (4, vI x7), (0, vR (some a)), (1, vI x1), (2, vI x2), (5, vI x5), (6, vI x6), (7, vI x7)] [vI (bI (x7 = x7)), vI 0] := by
    refine g_iadd (pc' := 128) dX5_sumUp_127 rfl ?_
    refine g_istore_n (pc' := 129) (L' := [(3, vI (0 + (bI (x7 = x7)))), (4, vI x7), (0, vR (some a)), (1, vI x1), (2, vI x2), (5, vI x5), (6, vI x6), (7, vI x7)]) dX5_sumUp_128 rfl (Nat.le_of_ble_eq_true rfl) rfl ?_
    refine g_iinc (pc' := 132) (L' := [(2, vI (x2 + 1)), (3, vI (0 + (bI (x7 = x7)))), (4, vI x7), (0, vR (some a)), (1, vI x1), (5, vI x5), (6, vI x6), (7, vI x7)]) 4 dX5_sumUp_129 rfl (Nat.le_of_ble_eq_true rfl) rfl rfl ?_
    refine g_iinc (pc' := 135) (L' := [(6, vI (x6 + 1)), (2, vI (x2 + 1)), (3, vI (0 + (bI (x7 = x7)))), (4, vI x7), (0, vR (some a)), (1, vI x1), (5, vI x5), (7, vI x7)]) 6 dX5_sumUp_132 rfl (Nat.le_of_ble_eq_true rfl) rfl rfl ?_
    refine g_goto (tgt := 13) dX5_sumUp_135 rfl ?_
    refine g_sub (L' := [(0, vR (some a)), (1, vI x1), (2, vI (x2 + 1)), (3, vI (0 + (bI (x7 = x7)))), (4, vI x7), (5, vI x5), (6, vI (x6 + 1))]) [4, 5, 1, 2, 3, 6, 0] rfl ?_
    exact h
  refine g_icmp_ne (tgt := 126) (pc' := 122) (hob44) (hob44) Iff.rfl dX5_sumUp_119 rfl rfl (fun c45 => ?_) (fun c45 => ?_)
  · refine g_iconst (pc' := 127) dX5_sumUp_126 rfl ?_
    rw [bI_f (p := (x7 = x7)) c45] at hJ
    exact hJ
  · refine g_iconst (pc' := 123) dX5_sumUp_122 rfl ?_
    refine g_goto (tgt := 127) dX5_sumUp_123 rfl ?_
    rw [bI_t (p := (x7 = x7)) c45] at hJ
    exact hJ

theorem dX5_go_0 : decode cX5_go 0 = .ok (.iconst 0, 1) := by decide +kernel
theorem dX5_go_1 : decode cX5_go 1 = .ok (.istore_n 1, 1) := by decide +kernel
theorem dX5_go_2 : decode cX5_go 2 = .ok (.iconst 0, 1) := by decide +kernel
theorem dX5_go_3 : decode cX5_go 3 = .ok (.istore_n 2, 1) := by decide +kernel
theorem dX5_go_4 : decode cX5_go 4 = .ok (.iload_n 2, 1) := by decide +kernel
theorem dX5_go_5 : decode cX5_go 5 = .ok (.aload_n 0, 1) := by decide +kernel
theorem dX5_go_6 : decode cX5_go 6 = .ok (.getfield 48, 3) := by decide +kernel
theorem dX5_go_9 : decode cX5_go 9 = .ok (.getfield 91, 3) := by decide +kernel
theorem dX5_go_12 : decode cX5_go 12 = .ok (.if_icmp .ge 41, 3) := by decide +kernel
theorem dX5_go_15 : decode cX5_go 15 = .ok (.aload_n 0, 1) := by decide +kernel
theorem dX5_go_16 : decode cX5_go 16 = .ok (.getfield 48, 3) := by decide +kernel
theorem dX5_go_19 : decode cX5_go 19 = .ok (.iload_n 2, 1) := by decide +kernel
theorem dX5_go_20 : decode cX5_go 20 = .ok (.lconst 0, 1) := by decide +kernel
theorem dX5_go_21 : decode cX5_go 21 = .ok (.aload_n 0, 1) := by decide +kernel
theorem dX5_go_22 : decode cX5_go 22 = .ok (.getfield 15, 3) := by decide +kernel
theorem dX5_go_25 : decode cX5_go 25 = .ok (.iload_n 2, 1) := by decide +kernel
theorem dX5_go_26 : decode cX5_go 26 = .ok (.laload, 1) := by decide +kernel
theorem dX5_go_27 : decode cX5_go 27 = .ok (.aload_n 0, 1) := by decide +kernel
theorem dX5_go_28 : decode cX5_go 28 = .ok (.getfield 15, 3) := by decide +kernel
theorem dX5_go_31 : decode cX5_go 31 = .ok (.iload_n 2, 1) := by decide +kernel
theorem dX5_go_32 : decode cX5_go 32 = .ok (.laload, 1) := by decide +kernel
theorem dX5_go_33 : decode cX5_go 33 = .ok (.invokevirtual 125, 3) := by decide +kernel
theorem dX5_go_36 : decode cX5_go 36 = .ok (.lconst 0, 1) := by decide +kernel
theorem dX5_go_37 : decode cX5_go 37 = .ok (.lcmp, 1) := by decide +kernel
theorem dX5_go_38 : decode cX5_go 38 = .ok (.ifCond .eq 9, 3) := by decide +kernel
theorem dX5_go_41 : decode cX5_go 41 = .ok (.iload_n 1, 1) := by decide +kernel
theorem dX5_go_42 : decode cX5_go 42 = .ok (.iconst 1, 1) := by decide +kernel
theorem dX5_go_43 : decode cX5_go 43 = .ok (.iload_n 2, 1) := by decide +kernel
theorem dX5_go_44 : decode cX5_go 44 = .ok (.ishl, 1) := by decide +kernel
theorem dX5_go_45 : decode cX5_go 45 = .ok (.ior, 1) := by decide +kernel
theorem dX5_go_46 : decode cX5_go 46 = .ok (.istore_n 1, 1) := by decide +kernel
theorem dX5_go_47 : decode cX5_go 47 = .ok (.iinc 2 1, 3) := by decide +kernel
theorem dX5_go_50 : decode cX5_go 50 = .ok (.goto (-46), 3) := by decide +kernel
theorem dX5_go_53 : decode cX5_go 53 = .ok (.iload_n 1, 1) := by decide +kernel
theorem dX5_go_54 : decode cX5_go 54 = .ok (.ifCond .ne 13, 3) := by decide +kernel
theorem dX5_go_57 : decode cX5_go 57 = .ok (.aload_n 0, 1) := by decide +kernel
theorem dX5_go_58 : decode cX5_go 58 = .ok (.iconst 0, 1) := by decide +kernel
theorem dX5_go_59 : decode cX5_go 59 = .ok (.iconst 0, 1) := by decide +kernel
theorem dX5_go_60 : decode cX5_go 60 = .ok (.iconst 0, 1) := by decide +kernel
theorem dX5_go_61 : decode cX5_go 61 = .ok (.invokevirtual 129, 3) := by decide +kernel
theorem dX5_go_64 : decode cX5_go 64 = .ok (.goto 11, 3) := by decide +kernel
theorem dX5_go_67 : decode cX5_go 67 = .ok (.aload_n 0, 1) := by decide +kernel
theorem dX5_go_68 : decode cX5_go 68 = .ok (.iconst 0, 1) := by decide +kernel
theorem dX5_go_69 : decode cX5_go 69 = .ok (.iconst 0, 1) := by decide +kernel
theorem dX5_go_70 : decode cX5_go 70 = .ok (.iconst 0, 1) := by decide +kernel
theorem dX5_go_71 : decode cX5_go 71 = .ok (.iload_n 1, 1) := by decide +kernel
theorem dX5_go_72 : decode cX5_go 72 = .ok (.invokevirtual 132, 3) := by decide +kernel
theorem dX5_go_75 : decode cX5_go 75 = .ok (.return_, 1) := by decide +kernel
set_option maxRecDepth 20000 in
theorem s_X5_go {w : Wd} {d : Nat} {P : IM → LM → Prop} {i : IM} {l : LM}  {a : Nat} (ha : a = 63 ∨ a = 73) (h : gV w d X_X5_go P i l 4 [(0, vR (some a)), (1, vI 0), (2, vI 0)] []) : gV w d X_X5_go P i l 0 [(0, vR (some a))] [] := by
  refine g_iconst (pc' := 1) dX5_go_0 rfl ?_
  refine g_istore_n (pc' := 2) (L' := [(1, vI 0), (0, vR (some a))]) dX5_go_1 rfl (Nat.le_of_ble_eq_true rfl) rfl ?_
  refine g_iconst (pc' := 3) dX5_go_2 rfl ?_
  refine g_istore_n (pc' := 4) (L' := [(2, vI 0), (1, vI 0), (0, vR (some a))]) dX5_go_3 rfl (Nat.le_of_ble_eq_true rfl) rfl ?_
  refine g_sub (L' := [(0, vR (some a)), (1, vI 0), (2, vI 0)]) [2, 1, 0] rfl ?_
  exact h
theorem e_X5_go {w : Wd} {d : Nat} {P : IM → LM → Prop} {i : IM} {l : LM}  {a : Nat} (h : gV w d X_X5_go P i l 0 [(0, vR (some a))] []) : cVd w (d + 1) X_X5_go [vR (some a)] i l P := CV_of (by decide +kernel) (Nat.le_of_ble_eq_true rfl) h
set_option maxRecDepth 20000 in
theorem s_X5_go_4 {w : Wd} {d : Nat} {P : IM → LM → Prop} {i : IM} {l : LM} (x1 : Int) (x2 : Int) {a : Nat} (ha : a = 63 ∨ a = 73) (hd : 2 ≤ d) (h : ((rg x2) ∧ ((i 51 13 ≤ x2) → rg x1) ∧ (¬ (i 51 13 ≤ x2) → 0 ≤ x2 ∧ x2 < 12) ∧ (¬ (i 51 13 ≤ x2) → 0 ≤ x2 ∧ x2 < 132) ∧ (((i 51 13 ≤ x2) ∧ (¬ (x1 = 0))) → cVd w d X_X5_explore [vR (some a), vI 0, vI 0, vI 0, vI x1] i l (fun i11 l11 => P i11 l11)) ∧ (((i 51 13 ≤ x2) ∧ (x1 = 0)) → cVd w d X_X5_record [vR (some a), vI 0, vI 0, vI 0] i l (fun i12 l12 => P i12 l12)) ∧ ((¬ (i 51 13 ≤ x2) ∧ (mayF l x2 0 (l (a + 2) x2) (l (a + 2) x2) = 0)) → gV w d X_X5_go P i l 4 [(0, vR (some a)), (1, vI x1), (2, vI (x2 + 1))] []) ∧ ((¬ (i 51 13 ≤ x2) ∧ (¬ (mayF l x2 0 (l (a + 2) x2) (l (a + 2) x2) = 0))) → gV w d X_X5_go P i l 4 [(0, vR (some a)), (1, vI (ior x1 (ishl 1 x2))), (2, vI (x2 + 1))] []))) : gV w d X_X5_go P i l 4 [(0, vR (some a)), (1, vI x1), (2, vI x2)] [] := by
  refine g_iload_n (pc' := 5) 2 dX5_go_4 rfl rfl ?_
  refine g_aload_n (pc' := 6) 0 dX5_go_5 rfl rfl ?_
  refine g_getR (pc' := 9) (o := some 51) fl_X5_48 (shP0 ha) rfl (rfPc ha) dX5_go_6 rfl ?_
  refine g_getI (pc' := 12) (z := 13) rfl fl_X5_91 rfl rfl dX5_go_9 rfl (fun rg1 => ?_)
  obtain ⟨hob3, hob5, hob7, hob8, hk13, hk14, hk15, hk16⟩ := h
  have hk13g : ((i 51 13 ≤ x2) ∧ (¬ (x1 = 0))) → gV w d X_X5_go P i l 67 [(0, vR (some a)), (1, vI x1), (2, vI x2)] [] := by
    intro hp
    have h := hk13 hp
    refine g_aload_n (pc' := 68) 0 dX5_go_67 rfl rfl ?_
    refine g_iconst (pc' := 69) dX5_go_68 rfl ?_
    refine g_iconst (pc' := 70) dX5_go_69 rfl ?_
    refine g_iconst (pc' := 71) dX5_go_70 rfl ?_
    refine g_iload_n (pc' := 72) 1 dX5_go_71 rfl rfl ?_
    refine g_cVV (pc' := 75) (vs := [vI 0, vI 0, vI 0, vI x1]) (st := []) (c := 5) h mv_X5_explore lk_X5_132 rfl rfl (shP0 ha) rfl (Nat.le_of_ble_eq_true rfl) (Nat.le_of_ble_eq_true rfl) rfl dX5_go_72 rfl z2 (fun i11 l11 h => ?_)
    exact g_retV rfl dX5_go_75 h
  have hk14g : ((i 51 13 ≤ x2) ∧ (x1 = 0)) → gV w d X_X5_go P i l 57 [(0, vR (some a)), (1, vI x1), (2, vI x2)] [] := by
    intro hp
    have h := hk14 hp
    refine g_aload_n (pc' := 58) 0 dX5_go_57 rfl rfl ?_
    refine g_iconst (pc' := 59) dX5_go_58 rfl ?_
    refine g_iconst (pc' := 60) dX5_go_59 rfl ?_
    refine g_iconst (pc' := 61) dX5_go_60 rfl ?_
    refine g_cVV (pc' := 64) (vs := [vI 0, vI 0, vI 0]) (st := []) (c := 5) h mv_X5_record lk_X5_129 rfl rfl (shP0 ha) rfl (Nat.le_of_ble_eq_true rfl) (Nat.le_of_ble_eq_true rfl) rfl dX5_go_61 rfl z2 (fun i12 l12 h => ?_)
    refine g_goto (tgt := 75) dX5_go_64 rfl ?_
    exact g_retV rfl dX5_go_75 h
  have hk15g : (¬ (i 51 13 ≤ x2) ∧ (mayF l x2 0 (l (a + 2) x2) (l (a + 2) x2) = 0)) → gV w d X_X5_go P i l 47 [(0, vR (some a)), (1, vI x1), (2, vI x2)] [] := by
    intro hp
    have h := hk15 hp
    refine g_iinc (pc' := 50) (L' := [(2, vI (x2 + 1)), (0, vR (some a)), (1, vI x1)]) 2 dX5_go_47 rfl (Nat.le_of_ble_eq_true rfl) rfl rfl ?_
    refine g_goto (tgt := 4) dX5_go_50 rfl ?_
    refine g_sub (L' := [(0, vR (some a)), (1, vI x1), (2, vI (x2 + 1))]) [1, 2, 0] rfl ?_
    exact h
  have hk16g : (¬ (i 51 13 ≤ x2) ∧ (¬ (mayF l x2 0 (l (a + 2) x2) (l (a + 2) x2) = 0))) → gV w d X_X5_go P i l 41 [(0, vR (some a)), (1, vI x1), (2, vI x2)] [] := by
    intro hp
    have h := hk16 hp
    refine g_iload_n (pc' := 42) 1 dX5_go_41 rfl rfl ?_
    refine g_iconst (pc' := 43) dX5_go_42 rfl ?_
    refine g_iload_n (pc' := 44) 2 dX5_go_43 rfl rfl ?_
    refine g_ishl (pc' := 45) dX5_go_44 rfl ?_
    refine g_ior (pc' := 46) dX5_go_45 rfl ?_
    refine g_istore_n (pc' := 47) (L' := [(1, vI (ior x1 (ishl 1 x2))), (0, vR (some a)), (2, vI x2)]) dX5_go_46 rfl (Nat.le_of_ble_eq_true rfl) rfl ?_
    refine g_iinc (pc' := 50) (L' := [(2, vI (x2 + 1)), (1, vI (ior x1 (ishl 1 x2))), (0, vR (some a))]) 2 dX5_go_47 rfl (Nat.le_of_ble_eq_true rfl) rfl rfl ?_
    refine g_goto (tgt := 4) dX5_go_50 rfl ?_
    refine g_sub (L' := [(0, vR (some a)), (1, vI (ior x1 (ishl 1 x2))), (2, vI (x2 + 1))]) [2, 1, 0] rfl ?_
    exact h
  refine g_icmp_ge (tgt := 53) (pc' := 15) (hob3) rg1 Iff.rfl dX5_go_12 rfl rfl (fun c4 => ?_) (fun c4 => ?_)
  · refine g_iload_n (pc' := 54) 1 dX5_go_53 rfl rfl ?_
    refine g_if_ne (tgt := 67) (pc' := 57) (hob5 c4) Iff.rfl dX5_go_54 rfl rfl (fun c6 => ?_) (fun c6 => ?_)
    · exact hk13g ⟨c4, c6⟩
    · exact hk14g ⟨c4, c6⟩
  · refine g_aload_n (pc' := 16) 0 dX5_go_15 rfl rfl ?_
    refine g_getR (pc' := 19) (o := some 51) fl_X5_48 (shP0 ha) rfl (rfPc ha) dX5_go_16 rfl ?_
    refine g_iload_n (pc' := 20) 2 dX5_go_19 rfl rfl ?_
    refine g_lconst (pc' := 21) (v := 0) dX5_go_20 rfl rfl ?_
    refine g_aload_n (pc' := 22) 0 dX5_go_21 rfl rfl ?_
    refine g_getR (pc' := 25) (o := some (a + 2)) fl_X5_15 (shP0 ha) rfl (rfP ha (k := 1) (by decide)) dX5_go_22 rfl ?_
    refine g_iload_n (pc' := 26) 2 dX5_go_25 rfl rfl ?_
    refine g_lald (pc' := 27) (N := 12) (shP2 ha) rfl (Nat.lt_of_lt_of_le (Nat.lt_succ_self _) (Nat.le_of_ble_eq_true rfl)) (hob7 c4) dX5_go_26 rfl ?_
    refine g_aload_n (pc' := 28) 0 dX5_go_27 rfl rfl ?_
    refine g_getR (pc' := 31) (o := some (a + 2)) fl_X5_15 (shP0 ha) rfl (rfP ha (k := 1) (by decide)) dX5_go_28 rfl ?_
    refine g_iload_n (pc' := 32) 2 dX5_go_31 rfl rfl ?_
    refine g_lald (pc' := 33) (N := 12) (shP2 ha) rfl (Nat.lt_of_lt_of_le (Nat.lt_succ_self _) (Nat.le_of_ble_eq_true rfl)) (hob7 c4) dX5_go_32 rfl ?_
    refine g_pVL (pc' := 36) (vs := [vI x2, vL 0, vL (l (a + 2) x2), vL (l (a + 2) x2)]) (st := []) (val := mayF l x2 0 (l (a + 2) x2) (l (a + 2) x2)) (c := 1) (sp_X1_mayFail (le_hd hd rfl) (hob8 c4)) mv_X1_mayFail lk_X5_125 rfl rfl rfl rfl (Nat.le_of_ble_eq_true rfl) (Nat.le_of_ble_eq_true rfl) rfl dX5_go_33 rfl z2 ?_
    refine g_lconst (pc' := 37) (v := 0) dX5_go_36 rfl rfl ?_
    refine g_lcmp (pc' := 38) dX5_go_37 rfl ?_
    refine g_if_eq (tgt := 47) (pc' := 41) (rg_lcmpI _ _) (lcmpI_eq _ _) dX5_go_38 rfl rfl (fun c10 => ?_) (fun c10 => ?_)
    · exact hk15g ⟨c4, c10⟩
    · exact hk16g ⟨c4, c10⟩

theorem dX5_explore_0 : decode cX5_explore 0 = .ok (.iload_n 1, 1) := by decide +kernel
theorem dX5_explore_1 : decode cX5_explore 1 = .ok (.aload_n 0, 1) := by decide +kernel
theorem dX5_explore_2 : decode cX5_explore 2 = .ok (.getfield 44, 3) := by decide +kernel
theorem dX5_explore_5 : decode cX5_explore 5 = .ok (.getfield 98, 3) := by decide +kernel
theorem dX5_explore_8 : decode cX5_explore 8 = .ok (.if_icmp .lt 4, 3) := by decide +kernel
theorem dX5_explore_11 : decode cX5_explore 11 = .ok (.return_, 1) := by decide +kernel
theorem dX5_explore_12 : decode cX5_explore 12 = .ok (.iconst 0, 1) := by decide +kernel
theorem dX5_explore_13 : decode cX5_explore 13 = .ok (.istore 5, 2) := by decide +kernel
theorem dX5_explore_15 : decode cX5_explore 15 = .ok (.iload 5, 2) := by decide +kernel
theorem dX5_explore_17 : decode cX5_explore 17 = .ok (.iconst 3, 1) := by decide +kernel
theorem dX5_explore_18 : decode cX5_explore 18 = .ok (.if_icmp .ge 194, 3) := by decide +kernel
theorem dX5_explore_21 : decode cX5_explore 21 = .ok (.aload_n 0, 1) := by decide +kernel
theorem dX5_explore_22 : decode cX5_explore 22 = .ok (.getfield 48, 3) := by decide +kernel
theorem dX5_explore_25 : decode cX5_explore 25 = .ok (.getfield 105, 3) := by decide +kernel
theorem dX5_explore_28 : decode cX5_explore 28 = .ok (.iload_n 1, 1) := by decide +kernel
theorem dX5_explore_29 : decode cX5_explore 29 = .ok (.iaload, 1) := by decide +kernel
theorem dX5_explore_30 : decode cX5_explore 30 = .ok (.iload 5, 2) := by decide +kernel
theorem dX5_explore_32 : decode cX5_explore 32 = .ok (.ishr, 1) := by decide +kernel
theorem dX5_explore_33 : decode cX5_explore 33 = .ok (.iconst 1, 1) := by decide +kernel
theorem dX5_explore_34 : decode cX5_explore 34 = .ok (.iand, 1) := by decide +kernel
theorem dX5_explore_35 : decode cX5_explore 35 = .ok (.ifCond .eq 171, 3) := by decide +kernel
theorem dX5_explore_38 : decode cX5_explore 38 = .ok (.aload_n 0, 1) := by decide +kernel
theorem dX5_explore_39 : decode cX5_explore 39 = .ok (.getfield 77, 3) := by decide +kernel
theorem dX5_explore_42 : decode cX5_explore 42 = .ok (.iconst 1, 1) := by decide +kernel
theorem dX5_explore_43 : decode cX5_explore 43 = .ok (.if_icmp .ne 13, 3) := by decide +kernel
theorem dX5_explore_46 : decode cX5_explore 46 = .ok (.aload_n 0, 1) := by decide +kernel
theorem dX5_explore_47 : decode cX5_explore 47 = .ok (.getfield 71, 3) := by decide +kernel
theorem dX5_explore_50 : decode cX5_explore 50 = .ok (.ifCond .le 6, 3) := by decide +kernel
theorem dX5_explore_53 : decode cX5_explore 53 = .ok (.goto 153, 3) := by decide +kernel
theorem dX5_explore_56 : decode cX5_explore 56 = .ok (.iload_n 1, 1) := by decide +kernel
theorem dX5_explore_57 : decode cX5_explore 57 = .ok (.iconst 3, 1) := by decide +kernel
theorem dX5_explore_58 : decode cX5_explore 58 = .ok (.imul, 1) := by decide +kernel
theorem dX5_explore_59 : decode cX5_explore 59 = .ok (.iload 5, 2) := by decide +kernel
theorem dX5_explore_61 : decode cX5_explore 61 = .ok (.iadd, 1) := by decide +kernel
theorem dX5_explore_62 : decode cX5_explore 62 = .ok (.istore 6, 2) := by decide +kernel
theorem dX5_explore_64 : decode cX5_explore 64 = .ok (.iload_n 2, 1) := by decide +kernel
theorem dX5_explore_65 : decode cX5_explore 65 = .ok (.aload_n 0, 1) := by decide +kernel
theorem dX5_explore_66 : decode cX5_explore 66 = .ok (.getfield 48, 3) := by decide +kernel
theorem dX5_explore_69 : decode cX5_explore 69 = .ok (.getfield 108, 3) := by decide +kernel
theorem dX5_explore_72 : decode cX5_explore 72 = .ok (.iload 6, 2) := by decide +kernel
theorem dX5_explore_74 : decode cX5_explore 74 = .ok (.iaload, 1) := by decide +kernel
theorem dX5_explore_75 : decode cX5_explore 75 = .ok (.iadd, 1) := by decide +kernel
theorem dX5_explore_76 : decode cX5_explore 76 = .ok (.istore 7, 2) := by decide +kernel
theorem dX5_explore_78 : decode cX5_explore 78 = .ok (.aload_n 0, 1) := by decide +kernel
theorem dX5_explore_79 : decode cX5_explore 79 = .ok (.getfield 77, 3) := by decide +kernel
theorem dX5_explore_82 : decode cX5_explore 82 = .ok (.iconst 2, 1) := by decide +kernel
theorem dX5_explore_83 : decode cX5_explore 83 = .ok (.if_icmp .ne 21, 3) := by decide +kernel
theorem dX5_explore_86 : decode cX5_explore 86 = .ok (.iload 7, 2) := by decide +kernel
theorem dX5_explore_88 : decode cX5_explore 88 = .ok (.aload_n 0, 1) := by decide +kernel
theorem dX5_explore_89 : decode cX5_explore 89 = .ok (.getfield 28, 3) := by decide +kernel
theorem dX5_explore_92 : decode cX5_explore 92 = .ok (.iload_n 1, 1) := by decide +kernel
theorem dX5_explore_93 : decode cX5_explore 93 = .ok (.iconst 1, 1) := by decide +kernel
theorem dX5_explore_94 : decode cX5_explore 94 = .ok (.iadd, 1) := by decide +kernel
theorem dX5_explore_95 : decode cX5_explore 95 = .ok (.iaload, 1) := by decide +kernel
theorem dX5_explore_96 : decode cX5_explore 96 = .ok (.iadd, 1) := by decide +kernel
theorem dX5_explore_97 : decode cX5_explore 97 = .ok (.aload_n 0, 1) := by decide +kernel
theorem dX5_explore_98 : decode cX5_explore 98 = .ok (.getfield 74, 3) := by decide +kernel
theorem dX5_explore_101 : decode cX5_explore 101 = .ok (.if_icmp .le 105, 3) := by decide +kernel
theorem dX5_explore_104 : decode cX5_explore 104 = .ok (.aload_n 0, 1) := by decide +kernel
theorem dX5_explore_105 : decode cX5_explore 105 = .ok (.getfield 77, 3) := by decide +kernel
theorem dX5_explore_108 : decode cX5_explore 108 = .ok (.ifCond .eq 18, 3) := by decide +kernel
theorem dX5_explore_111 : decode cX5_explore 111 = .ok (.aload_n 0, 1) := by decide +kernel
theorem dX5_explore_112 : decode cX5_explore 112 = .ok (.iload_n 1, 1) := by decide +kernel
theorem dX5_explore_113 : decode cX5_explore 113 = .ok (.iload 5, 2) := by decide +kernel
theorem dX5_explore_115 : decode cX5_explore 115 = .ok (.iload 4, 2) := by decide +kernel
theorem dX5_explore_117 : decode cX5_explore 117 = .ok (.invokevirtual 136, 3) := by decide +kernel
theorem dX5_explore_120 : decode cX5_explore 120 = .ok (.ifCond .eq 6, 3) := by decide +kernel
theorem dX5_explore_123 : decode cX5_explore 123 = .ok (.goto 83, 3) := by decide +kernel
theorem dX5_explore_126 : decode cX5_explore 126 = .ok (.aload_n 0, 1) := by decide +kernel
theorem dX5_explore_127 : decode cX5_explore 127 = .ok (.iload_n 1, 1) := by decide +kernel
theorem dX5_explore_128 : decode cX5_explore 128 = .ok (.iload 6, 2) := by decide +kernel
theorem dX5_explore_130 : decode cX5_explore 130 = .ok (.iload 4, 2) := by decide +kernel
theorem dX5_explore_132 : decode cX5_explore 132 = .ok (.invokevirtual 140, 3) := by decide +kernel
theorem dX5_explore_135 : decode cX5_explore 135 = .ok (.istore 8, 2) := by decide +kernel
theorem dX5_explore_137 : decode cX5_explore 137 = .ok (.iload 8, 2) := by decide +kernel
theorem dX5_explore_139 : decode cX5_explore 139 = .ok (.iconst (-1), 1) := by decide +kernel
theorem dX5_explore_140 : decode cX5_explore 140 = .ok (.if_icmp .ne 6, 3) := by decide +kernel
theorem dX5_explore_143 : decode cX5_explore 143 = .ok (.goto 63, 3) := by decide +kernel
theorem dX5_explore_146 : decode cX5_explore 146 = .ok (.aload_n 0, 1) := by decide +kernel
theorem dX5_explore_147 : decode cX5_explore 147 = .ok (.getfield 18, 3) := by decide +kernel
theorem dX5_explore_150 : decode cX5_explore 150 = .ok (.iload_n 1, 1) := by decide +kernel
theorem dX5_explore_151 : decode cX5_explore 151 = .ok (.iload 5, 2) := by decide +kernel
theorem dX5_explore_153 : decode cX5_explore 153 = .ok (.iastore, 1) := by decide +kernel
theorem dX5_explore_154 : decode cX5_explore 154 = .ok (.iload 8, 2) := by decide +kernel
theorem dX5_explore_156 : decode cX5_explore 156 = .ok (.ifCond .ne 27, 3) := by decide +kernel
theorem dX5_explore_159 : decode cX5_explore 159 = .ok (.aload_n 0, 1) := by decide +kernel
theorem dX5_explore_160 : decode cX5_explore 160 = .ok (.iload_n 1, 1) := by decide +kernel
theorem dX5_explore_161 : decode cX5_explore 161 = .ok (.iconst 1, 1) := by decide +kernel
theorem dX5_explore_162 : decode cX5_explore 162 = .ok (.iadd, 1) := by decide +kernel
theorem dX5_explore_163 : decode cX5_explore 163 = .ok (.iload 7, 2) := by decide +kernel
theorem dX5_explore_165 : decode cX5_explore 165 = .ok (.iload_n 3, 1) := by decide +kernel
theorem dX5_explore_166 : decode cX5_explore 166 = .ok (.aload_n 0, 1) := by decide +kernel
theorem dX5_explore_167 : decode cX5_explore 167 = .ok (.getfield 48, 3) := by decide +kernel
theorem dX5_explore_170 : decode cX5_explore 170 = .ok (.getfield 111, 3) := by decide +kernel
theorem dX5_explore_173 : decode cX5_explore 173 = .ok (.iload 6, 2) := by decide +kernel
theorem dX5_explore_175 : decode cX5_explore 175 = .ok (.iaload, 1) := by decide +kernel
theorem dX5_explore_176 : decode cX5_explore 176 = .ok (.iadd, 1) := by decide +kernel
theorem dX5_explore_177 : decode cX5_explore 177 = .ok (.invokevirtual 129, 3) := by decide +kernel
theorem dX5_explore_180 : decode cX5_explore 180 = .ok (.goto 26, 3) := by decide +kernel
theorem dX5_explore_183 : decode cX5_explore 183 = .ok (.aload_n 0, 1) := by decide +kernel
theorem dX5_explore_184 : decode cX5_explore 184 = .ok (.iload_n 1, 1) := by decide +kernel
theorem dX5_explore_185 : decode cX5_explore 185 = .ok (.iconst 1, 1) := by decide +kernel
theorem dX5_explore_186 : decode cX5_explore 186 = .ok (.iadd, 1) := by decide +kernel
theorem dX5_explore_187 : decode cX5_explore 187 = .ok (.iload 7, 2) := by decide +kernel
theorem dX5_explore_189 : decode cX5_explore 189 = .ok (.iload_n 3, 1) := by decide +kernel
theorem dX5_explore_190 : decode cX5_explore 190 = .ok (.aload_n 0, 1) := by decide +kernel
theorem dX5_explore_191 : decode cX5_explore 191 = .ok (.getfield 48, 3) := by decide +kernel
theorem dX5_explore_194 : decode cX5_explore 194 = .ok (.getfield 111, 3) := by decide +kernel
theorem dX5_explore_197 : decode cX5_explore 197 = .ok (.iload 6, 2) := by decide +kernel
theorem dX5_explore_199 : decode cX5_explore 199 = .ok (.iaload, 1) := by decide +kernel
theorem dX5_explore_200 : decode cX5_explore 200 = .ok (.iadd, 1) := by decide +kernel
theorem dX5_explore_201 : decode cX5_explore 201 = .ok (.iload 8, 2) := by decide +kernel
theorem dX5_explore_203 : decode cX5_explore 203 = .ok (.invokevirtual 132, 3) := by decide +kernel
theorem dX5_explore_206 : decode cX5_explore 206 = .ok (.iinc 5 1, 3) := by decide +kernel
theorem dX5_explore_209 : decode cX5_explore 209 = .ok (.goto (-194), 3) := by decide +kernel
theorem dX5_explore_212 : decode cX5_explore 212 = .ok (.return_, 1) := by decide +kernel
set_option maxRecDepth 20000 in
theorem s_X5_explore {w : Wd} {d : Nat} {P : IM → LM → Prop} {i : IM} {l : LM} (p0 : Int) (p1 : Int) (p2 : Int) (p3 : Int) {a : Nat} (ha : a = 63 ∨ a = 73) (h : ((rg p0) ∧ ((p0 < i 7 8) → gV w d X_X5_explore P i l 15 [(0, vR (some a)), (1, vI p0), (2, vI p1), (3, vI p2), (4, vI p3), (5, vI 0)] []) ∧ ((¬ (p0 < i 7 8)) → P i l))) : gV w d X_X5_explore P i l 0 [(0, vR (some a)), (1, vI p0), (2, vI p1), (3, vI p2), (4, vI p3)] [] := by
  refine g_iload_n (pc' := 1) 1 dX5_explore_0 rfl rfl ?_
  refine g_aload_n (pc' := 2) 0 dX5_explore_1 rfl rfl ?_
  refine g_getR (pc' := 5) (o := some 7) fl_X5_44 (shP0 ha) rfl (rfPt ha) dX5_explore_2 rfl ?_
  refine g_getI (pc' := 8) (z := 8) rfl fl_X5_98 rfl rfl dX5_explore_5 rfl (fun rg1 => ?_)
  obtain ⟨hob3, hk5, hk6⟩ := h
  refine g_icmp_lt (tgt := 12) (pc' := 11) (hob3) rg1 Iff.rfl dX5_explore_8 rfl rfl (fun c4 => ?_) (fun c4 => ?_)
  · have h := hk5 c4
    refine g_iconst (pc' := 13) dX5_explore_12 rfl ?_
    refine g_istore (pc' := 15) (L' := [(5, vI 0), (0, vR (some a)), (1, vI p0), (2, vI p1), (3, vI p2), (4, vI p3)]) dX5_explore_13 rfl (Nat.le_of_ble_eq_true rfl) rfl ?_
    refine g_sub (L' := [(0, vR (some a)), (1, vI p0), (2, vI p1), (3, vI p2), (4, vI p3), (5, vI 0)]) [1, 2, 3, 4, 5, 0] rfl ?_
    exact h
  · have h := hk6 c4
    exact g_retV rfl dX5_explore_11 h
theorem e_X5_explore {w : Wd} {d : Nat} {P : IM → LM → Prop} {i : IM} {l : LM} {p0 : Int} {p1 : Int} {p2 : Int} {p3 : Int} {a : Nat} (h : gV w d X_X5_explore P i l 0 [(0, vR (some a)), (1, vI p0), (2, vI p1), (3, vI p2), (4, vI p3)] []) : cVd w (d + 1) X_X5_explore [vR (some a), vI p0, vI p1, vI p2, vI p3] i l P := CV_of (by decide +kernel) (Nat.le_of_ble_eq_true rfl) h
set_option maxRecDepth 20000 in
theorem s_X5_explore_15 {w : Wd} {d : Nat} {P : IM → LM → Prop} {i : IM} {l : LM} (x1 : Int) (x2 : Int) (x3 : Int) (x4 : Int) (x5 : Int) {a : Nat} (ha : a = 63 ∨ a = 73) (h : ((rg x5) ∧ (¬ (3 ≤ x5) → 0 ≤ x1 ∧ x1 < 10) ∧ ((3 ≤ x5) → P i l) ∧ ((¬ (3 ≤ x5) ∧ ((iand (ishr (i 52 x1) x5) 1 = 0) ∨ ((i a 15 = 1) ∧ (¬ (i a 11 ≤ 0))))) → gV w d X_X5_explore P i l 15 [(0, vR (some a)), (1, vI x1), (2, vI x2), (3, vI x3), (4, vI x4), (5, vI (x5 + 1))] []) ∧ ((¬ (3 ≤ x5) ∧ (¬ (iand (ishr (i 52 x1) x5) 1 = 0) ∧ (¬ (i a 15 = 1) ∨ (i a 11 ≤ 0)))) → gV w d X_X5_explore P i l 56 [(0, vR (some a)), (1, vI x1), (2, vI x2), (3, vI x3), (4, vI x4), (5, vI x5)] []))) : gV w d X_X5_explore P i l 15 [(0, vR (some a)), (1, vI x1), (2, vI x2), (3, vI x3), (4, vI x4), (5, vI x5)] [] := by
  refine g_iload (pc' := 17) 5 dX5_explore_15 rfl rfl ?_
  refine g_iconst (pc' := 18) dX5_explore_17 rfl ?_
  obtain ⟨hob8, hob10, hk17, hk18, hk19⟩ := h
  have hk17g : (3 ≤ x5) → gV w d X_X5_explore P i l 212 [(0, vR (some a)), (1, vI x1), (2, vI x2), (3, vI x3), (4, vI x4), (5, vI x5)] [] := by
    intro hp
    have h := hk17 hp
    exact g_retV rfl dX5_explore_212 h
  have hk18g : (¬ (3 ≤ x5) ∧ ((iand (ishr (i 52 x1) x5) 1 = 0) ∨ ((i a 15 = 1) ∧ (¬ (i a 11 ≤ 0))))) → gV w d X_X5_explore P i l 206 [(0, vR (some a)), (1, vI x1), (2, vI x2), (3, vI x3), (4, vI x4), (5, vI x5)] [] := by
    intro hp
    have h := hk18 hp
    refine g_iinc (pc' := 209) (L' := [(5, vI (x5 + 1)), (0, vR (some a)), (1, vI x1), (2, vI x2), (3, vI x3), (4, vI x4)]) 5 dX5_explore_206 rfl (Nat.le_of_ble_eq_true rfl) rfl rfl ?_
    refine g_goto (tgt := 15) dX5_explore_209 rfl ?_
    refine g_sub (L' := [(0, vR (some a)), (1, vI x1), (2, vI x2), (3, vI x3), (4, vI x4), (5, vI (x5 + 1))]) [1, 2, 3, 4, 5, 0] rfl ?_
    exact h
  have hk19g : (¬ (3 ≤ x5) ∧ (¬ (iand (ishr (i 52 x1) x5) 1 = 0) ∧ (¬ (i a 15 = 1) ∨ (i a 11 ≤ 0)))) → gV w d X_X5_explore P i l 56 [(0, vR (some a)), (1, vI x1), (2, vI x2), (3, vI x3), (4, vI x4), (5, vI x5)] [] := by
    intro hp
    have h := hk19 hp
    exact h
  refine g_icmp_ge (tgt := 212) (pc' := 21) (hob8) (rg_lit rfl) Iff.rfl dX5_explore_18 rfl rfl (fun c9 => ?_) (fun c9 => ?_)
  · exact hk17g c9
  · refine g_aload_n (pc' := 22) 0 dX5_explore_21 rfl rfl ?_
    refine g_getR (pc' := 25) (o := some 51) fl_X5_48 (shP0 ha) rfl (rfPc ha) dX5_explore_22 rfl ?_
    refine g_getR (pc' := 28) (o := some 52) fl_X5_105 rfl rfl rfl dX5_explore_25 rfl ?_
    refine g_iload_n (pc' := 29) 1 dX5_explore_28 rfl rfl ?_
    refine g_iald (pc' := 30) (N := 10) rfl rfl (Nat.lt_of_lt_of_le (Nat.lt_succ_self _) (Nat.le_of_ble_eq_true rfl)) (hob10 c9) dX5_explore_29 rfl (fun rg11 => ?_)
    refine g_iload (pc' := 32) 5 dX5_explore_30 rfl rfl ?_
    refine g_ishr (pc' := 33) dX5_explore_32 rfl ?_
    refine g_iconst (pc' := 34) dX5_explore_33 rfl ?_
    refine g_iand (pc' := 35) dX5_explore_34 rfl ?_
    refine g_if_eq (tgt := 206) (pc' := 38) (rg_iand _ _) Iff.rfl dX5_explore_35 rfl rfl (fun c12 => ?_) (fun c12 => ?_)
    · exact hk18g ⟨c9, (Or.inl c12)⟩
    · refine g_aload_n (pc' := 39) 0 dX5_explore_38 rfl rfl ?_
      refine g_getI (pc' := 42) (z := 15) rfl fl_X5_77 (shP0 ha) rfl dX5_explore_39 rfl (fun rg13 => ?_)
      refine g_iconst (pc' := 43) dX5_explore_42 rfl ?_
      refine g_icmp_ne (tgt := 56) (pc' := 46) rg13 (rg_lit rfl) Iff.rfl dX5_explore_43 rfl rfl (fun c14 => ?_) (fun c14 => ?_)
      · exact hk19g ⟨c9, ⟨c12, (Or.inl c14)⟩⟩
      · refine g_aload_n (pc' := 47) 0 dX5_explore_46 rfl rfl ?_
        refine g_getI (pc' := 50) (z := 11) rfl fl_X5_71 (shP0 ha) rfl dX5_explore_47 rfl (fun rg15 => ?_)
        refine g_if_le (tgt := 56) (pc' := 53) rg15 Iff.rfl dX5_explore_50 rfl rfl (fun c16 => ?_) (fun c16 => ?_)
        · exact hk19g ⟨c9, ⟨c12, (Or.inr c16)⟩⟩
        · refine g_goto (tgt := 206) dX5_explore_53 rfl ?_
          exact hk18g ⟨c9, (Or.inr ⟨c14, c16⟩)⟩
set_option maxRecDepth 20000 in
theorem s_X5_explore_56 {w : Wd} {d : Nat} {P : IM → LM → Prop} {i : IM} {l : LM} (x1 : Int) (x2 : Int) (x3 : Int) (x4 : Int) (x5 : Int) {a : Nat} (ha : a = 63 ∨ a = 73) (h : ((0 ≤ (x1 * 3) + x5 ∧ (x1 * 3) + x5 < 30) ∧ (((i a 15 = 2) → 0 ≤ x1 + 1 ∧ x1 + 1 < 11) ∧ ((i a 15 = 2) → rg ((x2 + (i 54 ((x1 * 3) + x5))) + (i (a + 6) (x1 + 1)))) ∧ (((i a 15 = 2) ∧ ((x2 + (i 54 ((x1 * 3) + x5))) + (i (a + 6) (x1 + 1)) ≤ i a 13)) → gV w d X_X5_explore P i l 15 [(0, vR (some a)), (1, vI x1), (2, vI x2), (3, vI x3), (4, vI x4), (5, vI (x5 + 1))] []) ∧ ((¬ ((i a 15 = 2) ∧ ((x2 + (i 54 ((x1 * 3) + x5))) + (i (a + 6) (x1 + 1)) ≤ i a 13))) → gV w d X_X5_explore P i l 104 [(0, vR (some a)), (1, vI x1), (2, vI x2), (3, vI x3), (4, vI x4), (5, vI x5), (6, vI ((x1 * 3) + x5)), (7, vI (x2 + (i 54 ((x1 * 3) + x5))))] [])))) : gV w d X_X5_explore P i l 56 [(0, vR (some a)), (1, vI x1), (2, vI x2), (3, vI x3), (4, vI x4), (5, vI x5)] [] := by
  obtain ⟨ob20, h⟩ := h
  refine g_iload_n (pc' := 57) 1 dX5_explore_56 rfl rfl ?_
  refine g_iconst (pc' := 58) dX5_explore_57 rfl ?_
  refine g_imul (pc' := 59) dX5_explore_58 rfl ?_
  refine g_iload (pc' := 61) 5 dX5_explore_59 rfl rfl ?_
  refine g_iadd (pc' := 62) dX5_explore_61 rfl ?_
  refine g_istore (pc' := 64) (L' := [(6, vI ((x1 * 3) + x5)), (0, vR (some a)), (1, vI x1), (2, vI x2), (3, vI x3), (4, vI x4), (5, vI x5)]) dX5_explore_62 rfl (Nat.le_of_ble_eq_true rfl) rfl ?_
  refine g_iload_n (pc' := 65) 3 dX5_explore_64 rfl rfl ?_
  refine g_aload_n (pc' := 66) 1 dX5_explore_65 rfl rfl ?_
  refine g_getR (pc' := 69) (o := some 51) fl_X5_48 (shP0 ha) rfl (rfPc ha) dX5_explore_66 rfl ?_
  refine g_getR (pc' := 72) (o := some 54) fl_X5_108 rfl rfl rfl dX5_explore_69 rfl ?_
  refine g_iload (pc' := 74) 0 dX5_explore_72 rfl rfl ?_
  refine g_iald (pc' := 75) (N := 30) rfl rfl (Nat.lt_of_lt_of_le (Nat.lt_succ_self _) (Nat.le_of_ble_eq_true rfl)) ob20 dX5_explore_74 rfl (fun rg21 => ?_)
  refine g_iadd (pc' := 76) dX5_explore_75 rfl ?_
  refine g_istore (pc' := 78) (L' := [(7, vI (x2 + (i 54 ((x1 * 3) + x5)))), (6, vI ((x1 * 3) + x5)), (0, vR (some a)), (1, vI x1), (2, vI x2), (3, vI x3), (4, vI x4), (5, vI x5)]) dX5_explore_76 rfl (Nat.le_of_ble_eq_true rfl) rfl ?_
  refine g_aload_n (pc' := 79) 2 dX5_explore_78 rfl rfl ?_
  refine g_getI (pc' := 82) (z := 15) rfl fl_X5_77 (shP0 ha) rfl dX5_explore_79 rfl (fun rg22 => ?_)
  refine g_iconst (pc' := 83) dX5_explore_82 rfl ?_
  obtain ⟨hob25, hob28, hk30, hk31⟩ := h
  have hk30g : ((i a 15 = 2) ∧ ((x2 + (i 54 ((x1 * 3) + x5))) + (i (a + 6) (x1 + 1)) ≤ i a 13)) → gV w d X_X5_explore P i l 206 [(7, vI (x2 + (i 54 ((x1 * 3) + x5)))), (6, vI ((x1 * 3) + x5)), (0, vR (some a)), (1, vI x1), (2, vI x2), (3, vI x3), (4, vI x4), (5, vI x5)] [] := by
    intro hp
    have h := hk30 hp
    refine g_iinc (pc' := 209) (L' := [(5, vI (x5 + 1)), (7, vI (x2 + (i 54 ((x1 * 3) + x5)))), (6, vI ((x1 * 3) + x5)), (0, vR (some a)), (1, vI x1), (2, vI x2), (3, vI x3), (4, vI x4)]) 7 dX5_explore_206 rfl (Nat.le_of_ble_eq_true rfl) rfl rfl ?_
    refine g_goto (tgt := 15) dX5_explore_209 rfl ?_
    refine g_sub (L' := [(0, vR (some a)), (1, vI x1), (2, vI x2), (3, vI x3), (4, vI x4), (5, vI (x5 + 1))]) [3, 4, 5, 6, 7, 0] rfl ?_
    exact h
  have hk31g : (¬ ((i a 15 = 2) ∧ ((x2 + (i 54 ((x1 * 3) + x5))) + (i (a + 6) (x1 + 1)) ≤ i a 13))) → gV w d X_X5_explore P i l 104 [(7, vI (x2 + (i 54 ((x1 * 3) + x5)))), (6, vI ((x1 * 3) + x5)), (0, vR (some a)), (1, vI x1), (2, vI x2), (3, vI x3), (4, vI x4), (5, vI x5)] [] := by
    intro hp
    have h := hk31 hp
    refine g_sub (L' := [(0, vR (some a)), (1, vI x1), (2, vI x2), (3, vI x3), (4, vI x4), (5, vI x5), (6, vI ((x1 * 3) + x5)), (7, vI (x2 + (i 54 ((x1 * 3) + x5))))]) [2, 3, 4, 5, 6, 7, 1, 0] rfl ?_
    exact h
  refine g_icmp_ne (tgt := 104) (pc' := 86) rg22 (rg_lit rfl) Iff.rfl dX5_explore_83 rfl rfl (fun c24 => ?_) (fun c24 => ?_)
  · exact hk31g (fun q => c24 q.1)
  · refine g_iload (pc' := 88) 0 dX5_explore_86 rfl rfl ?_
    refine g_aload_n (pc' := 89) 2 dX5_explore_88 rfl rfl ?_
    refine g_getR (pc' := 92) (o := some (a + 6)) fl_X5_28 (shP0 ha) rfl (rfP ha (k := 5) (by decide)) dX5_explore_89 rfl ?_
    refine g_iload_n (pc' := 93) 3 dX5_explore_92 rfl rfl ?_
    refine g_iconst (pc' := 94) dX5_explore_93 rfl ?_
    refine g_iadd (pc' := 95) dX5_explore_94 rfl ?_
    refine g_iald (pc' := 96) (N := 11) (shP6 ha) rfl (Nat.lt_of_lt_of_le (Nat.lt_succ_self _) (Nat.le_of_ble_eq_true rfl)) (hob25 c24) dX5_explore_95 rfl (fun rg26 => ?_)
    refine g_iadd (pc' := 97) dX5_explore_96 rfl ?_
    refine g_aload_n (pc' := 98) 2 dX5_explore_97 rfl rfl ?_
    refine g_getI (pc' := 101) (z := 13) rfl fl_X5_74 (shP0 ha) rfl dX5_explore_98 rfl (fun rg27 => ?_)
    refine g_icmp_le (tgt := 206) (pc' := 104) (hob28 c24) rg27 Iff.rfl dX5_explore_101 rfl rfl (fun c29 => ?_) (fun c29 => ?_)
    · exact hk30g ⟨c24, c29⟩
    · exact hk31g (fun q => c29 q.2)
set_option maxRecDepth 20000 in
theorem s_X5_explore_104 {w : Wd} {d : Nat} {P : IM → LM → Prop} {i : IM} {l : LM} (x1 : Int) (x2 : Int) (x3 : Int) (x4 : Int) (x5 : Int) (x6 : Int) (x7 : Int) {a : Nat} (ha : a = 63 ∨ a = 73) (h : (((i a 15 = 0) → gV w d X_X5_explore P i l 126 [(0, vR (some a)), (1, vI x1), (2, vI x2), (3, vI x3), (4, vI x4), (5, vI x5), (6, vI x6), (7, vI x7)] []) ∧ ((¬ (i a 15 = 0)) → cI w d X_X5_isOutdone [vR (some a), vI x1, vI x5, vI x4] i l (fun r35 i35 l35 => (((r35 = 0) → gV w d X_X5_explore P i35 l35 126 [(0, vR (some a)), (1, vI x1), (2, vI x2), (3, vI x3), (4, vI x4), (5, vI x5), (6, vI x6), (7, vI x7)] []) ∧ ((¬ (r35 = 0)) → gV w d X_X5_explore P i35 l35 15 [(0, vR (some a)), (1, vI x1), (2, vI x2), (3, vI x3), (4, vI x4), (5, vI (x5 + 1))] [])))))) : gV w d X_X5_explore P i l 104 [(0, vR (some a)), (1, vI x1), (2, vI x2), (3, vI x3), (4, vI x4), (5, vI x5), (6, vI x6), (7, vI x7)] [] := by
  refine g_aload_n (pc' := 105) 0 dX5_explore_104 rfl rfl ?_
  refine g_getI (pc' := 108) (z := 15) rfl fl_X5_77 (shP0 ha) rfl dX5_explore_105 rfl (fun rg32 => ?_)
  obtain ⟨hk40, hk41⟩ := h
  refine g_if_eq (tgt := 126) (pc' := 111) rg32 Iff.rfl dX5_explore_108 rfl rfl (fun c34 => ?_) (fun c34 => ?_)
  · have h := hk40 c34
    exact h
  · have h := hk41 c34
    refine g_aload_n (pc' := 112) 0 dX5_explore_111 rfl rfl ?_
    refine g_iload_n (pc' := 113) 1 dX5_explore_112 rfl rfl ?_
    refine g_iload (pc' := 115) 5 dX5_explore_113 rfl rfl ?_
    refine g_iload (pc' := 117) 4 dX5_explore_115 rfl rfl ?_
    refine g_cVI (pc' := 120) (vs := [vI x1, vI x5, vI x4]) (st := []) (c := 5) h mv_X5_isOutdone lk_X5_136 rfl rfl (shP0 ha) rfl (Nat.le_of_ble_eq_true rfl) (Nat.le_of_ble_eq_true rfl) rfl dX5_explore_117 rfl z2 (fun r35 i35 l35 rg35 h => ?_)
    obtain ⟨hk38, hk39⟩ := h
    refine g_if_eq (tgt := 126) (pc' := 123) rg35 Iff.rfl dX5_explore_120 rfl rfl (fun c37 => ?_) (fun c37 => ?_)
    · have h := hk38 c37
      exact h
    · refine g_goto (tgt := 206) dX5_explore_123 rfl ?_
      have h := hk39 c37
      refine g_iinc (pc' := 209) (L' := [(5, vI (x5 + 1)), (0, vR (some a)), (1, vI x1), (2, vI x2), (3, vI x3), (4, vI x4), (6, vI x6), (7, vI x7)]) 5 dX5_explore_206 rfl (Nat.le_of_ble_eq_true rfl) rfl rfl ?_
      refine g_goto (tgt := 15) dX5_explore_209 rfl ?_
      refine g_sub (L' := [(0, vR (some a)), (1, vI x1), (2, vI x2), (3, vI x3), (4, vI x4), (5, vI (x5 + 1))]) [1, 2, 3, 4, 5, 0] rfl ?_
      exact h
set_option maxRecDepth 20000 in
theorem s_X5_explore_126 {w : Wd} {d : Nat} {P : IM → LM → Prop} {i : IM} {l : LM} (x1 : Int) (x2 : Int) (x3 : Int) (x4 : Int) (x5 : Int) (x6 : Int) (x7 : Int) {a : Nat} (ha : a = 63 ∨ a = 73) (h : cI w d X_X5_look [vR (some a), vI x1, vI x6, vI x4] i l (fun r42 i42 l42 => (((r42 = (-1)) → gV w d X_X5_explore P i42 l42 15 [(0, vR (some a)), (1, vI x1), (2, vI x2), (3, vI x3), (4, vI x4), (5, vI (x5 + 1))] []) ∧ ((¬ (r42 = (-1))) → ((0 ≤ x1 ∧ x1 < 10) ∧ (rg x5) ∧ (((r42 = 0) → ((0 ≤ x6 ∧ x6 < 30) ∧ cVd w d X_X5_record [vR (some a), vI (x1 + 1), vI x7, vI (x3 + ((u2 i42 (a + 3) x1 x5) 55 x6))] (u2 i42 (a + 3) x1 x5) l42 (fun i58 l58 => gV w d X_X5_explore P i58 l58 15 [(0, vR (some a)), (1, vI x1), (2, vI x2), (3, vI x3), (4, vI x4), (5, vI (x5 + 1))] []))) ∧ ((¬ (r42 = 0)) → ((0 ≤ x6 ∧ x6 < 30) ∧ cVd w d X_X5_explore [vR (some a), vI (x1 + 1), vI x7, vI (x3 + ((u2 i42 (a + 3) x1 x5) 55 x6)), vI r42] (u2 i42 (a + 3) x1 x5) l42 (fun i55 l55 => gV w d X_X5_explore P i55 l55 15 [(0, vR (some a)), (1, vI x1), (2, vI x2), (3, vI x3), (4, vI x4), (5, vI (x5 + 1))] []))))))))) : gV w d X_X5_explore P i l 126 [(0, vR (some a)), (1, vI x1), (2, vI x2), (3, vI x3), (4, vI x4), (5, vI x5), (6, vI x6), (7, vI x7)] [] := by
  refine g_aload_n (pc' := 127) 0 dX5_explore_126 rfl rfl ?_
  refine g_iload_n (pc' := 128) 1 dX5_explore_127 rfl rfl ?_
  refine g_iload (pc' := 130) 6 dX5_explore_128 rfl rfl ?_
  refine g_iload (pc' := 132) 4 dX5_explore_130 rfl rfl ?_
  refine g_cVI (pc' := 135) (vs := [vI x1, vI x6, vI x4]) (st := []) (c := 5) h mv_X5_look lk_X5_140 rfl rfl (shP0 ha) rfl (Nat.le_of_ble_eq_true rfl) (Nat.le_of_ble_eq_true rfl) rfl dX5_explore_132 rfl z2 (fun r42 i42 l42 rg42 h => ?_)
  refine g_istore (pc' := 137) (L' := [(8, vI r42), (0, vR (some a)), (1, vI x1), (2, vI x2), (3, vI x3), (4, vI x4), (5, vI x5), (6, vI x6), (7, vI x7)]) dX5_explore_135 rfl (Nat.le_of_ble_eq_true rfl) rfl ?_
  refine g_iload (pc' := 139) 0 dX5_explore_137 rfl rfl ?_
  refine g_iconst (pc' := 140) dX5_explore_139 rfl ?_
  obtain ⟨hk61, hk62⟩ := h
  refine g_icmp_ne (tgt := 146) (pc' := 143) rg42 (rg_lit rfl) Iff.rfl dX5_explore_140 rfl rfl (fun c44 => ?_) (fun c44 => ?_)
  · have h := hk62 c44
    obtain ⟨ob45, ob46, h⟩ := h
    refine g_aload_n (pc' := 147) 1 dX5_explore_146 rfl rfl ?_
    refine g_getR (pc' := 150) (o := some (a + 3)) fl_X5_18 (shP0 ha) rfl (rfP ha (k := 2) (by decide)) dX5_explore_147 rfl ?_
    refine g_iload_n (pc' := 151) 2 dX5_explore_150 rfl rfl ?_
    refine g_iload (pc' := 153) 6 dX5_explore_151 rfl rfl ?_
    refine g_iast (pc' := 154) (N := 10) (shP3 ha) rfl (Nat.lt_of_lt_of_le (Nat.lt_succ_self _) (Nat.le_of_ble_eq_true rfl)) ob45 ob46 dX5_explore_153 rfl ?_
    refine g_iload (pc' := 156) 0 dX5_explore_154 rfl rfl ?_
    obtain ⟨hk59, hk60⟩ := h
    refine g_if_ne (tgt := 183) (pc' := 159) rg42 Iff.rfl dX5_explore_156 rfl rfl (fun c48 => ?_) (fun c48 => ?_)
    · have h := hk60 c48
      obtain ⟨ob53, h⟩ := h
      refine g_aload_n (pc' := 184) 1 dX5_explore_183 rfl rfl ?_
      refine g_iload_n (pc' := 185) 2 dX5_explore_184 rfl rfl ?_
      refine g_iconst (pc' := 186) dX5_explore_185 rfl ?_
      refine g_iadd (pc' := 187) dX5_explore_186 rfl ?_
      refine g_iload (pc' := 189) 8 dX5_explore_187 rfl rfl ?_
      refine g_iload_n (pc' := 190) 4 dX5_explore_189 rfl rfl ?_
      refine g_aload_n (pc' := 191) 1 dX5_explore_190 rfl rfl ?_
      refine g_getR (pc' := 194) (o := some 51) fl_X5_48 (shP0 ha) rfl (rfPc ha) dX5_explore_191 rfl ?_
      refine g_getR (pc' := 197) (o := some 55) fl_X5_111 rfl rfl rfl dX5_explore_194 rfl ?_
      refine g_iload (pc' := 199) 7 dX5_explore_197 rfl rfl ?_
      refine g_iald (pc' := 200) (N := 30) rfl rfl (Nat.lt_of_lt_of_le (Nat.lt_succ_self _) (Nat.le_of_ble_eq_true rfl)) ob53 dX5_explore_199 rfl (fun rg54 => ?_)
      refine g_iadd (pc' := 201) dX5_explore_200 rfl ?_
      refine g_iload (pc' := 203) 0 dX5_explore_201 rfl rfl ?_
      refine g_cVV (pc' := 206) (vs := [vI (x1 + 1), vI x7, vI (x3 + ((u2 i42 (a + 3) x1 x5) 55 x6)), vI r42]) (st := []) (c := 5) h mv_X5_explore lk_X5_132 rfl rfl (shP0 ha) rfl (Nat.le_of_ble_eq_true rfl) (Nat.le_of_ble_eq_true rfl) rfl dX5_explore_203 rfl z2 (fun i55 l55 h => ?_)
      refine g_iinc (pc' := 209) (L' := [(5, vI (x5 + 1)), (8, vI r42), (0, vR (some a)), (1, vI x1), (2, vI x2), (3, vI x3), (4, vI x4), (6, vI x6), (7, vI x7)]) 6 dX5_explore_206 rfl (Nat.le_of_ble_eq_true rfl) rfl rfl ?_
      refine g_goto (tgt := 15) dX5_explore_209 rfl ?_
      refine g_sub (L' := [(0, vR (some a)), (1, vI x1), (2, vI x2), (3, vI x3), (4, vI x4), (5, vI (x5 + 1))]) [2, 3, 4, 5, 6, 0] rfl ?_
      exact h
    · have h := hk59 c48
      obtain ⟨ob56, h⟩ := h
      refine g_aload_n (pc' := 160) 1 dX5_explore_159 rfl rfl ?_
      refine g_iload_n (pc' := 161) 2 dX5_explore_160 rfl rfl ?_
      refine g_iconst (pc' := 162) dX5_explore_161 rfl ?_
      refine g_iadd (pc' := 163) dX5_explore_162 rfl ?_
      refine g_iload (pc' := 165) 8 dX5_explore_163 rfl rfl ?_
      refine g_iload_n (pc' := 166) 4 dX5_explore_165 rfl rfl ?_
      refine g_aload_n (pc' := 167) 1 dX5_explore_166 rfl rfl ?_
      refine g_getR (pc' := 170) (o := some 51) fl_X5_48 (shP0 ha) rfl (rfPc ha) dX5_explore_167 rfl ?_
      refine g_getR (pc' := 173) (o := some 55) fl_X5_111 rfl rfl rfl dX5_explore_170 rfl ?_
      refine g_iload (pc' := 175) 7 dX5_explore_173 rfl rfl ?_
      refine g_iald (pc' := 176) (N := 30) rfl rfl (Nat.lt_of_lt_of_le (Nat.lt_succ_self _) (Nat.le_of_ble_eq_true rfl)) ob56 dX5_explore_175 rfl (fun rg57 => ?_)
      refine g_iadd (pc' := 177) dX5_explore_176 rfl ?_
      refine g_cVV (pc' := 180) (vs := [vI (x1 + 1), vI x7, vI (x3 + ((u2 i42 (a + 3) x1 x5) 55 x6))]) (st := []) (c := 5) h mv_X5_record lk_X5_129 rfl rfl (shP0 ha) rfl (Nat.le_of_ble_eq_true rfl) (Nat.le_of_ble_eq_true rfl) rfl dX5_explore_177 rfl z2 (fun i58 l58 h => ?_)
      refine g_goto (tgt := 206) dX5_explore_180 rfl ?_
      refine g_iinc (pc' := 209) (L' := [(5, vI (x5 + 1)), (8, vI r42), (0, vR (some a)), (1, vI x1), (2, vI x2), (3, vI x3), (4, vI x4), (6, vI x6), (7, vI x7)]) 6 dX5_explore_206 rfl (Nat.le_of_ble_eq_true rfl) rfl rfl ?_
      refine g_goto (tgt := 15) dX5_explore_209 rfl ?_
      refine g_sub (L' := [(0, vR (some a)), (1, vI x1), (2, vI x2), (3, vI x3), (4, vI x4), (5, vI (x5 + 1))]) [2, 3, 4, 5, 6, 0] rfl ?_
      exact h
  · refine g_goto (tgt := 206) dX5_explore_143 rfl ?_
    have h := hk61 c44
    refine g_iinc (pc' := 209) (L' := [(5, vI (x5 + 1)), (8, vI r42), (0, vR (some a)), (1, vI x1), (2, vI x2), (3, vI x3), (4, vI x4), (6, vI x6), (7, vI x7)]) 6 dX5_explore_206 rfl (Nat.le_of_ble_eq_true rfl) rfl rfl ?_
    refine g_goto (tgt := 15) dX5_explore_209 rfl ?_
    refine g_sub (L' := [(0, vR (some a)), (1, vI x1), (2, vI x2), (3, vI x3), (4, vI x4), (5, vI (x5 + 1))]) [2, 3, 4, 5, 6, 0] rfl ?_
    exact h

theorem dX5_isOutdone_0 : decode cX5_isOutdone 0 = .ok (.iload_n 1, 1) := by decide +kernel
theorem dX5_isOutdone_1 : decode cX5_isOutdone 1 = .ok (.iconst 3, 1) := by decide +kernel
theorem dX5_isOutdone_2 : decode cX5_isOutdone 2 = .ok (.imul, 1) := by decide +kernel
theorem dX5_isOutdone_3 : decode cX5_isOutdone 3 = .ok (.iload_n 2, 1) := by decide +kernel
theorem dX5_isOutdone_4 : decode cX5_isOutdone 4 = .ok (.iadd, 1) := by decide +kernel
theorem dX5_isOutdone_5 : decode cX5_isOutdone 5 = .ok (.istore 4, 2) := by decide +kernel
theorem dX5_isOutdone_7 : decode cX5_isOutdone 7 = .ok (.iload_n 1, 1) := by decide +kernel
theorem dX5_isOutdone_8 : decode cX5_isOutdone 8 = .ok (.bipush 12, 2) := by decide +kernel
theorem dX5_isOutdone_10 : decode cX5_isOutdone 10 = .ok (.imul, 1) := by decide +kernel
theorem dX5_isOutdone_11 : decode cX5_isOutdone 11 = .ok (.istore 5, 2) := by decide +kernel
theorem dX5_isOutdone_13 : decode cX5_isOutdone 13 = .ok (.iconst 0, 1) := by decide +kernel
theorem dX5_isOutdone_14 : decode cX5_isOutdone 14 = .ok (.istore 6, 2) := by decide +kernel
theorem dX5_isOutdone_16 : decode cX5_isOutdone 16 = .ok (.iload 6, 2) := by decide +kernel
theorem dX5_isOutdone_18 : decode cX5_isOutdone 18 = .ok (.iconst 3, 1) := by decide +kernel
theorem dX5_isOutdone_19 : decode cX5_isOutdone 19 = .ok (.if_icmp .ge 144, 3) := by decide +kernel
theorem dX5_isOutdone_22 : decode cX5_isOutdone 22 = .ok (.iload_n 1, 1) := by decide +kernel
theorem dX5_isOutdone_23 : decode cX5_isOutdone 23 = .ok (.iconst 3, 1) := by decide +kernel
theorem dX5_isOutdone_24 : decode cX5_isOutdone 24 = .ok (.imul, 1) := by decide +kernel
theorem dX5_isOutdone_25 : decode cX5_isOutdone 25 = .ok (.iload 6, 2) := by decide +kernel
theorem dX5_isOutdone_27 : decode cX5_isOutdone 27 = .ok (.iadd, 1) := by decide +kernel
theorem dX5_isOutdone_28 : decode cX5_isOutdone 28 = .ok (.istore 7, 2) := by decide +kernel
theorem dX5_isOutdone_30 : decode cX5_isOutdone 30 = .ok (.aload_n 0, 1) := by decide +kernel
theorem dX5_isOutdone_31 : decode cX5_isOutdone 31 = .ok (.getfield 77, 3) := by decide +kernel
theorem dX5_isOutdone_34 : decode cX5_isOutdone 34 = .ok (.iconst 2, 1) := by decide +kernel
theorem dX5_isOutdone_35 : decode cX5_isOutdone 35 = .ok (.if_icmp .ne 27, 3) := by decide +kernel
theorem dX5_isOutdone_38 : decode cX5_isOutdone 38 = .ok (.aload_n 0, 1) := by decide +kernel
theorem dX5_isOutdone_39 : decode cX5_isOutdone 39 = .ok (.getfield 48, 3) := by decide +kernel
theorem dX5_isOutdone_42 : decode cX5_isOutdone 42 = .ok (.getfield 108, 3) := by decide +kernel
theorem dX5_isOutdone_45 : decode cX5_isOutdone 45 = .ok (.iload 7, 2) := by decide +kernel
theorem dX5_isOutdone_47 : decode cX5_isOutdone 47 = .ok (.iaload, 1) := by decide +kernel
theorem dX5_isOutdone_48 : decode cX5_isOutdone 48 = .ok (.aload_n 0, 1) := by decide +kernel
theorem dX5_isOutdone_49 : decode cX5_isOutdone 49 = .ok (.getfield 48, 3) := by decide +kernel
theorem dX5_isOutdone_52 : decode cX5_isOutdone 52 = .ok (.getfield 108, 3) := by decide +kernel
theorem dX5_isOutdone_55 : decode cX5_isOutdone 55 = .ok (.iload 4, 2) := by decide +kernel
theorem dX5_isOutdone_57 : decode cX5_isOutdone 57 = .ok (.iaload, 1) := by decide +kernel
theorem dX5_isOutdone_58 : decode cX5_isOutdone 58 = .ok (.isub, 1) := by decide +kernel
theorem dX5_isOutdone_59 : decode cX5_isOutdone 59 = .ok (.goto 4, 3) := by decide +kernel
theorem dX5_isOutdone_62 : decode cX5_isOutdone 62 = .ok (.iconst 0, 1) := by decide +kernel
theorem dX5_isOutdone_63 : decode cX5_isOutdone 63 = .ok (.istore 8, 2) := by decide +kernel
theorem dX5_isOutdone_65 : decode cX5_isOutdone 65 = .ok (.aload_n 0, 1) := by decide +kernel
theorem dX5_isOutdone_66 : decode cX5_isOutdone 66 = .ok (.getfield 48, 3) := by decide +kernel
theorem dX5_isOutdone_69 : decode cX5_isOutdone 69 = .ok (.getfield 105, 3) := by decide +kernel
theorem dX5_isOutdone_72 : decode cX5_isOutdone 72 = .ok (.iload_n 1, 1) := by decide +kernel
theorem dX5_isOutdone_73 : decode cX5_isOutdone 73 = .ok (.iaload, 1) := by decide +kernel
theorem dX5_isOutdone_74 : decode cX5_isOutdone 74 = .ok (.iload 6, 2) := by decide +kernel
theorem dX5_isOutdone_76 : decode cX5_isOutdone 76 = .ok (.ishr, 1) := by decide +kernel
theorem dX5_isOutdone_77 : decode cX5_isOutdone 77 = .ok (.iconst 1, 1) := by decide +kernel
theorem dX5_isOutdone_78 : decode cX5_isOutdone 78 = .ok (.iand, 1) := by decide +kernel
theorem dX5_isOutdone_79 : decode cX5_isOutdone 79 = .ok (.iconst 1, 1) := by decide +kernel
theorem dX5_isOutdone_80 : decode cX5_isOutdone 80 = .ok (.if_icmp .ne 77, 3) := by decide +kernel
theorem dX5_isOutdone_83 : decode cX5_isOutdone 83 = .ok (.iload 6, 2) := by decide +kernel
theorem dX5_isOutdone_85 : decode cX5_isOutdone 85 = .ok (.iload_n 2, 1) := by decide +kernel
theorem dX5_isOutdone_86 : decode cX5_isOutdone 86 = .ok (.if_icmp .eq 71, 3) := by decide +kernel
theorem dX5_isOutdone_89 : decode cX5_isOutdone 89 = .ok (.iload 8, 2) := by decide +kernel
theorem dX5_isOutdone_91 : decode cX5_isOutdone 91 = .ok (.ifCond .lt 66, 3) := by decide +kernel
theorem dX5_isOutdone_94 : decode cX5_isOutdone 94 = .ok (.aload_n 0, 1) := by decide +kernel
theorem dX5_isOutdone_95 : decode cX5_isOutdone 95 = .ok (.getfield 48, 3) := by decide +kernel
theorem dX5_isOutdone_98 : decode cX5_isOutdone 98 = .ok (.iload 7, 2) := by decide +kernel
theorem dX5_isOutdone_100 : decode cX5_isOutdone 100 = .ok (.iload 4, 2) := by decide +kernel
theorem dX5_isOutdone_102 : decode cX5_isOutdone 102 = .ok (.aload_n 0, 1) := by decide +kernel
theorem dX5_isOutdone_103 : decode cX5_isOutdone 103 = .ok (.getfield 9, 3) := by decide +kernel
theorem dX5_isOutdone_106 : decode cX5_isOutdone 106 = .ok (.iload 5, 2) := by decide +kernel
theorem dX5_isOutdone_108 : decode cX5_isOutdone 108 = .ok (.iload_n 3, 1) := by decide +kernel
theorem dX5_isOutdone_109 : decode cX5_isOutdone 109 = .ok (.aload_n 0, 1) := by decide +kernel
theorem dX5_isOutdone_110 : decode cX5_isOutdone 110 = .ok (.getfield 86, 3) := by decide +kernel
theorem dX5_isOutdone_113 : decode cX5_isOutdone 113 = .ok (.invokevirtual 144, 3) := by decide +kernel
theorem dX5_isOutdone_116 : decode cX5_isOutdone 116 = .ok (.ifCond .eq 41, 3) := by decide +kernel
theorem dX5_isOutdone_119 : decode cX5_isOutdone 119 = .ok (.iload 6, 2) := by decide +kernel
theorem dX5_isOutdone_121 : decode cX5_isOutdone 121 = .ok (.iload_n 2, 1) := by decide +kernel
theorem dX5_isOutdone_122 : decode cX5_isOutdone 122 = .ok (.if_icmp .lt 33, 3) := by decide +kernel
theorem dX5_isOutdone_125 : decode cX5_isOutdone 125 = .ok (.iload 8, 2) := by decide +kernel
theorem dX5_isOutdone_127 : decode cX5_isOutdone 127 = .ok (.ifCond .gt 28, 3) := by decide +kernel
theorem dX5_isOutdone_130 : decode cX5_isOutdone 130 = .ok (.aload_n 0, 1) := by decide +kernel
theorem dX5_isOutdone_131 : decode cX5_isOutdone 131 = .ok (.getfield 48, 3) := by decide +kernel
theorem dX5_isOutdone_134 : decode cX5_isOutdone 134 = .ok (.iload 4, 2) := by decide +kernel
theorem dX5_isOutdone_136 : decode cX5_isOutdone 136 = .ok (.iload 7, 2) := by decide +kernel
theorem dX5_isOutdone_138 : decode cX5_isOutdone 138 = .ok (.aload_n 0, 1) := by decide +kernel
theorem dX5_isOutdone_139 : decode cX5_isOutdone 139 = .ok (.getfield 9, 3) := by decide +kernel
theorem dX5_isOutdone_142 : decode cX5_isOutdone 142 = .ok (.iload 5, 2) := by decide +kernel
theorem dX5_isOutdone_144 : decode cX5_isOutdone 144 = .ok (.iload_n 3, 1) := by decide +kernel
theorem dX5_isOutdone_145 : decode cX5_isOutdone 145 = .ok (.aload_n 0, 1) := by decide +kernel
theorem dX5_isOutdone_146 : decode cX5_isOutdone 146 = .ok (.getfield 86, 3) := by decide +kernel
theorem dX5_isOutdone_149 : decode cX5_isOutdone 149 = .ok (.invokevirtual 144, 3) := by decide +kernel
theorem dX5_isOutdone_152 : decode cX5_isOutdone 152 = .ok (.ifCond .ne 5, 3) := by decide +kernel
theorem dX5_isOutdone_155 : decode cX5_isOutdone 155 = .ok (.iconst 1, 1) := by decide +kernel
theorem dX5_isOutdone_156 : decode cX5_isOutdone 156 = .ok (.ireturn, 1) := by decide +kernel
theorem dX5_isOutdone_157 : decode cX5_isOutdone 157 = .ok (.iinc 6 1, 3) := by decide +kernel
theorem dX5_isOutdone_160 : decode cX5_isOutdone 160 = .ok (.goto (-144), 3) := by decide +kernel
theorem dX5_isOutdone_163 : decode cX5_isOutdone 163 = .ok (.iconst 0, 1) := by decide +kernel
theorem dX5_isOutdone_164 : decode cX5_isOutdone 164 = .ok (.ireturn, 1) := by decide +kernel
set_option maxRecDepth 20000 in
theorem s_X5_isOutdone {w : Wd} {d : Nat} {P : Int → IM → LM → Prop} {i : IM} {l : LM} (p0 : Int) (p1 : Int) (p2 : Int) {a : Nat} (ha : a = 63 ∨ a = 73) (h : gI w d X_X5_isOutdone P i l 16 [(0, vR (some a)), (1, vI p0), (2, vI p1), (3, vI p2), (4, vI ((p0 * 3) + p1)), (5, vI (p0 * 12)), (6, vI 0)] []) : gI w d X_X5_isOutdone P i l 0 [(0, vR (some a)), (1, vI p0), (2, vI p1), (3, vI p2)] [] := by
  refine g_iload_n (pc' := 1) 1 dX5_isOutdone_0 rfl rfl ?_
  refine g_iconst (pc' := 2) dX5_isOutdone_1 rfl ?_
  refine g_imul (pc' := 3) dX5_isOutdone_2 rfl ?_
  refine g_iload_n (pc' := 4) 2 dX5_isOutdone_3 rfl rfl ?_
  refine g_iadd (pc' := 5) dX5_isOutdone_4 rfl ?_
  refine g_istore (pc' := 7) (L' := [(4, vI ((p0 * 3) + p1)), (0, vR (some a)), (1, vI p0), (2, vI p1), (3, vI p2)]) dX5_isOutdone_5 rfl (Nat.le_of_ble_eq_true rfl) rfl ?_
  refine g_iload_n (pc' := 8) 2 dX5_isOutdone_7 rfl rfl ?_
  refine g_bipush (pc' := 10) dX5_isOutdone_8 rfl rfl ?_
  refine g_imul (pc' := 11) dX5_isOutdone_10 rfl ?_
  refine g_istore (pc' := 13) (L' := [(5, vI (p0 * 12)), (4, vI ((p0 * 3) + p1)), (0, vR (some a)), (1, vI p0), (2, vI p1), (3, vI p2)]) dX5_isOutdone_11 rfl (Nat.le_of_ble_eq_true rfl) rfl ?_
  refine g_iconst (pc' := 14) dX5_isOutdone_13 rfl ?_
  refine g_istore (pc' := 16) (L' := [(6, vI 0), (5, vI (p0 * 12)), (4, vI ((p0 * 3) + p1)), (0, vR (some a)), (1, vI p0), (2, vI p1), (3, vI p2)]) dX5_isOutdone_14 rfl (Nat.le_of_ble_eq_true rfl) rfl ?_
  refine g_sub (L' := [(0, vR (some a)), (1, vI p0), (2, vI p1), (3, vI p2), (4, vI ((p0 * 3) + p1)), (5, vI (p0 * 12)), (6, vI 0)]) [3, 4, 5, 6, 2, 1, 0] rfl ?_
  exact h
theorem e_X5_isOutdone {w : Wd} {d : Nat} {P : Int → IM → LM → Prop} {i : IM} {l : LM} {p0 : Int} {p1 : Int} {p2 : Int} {a : Nat} (h : gI w d X_X5_isOutdone P i l 0 [(0, vR (some a)), (1, vI p0), (2, vI p1), (3, vI p2)] []) : cI w (d + 1) X_X5_isOutdone [vR (some a), vI p0, vI p1, vI p2] i l P := CI_of (by decide +kernel) (Nat.le_of_ble_eq_true rfl) h
set_option maxRecDepth 20000 in
theorem s_X5_isOutdone_16 {w : Wd} {d : Nat} {P : Int → IM → LM → Prop} {i : IM} {l : LM} (x1 : Int) (x2 : Int) (x3 : Int) (x4 : Int) (x5 : Int) (x6 : Int) {a : Nat} (ha : a = 63 ∨ a = 73) (h : ((rg x6) ∧ ((3 ≤ x6) → P 0 i l) ∧ ((¬ (3 ≤ x6)) → (((i a 15 = 2) → 0 ≤ (x1 * 3) + x6 ∧ (x1 * 3) + x6 < 30) ∧ ((i a 15 = 2) → 0 ≤ x4 ∧ x4 < 30) ∧ ((0 ≤ x1 ∧ x1 < 10) ∧ (((iand (ishr (i 52 x1) x6) 1 = 1) → rg x6) ∧ ((iand (ishr (i 52 x1) x6) 1 = 1) → rg x2) ∧ ((iand (ishr (i 52 x1) x6) 1 = 1) → ¬ (x6 = x2) → rg (if (i a 15 = 2) then (i 54 ((x1 * 3) + x6)) - (i 54 x4) else 0)) ∧ (((iand (ishr (i 52 x1) x6) 1 = 1) ∧ (¬ (x6 = x2) ∧ (¬ ((if (i a 15 = 2) then (i 54 ((x1 * 3) + x6)) - (i 54 x4) else 0) < 0)))) → cI w d X_X1_showsNoMore [vR (some 51), vI ((x1 * 3) + x6), vI x4, vR (some (a + 1)), vI x5, vI x3, vL (l a 16)] i l (fun r20 i20 l20 => ((¬ (r20 = 0) → rg x6) ∧ (¬ (r20 = 0) → rg x2) ∧ (¬ (r20 = 0) → ¬ (x6 < x2) → rg (if (i a 15 = 2) then (i 54 ((x1 * 3) + x6)) - (i 54 x4) else 0)) ∧ ((r20 = 0) → gI w d X_X5_isOutdone P i20 l20 16 [(0, vR (some a)), (1, vI x1), (2, vI x2), (3, vI x3), (4, vI x4), (5, vI x5), (6, vI (x6 + 1))] []) ∧ ((¬ (r20 = 0) ∧ ((x6 < x2) ∨ (0 < (if (i a 15 = 2) then (i 54 ((x1 * 3) + x6)) - (i 54 x4) else 0)))) → P 1 i20 l20) ∧ ((¬ (r20 = 0) ∧ (¬ (x6 < x2) ∧ (¬ (0 < (if (i a 15 = 2) then (i 54 ((x1 * 3) + x6)) - (i 54 x4) else 0))))) → cI w d X_X1_showsNoMore [vR (some 51), vI x4, vI ((x1 * 3) + x6), vR (some (a + 1)), vI x5, vI x3, vL (l20 a 16)] i20 l20 (fun r28 i28 l28 => (((r28 = 0) → P 1 i28 l28) ∧ ((¬ (r28 = 0)) → gI w d X_X5_isOutdone P i28 l28 16 [(0, vR (some a)), (1, vI x1), (2, vI x2), (3, vI x3), (4, vI x4), (5, vI x5), (6, vI (x6 + 1))] []))))))) ∧ ((¬ ((iand (ishr (i 52 x1) x6) 1 = 1) ∧ (¬ (x6 = x2) ∧ (¬ ((if (i a 15 = 2) then (i 54 ((x1 * 3) + x6)) - (i 54 x4) else 0) < 0))))) → gI w d X_X5_isOutdone P i l 16 [(0, vR (some a)), (1, vI x1), (2, vI x2), (3, vI x3), (4, vI x4), (5, vI x5), (6, vI (x6 + 1))] []))))))) : gI w d X_X5_isOutdone P i l 16 [(0, vR (some a)), (1, vI x1), (2, vI x2), (3, vI x3), (4, vI x4), (5, vI x5), (6, vI x6)] [] := by
  refine g_iload (pc' := 18) 6 dX5_isOutdone_16 rfl rfl ?_
  refine g_iconst (pc' := 19) dX5_isOutdone_18 rfl ?_
  obtain ⟨hob2, hk38, hk39⟩ := h
  refine g_icmp_ge (tgt := 163) (pc' := 22) (hob2) (rg_lit rfl) Iff.rfl dX5_isOutdone_19 rfl rfl (fun c3 => ?_) (fun c3 => ?_)
  · have h := hk38 c3
    refine g_iconst (pc' := 164) dX5_isOutdone_163 rfl ?_
    exact g_retZ rfl (by decide) dX5_isOutdone_164 h
  · have h := hk39 c3
    refine g_iload_n (pc' := 23) 1 dX5_isOutdone_22 rfl rfl ?_
    refine g_iconst (pc' := 24) dX5_isOutdone_23 rfl ?_
    refine g_imul (pc' := 25) dX5_isOutdone_24 rfl ?_
    refine g_iload (pc' := 27) 6 dX5_isOutdone_25 rfl rfl ?_
    refine g_iadd (pc' := 28) dX5_isOutdone_27 rfl ?_
    refine g_istore (pc' := 30) (L' := [(7, vI ((x1 * 3) + x6)), (0, vR (some a)), (1, vI x1), (2, vI x2), (3, vI x3), (4, vI x4), (5, vI x5), (6, vI x6)]) dX5_isOutdone_28 rfl (Nat.le_of_ble_eq_true rfl) rfl ?_
    refine g_aload_n (pc' := 31) 1 dX5_isOutdone_30 rfl rfl ?_
    refine g_getI (pc' := 34) (z := 15) rfl fl_X5_77 (shP0 ha) rfl dX5_isOutdone_31 rfl (fun rg4 => ?_)
    refine g_iconst (pc' := 35) dX5_isOutdone_34 rfl ?_
    obtain ⟨hob7, hob9, h⟩ := h
    have hJ : gI w d X_X5_isOutdone P i l 63 [(7, vI ((x1 * 3) + x6)), (0, vR (some a)), (1, vI x1), (2, vI x2), (3, vI x3), (4, vI x4), (5, vI x5), (6, vI x6)] [vI (if (i a 15 = 2) then (i 54 ((x1 * 3) + x6)) - (i 54 x4) else 0)] := by
      obtain ⟨ob11, h⟩ := h
      refine g_istore (pc' := 65) (L' := [(8, vI (if (i a 15 = 2) then (i 54 ((x1 * 3) + x6)) - (i 54 x4) else 0)), (7, vI ((x1 * 3) + x6)), (0, vR (some a)), (1, vI x1), (2, vI x2), (3, vI x3), (4, vI x4), (5, vI x5), (6, vI x6)]) dX5_isOutdone_63 rfl (Nat.le_of_ble_eq_true rfl) rfl ?_
      refine g_aload_n (pc' := 66) 2 dX5_isOutdone_65 rfl rfl ?_
      refine g_getR (pc' := 69) (o := some 51) fl_X5_48 (shP0 ha) rfl (rfPc ha) dX5_isOutdone_66 rfl ?_
      refine g_getR (pc' := 72) (o := some 52) fl_X5_105 rfl rfl rfl dX5_isOutdone_69 rfl ?_
      refine g_iload_n (pc' := 73) 3 dX5_isOutdone_72 rfl rfl ?_
      refine g_iald (pc' := 74) (N := 10) rfl rfl (Nat.lt_of_lt_of_le (Nat.lt_succ_self _) (Nat.le_of_ble_eq_true rfl)) ob11 dX5_isOutdone_73 rfl (fun rg12 => ?_)
      refine g_iload (pc' := 76) 8 dX5_isOutdone_74 rfl rfl ?_
      refine g_ishr (pc' := 77) dX5_isOutdone_76 rfl ?_
      refine g_iconst (pc' := 78) dX5_isOutdone_77 rfl ?_
      refine g_iand (pc' := 79) dX5_isOutdone_78 rfl ?_
      refine g_iconst (pc' := 80) dX5_isOutdone_79 rfl ?_
      obtain ⟨hob15, hob16, hob18, hk36, hk37⟩ := h
      have hk36g : ((iand (ishr (i 52 x1) x6) 1 = 1) ∧ (¬ (x6 = x2) ∧ (¬ ((if (i a 15 = 2) then (i 54 ((x1 * 3) + x6)) - (i 54 x4) else 0) < 0)))) → gI w d X_X5_isOutdone P i l 94 [(8, vI (if (i a 15 = 2) then (i 54 ((x1 * 3) + x6)) - (i 54 x4) else 0)), (7, vI ((x1 * 3) + x6)), (0, vR (some a)), (1, vI x1), (2, vI x2), (3, vI x3), (4, vI x4), (5, vI x5), (6, vI x6)] [] := by
        intro hp
        have h := hk36 hp
        refine g_aload_n (pc' := 95) 2 dX5_isOutdone_94 rfl rfl ?_
        refine g_getR (pc' := 98) (o := some 51) fl_X5_48 (shP0 ha) rfl (rfPc ha) dX5_isOutdone_95 rfl ?_
        refine g_iload (pc' := 100) 1 dX5_isOutdone_98 rfl rfl ?_
        refine g_iload (pc' := 102) 6 dX5_isOutdone_100 rfl rfl ?_
        refine g_aload_n (pc' := 103) 2 dX5_isOutdone_102 rfl rfl ?_
        refine g_getR (pc' := 106) (o := some (a + 1)) fl_X5_9 (shP0 ha) rfl (rfP ha (k := 0) (by decide)) dX5_isOutdone_103 rfl ?_
        refine g_iload (pc' := 108) 7 dX5_isOutdone_106 rfl rfl ?_
        refine g_iload_n (pc' := 109) 5 dX5_isOutdone_108 rfl rfl ?_
        refine g_aload_n (pc' := 110) 2 dX5_isOutdone_109 rfl rfl ?_
        refine g_getL (pc' := 113) (z := 16) rfl fl_X5_86 (shP0 ha) rfl dX5_isOutdone_110 rfl ?_
        refine g_cVI (pc' := 116) (vs := [vI ((x1 * 3) + x6), vI x4, vR (some (a + 1)), vI x5, vI x3, vL (l a 16)]) (st := []) (c := 1) h mv_X1_showsNoMore lk_X5_144 rfl rfl rfl rfl (Nat.le_of_ble_eq_true rfl) (Nat.le_of_ble_eq_true rfl) rfl dX5_isOutdone_113 rfl z2 (fun r20 i20 l20 rg20 h => ?_)
        obtain ⟨hob23, hob24, hob26, hk33, hk34, hk35⟩ := h
        have hk33g : (r20 = 0) → gI w d X_X5_isOutdone P i20 l20 157 [(8, vI (if (i a 15 = 2) then (i 54 ((x1 * 3) + x6)) - (i 54 x4) else 0)), (7, vI ((x1 * 3) + x6)), (0, vR (some a)), (1, vI x1), (2, vI x2), (3, vI x3), (4, vI x4), (5, vI x5), (6, vI x6)] [] := by
          intro hp
          have h := hk33 hp
          refine g_iinc (pc' := 160) (L' := [(6, vI (x6 + 1)), (8, vI (if (i a 15 = 2) then (i 54 ((x1 * 3) + x6)) - (i 54 x4) else 0)), (7, vI ((x1 * 3) + x6)), (0, vR (some a)), (1, vI x1), (2, vI x2), (3, vI x3), (4, vI x4), (5, vI x5)]) 8 dX5_isOutdone_157 rfl (Nat.le_of_ble_eq_true rfl) rfl rfl ?_
          refine g_goto (tgt := 16) dX5_isOutdone_160 rfl ?_
          refine g_sub (L' := [(0, vR (some a)), (1, vI x1), (2, vI x2), (3, vI x3), (4, vI x4), (5, vI x5), (6, vI (x6 + 1))]) [3, 4, 5, 6, 7, 8, 0] rfl ?_
          exact h
        have hk34g : (¬ (r20 = 0) ∧ ((x6 < x2) ∨ (0 < (if (i a 15 = 2) then (i 54 ((x1 * 3) + x6)) - (i 54 x4) else 0)))) → gI w d X_X5_isOutdone P i20 l20 155 [(8, vI (if (i a 15 = 2) then (i 54 ((x1 * 3) + x6)) - (i 54 x4) else 0)), (7, vI ((x1 * 3) + x6)), (0, vR (some a)), (1, vI x1), (2, vI x2), (3, vI x3), (4, vI x4), (5, vI x5), (6, vI x6)] [] := by
          intro hp
          have h := hk34 hp
          refine g_iconst (pc' := 156) dX5_isOutdone_155 rfl ?_
          exact g_retZ rfl (by decide) dX5_isOutdone_156 h
        have hk35g : (¬ (r20 = 0) ∧ (¬ (x6 < x2) ∧ (¬ (0 < (if (i a 15 = 2) then (i 54 ((x1 * 3) + x6)) - (i 54 x4) else 0))))) → gI w d X_X5_isOutdone P i20 l20 130 [(8, vI (if (i a 15 = 2) then (i 54 ((x1 * 3) + x6)) - (i 54 x4) else 0)), (7, vI ((x1 * 3) + x6)), (0, vR (some a)), (1, vI x1), (2, vI x2), (3, vI x3), (4, vI x4), (5, vI x5), (6, vI x6)] [] := by
          intro hp
          have h := hk35 hp
          refine g_aload_n (pc' := 131) 2 dX5_isOutdone_130 rfl rfl ?_
          refine g_getR (pc' := 134) (o := some 51) fl_X5_48 (shP0 ha) rfl (rfPc ha) dX5_isOutdone_131 rfl ?_
          refine g_iload (pc' := 136) 6 dX5_isOutdone_134 rfl rfl ?_
          refine g_iload (pc' := 138) 1 dX5_isOutdone_136 rfl rfl ?_
          refine g_aload_n (pc' := 139) 2 dX5_isOutdone_138 rfl rfl ?_
          refine g_getR (pc' := 142) (o := some (a + 1)) fl_X5_9 (shP0 ha) rfl (rfP ha (k := 0) (by decide)) dX5_isOutdone_139 rfl ?_
          refine g_iload (pc' := 144) 7 dX5_isOutdone_142 rfl rfl ?_
          refine g_iload_n (pc' := 145) 5 dX5_isOutdone_144 rfl rfl ?_
          refine g_aload_n (pc' := 146) 2 dX5_isOutdone_145 rfl rfl ?_
          refine g_getL (pc' := 149) (z := 16) rfl fl_X5_86 (shP0 ha) rfl dX5_isOutdone_146 rfl ?_
          refine g_cVI (pc' := 152) (vs := [vI x4, vI ((x1 * 3) + x6), vR (some (a + 1)), vI x5, vI x3, vL (l20 a 16)]) (st := []) (c := 1) h mv_X1_showsNoMore lk_X5_144 rfl rfl rfl rfl (Nat.le_of_ble_eq_true rfl) (Nat.le_of_ble_eq_true rfl) rfl dX5_isOutdone_149 rfl z2 (fun r28 i28 l28 rg28 h => ?_)
          obtain ⟨hk31, hk32⟩ := h
          refine g_if_ne (tgt := 157) (pc' := 155) rg28 Iff.rfl dX5_isOutdone_152 rfl rfl (fun c30 => ?_) (fun c30 => ?_)
          · have h := hk32 c30
            refine g_iinc (pc' := 160) (L' := [(6, vI (x6 + 1)), (8, vI (if (i a 15 = 2) then (i 54 ((x1 * 3) + x6)) - (i 54 x4) else 0)), (7, vI ((x1 * 3) + x6)), (0, vR (some a)), (1, vI x1), (2, vI x2), (3, vI x3), (4, vI x4), (5, vI x5)]) 8 dX5_isOutdone_157 rfl (Nat.le_of_ble_eq_true rfl) rfl rfl ?_
            refine g_goto (tgt := 16) dX5_isOutdone_160 rfl ?_
            refine g_sub (L' := [(0, vR (some a)), (1, vI x1), (2, vI x2), (3, vI x3), (4, vI x4), (5, vI x5), (6, vI (x6 + 1))]) [3, 4, 5, 6, 7, 8, 0] rfl ?_
            exact h
          · have h := hk31 c30
            refine g_iconst (pc' := 156) dX5_isOutdone_155 rfl ?_
            exact g_retZ rfl (by decide) dX5_isOutdone_156 h
        refine g_if_eq (tgt := 157) (pc' := 119) rg20 Iff.rfl dX5_isOutdone_116 rfl rfl (fun c22 => ?_) (fun c22 => ?_)
        · exact hk33g c22
        · refine g_iload (pc' := 121) 8 dX5_isOutdone_119 rfl rfl ?_
          refine g_iload_n (pc' := 122) 4 dX5_isOutdone_121 rfl rfl ?_
          refine g_icmp_lt (tgt := 155) (pc' := 125) (hob23 c22) (hob24 c22) Iff.rfl dX5_isOutdone_122 rfl rfl (fun c25 => ?_) (fun c25 => ?_)
          · exact hk34g ⟨c22, (Or.inl c25)⟩
          · refine g_iload (pc' := 127) 0 dX5_isOutdone_125 rfl rfl ?_
            refine g_if_gt (tgt := 155) (pc' := 130) (hob26 c22 c25) Iff.rfl dX5_isOutdone_127 rfl rfl (fun c27 => ?_) (fun c27 => ?_)
            · exact hk34g ⟨c22, (Or.inr c27)⟩
            · exact hk35g ⟨c22, ⟨c25, c27⟩⟩
      have hk37g : (¬ ((iand (ishr (i 52 x1) x6) 1 = 1) ∧ (¬ (x6 = x2) ∧ (¬ ((if (i a 15 = 2) then (i 54 ((x1 * 3) + x6)) - (i 54 x4) else 0) < 0))))) → gI w d X_X5_isOutdone P i l 157 [(8, vI (if (i a 15 = 2) then (i 54 ((x1 * 3) + x6)) - (i 54 x4) else 0)), (7, vI ((x1 * 3) + x6)), (0, vR (some a)), (1, vI x1), (2, vI x2), (3, vI x3), (4, vI x4), (5, vI x5), (6, vI x6)] [] := by
        intro hp
        have h := hk37 hp
        refine g_iinc (pc' := 160) (L' := [(6, vI (x6 + 1)), (8, vI (if (i a 15 = 2) then (i 54 ((x1 * 3) + x6)) - (i 54 x4) else 0)), (7, vI ((x1 * 3) + x6)), (0, vR (some a)), (1, vI x1), (2, vI x2), (3, vI x3), (4, vI x4), (5, vI x5)]) 8 dX5_isOutdone_157 rfl (Nat.le_of_ble_eq_true rfl) rfl rfl ?_
        refine g_goto (tgt := 16) dX5_isOutdone_160 rfl ?_
        refine g_sub (L' := [(0, vR (some a)), (1, vI x1), (2, vI x2), (3, vI x3), (4, vI x4), (5, vI x5), (6, vI (x6 + 1))]) [3, 4, 5, 6, 7, 8, 0] rfl ?_
        exact h
      refine g_icmp_ne (tgt := 157) (pc' := 83) (rg_iand _ _) (rg_lit rfl) Iff.rfl dX5_isOutdone_80 rfl rfl (fun c14 => ?_) (fun c14 => ?_)
      · exact hk37g (fun q => c14 q.1)
      · refine g_iload (pc' := 85) 8 dX5_isOutdone_83 rfl rfl ?_
        refine g_iload_n (pc' := 86) 4 dX5_isOutdone_85 rfl rfl ?_
        refine g_icmp_eq (tgt := 157) (pc' := 89) (hob15 c14) (hob16 c14) Iff.rfl dX5_isOutdone_86 rfl rfl (fun c17 => ?_) (fun c17 => ?_)
        · exact hk37g (fun q => (fun q => q.1 c17) q.2)
        · refine g_iload (pc' := 91) 0 dX5_isOutdone_89 rfl rfl ?_
          refine g_if_lt (tgt := 157) (pc' := 94) (hob18 c14 c17) Iff.rfl dX5_isOutdone_91 rfl rfl (fun c19 => ?_) (fun c19 => ?_)
          · exact hk37g (fun q => (fun q => (fun q => q c19) q.2) q.2)
          · exact hk36g ⟨c14, ⟨c17, c19⟩⟩
    refine g_icmp_ne (tgt := 62) (pc' := 38) rg4 (rg_lit rfl) Iff.rfl dX5_isOutdone_35 rfl rfl (fun c6 => ?_) (fun c6 => ?_)
    · refine g_iconst (pc' := 63) dX5_isOutdone_62 rfl ?_
      rw [if_neg c6 (α := Int) (t := (i 54 ((x1 * 3) + x6)) - (i 54 x4)) (e := 0)] at hJ
      exact hJ
    · refine g_aload_n (pc' := 39) 1 dX5_isOutdone_38 rfl rfl ?_
      refine g_getR (pc' := 42) (o := some 51) fl_X5_48 (shP0 ha) rfl (rfPc ha) dX5_isOutdone_39 rfl ?_
      refine g_getR (pc' := 45) (o := some 54) fl_X5_108 rfl rfl rfl dX5_isOutdone_42 rfl ?_
      refine g_iload (pc' := 47) 0 dX5_isOutdone_45 rfl rfl ?_
      refine g_iald (pc' := 48) (N := 30) rfl rfl (Nat.lt_of_lt_of_le (Nat.lt_succ_self _) (Nat.le_of_ble_eq_true rfl)) (hob7 c6) dX5_isOutdone_47 rfl (fun rg8 => ?_)
      refine g_aload_n (pc' := 49) 1 dX5_isOutdone_48 rfl rfl ?_
      refine g_getR (pc' := 52) (o := some 51) fl_X5_48 (shP0 ha) rfl (rfPc ha) dX5_isOutdone_49 rfl ?_
      refine g_getR (pc' := 55) (o := some 54) fl_X5_108 rfl rfl rfl dX5_isOutdone_52 rfl ?_
      refine g_iload (pc' := 57) 5 dX5_isOutdone_55 rfl rfl ?_
      refine g_iald (pc' := 58) (N := 30) rfl rfl (Nat.lt_of_lt_of_le (Nat.lt_succ_self _) (Nat.le_of_ble_eq_true rfl)) (hob9 c6) dX5_isOutdone_57 rfl (fun rg10 => ?_)
      refine g_isub (pc' := 59) dX5_isOutdone_58 rfl ?_
      refine g_goto (tgt := 63) dX5_isOutdone_59 rfl ?_
      rw [if_pos c6 (α := Int) (t := (i 54 ((x1 * 3) + x6)) - (i 54 x4)) (e := 0)] at hJ
      exact hJ

theorem dX5_look_0 : decode cX5_look 0 = .ok (.iload_n 1, 1) := by decide +kernel
theorem dX5_look_1 : decode cX5_look 1 = .ok (.bipush 12, 2) := by decide +kernel
theorem dX5_look_3 : decode cX5_look 3 = .ok (.imul, 1) := by decide +kernel
theorem dX5_look_4 : decode cX5_look 4 = .ok (.istore 4, 2) := by decide +kernel
theorem dX5_look_6 : decode cX5_look 6 = .ok (.iload 4, 2) := by decide +kernel
theorem dX5_look_8 : decode cX5_look 8 = .ok (.bipush 12, 2) := by decide +kernel
theorem dX5_look_10 : decode cX5_look 10 = .ok (.iadd, 1) := by decide +kernel
theorem dX5_look_11 : decode cX5_look 11 = .ok (.istore 5, 2) := by decide +kernel
theorem dX5_look_13 : decode cX5_look 13 = .ok (.iconst 0, 1) := by decide +kernel
theorem dX5_look_14 : decode cX5_look 14 = .ok (.istore 6, 2) := by decide +kernel
theorem dX5_look_16 : decode cX5_look 16 = .ok (.iconst 0, 1) := by decide +kernel
theorem dX5_look_17 : decode cX5_look 17 = .ok (.istore 7, 2) := by decide +kernel
theorem dX5_look_19 : decode cX5_look 19 = .ok (.iload 7, 2) := by decide +kernel
theorem dX5_look_21 : decode cX5_look 21 = .ok (.aload_n 0, 1) := by decide +kernel
theorem dX5_look_22 : decode cX5_look 22 = .ok (.getfield 48, 3) := by decide +kernel
theorem dX5_look_25 : decode cX5_look 25 = .ok (.getfield 91, 3) := by decide +kernel
theorem dX5_look_28 : decode cX5_look 28 = .ok (.if_icmp .ge 124, 3) := by decide +kernel
theorem dX5_look_31 : decode cX5_look 31 = .ok (.iload_n 3, 1) := by decide +kernel
theorem dX5_look_32 : decode cX5_look 32 = .ok (.iload 7, 2) := by decide +kernel
theorem dX5_look_34 : decode cX5_look 34 = .ok (.ishr, 1) := by decide +kernel
theorem dX5_look_35 : decode cX5_look 35 = .ok (.iconst 1, 1) := by decide +kernel
theorem dX5_look_36 : decode cX5_look 36 = .ok (.iand, 1) := by decide +kernel
theorem dX5_look_37 : decode cX5_look 37 = .ok (.iconst 1, 1) := by decide +kernel
theorem dX5_look_38 : decode cX5_look 38 = .ok (.if_icmp .ne 108, 3) := by decide +kernel
theorem dX5_look_41 : decode cX5_look 41 = .ok (.aload_n 0, 1) := by decide +kernel
theorem dX5_look_42 : decode cX5_look 42 = .ok (.getfield 9, 3) := by decide +kernel
theorem dX5_look_45 : decode cX5_look 45 = .ok (.iload 4, 2) := by decide +kernel
theorem dX5_look_47 : decode cX5_look 47 = .ok (.iload 7, 2) := by decide +kernel
theorem dX5_look_49 : decode cX5_look 49 = .ok (.iadd, 1) := by decide +kernel
theorem dX5_look_50 : decode cX5_look 50 = .ok (.laload, 1) := by decide +kernel
theorem dX5_look_51 : decode cX5_look 51 = .ok (.aload_n 0, 1) := by decide +kernel
theorem dX5_look_52 : decode cX5_look 52 = .ok (.getfield 48, 3) := by decide +kernel
theorem dX5_look_55 : decode cX5_look 55 = .ok (.getfield 148, 3) := by decide +kernel
theorem dX5_look_58 : decode cX5_look 58 = .ok (.iload_n 2, 1) := by decide +kernel
theorem dX5_look_59 : decode cX5_look 59 = .ok (.bipush 12, 2) := by decide +kernel
theorem dX5_look_61 : decode cX5_look 61 = .ok (.imul, 1) := by decide +kernel
theorem dX5_look_62 : decode cX5_look 62 = .ok (.iload 7, 2) := by decide +kernel
theorem dX5_look_64 : decode cX5_look 64 = .ok (.iadd, 1) := by decide +kernel
theorem dX5_look_65 : decode cX5_look 65 = .ok (.laload, 1) := by decide +kernel
theorem dX5_look_66 : decode cX5_look 66 = .ok (.lor, 1) := by decide +kernel
theorem dX5_look_67 : decode cX5_look 67 = .ok (.lstore 8, 2) := by decide +kernel
theorem dX5_look_69 : decode cX5_look 69 = .ok (.lload 8, 2) := by decide +kernel
theorem dX5_look_71 : decode cX5_look 71 = .ok (.invokestatic 151, 3) := by decide +kernel
theorem dX5_look_74 : decode cX5_look 74 = .ok (.aload_n 0, 1) := by decide +kernel
theorem dX5_look_75 : decode cX5_look 75 = .ok (.getfield 15, 3) := by decide +kernel
theorem dX5_look_78 : decode cX5_look 78 = .ok (.iload 7, 2) := by decide +kernel
theorem dX5_look_80 : decode cX5_look 80 = .ok (.laload, 1) := by decide +kernel
theorem dX5_look_81 : decode cX5_look 81 = .ok (.ladd, 1) := by decide +kernel
theorem dX5_look_82 : decode cX5_look 82 = .ok (.lstore 10, 2) := by decide +kernel
theorem dX5_look_84 : decode cX5_look 84 = .ok (.lload 10, 2) := by decide +kernel
theorem dX5_look_86 : decode cX5_look 86 = .ok (.ldc2_w 155, 3) := by decide +kernel
theorem dX5_look_89 : decode cX5_look 89 = .ok (.land, 1) := by decide +kernel
theorem dX5_look_90 : decode cX5_look 90 = .ok (.lconst 0, 1) := by decide +kernel
theorem dX5_look_91 : decode cX5_look 91 = .ok (.lcmp, 1) := by decide +kernel
theorem dX5_look_92 : decode cX5_look 92 = .ok (.ifCond .eq 5, 3) := by decide +kernel
theorem dX5_look_95 : decode cX5_look 95 = .ok (.iconst (-1), 1) := by decide +kernel
theorem dX5_look_96 : decode cX5_look 96 = .ok (.ireturn, 1) := by decide +kernel
theorem dX5_look_97 : decode cX5_look 97 = .ok (.aload_n 0, 1) := by decide +kernel
theorem dX5_look_98 : decode cX5_look 98 = .ok (.getfield 9, 3) := by decide +kernel
theorem dX5_look_101 : decode cX5_look 101 = .ok (.iload 5, 2) := by decide +kernel
theorem dX5_look_103 : decode cX5_look 103 = .ok (.iload 7, 2) := by decide +kernel
theorem dX5_look_105 : decode cX5_look 105 = .ok (.iadd, 1) := by decide +kernel
theorem dX5_look_106 : decode cX5_look 106 = .ok (.lload 8, 2) := by decide +kernel
theorem dX5_look_108 : decode cX5_look 108 = .ok (.lastore, 1) := by decide +kernel
theorem dX5_look_109 : decode cX5_look 109 = .ok (.aload_n 0, 1) := by decide +kernel
theorem dX5_look_110 : decode cX5_look 110 = .ok (.getfield 48, 3) := by decide +kernel
theorem dX5_look_113 : decode cX5_look 113 = .ok (.iload 5, 2) := by decide +kernel
theorem dX5_look_115 : decode cX5_look 115 = .ok (.iload 7, 2) := by decide +kernel
theorem dX5_look_117 : decode cX5_look 117 = .ok (.iadd, 1) := by decide +kernel
theorem dX5_look_118 : decode cX5_look 118 = .ok (.lload 8, 2) := by decide +kernel
theorem dX5_look_120 : decode cX5_look 120 = .ok (.lload 10, 2) := by decide +kernel
theorem dX5_look_122 : decode cX5_look 122 = .ok (.aload_n 0, 1) := by decide +kernel
theorem dX5_look_123 : decode cX5_look 123 = .ok (.getfield 15, 3) := by decide +kernel
theorem dX5_look_126 : decode cX5_look 126 = .ok (.iload 7, 2) := by decide +kernel
theorem dX5_look_128 : decode cX5_look 128 = .ok (.laload, 1) := by decide +kernel
theorem dX5_look_129 : decode cX5_look 129 = .ok (.invokevirtual 125, 3) := by decide +kernel
theorem dX5_look_132 : decode cX5_look 132 = .ok (.lconst 0, 1) := by decide +kernel
theorem dX5_look_133 : decode cX5_look 133 = .ok (.lcmp, 1) := by decide +kernel
theorem dX5_look_134 : decode cX5_look 134 = .ok (.ifCond .eq 12, 3) := by decide +kernel
theorem dX5_look_137 : decode cX5_look 137 = .ok (.iload 6, 2) := by decide +kernel
theorem dX5_look_139 : decode cX5_look 139 = .ok (.iconst 1, 1) := by decide +kernel
theorem dX5_look_140 : decode cX5_look 140 = .ok (.iload 7, 2) := by decide +kernel
theorem dX5_look_142 : decode cX5_look 142 = .ok (.ishl, 1) := by decide +kernel
theorem dX5_look_143 : decode cX5_look 143 = .ok (.ior, 1) := by decide +kernel
theorem dX5_look_144 : decode cX5_look 144 = .ok (.istore 6, 2) := by decide +kernel
theorem dX5_look_146 : decode cX5_look 146 = .ok (.iinc 7 1, 3) := by decide +kernel
theorem dX5_look_149 : decode cX5_look 149 = .ok (.goto (-130), 3) := by decide +kernel
theorem dX5_look_152 : decode cX5_look 152 = .ok (.iload 6, 2) := by decide +kernel
theorem dX5_look_154 : decode cX5_look 154 = .ok (.ireturn, 1) := by decide +kernel
set_option maxRecDepth 20000 in
theorem s_X5_look {w : Wd} {d : Nat} {P : Int → IM → LM → Prop} {i : IM} {l : LM} (p0 : Int) (p1 : Int) (p2 : Int) {a : Nat} (ha : a = 63 ∨ a = 73) (h : gI w d X_X5_look P i l 19 [(0, vR (some a)), (2, vI p1), (3, vI p2), (4, vI (p0 * 12)), (5, vI ((p0 * 12) + 12)), (6, vI 0), (7, vI 0)] []) : gI w d X_X5_look P i l 0 [(0, vR (some a)), (1, vI p0), (2, vI p1), (3, vI p2)] [] := by
  refine g_iload_n (pc' := 1) 1 dX5_look_0 rfl rfl ?_
  refine g_bipush (pc' := 3) dX5_look_1 rfl rfl ?_
  refine g_imul (pc' := 4) dX5_look_3 rfl ?_
  refine g_istore (pc' := 6) (L' := [(4, vI (p0 * 12)), (0, vR (some a)), (1, vI p0), (2, vI p1), (3, vI p2)]) dX5_look_4 rfl (Nat.le_of_ble_eq_true rfl) rfl ?_
  refine g_iload (pc' := 8) 0 dX5_look_6 rfl rfl ?_
  refine g_bipush (pc' := 10) dX5_look_8 rfl rfl ?_
  refine g_iadd (pc' := 11) dX5_look_10 rfl ?_
  refine g_istore (pc' := 13) (L' := [(5, vI ((p0 * 12) + 12)), (4, vI (p0 * 12)), (0, vR (some a)), (1, vI p0), (2, vI p1), (3, vI p2)]) dX5_look_11 rfl (Nat.le_of_ble_eq_true rfl) rfl ?_
  refine g_iconst (pc' := 14) dX5_look_13 rfl ?_
  refine g_istore (pc' := 16) (L' := [(6, vI 0), (5, vI ((p0 * 12) + 12)), (4, vI (p0 * 12)), (0, vR (some a)), (1, vI p0), (2, vI p1), (3, vI p2)]) dX5_look_14 rfl (Nat.le_of_ble_eq_true rfl) rfl ?_
  refine g_iconst (pc' := 17) dX5_look_16 rfl ?_
  refine g_istore (pc' := 19) (L' := [(7, vI 0), (6, vI 0), (5, vI ((p0 * 12) + 12)), (4, vI (p0 * 12)), (0, vR (some a)), (1, vI p0), (2, vI p1), (3, vI p2)]) dX5_look_17 rfl (Nat.le_of_ble_eq_true rfl) rfl ?_
  refine g_sub (L' := [(0, vR (some a)), (2, vI p1), (3, vI p2), (4, vI (p0 * 12)), (5, vI ((p0 * 12) + 12)), (6, vI 0), (7, vI 0)]) [4, 6, 7, 3, 2, 1, 0] rfl ?_
  exact h
theorem e_X5_look {w : Wd} {d : Nat} {P : Int → IM → LM → Prop} {i : IM} {l : LM} {p0 : Int} {p1 : Int} {p2 : Int} {a : Nat} (h : gI w d X_X5_look P i l 0 [(0, vR (some a)), (1, vI p0), (2, vI p1), (3, vI p2)] []) : cI w (d + 1) X_X5_look [vR (some a), vI p0, vI p1, vI p2] i l P := CI_of (by decide +kernel) (Nat.le_of_ble_eq_true rfl) h
set_option maxRecDepth 20000 in
theorem s_X5_look_19 {w : Wd} {d : Nat} {P : Int → IM → LM → Prop} {i : IM} {l : LM} (x2 : Int) (x3 : Int) (x4 : Int) (x5 : Int) (x6 : Int) (x7 : Int) {a : Nat} (ha : a = 63 ∨ a = 73) (hd : 2 ≤ d) (h : ((rg x7) ∧ ((i 51 13 ≤ x7) → ((rg x6) ∧ P x6 i l)) ∧ ((¬ (i 51 13 ≤ x7) ∧ (¬ (iand (ishr x3 x7) 1 = 1))) → gI w d X_X5_look P i l 19 [(0, vR (some a)), (2, vI x2), (3, vI x3), (4, vI x4), (5, vI x5), (6, vI x6), (7, vI (x7 + 1))] []) ∧ ((¬ (i 51 13 ≤ x7) ∧ (iand (ishr x3 x7) 1 = 1)) → ((0 ≤ x4 + x7 ∧ x4 + x7 < 132) ∧ (0 ≤ (x2 * 12) + x7 ∧ (x2 * 12) + x7 < 360) ∧ (0 ≤ x7 ∧ x7 < 12) ∧ (((((cntL ((l (a + 1) (x4 + x7)) ||| (l 56 ((x2 * 12) + x7)))) + (l (a + 2) x7)) &&& (-9187201950435737472) = 0) → ((0 ≤ x5 + x7 ∧ x5 + x7 < 132) ∧ (0 ≤ x7 ∧ x7 < 12) ∧ (((mayF (u2l l (a + 1) (x5 + x7) ((l (a + 1) (x4 + x7)) ||| (l 56 ((x2 * 12) + x7)))) (x5 + x7) ((l (a + 1) (x4 + x7)) ||| (l 56 ((x2 * 12) + x7))) ((cntL ((l (a + 1) (x4 + x7)) ||| (l 56 ((x2 * 12) + x7)))) + (l (a + 2) x7)) ((u2l l (a + 1) (x5 + x7) ((l (a + 1) (x4 + x7)) ||| (l 56 ((x2 * 12) + x7)))) (a + 2) x7) = 0) → gI w d X_X5_look P i (u2l l (a + 1) (x5 + x7) ((l (a + 1) (x4 + x7)) ||| (l 56 ((x2 * 12) + x7)))) 19 [(0, vR (some a)), (2, vI x2), (3, vI x3), (4, vI x4), (5, vI x5), (6, vI x6), (7, vI (x7 + 1))] []) ∧ ((¬ (mayF (u2l l (a + 1) (x5 + x7) ((l (a + 1) (x4 + x7)) ||| (l 56 ((x2 * 12) + x7)))) (x5 + x7) ((l (a + 1) (x4 + x7)) ||| (l 56 ((x2 * 12) + x7))) ((cntL ((l (a + 1) (x4 + x7)) ||| (l 56 ((x2 * 12) + x7)))) + (l (a + 2) x7)) ((u2l l (a + 1) (x5 + x7) ((l (a + 1) (x4 + x7)) ||| (l 56 ((x2 * 12) + x7)))) (a + 2) x7) = 0)) → gI w d X_X5_look P i (u2l l (a + 1) (x5 + x7) ((l (a + 1) (x4 + x7)) ||| (l 56 ((x2 * 12) + x7)))) 19 [(0, vR (some a)), (2, vI x2), (3, vI x3), (4, vI x4), (5, vI x5), (6, vI (ior x6 (ishl 1 x7))), (7, vI (x7 + 1))] [])))) ∧ ((¬ (((cntL ((l (a + 1) (x4 + x7)) ||| (l 56 ((x2 * 12) + x7)))) + (l (a + 2) x7)) &&& (-9187201950435737472) = 0)) → P (-1) i l)))))) : gI w d X_X5_look P i l 19 [(0, vR (some a)), (2, vI x2), (3, vI x3), (4, vI x4), (5, vI x5), (6, vI x6), (7, vI x7)] [] := by
  refine g_iload (pc' := 21) 6 dX5_look_19 rfl rfl ?_
  refine g_aload_n (pc' := 22) 0 dX5_look_21 rfl rfl ?_
  refine g_getR (pc' := 25) (o := some 51) fl_X5_48 (shP0 ha) rfl (rfPc ha) dX5_look_22 rfl ?_
  refine g_getI (pc' := 28) (z := 13) rfl fl_X5_91 rfl rfl dX5_look_25 rfl (fun rg1 => ?_)
  obtain ⟨hob3, hk24, hk25, hk26⟩ := h
  have hk24g : (i 51 13 ≤ x7) → gI w d X_X5_look P i l 152 [(0, vR (some a)), (2, vI x2), (3, vI x3), (4, vI x4), (5, vI x5), (6, vI x6), (7, vI x7)] [] := by
    intro hp
    have h := hk24 hp
    obtain ⟨ob8, h⟩ := h
    refine g_iload (pc' := 154) 5 dX5_look_152 rfl rfl ?_
    exact g_retI rfl ob8 dX5_look_154 h
  have hk25g : (¬ (i 51 13 ≤ x7) ∧ (¬ (iand (ishr x3 x7) 1 = 1))) → gI w d X_X5_look P i l 146 [(0, vR (some a)), (2, vI x2), (3, vI x3), (4, vI x4), (5, vI x5), (6, vI x6), (7, vI x7)] [] := by
    intro hp
    have h := hk25 hp
    refine g_iinc (pc' := 149) (L' := [(7, vI (x7 + 1)), (0, vR (some a)), (2, vI x2), (3, vI x3), (4, vI x4), (5, vI x5), (6, vI x6)]) 6 dX5_look_146 rfl (Nat.le_of_ble_eq_true rfl) rfl rfl ?_
    refine g_goto (tgt := 19) dX5_look_149 rfl ?_
    refine g_sub (L' := [(0, vR (some a)), (2, vI x2), (3, vI x3), (4, vI x4), (5, vI x5), (6, vI x6), (7, vI (x7 + 1))]) [1, 2, 3, 4, 5, 6, 0] rfl ?_
    exact h
  have hk26g : (¬ (i 51 13 ≤ x7) ∧ (iand (ishr x3 x7) 1 = 1)) → gI w d X_X5_look P i l 41 [(0, vR (some a)), (2, vI x2), (3, vI x3), (4, vI x4), (5, vI x5), (6, vI x6), (7, vI x7)] [] := by
    intro hp
    have h := hk26 hp
    obtain ⟨ob9, ob10, ob12, h⟩ := h
    refine g_aload_n (pc' := 42) 0 dX5_look_41 rfl rfl ?_
    refine g_getR (pc' := 45) (o := some (a + 1)) fl_X5_9 (shP0 ha) rfl (rfP ha (k := 0) (by decide)) dX5_look_42 rfl ?_
    refine g_iload (pc' := 47) 3 dX5_look_45 rfl rfl ?_
    refine g_iload (pc' := 49) 6 dX5_look_47 rfl rfl ?_
    refine g_iadd (pc' := 50) dX5_look_49 rfl ?_
    refine g_lald (pc' := 51) (N := 132) (shP1 ha) rfl (Nat.lt_of_lt_of_le (Nat.lt_succ_self _) (Nat.le_of_ble_eq_true rfl)) ob9 dX5_look_50 rfl ?_
    refine g_aload_n (pc' := 52) 0 dX5_look_51 rfl rfl ?_
    refine g_getR (pc' := 55) (o := some 51) fl_X5_48 (shP0 ha) rfl (rfPc ha) dX5_look_52 rfl ?_
    refine g_getR (pc' := 58) (o := some 56) fl_X5_148 rfl rfl rfl dX5_look_55 rfl ?_
    refine g_iload_n (pc' := 59) 1 dX5_look_58 rfl rfl ?_
    refine g_bipush (pc' := 61) dX5_look_59 rfl rfl ?_
    refine g_imul (pc' := 62) dX5_look_61 rfl ?_
    refine g_iload (pc' := 64) 6 dX5_look_62 rfl rfl ?_
    refine g_iadd (pc' := 65) dX5_look_64 rfl ?_
    refine g_lald (pc' := 66) (N := 360) rfl rfl (Nat.lt_of_lt_of_le (Nat.lt_succ_self _) (Nat.le_of_ble_eq_true rfl)) ob10 dX5_look_65 rfl ?_
    refine g_lor (pc' := 67) dX5_look_66 rfl ?_
    refine g_lstore (pc' := 69) (L' := [(8, vL ((l (a + 1) (x4 + x7)) ||| (l 56 ((x2 * 12) + x7)))), (0, vR (some a)), (2, vI x2), (3, vI x3), (4, vI x4), (5, vI x5), (6, vI x6), (7, vI x7)]) dX5_look_67 rfl (Nat.le_of_ble_eq_true rfl) rfl ?_
    refine g_lload (pc' := 71) 0 dX5_look_69 rfl rfl ?_
    refine g_pSL (pc' := 74) (vs := [vL ((l (a + 1) (x4 + x7)) ||| (l 56 ((x2 * 12) + x7)))]) (st := []) (val := cntL ((l (a + 1) (x4 + x7)) ||| (l 56 ((x2 * 12) + x7)))) (sp_X1_counted (le_hd hd rfl) ) mk_X1_counted ms_X1_counted lk_X5_151 rfl (Nat.le_of_ble_eq_true rfl) (Nat.le_of_ble_eq_true rfl) rfl dX5_look_71 rfl z2 ?_
    refine g_aload_n (pc' := 75) 1 dX5_look_74 rfl rfl ?_
    refine g_getR (pc' := 78) (o := some (a + 2)) fl_X5_15 (shP0 ha) rfl (rfP ha (k := 1) (by decide)) dX5_look_75 rfl ?_
    refine g_iload (pc' := 80) 7 dX5_look_78 rfl rfl ?_
    refine g_lald (pc' := 81) (N := 12) (shP2 ha) rfl (Nat.lt_of_lt_of_le (Nat.lt_succ_self _) (Nat.le_of_ble_eq_true rfl)) ob12 dX5_look_80 rfl ?_
    refine g_ladd (pc' := 82) dX5_look_81 rfl ?_
    refine g_lstore (pc' := 84) (L' := [(10, vL ((cntL ((l (a + 1) (x4 + x7)) ||| (l 56 ((x2 * 12) + x7)))) + (l (a + 2) x7))), (8, vL ((l (a + 1) (x4 + x7)) ||| (l 56 ((x2 * 12) + x7)))), (0, vR (some a)), (2, vI x2), (3, vI x3), (4, vI x4), (5, vI x5), (6, vI x6), (7, vI x7)]) dX5_look_82 rfl (Nat.le_of_ble_eq_true rfl) rfl ?_
    refine g_lload (pc' := 86) 0 dX5_look_84 rfl rfl ?_
    refine g_ldc2 (pc' := 89) dX5_look_86 rfl kl_X5_155 ?_
    refine g_land (pc' := 90) dX5_look_89 rfl ?_
    refine g_lconst (pc' := 91) (v := 0) dX5_look_90 rfl rfl ?_
    refine g_lcmp (pc' := 92) dX5_look_91 rfl ?_
    obtain ⟨hk22, hk23⟩ := h
    refine g_if_eq (tgt := 97) (pc' := 95) (rg_lcmpI _ _) (lcmpI_eq _ _) dX5_look_92 rfl rfl (fun c14 => ?_) (fun c14 => ?_)
    · have h := hk22 c14
      obtain ⟨ob15, ob16, h⟩ := h
      refine g_aload_n (pc' := 98) 2 dX5_look_97 rfl rfl ?_
      refine g_getR (pc' := 101) (o := some (a + 1)) fl_X5_9 (shP0 ha) rfl (rfP ha (k := 0) (by decide)) dX5_look_98 rfl ?_
      refine g_iload (pc' := 103) 6 dX5_look_101 rfl rfl ?_
      refine g_iload (pc' := 105) 8 dX5_look_103 rfl rfl ?_
      refine g_iadd (pc' := 106) dX5_look_105 rfl ?_
      refine g_lload (pc' := 108) 1 dX5_look_106 rfl rfl ?_
      refine g_last (pc' := 109) (N := 132) (shP1 ha) rfl (Nat.lt_of_lt_of_le (Nat.lt_succ_self _) (Nat.le_of_ble_eq_true rfl)) ob15 dX5_look_108 rfl ?_
      refine g_aload_n (pc' := 110) 2 dX5_look_109 rfl rfl ?_
      refine g_getR (pc' := 113) (o := some 51) fl_X5_48 (shP0 ha) rfl (rfPc ha) dX5_look_110 rfl ?_
      refine g_iload (pc' := 115) 6 dX5_look_113 rfl rfl ?_
      refine g_iload (pc' := 117) 8 dX5_look_115 rfl rfl ?_
      refine g_iadd (pc' := 118) dX5_look_117 rfl ?_
      refine g_lload (pc' := 120) 1 dX5_look_118 rfl rfl ?_
      refine g_lload (pc' := 122) 0 dX5_look_120 rfl rfl ?_
      refine g_aload_n (pc' := 123) 2 dX5_look_122 rfl rfl ?_
      refine g_getR (pc' := 126) (o := some (a + 2)) fl_X5_15 (shP0 ha) rfl (rfP ha (k := 1) (by decide)) dX5_look_123 rfl ?_
      refine g_iload (pc' := 128) 8 dX5_look_126 rfl rfl ?_
      refine g_lald (pc' := 129) (N := 12) (shP2 ha) rfl (Nat.lt_of_lt_of_le (Nat.lt_succ_self _) (Nat.le_of_ble_eq_true rfl)) ob16 dX5_look_128 rfl ?_
      refine g_pVL (pc' := 132) (vs := [vI (x5 + x7), vL ((l (a + 1) (x4 + x7)) ||| (l 56 ((x2 * 12) + x7))), vL ((cntL ((l (a + 1) (x4 + x7)) ||| (l 56 ((x2 * 12) + x7)))) + (l (a + 2) x7)), vL ((u2l l (a + 1) (x5 + x7) ((l (a + 1) (x4 + x7)) ||| (l 56 ((x2 * 12) + x7)))) (a + 2) x7)]) (st := []) (val := mayF (u2l l (a + 1) (x5 + x7) ((l (a + 1) (x4 + x7)) ||| (l 56 ((x2 * 12) + x7)))) (x5 + x7) ((l (a + 1) (x4 + x7)) ||| (l 56 ((x2 * 12) + x7))) ((cntL ((l (a + 1) (x4 + x7)) ||| (l 56 ((x2 * 12) + x7)))) + (l (a + 2) x7)) ((u2l l (a + 1) (x5 + x7) ((l (a + 1) (x4 + x7)) ||| (l 56 ((x2 * 12) + x7)))) (a + 2) x7)) (c := 1) (sp_X1_mayFail (le_hd hd rfl) ob15) mv_X1_mayFail lk_X5_125 rfl rfl rfl rfl (Nat.le_of_ble_eq_true rfl) (Nat.le_of_ble_eq_true rfl) rfl dX5_look_129 rfl z2 ?_
      refine g_lconst (pc' := 133) (v := 0) dX5_look_132 rfl rfl ?_
      refine g_lcmp (pc' := 134) dX5_look_133 rfl ?_
      obtain ⟨hk20, hk21⟩ := h
      refine g_if_eq (tgt := 146) (pc' := 137) (rg_lcmpI _ _) (lcmpI_eq _ _) dX5_look_134 rfl rfl (fun c19 => ?_) (fun c19 => ?_)
      · have h := hk20 c19
        refine g_iinc (pc' := 149) (L' := [(7, vI (x7 + 1)), (10, vL ((cntL ((l (a + 1) (x4 + x7)) ||| (l 56 ((x2 * 12) + x7)))) + (l (a + 2) x7))), (8, vL ((l (a + 1) (x4 + x7)) ||| (l 56 ((x2 * 12) + x7)))), (0, vR (some a)), (2, vI x2), (3, vI x3), (4, vI x4), (5, vI x5), (6, vI x6)]) 8 dX5_look_146 rfl (Nat.le_of_ble_eq_true rfl) rfl rfl ?_
        refine g_goto (tgt := 19) dX5_look_149 rfl ?_
        refine g_sub (L' := [(0, vR (some a)), (2, vI x2), (3, vI x3), (4, vI x4), (5, vI x5), (6, vI x6), (7, vI (x7 + 1))]) [3, 4, 5, 6, 7, 8, 0] rfl ?_
        exact h
      · have h := hk21 c19
        refine g_iload (pc' := 139) 7 dX5_look_137 rfl rfl ?_
        refine g_iconst (pc' := 140) dX5_look_139 rfl ?_
        refine g_iload (pc' := 142) 8 dX5_look_140 rfl rfl ?_
        refine g_ishl (pc' := 143) dX5_look_142 rfl ?_
        refine g_ior (pc' := 144) dX5_look_143 rfl ?_
        refine g_istore (pc' := 146) (L' := [(6, vI (ior x6 (ishl 1 x7))), (10, vL ((cntL ((l (a + 1) (x4 + x7)) ||| (l 56 ((x2 * 12) + x7)))) + (l (a + 2) x7))), (8, vL ((l (a + 1) (x4 + x7)) ||| (l 56 ((x2 * 12) + x7)))), (0, vR (some a)), (2, vI x2), (3, vI x3), (4, vI x4), (5, vI x5), (7, vI x7)]) dX5_look_144 rfl (Nat.le_of_ble_eq_true rfl) rfl ?_
        refine g_iinc (pc' := 149) (L' := [(7, vI (x7 + 1)), (6, vI (ior x6 (ishl 1 x7))), (10, vL ((cntL ((l (a + 1) (x4 + x7)) ||| (l 56 ((x2 * 12) + x7)))) + (l (a + 2) x7))), (8, vL ((l (a + 1) (x4 + x7)) ||| (l 56 ((x2 * 12) + x7)))), (0, vR (some a)), (2, vI x2), (3, vI x3), (4, vI x4), (5, vI x5)]) 8 dX5_look_146 rfl (Nat.le_of_ble_eq_true rfl) rfl rfl ?_
        refine g_goto (tgt := 19) dX5_look_149 rfl ?_
        refine g_sub (L' := [(0, vR (some a)), (2, vI x2), (3, vI x3), (4, vI x4), (5, vI x5), (6, vI (ior x6 (ishl 1 x7))), (7, vI (x7 + 1))]) [4, 5, 6, 7, 8, 1, 0] rfl ?_
        exact h
    · have h := hk23 c14
      refine g_iconst (pc' := 96) dX5_look_95 rfl ?_
      exact g_retI rfl (rg_lit rfl) dX5_look_96 h
  refine g_icmp_ge (tgt := 152) (pc' := 31) (hob3) rg1 Iff.rfl dX5_look_28 rfl rfl (fun c4 => ?_) (fun c4 => ?_)
  · exact hk24g c4
  · refine g_iload_n (pc' := 32) 2 dX5_look_31 rfl rfl ?_
    refine g_iload (pc' := 34) 6 dX5_look_32 rfl rfl ?_
    refine g_ishr (pc' := 35) dX5_look_34 rfl ?_
    refine g_iconst (pc' := 36) dX5_look_35 rfl ?_
    refine g_iand (pc' := 37) dX5_look_36 rfl ?_
    refine g_iconst (pc' := 38) dX5_look_37 rfl ?_
    refine g_icmp_ne (tgt := 146) (pc' := 41) (rg_iand _ _) (rg_lit rfl) Iff.rfl dX5_look_38 rfl rfl (fun c5 => ?_) (fun c5 => ?_)
    · exact hk25g ⟨c4, c5⟩
    · exact hk26g ⟨c4, c5⟩

theorem dX5_record_0 : decode cX5_record 0 = .ok (.aload_n 0, 1) := by decide +kernel
theorem dX5_record_1 : decode cX5_record 1 = .ok (.dup, 1) := by decide +kernel
theorem dX5_record_2 : decode cX5_record 2 = .ok (.getfield 71, 3) := by decide +kernel
theorem dX5_record_5 : decode cX5_record 5 = .ok (.aload_n 0, 1) := by decide +kernel
theorem dX5_record_6 : decode cX5_record 6 = .ok (.getfield 22, 3) := by decide +kernel
theorem dX5_record_9 : decode cX5_record 9 = .ok (.iload_n 1, 1) := by decide +kernel
theorem dX5_record_10 : decode cX5_record 10 = .ok (.iaload, 1) := by decide +kernel
theorem dX5_record_11 : decode cX5_record 11 = .ok (.iadd, 1) := by decide +kernel
theorem dX5_record_12 : decode cX5_record 12 = .ok (.putfield 71, 3) := by decide +kernel
theorem dX5_record_15 : decode cX5_record 15 = .ok (.aload_n 0, 1) := by decide +kernel
theorem dX5_record_16 : decode cX5_record 16 = .ok (.aload_n 0, 1) := by decide +kernel
theorem dX5_record_17 : decode cX5_record 17 = .ok (.getfield 52, 3) := by decide +kernel
theorem dX5_record_20 : decode cX5_record 20 = .ok (.iload_n 3, 1) := by decide +kernel
theorem dX5_record_21 : decode cX5_record 21 = .ok (.aload_n 0, 1) := by decide +kernel
theorem dX5_record_22 : decode cX5_record 22 = .ok (.getfield 31, 3) := by decide +kernel
theorem dX5_record_25 : decode cX5_record 25 = .ok (.iload_n 1, 1) := by decide +kernel
theorem dX5_record_26 : decode cX5_record 26 = .ok (.iaload, 1) := by decide +kernel
theorem dX5_record_27 : decode cX5_record 27 = .ok (.iadd, 1) := by decide +kernel
theorem dX5_record_28 : decode cX5_record 28 = .ok (.invokestatic 114, 3) := by decide +kernel
theorem dX5_record_31 : decode cX5_record 31 = .ok (.putfield 52, 3) := by decide +kernel
theorem dX5_record_34 : decode cX5_record 34 = .ok (.iload_n 2, 1) := by decide +kernel
theorem dX5_record_35 : decode cX5_record 35 = .ok (.aload_n 0, 1) := by decide +kernel
theorem dX5_record_36 : decode cX5_record 36 = .ok (.getfield 28, 3) := by decide +kernel
theorem dX5_record_39 : decode cX5_record 39 = .ok (.iload_n 1, 1) := by decide +kernel
theorem dX5_record_40 : decode cX5_record 40 = .ok (.iaload, 1) := by decide +kernel
theorem dX5_record_41 : decode cX5_record 41 = .ok (.iadd, 1) := by decide +kernel
theorem dX5_record_42 : decode cX5_record 42 = .ok (.istore 4, 2) := by decide +kernel
theorem dX5_record_44 : decode cX5_record 44 = .ok (.aload_n 0, 1) := by decide +kernel
theorem dX5_record_45 : decode cX5_record 45 = .ok (.getfield 65, 3) := by decide +kernel
theorem dX5_record_48 : decode cX5_record 48 = .ok (.ifCond .le 13, 3) := by decide +kernel
theorem dX5_record_51 : decode cX5_record 51 = .ok (.iload 4, 2) := by decide +kernel
theorem dX5_record_53 : decode cX5_record 53 = .ok (.aload_n 0, 1) := by decide +kernel
theorem dX5_record_54 : decode cX5_record 54 = .ok (.getfield 74, 3) := by decide +kernel
theorem dX5_record_57 : decode cX5_record 57 = .ok (.if_icmp .ge 4, 3) := by decide +kernel
theorem dX5_record_60 : decode cX5_record 60 = .ok (.return_, 1) := by decide +kernel
theorem dX5_record_61 : decode cX5_record 61 = .ok (.aload_n 0, 1) := by decide +kernel
theorem dX5_record_62 : decode cX5_record 62 = .ok (.getfield 65, 3) := by decide +kernel
theorem dX5_record_65 : decode cX5_record 65 = .ok (.ifCond .le 28, 3) := by decide +kernel
theorem dX5_record_68 : decode cX5_record 68 = .ok (.iload 4, 2) := by decide +kernel
theorem dX5_record_70 : decode cX5_record 70 = .ok (.aload_n 0, 1) := by decide +kernel
theorem dX5_record_71 : decode cX5_record 71 = .ok (.getfield 74, 3) := by decide +kernel
theorem dX5_record_74 : decode cX5_record 74 = .ok (.if_icmp .ne 19, 3) := by decide +kernel
theorem dX5_record_77 : decode cX5_record 77 = .ok (.aload_n 0, 1) := by decide +kernel
theorem dX5_record_78 : decode cX5_record 78 = .ok (.dup, 1) := by decide +kernel
theorem dX5_record_79 : decode cX5_record 79 = .ok (.getfield 65, 3) := by decide +kernel
theorem dX5_record_82 : decode cX5_record 82 = .ok (.aload_n 0, 1) := by decide +kernel
theorem dX5_record_83 : decode cX5_record 83 = .ok (.getfield 25, 3) := by decide +kernel
theorem dX5_record_86 : decode cX5_record 86 = .ok (.iload_n 1, 1) := by decide +kernel
theorem dX5_record_87 : decode cX5_record 87 = .ok (.iaload, 1) := by decide +kernel
theorem dX5_record_88 : decode cX5_record 88 = .ok (.iadd, 1) := by decide +kernel
theorem dX5_record_89 : decode cX5_record 89 = .ok (.putfield 65, 3) := by decide +kernel
theorem dX5_record_92 : decode cX5_record 92 = .ok (.return_, 1) := by decide +kernel
theorem dX5_record_93 : decode cX5_record 93 = .ok (.aload_n 0, 1) := by decide +kernel
theorem dX5_record_94 : decode cX5_record 94 = .ok (.iload 4, 2) := by decide +kernel
theorem dX5_record_96 : decode cX5_record 96 = .ok (.putfield 74, 3) := by decide +kernel
theorem dX5_record_99 : decode cX5_record 99 = .ok (.aload_n 0, 1) := by decide +kernel
theorem dX5_record_100 : decode cX5_record 100 = .ok (.aload_n 0, 1) := by decide +kernel
theorem dX5_record_101 : decode cX5_record 101 = .ok (.getfield 25, 3) := by decide +kernel
theorem dX5_record_104 : decode cX5_record 104 = .ok (.iload_n 1, 1) := by decide +kernel
theorem dX5_record_105 : decode cX5_record 105 = .ok (.iaload, 1) := by decide +kernel
theorem dX5_record_106 : decode cX5_record 106 = .ok (.putfield 65, 3) := by decide +kernel
theorem dX5_record_109 : decode cX5_record 109 = .ok (.iconst 0, 1) := by decide +kernel
theorem dX5_record_110 : decode cX5_record 110 = .ok (.istore 5, 2) := by decide +kernel
theorem dX5_record_112 : decode cX5_record 112 = .ok (.iload 5, 2) := by decide +kernel
theorem dX5_record_114 : decode cX5_record 114 = .ok (.aload_n 0, 1) := by decide +kernel
theorem dX5_record_115 : decode cX5_record 115 = .ok (.getfield 44, 3) := by decide +kernel
theorem dX5_record_118 : decode cX5_record 118 = .ok (.getfield 98, 3) := by decide +kernel
theorem dX5_record_121 : decode cX5_record 121 = .ok (.if_icmp .ge 39, 3) := by decide +kernel
theorem dX5_record_124 : decode cX5_record 124 = .ok (.aload_n 0, 1) := by decide +kernel
theorem dX5_record_125 : decode cX5_record 125 = .ok (.getfield 37, 3) := by decide +kernel
theorem dX5_record_128 : decode cX5_record 128 = .ok (.iload 5, 2) := by decide +kernel
theorem dX5_record_130 : decode cX5_record 130 = .ok (.iload 5, 2) := by decide +kernel
theorem dX5_record_132 : decode cX5_record 132 = .ok (.iload_n 1, 1) := by decide +kernel
theorem dX5_record_133 : decode cX5_record 133 = .ok (.if_icmp .ge 13, 3) := by decide +kernel
theorem dX5_record_136 : decode cX5_record 136 = .ok (.aload_n 0, 1) := by decide +kernel
theorem dX5_record_137 : decode cX5_record 137 = .ok (.getfield 18, 3) := by decide +kernel
theorem dX5_record_140 : decode cX5_record 140 = .ok (.iload 5, 2) := by decide +kernel
theorem dX5_record_142 : decode cX5_record 142 = .ok (.iaload, 1) := by decide +kernel
theorem dX5_record_143 : decode cX5_record 143 = .ok (.goto 10, 3) := by decide +kernel
theorem dX5_record_146 : decode cX5_record 146 = .ok (.aload_n 0, 1) := by decide +kernel
theorem dX5_record_147 : decode cX5_record 147 = .ok (.getfield 34, 3) := by decide +kernel
theorem dX5_record_150 : decode cX5_record 150 = .ok (.iload 5, 2) := by decide +kernel
theorem dX5_record_152 : decode cX5_record 152 = .ok (.iaload, 1) := by decide +kernel
theorem dX5_record_153 : decode cX5_record 153 = .ok (.iastore, 1) := by decide +kernel
theorem dX5_record_154 : decode cX5_record 154 = .ok (.iinc 5 1, 3) := by decide +kernel
theorem dX5_record_157 : decode cX5_record 157 = .ok (.goto (-45), 3) := by decide +kernel
theorem dX5_record_160 : decode cX5_record 160 = .ok (.return_, 1) := by decide +kernel
set_option maxRecDepth 20000 in
theorem s_X5_record {w : Wd} {d : Nat} {P : IM → LM → Prop} {i : IM} {l : LM} (p0 : Int) (p1 : Int) (p2 : Int) {a : Nat} (ha : a = 63 ∨ a = 73) (hd : 2 ≤ d) (h : ((0 ≤ p0 ∧ p0 < 11) ∧ (rg ((i a 11) + (i (a + 4) p0))) ∧ ((¬ ((u2 (u2 i a 11 ((i a 11) + (i (a + 4) p0))) a 14 (leastI ((u2 i a 11 ((i a 11) + (i (a + 4) p0))) a 14) (p2 + ((u2 i a 11 ((i a 11) + (i (a + 4) p0))) (a + 7) p0)))) a 12 ≤ 0) → rg (p1 + ((u2 (u2 i a 11 ((i a 11) + (i (a + 4) p0))) a 14 (leastI ((u2 i a 11 ((i a 11) + (i (a + 4) p0))) a 14) (p2 + ((u2 i a 11 ((i a 11) + (i (a + 4) p0))) (a + 7) p0)))) (a + 6) p0))) ∧ ((((u2 (u2 i a 11 ((i a 11) + (i (a + 4) p0))) a 14 (leastI ((u2 i a 11 ((i a 11) + (i (a + 4) p0))) a 14) (p2 + ((u2 i a 11 ((i a 11) + (i (a + 4) p0))) (a + 7) p0)))) a 12 ≤ 0) ∨ ((u2 (u2 i a 11 ((i a 11) + (i (a + 4) p0))) a 14 (leastI ((u2 i a 11 ((i a 11) + (i (a + 4) p0))) a 14) (p2 + ((u2 i a 11 ((i a 11) + (i (a + 4) p0))) (a + 7) p0)))) a 13 ≤ p1 + ((u2 (u2 i a 11 ((i a 11) + (i (a + 4) p0))) a 14 (leastI ((u2 i a 11 ((i a 11) + (i (a + 4) p0))) a 14) (p2 + ((u2 i a 11 ((i a 11) + (i (a + 4) p0))) (a + 7) p0)))) (a + 6) p0))) → gV w d X_X5_record P (u2 (u2 i a 11 ((i a 11) + (i (a + 4) p0))) a 14 (leastI ((u2 i a 11 ((i a 11) + (i (a + 4) p0))) a 14) (p2 + ((u2 i a 11 ((i a 11) + (i (a + 4) p0))) (a + 7) p0)))) l 61 [(0, vR (some a)), (1, vI p0), (4, vI (p1 + ((u2 (u2 i a 11 ((i a 11) + (i (a + 4) p0))) a 14 (leastI ((u2 i a 11 ((i a 11) + (i (a + 4) p0))) a 14) (p2 + ((u2 i a 11 ((i a 11) + (i (a + 4) p0))) (a + 7) p0)))) (a + 6) p0)))] []) ∧ ((¬ (((u2 (u2 i a 11 ((i a 11) + (i (a + 4) p0))) a 14 (leastI ((u2 i a 11 ((i a 11) + (i (a + 4) p0))) a 14) (p2 + ((u2 i a 11 ((i a 11) + (i (a + 4) p0))) (a + 7) p0)))) a 12 ≤ 0) ∨ ((u2 (u2 i a 11 ((i a 11) + (i (a + 4) p0))) a 14 (leastI ((u2 i a 11 ((i a 11) + (i (a + 4) p0))) a 14) (p2 + ((u2 i a 11 ((i a 11) + (i (a + 4) p0))) (a + 7) p0)))) a 13 ≤ p1 + ((u2 (u2 i a 11 ((i a 11) + (i (a + 4) p0))) a 14 (leastI ((u2 i a 11 ((i a 11) + (i (a + 4) p0))) a 14) (p2 + ((u2 i a 11 ((i a 11) + (i (a + 4) p0))) (a + 7) p0)))) (a + 6) p0)))) → P (u2 (u2 i a 11 ((i a 11) + (i (a + 4) p0))) a 14 (leastI ((u2 i a 11 ((i a 11) + (i (a + 4) p0))) a 14) (p2 + ((u2 i a 11 ((i a 11) + (i (a + 4) p0))) (a + 7) p0)))) l)))) : gV w d X_X5_record P i l 0 [(0, vR (some a)), (1, vI p0), (2, vI p1), (3, vI p2)] [] := by
  obtain ⟨ob2, ob4, h⟩ := h
  refine g_aload_n (pc' := 1) 0 dX5_record_0 rfl rfl ?_
  refine g_dup (pc' := 2) dX5_record_1 rfl rfl ?_
  refine g_getI (pc' := 5) (z := 11) rfl fl_X5_71 (shP0 ha) rfl dX5_record_2 rfl (fun rg1 => ?_)
  refine g_aload_n (pc' := 6) 0 dX5_record_5 rfl rfl ?_
  refine g_getR (pc' := 9) (o := some (a + 4)) fl_X5_22 (shP0 ha) rfl (rfP ha (k := 3) (by decide)) dX5_record_6 rfl ?_
  refine g_iload_n (pc' := 10) 1 dX5_record_9 rfl rfl ?_
  refine g_iald (pc' := 11) (N := 11) (shP4 ha) rfl (Nat.lt_of_lt_of_le (Nat.lt_succ_self _) (Nat.le_of_ble_eq_true rfl)) ob2 dX5_record_10 rfl (fun rg3 => ?_)
  refine g_iadd (pc' := 12) dX5_record_11 rfl ?_
  refine g_putI (pc' := 15) (z := 11) rfl fp_X5_71 (shP0 ha) rfl ob4 dX5_record_12 rfl ?_
  refine g_aload_n (pc' := 16) 0 dX5_record_15 rfl rfl ?_
  refine g_aload_n (pc' := 17) 0 dX5_record_16 rfl rfl ?_
  refine g_getI (pc' := 20) (z := 14) rfl fl_X5_52 (shP0 ha) rfl dX5_record_17 rfl (fun rg5 => ?_)
  refine g_iload_n (pc' := 21) 3 dX5_record_20 rfl rfl ?_
  refine g_aload_n (pc' := 22) 0 dX5_record_21 rfl rfl ?_
  refine g_getR (pc' := 25) (o := some (a + 7)) fl_X5_31 (shP0 ha) rfl (rfP ha (k := 6) (by decide)) dX5_record_22 rfl ?_
  refine g_iload_n (pc' := 26) 1 dX5_record_25 rfl rfl ?_
  refine g_iald (pc' := 27) (N := 11) (shP7 ha) rfl (Nat.lt_of_lt_of_le (Nat.lt_succ_self _) (Nat.le_of_ble_eq_true rfl)) ob2 dX5_record_26 rfl (fun rg6 => ?_)
  refine g_iadd (pc' := 28) dX5_record_27 rfl ?_
  refine g_pSI (pc' := 31) (vs := [vI ((u2 i a 11 ((i a 11) + (i (a + 4) p0))) a 14), vI (p2 + ((u2 i a 11 ((i a 11) + (i (a + 4) p0))) (a + 7) p0))]) (st := [vR (some a)]) (val := leastI ((u2 i a 11 ((i a 11) + (i (a + 4) p0))) a 14) (p2 + ((u2 i a 11 ((i a 11) + (i (a + 4) p0))) (a + 7) p0))) (sp_X5_leastOf (le_hd hd rfl) ) mk_X5_leastOf ms_X5_leastOf lk_X5_114 rfl (Nat.le_of_ble_eq_true rfl) (Nat.le_of_ble_eq_true rfl) rfl dX5_record_28 rfl z2 (fun rg7 => ?_)
  refine g_putI (pc' := 34) (z := 14) rfl fp_X5_52 (shP0 ha) rfl rg7 dX5_record_31 rfl ?_
  refine g_iload_n (pc' := 35) 2 dX5_record_34 rfl rfl ?_
  refine g_aload_n (pc' := 36) 0 dX5_record_35 rfl rfl ?_
  refine g_getR (pc' := 39) (o := some (a + 6)) fl_X5_28 (shP0 ha) rfl (rfP ha (k := 5) (by decide)) dX5_record_36 rfl ?_
  refine g_iload_n (pc' := 40) 1 dX5_record_39 rfl rfl ?_
  refine g_iald (pc' := 41) (N := 11) (shP6 ha) rfl (Nat.lt_of_lt_of_le (Nat.lt_succ_self _) (Nat.le_of_ble_eq_true rfl)) ob2 dX5_record_40 rfl (fun rg8 => ?_)
  refine g_iadd (pc' := 42) dX5_record_41 rfl ?_
  refine g_istore (pc' := 44) (L' := [(4, vI (p1 + ((u2 (u2 i a 11 ((i a 11) + (i (a + 4) p0))) a 14 (leastI ((u2 i a 11 ((i a 11) + (i (a + 4) p0))) a 14) (p2 + ((u2 i a 11 ((i a 11) + (i (a + 4) p0))) (a + 7) p0)))) (a + 6) p0))), (0, vR (some a)), (1, vI p0), (2, vI p1), (3, vI p2)]) dX5_record_42 rfl (Nat.le_of_ble_eq_true rfl) rfl ?_
  refine g_aload_n (pc' := 45) 1 dX5_record_44 rfl rfl ?_
  refine g_getI (pc' := 48) (z := 12) rfl fl_X5_65 (shP0 ha) rfl dX5_record_45 rfl (fun rg9 => ?_)
  obtain ⟨hob13, hk15, hk16⟩ := h
  have hk15g : (((u2 (u2 i a 11 ((i a 11) + (i (a + 4) p0))) a 14 (leastI ((u2 i a 11 ((i a 11) + (i (a + 4) p0))) a 14) (p2 + ((u2 i a 11 ((i a 11) + (i (a + 4) p0))) (a + 7) p0)))) a 12 ≤ 0) ∨ ((u2 (u2 i a 11 ((i a 11) + (i (a + 4) p0))) a 14 (leastI ((u2 i a 11 ((i a 11) + (i (a + 4) p0))) a 14) (p2 + ((u2 i a 11 ((i a 11) + (i (a + 4) p0))) (a + 7) p0)))) a 13 ≤ p1 + ((u2 (u2 i a 11 ((i a 11) + (i (a + 4) p0))) a 14 (leastI ((u2 i a 11 ((i a 11) + (i (a + 4) p0))) a 14) (p2 + ((u2 i a 11 ((i a 11) + (i (a + 4) p0))) (a + 7) p0)))) (a + 6) p0))) → gV w d X_X5_record P (u2 (u2 i a 11 ((i a 11) + (i (a + 4) p0))) a 14 (leastI ((u2 i a 11 ((i a 11) + (i (a + 4) p0))) a 14) (p2 + ((u2 i a 11 ((i a 11) + (i (a + 4) p0))) (a + 7) p0)))) l 61 [(4, vI (p1 + ((u2 (u2 i a 11 ((i a 11) + (i (a + 4) p0))) a 14 (leastI ((u2 i a 11 ((i a 11) + (i (a + 4) p0))) a 14) (p2 + ((u2 i a 11 ((i a 11) + (i (a + 4) p0))) (a + 7) p0)))) (a + 6) p0))), (0, vR (some a)), (1, vI p0), (2, vI p1), (3, vI p2)] [] := by
    intro hp
    have h := hk15 hp
    refine g_sub (L' := [(0, vR (some a)), (1, vI p0), (4, vI (p1 + ((u2 (u2 i a 11 ((i a 11) + (i (a + 4) p0))) a 14 (leastI ((u2 i a 11 ((i a 11) + (i (a + 4) p0))) a 14) (p2 + ((u2 i a 11 ((i a 11) + (i (a + 4) p0))) (a + 7) p0)))) (a + 6) p0)))]) [1, 2, 0] rfl ?_
    exact h
  have hk16g : (¬ (((u2 (u2 i a 11 ((i a 11) + (i (a + 4) p0))) a 14 (leastI ((u2 i a 11 ((i a 11) + (i (a + 4) p0))) a 14) (p2 + ((u2 i a 11 ((i a 11) + (i (a + 4) p0))) (a + 7) p0)))) a 12 ≤ 0) ∨ ((u2 (u2 i a 11 ((i a 11) + (i (a + 4) p0))) a 14 (leastI ((u2 i a 11 ((i a 11) + (i (a + 4) p0))) a 14) (p2 + ((u2 i a 11 ((i a 11) + (i (a + 4) p0))) (a + 7) p0)))) a 13 ≤ p1 + ((u2 (u2 i a 11 ((i a 11) + (i (a + 4) p0))) a 14 (leastI ((u2 i a 11 ((i a 11) + (i (a + 4) p0))) a 14) (p2 + ((u2 i a 11 ((i a 11) + (i (a + 4) p0))) (a + 7) p0)))) (a + 6) p0)))) → gV w d X_X5_record P (u2 (u2 i a 11 ((i a 11) + (i (a + 4) p0))) a 14 (leastI ((u2 i a 11 ((i a 11) + (i (a + 4) p0))) a 14) (p2 + ((u2 i a 11 ((i a 11) + (i (a + 4) p0))) (a + 7) p0)))) l 60 [(4, vI (p1 + ((u2 (u2 i a 11 ((i a 11) + (i (a + 4) p0))) a 14 (leastI ((u2 i a 11 ((i a 11) + (i (a + 4) p0))) a 14) (p2 + ((u2 i a 11 ((i a 11) + (i (a + 4) p0))) (a + 7) p0)))) (a + 6) p0))), (0, vR (some a)), (1, vI p0), (2, vI p1), (3, vI p2)] [] := by
    intro hp
    have h := hk16 hp
    exact g_retV rfl dX5_record_60 h
  refine g_if_le (tgt := 61) (pc' := 51) rg9 Iff.rfl dX5_record_48 rfl rfl (fun c11 => ?_) (fun c11 => ?_)
  · exact hk15g (Or.inl c11)
  · refine g_iload (pc' := 53) 0 dX5_record_51 rfl rfl ?_
    refine g_aload_n (pc' := 54) 1 dX5_record_53 rfl rfl ?_
    refine g_getI (pc' := 57) (z := 13) rfl fl_X5_74 (shP0 ha) rfl dX5_record_54 rfl (fun rg12 => ?_)
    refine g_icmp_ge (tgt := 61) (pc' := 60) (hob13 c11) rg12 Iff.rfl dX5_record_57 rfl rfl (fun c14 => ?_) (fun c14 => ?_)
    · exact hk15g (Or.inr c14)
    · exact hk16g (fun q => q.elim c11 c14)
theorem e_X5_record {w : Wd} {d : Nat} {P : IM → LM → Prop} {i : IM} {l : LM} {p0 : Int} {p1 : Int} {p2 : Int} {a : Nat} (h : gV w d X_X5_record P i l 0 [(0, vR (some a)), (1, vI p0), (2, vI p1), (3, vI p2)] []) : cVd w (d + 1) X_X5_record [vR (some a), vI p0, vI p1, vI p2] i l P := CV_of (by decide +kernel) (Nat.le_of_ble_eq_true rfl) h
set_option maxRecDepth 20000 in
theorem s_X5_record_61 {w : Wd} {d : Nat} {P : IM → LM → Prop} {i : IM} {l : LM} (x1 : Int) (x4 : Int) {a : Nat} (ha : a = 63 ∨ a = 73) (h : ((¬ (i a 12 ≤ 0) → rg x4) ∧ (((i a 12 ≤ 0) ∨ (¬ (x4 = i a 13))) → ((rg x4) ∧ (0 ≤ x1 ∧ x1 < 11) ∧ gV w d X_X5_record P (u2 (u2 i a 13 x4) a 12 ((u2 i a 13 x4) (a + 5) x1)) l 112 [(0, vR (some a)), (1, vI x1), (5, vI 0)] [])) ∧ ((¬ ((i a 12 ≤ 0) ∨ (¬ (x4 = i a 13)))) → ((0 ≤ x1 ∧ x1 < 11) ∧ (rg ((i a 12) + (i (a + 5) x1))) ∧ P (u2 i a 12 ((i a 12) + (i (a + 5) x1))) l)))) : gV w d X_X5_record P i l 61 [(0, vR (some a)), (1, vI x1), (4, vI x4)] [] := by
  refine g_aload_n (pc' := 62) 0 dX5_record_61 rfl rfl ?_
  refine g_getI (pc' := 65) (z := 12) rfl fl_X5_65 (shP0 ha) rfl dX5_record_62 rfl (fun rg17 => ?_)
  obtain ⟨hob21, hk33, hk34⟩ := h
  have hk33g : ((i a 12 ≤ 0) ∨ (¬ (x4 = i a 13))) → gV w d X_X5_record P i l 93 [(0, vR (some a)), (1, vI x1), (4, vI x4)] [] := by
    intro hp
    have h := hk33 hp
    obtain ⟨ob26, ob27, h⟩ := h
    refine g_aload_n (pc' := 94) 0 dX5_record_93 rfl rfl ?_
    refine g_iload (pc' := 96) 2 dX5_record_94 rfl rfl ?_
    refine g_putI (pc' := 99) (z := 13) rfl fp_X5_74 (shP0 ha) rfl ob26 dX5_record_96 rfl ?_
    refine g_aload_n (pc' := 100) 0 dX5_record_99 rfl rfl ?_
    refine g_aload_n (pc' := 101) 0 dX5_record_100 rfl rfl ?_
    refine g_getR (pc' := 104) (o := some (a + 5)) fl_X5_25 (shP0 ha) rfl (rfP ha (k := 4) (by decide)) dX5_record_101 rfl ?_
    refine g_iload_n (pc' := 105) 1 dX5_record_104 rfl rfl ?_
    refine g_iald (pc' := 106) (N := 11) (shP5 ha) rfl (Nat.lt_of_lt_of_le (Nat.lt_succ_self _) (Nat.le_of_ble_eq_true rfl)) ob27 dX5_record_105 rfl (fun rg28 => ?_)
    refine g_putI (pc' := 109) (z := 12) rfl fp_X5_65 (shP0 ha) rfl rg28 dX5_record_106 rfl ?_
    refine g_iconst (pc' := 110) dX5_record_109 rfl ?_
    refine g_istore (pc' := 112) (L' := [(5, vI 0), (0, vR (some a)), (1, vI x1), (4, vI x4)]) dX5_record_110 rfl (Nat.le_of_ble_eq_true rfl) rfl ?_
    refine g_sub (L' := [(0, vR (some a)), (1, vI x1), (5, vI 0)]) [1, 2, 0] rfl ?_
    exact h
  have hk34g : (¬ ((i a 12 ≤ 0) ∨ (¬ (x4 = i a 13)))) → gV w d X_X5_record P i l 77 [(0, vR (some a)), (1, vI x1), (4, vI x4)] [] := by
    intro hp
    have h := hk34 hp
    obtain ⟨ob30, ob32, h⟩ := h
    refine g_aload_n (pc' := 78) 0 dX5_record_77 rfl rfl ?_
    refine g_dup (pc' := 79) dX5_record_78 rfl rfl ?_
    refine g_getI (pc' := 82) (z := 12) rfl fl_X5_65 (shP0 ha) rfl dX5_record_79 rfl (fun rg29 => ?_)
    refine g_aload_n (pc' := 83) 0 dX5_record_82 rfl rfl ?_
    refine g_getR (pc' := 86) (o := some (a + 5)) fl_X5_25 (shP0 ha) rfl (rfP ha (k := 4) (by decide)) dX5_record_83 rfl ?_
    refine g_iload_n (pc' := 87) 1 dX5_record_86 rfl rfl ?_
    refine g_iald (pc' := 88) (N := 11) (shP5 ha) rfl (Nat.lt_of_lt_of_le (Nat.lt_succ_self _) (Nat.le_of_ble_eq_true rfl)) ob30 dX5_record_87 rfl (fun rg31 => ?_)
    refine g_iadd (pc' := 89) dX5_record_88 rfl ?_
    refine g_putI (pc' := 92) (z := 12) rfl fp_X5_65 (shP0 ha) rfl ob32 dX5_record_89 rfl ?_
    exact g_retV rfl dX5_record_92 h
  refine g_if_le (tgt := 93) (pc' := 68) rg17 Iff.rfl dX5_record_65 rfl rfl (fun c19 => ?_) (fun c19 => ?_)
  · exact hk33g (Or.inl c19)
  · refine g_iload (pc' := 70) 2 dX5_record_68 rfl rfl ?_
    refine g_aload_n (pc' := 71) 0 dX5_record_70 rfl rfl ?_
    refine g_getI (pc' := 74) (z := 13) rfl fl_X5_74 (shP0 ha) rfl dX5_record_71 rfl (fun rg20 => ?_)
    refine g_icmp_ne (tgt := 93) (pc' := 77) (hob21 c19) rg20 Iff.rfl dX5_record_74 rfl rfl (fun c22 => ?_) (fun c22 => ?_)
    · exact hk33g (Or.inr c22)
    · exact hk34g (fun q => q.elim c19 (fun q => q c22))
set_option maxRecDepth 20000 in
theorem s_X5_record_112 {w : Wd} {d : Nat} {P : IM → LM → Prop} {i : IM} {l : LM} (x1 : Int) (x5 : Int) {a : Nat} (ha : a = 63 ∨ a = 73) (h : ((rg x5) ∧ ((i 7 8 ≤ x5) → P i l) ∧ ((¬ (i 7 8 ≤ x5)) → ((rg x5) ∧ (rg x1) ∧ ((x1 ≤ x5) → 0 ≤ x5 ∧ x5 < 10) ∧ (¬ (x1 ≤ x5) → 0 ≤ x5 ∧ x5 < 10) ∧ ((0 ≤ x5 ∧ x5 < 10) ∧ gV w d X_X5_record P (u2 i (a + 9) x5 (if (x1 ≤ x5) then i (a + 8) x5 else i (a + 3) x5)) l 112 [(0, vR (some a)), (1, vI x1), (5, vI (x5 + 1))] []))))) : gV w d X_X5_record P i l 112 [(0, vR (some a)), (1, vI x1), (5, vI x5)] [] := by
  refine g_iload (pc' := 114) 2 dX5_record_112 rfl rfl ?_
  refine g_aload_n (pc' := 115) 0 dX5_record_114 rfl rfl ?_
  refine g_getR (pc' := 118) (o := some 7) fl_X5_44 (shP0 ha) rfl (rfPt ha) dX5_record_115 rfl ?_
  refine g_getI (pc' := 121) (z := 8) rfl fl_X5_98 rfl rfl dX5_record_118 rfl (fun rg35 => ?_)
  obtain ⟨hob69, hk80, hk81⟩ := h
  refine g_icmp_ge (tgt := 160) (pc' := 124) (hob69) rg35 Iff.rfl dX5_record_121 rfl rfl (fun c70 => ?_) (fun c70 => ?_)
  · have h := hk80 c70
    exact g_retV rfl dX5_record_160 h
  · have h := hk81 c70
    refine g_aload_n (pc' := 125) 0 dX5_record_124 rfl rfl ?_
    refine g_getR (pc' := 128) (o := some (a + 9)) fl_X5_37 (shP0 ha) rfl (rfP ha (k := 8) (by decide)) dX5_record_125 rfl ?_
    refine g_iload (pc' := 130) 2 dX5_record_128 rfl rfl ?_
    refine g_iload (pc' := 132) 2 dX5_record_130 rfl rfl ?_
    refine g_iload_n (pc' := 133) 1 dX5_record_132 rfl rfl ?_
    refine g_rg (fun hRG71 => ?_)
    obtain ⟨hob72, hob73, hob75, hob77, h⟩ := h
    have hJ : gV w d X_X5_record P i l 153 [(0, vR (some a)), (1, vI x1), (5, vI x5)] [vI (if (x1 ≤ x5) then i (a + 8) x5 else i (a + 3) x5), vI x5, vR (some (a + 9))] := by
      obtain ⟨ob79, h⟩ := h
      refine g_iast (pc' := 154) (N := 10) (shP9 ha) rfl (Nat.lt_of_lt_of_le (Nat.lt_succ_self _) (Nat.le_of_ble_eq_true rfl)) ob79 (rg_ite (hRG71 _ _) (hRG71 _ _)) dX5_record_153 rfl ?_
      refine g_iinc (pc' := 157) (L' := [(5, vI (x5 + 1)), (0, vR (some a)), (1, vI x1)]) 2 dX5_record_154 rfl (Nat.le_of_ble_eq_true rfl) rfl rfl ?_
      refine g_goto (tgt := 112) dX5_record_157 rfl ?_
      refine g_sub (L' := [(0, vR (some a)), (1, vI x1), (5, vI (x5 + 1))]) [1, 2, 0] rfl ?_
      exact h
    refine g_icmp_ge (tgt := 146) (pc' := 136) (hob72) (hob73) Iff.rfl dX5_record_133 rfl rfl (fun c74 => ?_) (fun c74 => ?_)
    · refine g_aload_n (pc' := 147) 0 dX5_record_146 rfl rfl ?_
      refine g_getR (pc' := 150) (o := some (a + 8)) fl_X5_34 (shP0 ha) rfl (rfP ha (k := 7) (by decide)) dX5_record_147 rfl ?_
      refine g_iload (pc' := 152) 2 dX5_record_150 rfl rfl ?_
      refine g_iald (pc' := 153) (N := 10) (shP8 ha) rfl (Nat.lt_of_lt_of_le (Nat.lt_succ_self _) (Nat.le_of_ble_eq_true rfl)) (hob75 c74) dX5_record_152 rfl (fun rg76 => ?_)
      rw [if_pos c74 (α := Int) (t := i (a + 8) x5) (e := i (a + 3) x5)] at hJ
      exact hJ
    · refine g_aload_n (pc' := 137) 0 dX5_record_136 rfl rfl ?_
      refine g_getR (pc' := 140) (o := some (a + 3)) fl_X5_18 (shP0 ha) rfl (rfP ha (k := 2) (by decide)) dX5_record_137 rfl ?_
      refine g_iload (pc' := 142) 2 dX5_record_140 rfl rfl ?_
      refine g_iald (pc' := 143) (N := 10) (shP3 ha) rfl (Nat.lt_of_lt_of_le (Nat.lt_succ_self _) (Nat.le_of_ble_eq_true rfl)) (hob77 c74) dX5_record_142 rfl (fun rg78 => ?_)
      refine g_goto (tgt := 153) dX5_record_143 rfl ?_
      rw [if_neg c74 (α := Int) (t := i (a + 8) x5) (e := i (a + 3) x5)] at hJ
      exact hJ
