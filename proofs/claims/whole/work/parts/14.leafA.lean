theorem dX12_isColour_0 : decode cX12_isColour 0 = .ok (.iload_n 0, 1) := by decide +kernel
theorem dX12_isColour_1 : decode cX12_isColour 1 = .ok (.iconst 0, 1) := by decide +kernel
theorem dX12_isColour_2 : decode cX12_isColour 2 = .ok (.bipush 7, 2) := by decide +kernel
theorem dX12_isColour_4 : decode cX12_isColour 4 = .ok (.invokestatic 106, 3) := by decide +kernel
theorem dX12_isColour_7 : decode cX12_isColour 7 = .ok (.ireturn, 1) := by decide +kernel
set_option maxRecDepth 20000 in
theorem s_X12_isColour {w : Wd} {d : Nat} {P : Int → IM → LM → Prop} {i : IM} {l : LM} (p0 : Int)  (hd : 1 ≤ d) (h : ((rg p0) ∧ P (bI (0 ≤ p0 ∧ p0 ≤ 7)) i l)) : gI w d X_X12_isColour P i l 0 [(0, vI p0)] [] := by
  obtain ⟨ob1, h⟩ := h
  refine g_iload_n (pc' := 1) 0 dX12_isColour_0 rfl rfl ?_
  refine g_iconst (pc' := 2) dX12_isColour_1 rfl ?_
  refine g_bipush (pc' := 4) dX12_isColour_2 rfl rfl ?_
  refine g_pSI (pc' := 7) (vs := [vI p0, vI 0, vI 7]) (st := []) (val := bI (0 ≤ p0 ∧ p0 ≤ 7)) (sp_X12_lies (le_hd hd rfl) ob1 (rg_lit rfl) (rg_lit rfl)) mk_X12_lies ms_X12_lies lk_X12_106 rfl (Nat.le_of_ble_eq_true rfl) (Nat.le_of_ble_eq_true rfl) rfl dX12_isColour_4 rfl z2 (fun rg2 => ?_)
  exact g_retZ rfl (bI_01 _) dX12_isColour_7 h
theorem e_X12_isColour {w : Wd} {d : Nat} {P : Int → IM → LM → Prop} {i : IM} {l : LM} {p0 : Int}  (h : gI w d X_X12_isColour P i l 0 [(0, vI p0)] []) : cI w (d + 1) X_X12_isColour [vI p0] i l P := CI_of (by decide +kernel) (Nat.le_of_ble_eq_true rfl) h

theorem dX12_isMinute_0 : decode cX12_isMinute 0 = .ok (.iload_n 0, 1) := by decide +kernel
theorem dX12_isMinute_1 : decode cX12_isMinute 1 = .ok (.iconst 0, 1) := by decide +kernel
theorem dX12_isMinute_2 : decode cX12_isMinute 2 = .ok (.bipush 119, 2) := by decide +kernel
theorem dX12_isMinute_4 : decode cX12_isMinute 4 = .ok (.invokestatic 106, 3) := by decide +kernel
theorem dX12_isMinute_7 : decode cX12_isMinute 7 = .ok (.ireturn, 1) := by decide +kernel
set_option maxRecDepth 20000 in
theorem s_X12_isMinute {w : Wd} {d : Nat} {P : Int → IM → LM → Prop} {i : IM} {l : LM} (p0 : Int)  (hd : 1 ≤ d) (h : ((rg p0) ∧ P (bI (0 ≤ p0 ∧ p0 ≤ 119)) i l)) : gI w d X_X12_isMinute P i l 0 [(0, vI p0)] [] := by
  obtain ⟨ob1, h⟩ := h
  refine g_iload_n (pc' := 1) 0 dX12_isMinute_0 rfl rfl ?_
  refine g_iconst (pc' := 2) dX12_isMinute_1 rfl ?_
  refine g_bipush (pc' := 4) dX12_isMinute_2 rfl rfl ?_
  refine g_pSI (pc' := 7) (vs := [vI p0, vI 0, vI 119]) (st := []) (val := bI (0 ≤ p0 ∧ p0 ≤ 119)) (sp_X12_lies (le_hd hd rfl) ob1 (rg_lit rfl) (rg_lit rfl)) mk_X12_lies ms_X12_lies lk_X12_106 rfl (Nat.le_of_ble_eq_true rfl) (Nat.le_of_ble_eq_true rfl) rfl dX12_isMinute_4 rfl z2 (fun rg2 => ?_)
  exact g_retZ rfl (bI_01 _) dX12_isMinute_7 h
theorem e_X12_isMinute {w : Wd} {d : Nat} {P : Int → IM → LM → Prop} {i : IM} {l : LM} {p0 : Int}  (h : gI w d X_X12_isMinute P i l 0 [(0, vI p0)] []) : cI w (d + 1) X_X12_isMinute [vI p0] i l P := CI_of (by decide +kernel) (Nat.le_of_ble_eq_true rfl) h

theorem dX12_isPlace_0 : decode cX12_isPlace 0 = .ok (.iload_n 0, 1) := by decide +kernel
theorem dX12_isPlace_1 : decode cX12_isPlace 1 = .ok (.iconst 0, 1) := by decide +kernel
theorem dX12_isPlace_2 : decode cX12_isPlace 2 = .ok (.bipush 9, 2) := by decide +kernel
theorem dX12_isPlace_4 : decode cX12_isPlace 4 = .ok (.invokestatic 106, 3) := by decide +kernel
theorem dX12_isPlace_7 : decode cX12_isPlace 7 = .ok (.ireturn, 1) := by decide +kernel
set_option maxRecDepth 20000 in
theorem s_X12_isPlace {w : Wd} {d : Nat} {P : Int → IM → LM → Prop} {i : IM} {l : LM} (p0 : Int)  (hd : 1 ≤ d) (h : ((rg p0) ∧ P (bI (0 ≤ p0 ∧ p0 ≤ 9)) i l)) : gI w d X_X12_isPlace P i l 0 [(0, vI p0)] [] := by
  obtain ⟨ob1, h⟩ := h
  refine g_iload_n (pc' := 1) 0 dX12_isPlace_0 rfl rfl ?_
  refine g_iconst (pc' := 2) dX12_isPlace_1 rfl ?_
  refine g_bipush (pc' := 4) dX12_isPlace_2 rfl rfl ?_
  refine g_pSI (pc' := 7) (vs := [vI p0, vI 0, vI 9]) (st := []) (val := bI (0 ≤ p0 ∧ p0 ≤ 9)) (sp_X12_lies (le_hd hd rfl) ob1 (rg_lit rfl) (rg_lit rfl)) mk_X12_lies ms_X12_lies lk_X12_106 rfl (Nat.le_of_ble_eq_true rfl) (Nat.le_of_ble_eq_true rfl) rfl dX12_isPlace_4 rfl z2 (fun rg2 => ?_)
  exact g_retZ rfl (bI_01 _) dX12_isPlace_7 h
theorem e_X12_isPlace {w : Wd} {d : Nat} {P : Int → IM → LM → Prop} {i : IM} {l : LM} {p0 : Int}  (h : gI w d X_X12_isPlace P i l 0 [(0, vI p0)] []) : cI w (d + 1) X_X12_isPlace [vI p0] i l P := CI_of (by decide +kernel) (Nat.le_of_ble_eq_true rfl) h

theorem dX12_areMonths_0 : decode cX12_areMonths 0 = .ok (.iload_n 0, 1) := by decide +kernel
theorem dX12_areMonths_1 : decode cX12_areMonths 1 = .ok (.iconst 1, 1) := by decide +kernel
theorem dX12_areMonths_2 : decode cX12_areMonths 2 = .ok (.sipush 4095, 3) := by decide +kernel
theorem dX12_areMonths_5 : decode cX12_areMonths 5 = .ok (.invokestatic 106, 3) := by decide +kernel
theorem dX12_areMonths_8 : decode cX12_areMonths 8 = .ok (.ireturn, 1) := by decide +kernel
set_option maxRecDepth 20000 in
theorem s_X12_areMonths {w : Wd} {d : Nat} {P : Int → IM → LM → Prop} {i : IM} {l : LM} (p0 : Int)  (hd : 1 ≤ d) (h : ((rg p0) ∧ P (bI (1 ≤ p0 ∧ p0 ≤ 4095)) i l)) : gI w d X_X12_areMonths P i l 0 [(0, vI p0)] [] := by
  obtain ⟨ob1, h⟩ := h
  refine g_iload_n (pc' := 1) 0 dX12_areMonths_0 rfl rfl ?_
  refine g_iconst (pc' := 2) dX12_areMonths_1 rfl ?_
  refine g_sipush (pc' := 5) dX12_areMonths_2 rfl rfl ?_
  refine g_pSI (pc' := 8) (vs := [vI p0, vI 1, vI 4095]) (st := []) (val := bI (1 ≤ p0 ∧ p0 ≤ 4095)) (sp_X12_lies (le_hd hd rfl) ob1 (rg_lit rfl) (rg_lit rfl)) mk_X12_lies ms_X12_lies lk_X12_106 rfl (Nat.le_of_ble_eq_true rfl) (Nat.le_of_ble_eq_true rfl) rfl dX12_areMonths_5 rfl z2 (fun rg2 => ?_)
  exact g_retZ rfl (bI_01 _) dX12_areMonths_8 h
theorem e_X12_areMonths {w : Wd} {d : Nat} {P : Int → IM → LM → Prop} {i : IM} {l : LM} {p0 : Int}  (h : gI w d X_X12_areMonths P i l 0 [(0, vI p0)] []) : cI w (d + 1) X_X12_areMonths [vI p0] i l P := CI_of (by decide +kernel) (Nat.le_of_ble_eq_true rfl) h

theorem dX12_things_0 : decode cX12_things 0 = .ok (.aload_n 0, 1) := by decide +kernel
theorem dX12_things_1 : decode cX12_things 1 = .ok (.getfield 20, 3) := by decide +kernel
theorem dX12_things_4 : decode cX12_things 4 = .ok (.sipush 307, 3) := by decide +kernel
theorem dX12_things_7 : decode cX12_things 7 = .ok (.iaload, 1) := by decide +kernel
theorem dX12_things_8 : decode cX12_things 8 = .ok (.ireturn, 1) := by decide +kernel
set_option maxRecDepth 20000 in
theorem s_X12_things {w : Wd} {d : Nat} {P : Int → IM → LM → Prop} {i : IM} {l : LM}   (h : P (i 101 307) i l) : gI w d X_X12_things P i l 0 [(0, vR (some 99))] [] := by
  refine g_aload_n (pc' := 1) 0 dX12_things_0 rfl rfl ?_
  refine g_getR (pc' := 4) (o := some 101) fl_X12_20 rfl rfl rfl dX12_things_1 rfl ?_
  refine g_sipush (pc' := 7) dX12_things_4 rfl rfl ?_
  refine g_iald (pc' := 8) (N := 5120) rfl rfl (Nat.lt_of_lt_of_le (Nat.lt_succ_self _) (Nat.le_of_ble_eq_true rfl)) (by decide) dX12_things_7 rfl (fun rg1 => ?_)
  exact g_retI rfl rg1 dX12_things_8 h
theorem e_X12_things {w : Wd} {d : Nat} {P : Int → IM → LM → Prop} {i : IM} {l : LM}   (h : gI w d X_X12_things P i l 0 [(0, vR (some 99))] []) : cI w (d + 1) X_X12_things [vR (some 99)] i l P := CI_of (by decide +kernel) (Nat.le_of_ble_eq_true rfl) h

theorem dX12_windows_0 : decode cX12_windows 0 = .ok (.aload_n 0, 1) := by decide +kernel
theorem dX12_windows_1 : decode cX12_windows 1 = .ok (.getfield 20, 3) := by decide +kernel
theorem dX12_windows_4 : decode cX12_windows 4 = .ok (.sipush 308, 3) := by decide +kernel
theorem dX12_windows_7 : decode cX12_windows 7 = .ok (.iaload, 1) := by decide +kernel
theorem dX12_windows_8 : decode cX12_windows 8 = .ok (.ireturn, 1) := by decide +kernel
set_option maxRecDepth 20000 in
theorem s_X12_windows {w : Wd} {d : Nat} {P : Int → IM → LM → Prop} {i : IM} {l : LM}   (h : P (i 101 308) i l) : gI w d X_X12_windows P i l 0 [(0, vR (some 99))] [] := by
  refine g_aload_n (pc' := 1) 0 dX12_windows_0 rfl rfl ?_
  refine g_getR (pc' := 4) (o := some 101) fl_X12_20 rfl rfl rfl dX12_windows_1 rfl ?_
  refine g_sipush (pc' := 7) dX12_windows_4 rfl rfl ?_
  refine g_iald (pc' := 8) (N := 5120) rfl rfl (Nat.lt_of_lt_of_le (Nat.lt_succ_self _) (Nat.le_of_ble_eq_true rfl)) (by decide) dX12_windows_7 rfl (fun rg1 => ?_)
  exact g_retI rfl rg1 dX12_windows_8 h
theorem e_X12_windows {w : Wd} {d : Nat} {P : Int → IM → LM → Prop} {i : IM} {l : LM}   (h : gI w d X_X12_windows P i l 0 [(0, vR (some 99))] []) : cI w (d + 1) X_X12_windows [vR (some 99)] i l P := CI_of (by decide +kernel) (Nat.le_of_ble_eq_true rfl) h

theorem dX12_people_0 : decode cX12_people 0 = .ok (.aload_n 0, 1) := by decide +kernel
theorem dX12_people_1 : decode cX12_people 1 = .ok (.getfield 20, 3) := by decide +kernel
theorem dX12_people_4 : decode cX12_people 4 = .ok (.sipush 309, 3) := by decide +kernel
theorem dX12_people_7 : decode cX12_people 7 = .ok (.iaload, 1) := by decide +kernel
theorem dX12_people_8 : decode cX12_people 8 = .ok (.ireturn, 1) := by decide +kernel
set_option maxRecDepth 20000 in
theorem s_X12_people {w : Wd} {d : Nat} {P : Int → IM → LM → Prop} {i : IM} {l : LM}   (h : P (i 101 309) i l) : gI w d X_X12_people P i l 0 [(0, vR (some 99))] [] := by
  refine g_aload_n (pc' := 1) 0 dX12_people_0 rfl rfl ?_
  refine g_getR (pc' := 4) (o := some 101) fl_X12_20 rfl rfl rfl dX12_people_1 rfl ?_
  refine g_sipush (pc' := 7) dX12_people_4 rfl rfl ?_
  refine g_iald (pc' := 8) (N := 5120) rfl rfl (Nat.lt_of_lt_of_le (Nat.lt_succ_self _) (Nat.le_of_ble_eq_true rfl)) (by decide) dX12_people_7 rfl (fun rg1 => ?_)
  exact g_retI rfl rg1 dX12_people_8 h
theorem e_X12_people {w : Wd} {d : Nat} {P : Int → IM → LM → Prop} {i : IM} {l : LM}   (h : gI w d X_X12_people P i l 0 [(0, vR (some 99))] []) : cI w (d + 1) X_X12_people [vR (some 99)] i l P := CI_of (by decide +kernel) (Nat.le_of_ble_eq_true rfl) h

theorem dX12_thingOf_0 : decode cX12_thingOf 0 = .ok (.aload_n 0, 1) := by decide +kernel
theorem dX12_thingOf_1 : decode cX12_thingOf 1 = .ok (.getfield 20, 3) := by decide +kernel
theorem dX12_thingOf_4 : decode cX12_thingOf 4 = .ok (.iconst 0, 1) := by decide +kernel
theorem dX12_thingOf_5 : decode cX12_thingOf 5 = .ok (.bipush 8, 2) := by decide +kernel
theorem dX12_thingOf_7 : decode cX12_thingOf 7 = .ok (.iload_n 1, 1) := by decide +kernel
theorem dX12_thingOf_8 : decode cX12_thingOf 8 = .ok (.imul, 1) := by decide +kernel
theorem dX12_thingOf_9 : decode cX12_thingOf 9 = .ok (.iadd, 1) := by decide +kernel
theorem dX12_thingOf_10 : decode cX12_thingOf 10 = .ok (.iload_n 2, 1) := by decide +kernel
theorem dX12_thingOf_11 : decode cX12_thingOf 11 = .ok (.iadd, 1) := by decide +kernel
theorem dX12_thingOf_12 : decode cX12_thingOf 12 = .ok (.iaload, 1) := by decide +kernel
theorem dX12_thingOf_13 : decode cX12_thingOf 13 = .ok (.ireturn, 1) := by decide +kernel
set_option maxRecDepth 20000 in
theorem s_X12_thingOf {w : Wd} {d : Nat} {P : Int → IM → LM → Prop} {i : IM} {l : LM} (p0 : Int) (p1 : Int)  (h : ((0 ≤ (0 + (8 * p0)) + p1 ∧ (0 + (8 * p0)) + p1 < 5120) ∧ P (i 101 ((0 + (8 * p0)) + p1)) i l)) : gI w d X_X12_thingOf P i l 0 [(0, vR (some 99)), (1, vI p0), (2, vI p1)] [] := by
  obtain ⟨ob1, h⟩ := h
  refine g_aload_n (pc' := 1) 0 dX12_thingOf_0 rfl rfl ?_
  refine g_getR (pc' := 4) (o := some 101) fl_X12_20 rfl rfl rfl dX12_thingOf_1 rfl ?_
  refine g_iconst (pc' := 5) dX12_thingOf_4 rfl ?_
  refine g_bipush (pc' := 7) dX12_thingOf_5 rfl rfl ?_
  refine g_iload_n (pc' := 8) 1 dX12_thingOf_7 rfl rfl ?_
  refine g_imul (pc' := 9) dX12_thingOf_8 rfl ?_
  refine g_iadd (pc' := 10) dX12_thingOf_9 rfl ?_
  refine g_iload_n (pc' := 11) 2 dX12_thingOf_10 rfl rfl ?_
  refine g_iadd (pc' := 12) dX12_thingOf_11 rfl ?_
  refine g_iald (pc' := 13) (N := 5120) rfl rfl (Nat.lt_of_lt_of_le (Nat.lt_succ_self _) (Nat.le_of_ble_eq_true rfl)) ob1 dX12_thingOf_12 rfl (fun rg2 => ?_)
  exact g_retI rfl rg2 dX12_thingOf_13 h
theorem e_X12_thingOf {w : Wd} {d : Nat} {P : Int → IM → LM → Prop} {i : IM} {l : LM} {p0 : Int} {p1 : Int}  (h : gI w d X_X12_thingOf P i l 0 [(0, vR (some 99)), (1, vI p0), (2, vI p1)] []) : cI w (d + 1) X_X12_thingOf [vR (some 99), vI p0, vI p1] i l P := CI_of (by decide +kernel) (Nat.le_of_ble_eq_true rfl) h

theorem dX12_windowOf_0 : decode cX12_windowOf 0 = .ok (.aload_n 0, 1) := by decide +kernel
theorem dX12_windowOf_1 : decode cX12_windowOf 1 = .ok (.getfield 20, 3) := by decide +kernel
theorem dX12_windowOf_4 : decode cX12_windowOf 4 = .ok (.bipush 80, 2) := by decide +kernel
theorem dX12_windowOf_6 : decode cX12_windowOf 6 = .ok (.iconst 3, 1) := by decide +kernel
theorem dX12_windowOf_7 : decode cX12_windowOf 7 = .ok (.iload_n 1, 1) := by decide +kernel
theorem dX12_windowOf_8 : decode cX12_windowOf 8 = .ok (.imul, 1) := by decide +kernel
theorem dX12_windowOf_9 : decode cX12_windowOf 9 = .ok (.iadd, 1) := by decide +kernel
theorem dX12_windowOf_10 : decode cX12_windowOf 10 = .ok (.iload_n 2, 1) := by decide +kernel
theorem dX12_windowOf_11 : decode cX12_windowOf 11 = .ok (.iadd, 1) := by decide +kernel
theorem dX12_windowOf_12 : decode cX12_windowOf 12 = .ok (.iaload, 1) := by decide +kernel
theorem dX12_windowOf_13 : decode cX12_windowOf 13 = .ok (.ireturn, 1) := by decide +kernel
set_option maxRecDepth 20000 in
theorem s_X12_windowOf {w : Wd} {d : Nat} {P : Int → IM → LM → Prop} {i : IM} {l : LM} (p0 : Int) (p1 : Int)  (h : ((0 ≤ (80 + (3 * p0)) + p1 ∧ (80 + (3 * p0)) + p1 < 5120) ∧ P (i 101 ((80 + (3 * p0)) + p1)) i l)) : gI w d X_X12_windowOf P i l 0 [(0, vR (some 99)), (1, vI p0), (2, vI p1)] [] := by
  obtain ⟨ob1, h⟩ := h
  refine g_aload_n (pc' := 1) 0 dX12_windowOf_0 rfl rfl ?_
  refine g_getR (pc' := 4) (o := some 101) fl_X12_20 rfl rfl rfl dX12_windowOf_1 rfl ?_
  refine g_bipush (pc' := 6) dX12_windowOf_4 rfl rfl ?_
  refine g_iconst (pc' := 7) dX12_windowOf_6 rfl ?_
  refine g_iload_n (pc' := 8) 1 dX12_windowOf_7 rfl rfl ?_
  refine g_imul (pc' := 9) dX12_windowOf_8 rfl ?_
  refine g_iadd (pc' := 10) dX12_windowOf_9 rfl ?_
  refine g_iload_n (pc' := 11) 2 dX12_windowOf_10 rfl rfl ?_
  refine g_iadd (pc' := 12) dX12_windowOf_11 rfl ?_
  refine g_iald (pc' := 13) (N := 5120) rfl rfl (Nat.lt_of_lt_of_le (Nat.lt_succ_self _) (Nat.le_of_ble_eq_true rfl)) ob1 dX12_windowOf_12 rfl (fun rg2 => ?_)
  exact g_retI rfl rg2 dX12_windowOf_13 h
theorem e_X12_windowOf {w : Wd} {d : Nat} {P : Int → IM → LM → Prop} {i : IM} {l : LM} {p0 : Int} {p1 : Int}  (h : gI w d X_X12_windowOf P i l 0 [(0, vR (some 99)), (1, vI p0), (2, vI p1)] []) : cI w (d + 1) X_X12_windowOf [vR (some 99), vI p0, vI p1] i l P := CI_of (by decide +kernel) (Nat.le_of_ble_eq_true rfl) h

theorem dX12_fine_0 : decode cX12_fine 0 = .ok (.aload_n 0, 1) := by decide +kernel
theorem dX12_fine_1 : decode cX12_fine 1 = .ok (.getfield 193, 3) := by decide +kernel
theorem dX12_fine_4 : decode cX12_fine 4 = .ok (.iconst (-1), 1) := by decide +kernel
theorem dX12_fine_5 : decode cX12_fine 5 = .ok (.if_icmp .ne 7, 3) := by decide +kernel
theorem dX12_fine_8 : decode cX12_fine 8 = .ok (.iconst 1, 1) := by decide +kernel
theorem dX12_fine_9 : decode cX12_fine 9 = .ok (.goto 4, 3) := by decide +kernel
theorem dX12_fine_12 : decode cX12_fine 12 = .ok (.iconst 0, 1) := by decide +kernel
theorem dX12_fine_13 : decode cX12_fine 13 = .ok (.ireturn, 1) := by decide +kernel
set_option maxRecDepth 20000 in
theorem s_X12_fine {w : Wd} {d : Nat} {P : Int → IM → LM → Prop} {i : IM} {l : LM}   (h : P (bI (i 99 18 = (-1))) i l) : gI w d X_X12_fine P i l 0 [(0, vR (some 99))] [] := by
  refine g_aload_n (pc' := 1) 0 dX12_fine_0 rfl rfl ?_
  refine g_getI (pc' := 4) (z := 18) rfl fl_X12_193 rfl rfl dX12_fine_1 rfl (fun rg1 => ?_)
  refine g_iconst (pc' := 5) dX12_fine_4 rfl ?_
  have hJ : gI w d X_X12_fine P i l 13 [(0, vR (some 99))] [vI (bI (i 99 18 = (-1)))] := by
    exact g_retZ rfl (bI_01 _) dX12_fine_13 h
  refine g_icmp_ne (tgt := 12) (pc' := 8) rg1 (rg_lit rfl) Iff.rfl dX12_fine_5 rfl rfl (fun c3 => ?_) (fun c3 => ?_)
  · refine g_iconst (pc' := 13) dX12_fine_12 rfl ?_
    rw [bI_f (p := (i 99 18 = (-1))) c3] at hJ
    exact hJ
  · refine g_iconst (pc' := 9) dX12_fine_8 rfl ?_
    refine g_goto (tgt := 13) dX12_fine_9 rfl ?_
    rw [bI_t (p := (i 99 18 = (-1))) c3] at hJ
    exact hJ
theorem e_X12_fine {w : Wd} {d : Nat} {P : Int → IM → LM → Prop} {i : IM} {l : LM}   (h : gI w d X_X12_fine P i l 0 [(0, vR (some 99))] []) : cI w (d + 1) X_X12_fine [vR (some 99)] i l P := CI_of (by decide +kernel) (Nat.le_of_ble_eq_true rfl) h

theorem dX12_codeAt_0 : decode cX12_codeAt 0 = .ok (.iload_n 1, 1) := by decide +kernel
theorem dX12_codeAt_1 : decode cX12_codeAt 1 = .ok (.aload_n 0, 1) := by decide +kernel
theorem dX12_codeAt_2 : decode cX12_codeAt 2 = .ok (.getfield 250, 3) := by decide +kernel
theorem dX12_codeAt_5 : decode cX12_codeAt 5 = .ok (.if_icmp .ge 16, 3) := by decide +kernel
theorem dX12_codeAt_8 : decode cX12_codeAt 8 = .ok (.aload_n 0, 1) := by decide +kernel
theorem dX12_codeAt_9 : decode cX12_codeAt 9 = .ok (.getfield 20, 3) := by decide +kernel
theorem dX12_codeAt_12 : decode cX12_codeAt 12 = .ok (.sipush 320, 3) := by decide +kernel
theorem dX12_codeAt_15 : decode cX12_codeAt 15 = .ok (.iload_n 1, 1) := by decide +kernel
theorem dX12_codeAt_16 : decode cX12_codeAt 16 = .ok (.iadd, 1) := by decide +kernel
theorem dX12_codeAt_17 : decode cX12_codeAt 17 = .ok (.iaload, 1) := by decide +kernel
theorem dX12_codeAt_18 : decode cX12_codeAt 18 = .ok (.goto 4, 3) := by decide +kernel
theorem dX12_codeAt_21 : decode cX12_codeAt 21 = .ok (.iconst 0, 1) := by decide +kernel
theorem dX12_codeAt_22 : decode cX12_codeAt 22 = .ok (.ireturn, 1) := by decide +kernel
set_option maxRecDepth 20000 in
theorem s_X12_codeAt {w : Wd} {d : Nat} {P : Int → IM → LM → Prop} {i : IM} {l : LM} (p0 : Int)  (h : ((rg p0) ∧ (¬ (i 99 20 ≤ p0) → 0 ≤ 320 + p0 ∧ 320 + p0 < 5120) ∧ P (if (i 99 20 ≤ p0) then 0 else i 101 (320 + p0)) i l)) : gI w d X_X12_codeAt P i l 0 [(0, vR (some 99)), (1, vI p0)] [] := by
  refine g_iload_n (pc' := 1) 1 dX12_codeAt_0 rfl rfl ?_
  refine g_aload_n (pc' := 2) 0 dX12_codeAt_1 rfl rfl ?_
  refine g_getI (pc' := 5) (z := 20) rfl fl_X12_250 rfl rfl dX12_codeAt_2 rfl (fun rg1 => ?_)
  refine g_rg (fun hRG2 => ?_)
  obtain ⟨hob3, hob5, h⟩ := h
  have hJ : gI w d X_X12_codeAt P i l 22 [(0, vR (some 99)), (1, vI p0)] [vI (if (i 99 20 ≤ p0) then 0 else i 101 (320 + p0))] := by
    exact g_retI rfl (rg_ite (rg_lit rfl) (hRG2 _ _)) dX12_codeAt_22 h
  refine g_icmp_ge (tgt := 21) (pc' := 8) (hob3) rg1 Iff.rfl dX12_codeAt_5 rfl rfl (fun c4 => ?_) (fun c4 => ?_)
  · refine g_iconst (pc' := 22) dX12_codeAt_21 rfl ?_
    rw [if_pos c4 (α := Int) (t := 0) (e := i 101 (320 + p0))] at hJ
    exact hJ
  · refine g_aload_n (pc' := 9) 0 dX12_codeAt_8 rfl rfl ?_
    refine g_getR (pc' := 12) (o := some 101) fl_X12_20 rfl rfl rfl dX12_codeAt_9 rfl ?_
    refine g_sipush (pc' := 15) dX12_codeAt_12 rfl rfl ?_
    refine g_iload_n (pc' := 16) 1 dX12_codeAt_15 rfl rfl ?_
    refine g_iadd (pc' := 17) dX12_codeAt_16 rfl ?_
    refine g_iald (pc' := 18) (N := 5120) rfl rfl (Nat.lt_of_lt_of_le (Nat.lt_succ_self _) (Nat.le_of_ble_eq_true rfl)) (hob5 c4) dX12_codeAt_17 rfl (fun rg6 => ?_)
    refine g_goto (tgt := 22) dX12_codeAt_18 rfl ?_
    rw [if_neg c4 (α := Int) (t := 0) (e := i 101 (320 + p0))] at hJ
    exact hJ
theorem e_X12_codeAt {w : Wd} {d : Nat} {P : Int → IM → LM → Prop} {i : IM} {l : LM} {p0 : Int}  (h : gI w d X_X12_codeAt P i l 0 [(0, vR (some 99)), (1, vI p0)] []) : cI w (d + 1) X_X12_codeAt [vR (some 99), vI p0] i l P := CI_of (by decide +kernel) (Nat.le_of_ble_eq_true rfl) h

theorem dX9_trait_0 : decode cX9_trait 0 = .ok (.aload_n 0, 1) := by decide +kernel
theorem dX9_trait_1 : decode cX9_trait 1 = .ok (.getfield 9, 3) := by decide +kernel
theorem dX9_trait_4 : decode cX9_trait 4 = .ok (.iload_n 1, 1) := by decide +kernel
theorem dX9_trait_5 : decode cX9_trait 5 = .ok (.bipush 8, 2) := by decide +kernel
theorem dX9_trait_7 : decode cX9_trait 7 = .ok (.imul, 1) := by decide +kernel
theorem dX9_trait_8 : decode cX9_trait 8 = .ok (.iload_n 2, 1) := by decide +kernel
theorem dX9_trait_9 : decode cX9_trait 9 = .ok (.iadd, 1) := by decide +kernel
theorem dX9_trait_10 : decode cX9_trait 10 = .ok (.iaload, 1) := by decide +kernel
theorem dX9_trait_11 : decode cX9_trait 11 = .ok (.ireturn, 1) := by decide +kernel
set_option maxRecDepth 20000 in
theorem s_X9_trait {w : Wd} {d : Nat} {P : Int → IM → LM → Prop} {i : IM} {l : LM} (p0 : Int) (p1 : Int)  (h : ((0 ≤ (p0 * 8) + p1 ∧ (p0 * 8) + p1 < 80) ∧ P (i 8 ((p0 * 8) + p1)) i l)) : gI w d X_X9_trait P i l 0 [(0, vR (some 7)), (1, vI p0), (2, vI p1)] [] := by
  obtain ⟨ob1, h⟩ := h
  refine g_aload_n (pc' := 1) 0 dX9_trait_0 rfl rfl ?_
  refine g_getR (pc' := 4) (o := some 8) fl_X9_9 rfl rfl rfl dX9_trait_1 rfl ?_
  refine g_iload_n (pc' := 5) 1 dX9_trait_4 rfl rfl ?_
  refine g_bipush (pc' := 7) dX9_trait_5 rfl rfl ?_
  refine g_imul (pc' := 8) dX9_trait_7 rfl ?_
  refine g_iload_n (pc' := 9) 2 dX9_trait_8 rfl rfl ?_
  refine g_iadd (pc' := 10) dX9_trait_9 rfl ?_
  refine g_iald (pc' := 11) (N := 80) rfl rfl (Nat.lt_of_lt_of_le (Nat.lt_succ_self _) (Nat.le_of_ble_eq_true rfl)) ob1 dX9_trait_10 rfl (fun rg2 => ?_)
  exact g_retI rfl rg2 dX9_trait_11 h
theorem e_X9_trait {w : Wd} {d : Nat} {P : Int → IM → LM → Prop} {i : IM} {l : LM} {p0 : Int} {p1 : Int}  (h : gI w d X_X9_trait P i l 0 [(0, vR (some 7)), (1, vI p0), (2, vI p1)] []) : cI w (d + 1) X_X9_trait [vR (some 7), vI p0, vI p1] i l P := CI_of (by decide +kernel) (Nat.le_of_ble_eq_true rfl) h

theorem dX9_view_0 : decode cX9_view 0 = .ok (.aload_n 0, 1) := by decide +kernel
theorem dX9_view_1 : decode cX9_view 1 = .ok (.getfield 15, 3) := by decide +kernel
theorem dX9_view_4 : decode cX9_view 4 = .ok (.iload_n 1, 1) := by decide +kernel
theorem dX9_view_5 : decode cX9_view 5 = .ok (.iconst 3, 1) := by decide +kernel
theorem dX9_view_6 : decode cX9_view 6 = .ok (.imul, 1) := by decide +kernel
theorem dX9_view_7 : decode cX9_view 7 = .ok (.iload_n 2, 1) := by decide +kernel
theorem dX9_view_8 : decode cX9_view 8 = .ok (.iadd, 1) := by decide +kernel
theorem dX9_view_9 : decode cX9_view 9 = .ok (.iaload, 1) := by decide +kernel
theorem dX9_view_10 : decode cX9_view 10 = .ok (.ireturn, 1) := by decide +kernel
set_option maxRecDepth 20000 in
theorem s_X9_view {w : Wd} {d : Nat} {P : Int → IM → LM → Prop} {i : IM} {l : LM} (p0 : Int) (p1 : Int)  (h : ((0 ≤ (p0 * 3) + p1 ∧ (p0 * 3) + p1 < 24) ∧ P (i 9 ((p0 * 3) + p1)) i l)) : gI w d X_X9_view P i l 0 [(0, vR (some 7)), (1, vI p0), (2, vI p1)] [] := by
  obtain ⟨ob1, h⟩ := h
  refine g_aload_n (pc' := 1) 0 dX9_view_0 rfl rfl ?_
  refine g_getR (pc' := 4) (o := some 9) fl_X9_15 rfl rfl rfl dX9_view_1 rfl ?_
  refine g_iload_n (pc' := 5) 1 dX9_view_4 rfl rfl ?_
  refine g_iconst (pc' := 6) dX9_view_5 rfl ?_
  refine g_imul (pc' := 7) dX9_view_6 rfl ?_
  refine g_iload_n (pc' := 8) 2 dX9_view_7 rfl rfl ?_
  refine g_iadd (pc' := 9) dX9_view_8 rfl ?_
  refine g_iald (pc' := 10) (N := 24) rfl rfl (Nat.lt_of_lt_of_le (Nat.lt_succ_self _) (Nat.le_of_ble_eq_true rfl)) ob1 dX9_view_9 rfl (fun rg2 => ?_)
  exact g_retI rfl rg2 dX9_view_10 h
theorem e_X9_view {w : Wd} {d : Nat} {P : Int → IM → LM → Prop} {i : IM} {l : LM} {p0 : Int} {p1 : Int}  (h : gI w d X_X9_view P i l 0 [(0, vR (some 7)), (1, vI p0), (2, vI p1)] []) : cI w (d + 1) X_X9_view [vR (some 7), vI p0, vI p1] i l P := CI_of (by decide +kernel) (Nat.le_of_ble_eq_true rfl) h

theorem dX1_hue_0 : decode cX1_hue 0 = .ok (.aload_n 0, 1) := by decide +kernel
theorem dX1_hue_1 : decode cX1_hue 1 = .ok (.getfield 34, 3) := by decide +kernel
theorem dX1_hue_4 : decode cX1_hue 4 = .ok (.iload_n 1, 1) := by decide +kernel
theorem dX1_hue_5 : decode cX1_hue 5 = .ok (.iconst 3, 1) := by decide +kernel
theorem dX1_hue_6 : decode cX1_hue 6 = .ok (.imul, 1) := by decide +kernel
theorem dX1_hue_7 : decode cX1_hue 7 = .ok (.iload_n 2, 1) := by decide +kernel
theorem dX1_hue_8 : decode cX1_hue 8 = .ok (.iadd, 1) := by decide +kernel
theorem dX1_hue_9 : decode cX1_hue 9 = .ok (.iaload, 1) := by decide +kernel
theorem dX1_hue_10 : decode cX1_hue 10 = .ok (.ireturn, 1) := by decide +kernel
set_option maxRecDepth 20000 in
theorem s_X1_hue {w : Wd} {d : Nat} {P : Int → IM → LM → Prop} {i : IM} {l : LM} (p0 : Int) (p1 : Int)  (h : ((0 ≤ (p0 * 3) + p1 ∧ (p0 * 3) + p1 < 30) ∧ P (i 59 ((p0 * 3) + p1)) i l)) : gI w d X_X1_hue P i l 0 [(0, vR (some 51)), (1, vI p0), (2, vI p1)] [] := by
  obtain ⟨ob1, h⟩ := h
  refine g_aload_n (pc' := 1) 0 dX1_hue_0 rfl rfl ?_
  refine g_getR (pc' := 4) (o := some 59) fl_X1_34 rfl rfl rfl dX1_hue_1 rfl ?_
  refine g_iload_n (pc' := 5) 1 dX1_hue_4 rfl rfl ?_
  refine g_iconst (pc' := 6) dX1_hue_5 rfl ?_
  refine g_imul (pc' := 7) dX1_hue_6 rfl ?_
  refine g_iload_n (pc' := 8) 2 dX1_hue_7 rfl rfl ?_
  refine g_iadd (pc' := 9) dX1_hue_8 rfl ?_
  refine g_iald (pc' := 10) (N := 30) rfl rfl (Nat.lt_of_lt_of_le (Nat.lt_succ_self _) (Nat.le_of_ble_eq_true rfl)) ob1 dX1_hue_9 rfl (fun rg2 => ?_)
  exact g_retI rfl rg2 dX1_hue_10 h
theorem e_X1_hue {w : Wd} {d : Nat} {P : Int → IM → LM → Prop} {i : IM} {l : LM} {p0 : Int} {p1 : Int}  (h : gI w d X_X1_hue P i l 0 [(0, vR (some 51)), (1, vI p0), (2, vI p1)] []) : cI w (d + 1) X_X1_hue [vR (some 51), vI p0, vI p1] i l P := CI_of (by decide +kernel) (Nat.le_of_ble_eq_true rfl) h

theorem dX11_nearestTo_0 : decode cX11_nearestTo 0 = .ok (.iconst 0, 1) := by decide +kernel
theorem dX11_nearestTo_1 : decode cX11_nearestTo 1 = .ok (.iload_n 1, 1) := by decide +kernel
theorem dX11_nearestTo_2 : decode cX11_nearestTo 2 = .ok (.iload_n 0, 1) := by decide +kernel
theorem dX11_nearestTo_3 : decode cX11_nearestTo 3 = .ok (.invokestatic 343, 3) := by decide +kernel
theorem dX11_nearestTo_6 : decode cX11_nearestTo 6 = .ok (.invokestatic 348, 3) := by decide +kernel
theorem dX11_nearestTo_9 : decode cX11_nearestTo 9 = .ok (.ireturn, 1) := by decide +kernel
set_option maxRecDepth 20000 in
theorem s_X11_nearestTo {w : Wd} {d : Nat} {P : Int → IM → LM → Prop} {i : IM} {l : LM} (p0 : Int) (p1 : Int)  (hd : 1 ≤ d) (h : ((rg p1) ∧ (rg p0) ∧ P (max 0 (min p1 p0)) i l)) : gI w d X_X11_nearestTo P i l 0 [(0, vI p0), (1, vI p1)] [] := by
  obtain ⟨ob1, ob2, h⟩ := h
  refine g_iconst (pc' := 1) dX11_nearestTo_0 rfl ?_
  refine g_iload_n (pc' := 2) 1 dX11_nearestTo_1 rfl rfl ?_
  refine g_iload_n (pc' := 3) 0 dX11_nearestTo_2 rfl rfl ?_
  refine g_pSI (pc' := 6) (vs := [vI p1, vI p0]) (st := [vI 0]) (val := min p1 p0) (sp_min (le_hd hd rfl) ob1 ob2) mk_J9_min_7cf53 ms_J9_min_7cf53 lk_X11_343 rfl (Nat.le_of_ble_eq_true rfl) (Nat.le_of_ble_eq_true rfl) rfl dX11_nearestTo_3 rfl z2 (fun rg3 => ?_)
  refine g_pSI (pc' := 9) (vs := [vI 0, vI (min p1 p0)]) (st := []) (val := max 0 (min p1 p0)) (sp_max (le_hd hd rfl) (rg_lit rfl) rg3) mk_J9_max_7cf53 ms_J9_max_7cf53 lk_X11_348 rfl (Nat.le_of_ble_eq_true rfl) (Nat.le_of_ble_eq_true rfl) rfl dX11_nearestTo_6 rfl z2 (fun rg4 => ?_)
  exact g_retI rfl rg4 dX11_nearestTo_9 h
theorem e_X11_nearestTo {w : Wd} {d : Nat} {P : Int → IM → LM → Prop} {i : IM} {l : LM} {p0 : Int} {p1 : Int}  (h : gI w d X_X11_nearestTo P i l 0 [(0, vI p0), (1, vI p1)] []) : cI w (d + 1) X_X11_nearestTo [vI p0, vI p1] i l P := CI_of (by decide +kernel) (Nat.le_of_ble_eq_true rfl) h

theorem dJ6_bitCount_0f7a4_0 : decode cJ6_bitCount_0f7a4 0 = .ok (.iload_n 0, 1) := by decide +kernel
theorem dJ6_bitCount_0f7a4_1 : decode cJ6_bitCount_0f7a4 1 = .ok (.iload_n 0, 1) := by decide +kernel
theorem dJ6_bitCount_0f7a4_2 : decode cJ6_bitCount_0f7a4 2 = .ok (.iconst 1, 1) := by decide +kernel
theorem dJ6_bitCount_0f7a4_3 : decode cJ6_bitCount_0f7a4 3 = .ok (.iushr, 1) := by decide +kernel
theorem dJ6_bitCount_0f7a4_4 : decode cJ6_bitCount_0f7a4 4 = .ok (.ldc_w 265, 3) := by decide +kernel
theorem dJ6_bitCount_0f7a4_7 : decode cJ6_bitCount_0f7a4 7 = .ok (.iand, 1) := by decide +kernel
theorem dJ6_bitCount_0f7a4_8 : decode cJ6_bitCount_0f7a4 8 = .ok (.isub, 1) := by decide +kernel
theorem dJ6_bitCount_0f7a4_9 : decode cJ6_bitCount_0f7a4 9 = .ok (.istore_n 0, 1) := by decide +kernel
theorem dJ6_bitCount_0f7a4_10 : decode cJ6_bitCount_0f7a4 10 = .ok (.iload_n 0, 1) := by decide +kernel
theorem dJ6_bitCount_0f7a4_11 : decode cJ6_bitCount_0f7a4 11 = .ok (.ldc_w 266, 3) := by decide +kernel
theorem dJ6_bitCount_0f7a4_14 : decode cJ6_bitCount_0f7a4 14 = .ok (.iand, 1) := by decide +kernel
theorem dJ6_bitCount_0f7a4_15 : decode cJ6_bitCount_0f7a4 15 = .ok (.iload_n 0, 1) := by decide +kernel
theorem dJ6_bitCount_0f7a4_16 : decode cJ6_bitCount_0f7a4 16 = .ok (.iconst 2, 1) := by decide +kernel
theorem dJ6_bitCount_0f7a4_17 : decode cJ6_bitCount_0f7a4 17 = .ok (.iushr, 1) := by decide +kernel
theorem dJ6_bitCount_0f7a4_18 : decode cJ6_bitCount_0f7a4 18 = .ok (.ldc_w 266, 3) := by decide +kernel
theorem dJ6_bitCount_0f7a4_21 : decode cJ6_bitCount_0f7a4 21 = .ok (.iand, 1) := by decide +kernel
theorem dJ6_bitCount_0f7a4_22 : decode cJ6_bitCount_0f7a4 22 = .ok (.iadd, 1) := by decide +kernel
theorem dJ6_bitCount_0f7a4_23 : decode cJ6_bitCount_0f7a4 23 = .ok (.istore_n 0, 1) := by decide +kernel
theorem dJ6_bitCount_0f7a4_24 : decode cJ6_bitCount_0f7a4 24 = .ok (.iload_n 0, 1) := by decide +kernel
theorem dJ6_bitCount_0f7a4_25 : decode cJ6_bitCount_0f7a4 25 = .ok (.iload_n 0, 1) := by decide +kernel
theorem dJ6_bitCount_0f7a4_26 : decode cJ6_bitCount_0f7a4 26 = .ok (.iconst 4, 1) := by decide +kernel
theorem dJ6_bitCount_0f7a4_27 : decode cJ6_bitCount_0f7a4 27 = .ok (.iushr, 1) := by decide +kernel
theorem dJ6_bitCount_0f7a4_28 : decode cJ6_bitCount_0f7a4 28 = .ok (.iadd, 1) := by decide +kernel
theorem dJ6_bitCount_0f7a4_29 : decode cJ6_bitCount_0f7a4 29 = .ok (.ldc_w 267, 3) := by decide +kernel
theorem dJ6_bitCount_0f7a4_32 : decode cJ6_bitCount_0f7a4 32 = .ok (.iand, 1) := by decide +kernel
theorem dJ6_bitCount_0f7a4_33 : decode cJ6_bitCount_0f7a4 33 = .ok (.istore_n 0, 1) := by decide +kernel
theorem dJ6_bitCount_0f7a4_34 : decode cJ6_bitCount_0f7a4 34 = .ok (.iload_n 0, 1) := by decide +kernel
theorem dJ6_bitCount_0f7a4_35 : decode cJ6_bitCount_0f7a4 35 = .ok (.iload_n 0, 1) := by decide +kernel
theorem dJ6_bitCount_0f7a4_36 : decode cJ6_bitCount_0f7a4 36 = .ok (.bipush 8, 2) := by decide +kernel
theorem dJ6_bitCount_0f7a4_38 : decode cJ6_bitCount_0f7a4 38 = .ok (.iushr, 1) := by decide +kernel
theorem dJ6_bitCount_0f7a4_39 : decode cJ6_bitCount_0f7a4 39 = .ok (.iadd, 1) := by decide +kernel
theorem dJ6_bitCount_0f7a4_40 : decode cJ6_bitCount_0f7a4 40 = .ok (.istore_n 0, 1) := by decide +kernel
theorem dJ6_bitCount_0f7a4_41 : decode cJ6_bitCount_0f7a4 41 = .ok (.iload_n 0, 1) := by decide +kernel
theorem dJ6_bitCount_0f7a4_42 : decode cJ6_bitCount_0f7a4 42 = .ok (.iload_n 0, 1) := by decide +kernel
theorem dJ6_bitCount_0f7a4_43 : decode cJ6_bitCount_0f7a4 43 = .ok (.bipush 16, 2) := by decide +kernel
theorem dJ6_bitCount_0f7a4_45 : decode cJ6_bitCount_0f7a4 45 = .ok (.iushr, 1) := by decide +kernel
theorem dJ6_bitCount_0f7a4_46 : decode cJ6_bitCount_0f7a4 46 = .ok (.iadd, 1) := by decide +kernel
theorem dJ6_bitCount_0f7a4_47 : decode cJ6_bitCount_0f7a4 47 = .ok (.istore_n 0, 1) := by decide +kernel
theorem dJ6_bitCount_0f7a4_48 : decode cJ6_bitCount_0f7a4 48 = .ok (.iload_n 0, 1) := by decide +kernel
theorem dJ6_bitCount_0f7a4_49 : decode cJ6_bitCount_0f7a4 49 = .ok (.bipush 63, 2) := by decide +kernel
theorem dJ6_bitCount_0f7a4_51 : decode cJ6_bitCount_0f7a4 51 = .ok (.iand, 1) := by decide +kernel
theorem dJ6_bitCount_0f7a4_52 : decode cJ6_bitCount_0f7a4 52 = .ok (.ireturn, 1) := by decide +kernel
set_option maxRecDepth 20000 in
theorem s_J6_bitCount_0f7a4 {w : Wd} {d : Nat} {P : Int → IM → LM → Prop} {i : IM} {l : LM} (p0 : Int)  (h : P (iand (((iand (((iand (p0 - (iand (iushr p0 1) 1431655765)) 858993459) + (iand (iushr (p0 - (iand (iushr p0 1) 1431655765)) 2) 858993459)) + (iushr ((iand (p0 - (iand (iushr p0 1) 1431655765)) 858993459) + (iand (iushr (p0 - (iand (iushr p0 1) 1431655765)) 2) 858993459)) 4)) 252645135) + (iushr (iand (((iand (p0 - (iand (iushr p0 1) 1431655765)) 858993459) + (iand (iushr (p0 - (iand (iushr p0 1) 1431655765)) 2) 858993459)) + (iushr ((iand (p0 - (iand (iushr p0 1) 1431655765)) 858993459) + (iand (iushr (p0 - (iand (iushr p0 1) 1431655765)) 2) 858993459)) 4)) 252645135) 8)) + (iushr ((iand (((iand (p0 - (iand (iushr p0 1) 1431655765)) 858993459) + (iand (iushr (p0 - (iand (iushr p0 1) 1431655765)) 2) 858993459)) + (iushr ((iand (p0 - (iand (iushr p0 1) 1431655765)) 858993459) + (iand (iushr (p0 - (iand (iushr p0 1) 1431655765)) 2) 858993459)) 4)) 252645135) + (iushr (iand (((iand (p0 - (iand (iushr p0 1) 1431655765)) 858993459) + (iand (iushr (p0 - (iand (iushr p0 1) 1431655765)) 2) 858993459)) + (iushr ((iand (p0 - (iand (iushr p0 1) 1431655765)) 858993459) + (iand (iushr (p0 - (iand (iushr p0 1) 1431655765)) 2) 858993459)) 4)) 252645135) 8)) 16)) 63) i l) : gI w d X_J6_bitCount_0f7a4 P i l 0 [(0, vI p0)] [] := by
  refine g_iload_n (pc' := 1) 0 dJ6_bitCount_0f7a4_0 rfl rfl ?_
  refine g_iload_n (pc' := 2) 0 dJ6_bitCount_0f7a4_1 rfl rfl ?_
  refine g_iconst (pc' := 3) dJ6_bitCount_0f7a4_2 rfl ?_
  refine g_iushr (pc' := 4) dJ6_bitCount_0f7a4_3 rfl ?_
  refine g_ldcw (pc' := 7) dJ6_bitCount_0f7a4_4 rfl kc_java_lang_Integer_265 ?_
  refine g_iand (pc' := 8) dJ6_bitCount_0f7a4_7 rfl ?_
  refine g_isub (pc' := 9) dJ6_bitCount_0f7a4_8 rfl ?_
  refine g_istore_n (pc' := 10) (L' := [(0, vI (p0 - (iand (iushr p0 1) 1431655765)))]) dJ6_bitCount_0f7a4_9 rfl (Nat.le_of_ble_eq_true rfl) rfl ?_
  refine g_iload_n (pc' := 11) 0 dJ6_bitCount_0f7a4_10 rfl rfl ?_
  refine g_ldcw (pc' := 14) dJ6_bitCount_0f7a4_11 rfl kc_java_lang_Integer_266 ?_
  refine g_iand (pc' := 15) dJ6_bitCount_0f7a4_14 rfl ?_
  refine g_iload_n (pc' := 16) 0 dJ6_bitCount_0f7a4_15 rfl rfl ?_
  refine g_iconst (pc' := 17) dJ6_bitCount_0f7a4_16 rfl ?_
  refine g_iushr (pc' := 18) dJ6_bitCount_0f7a4_17 rfl ?_
  refine g_ldcw (pc' := 21) dJ6_bitCount_0f7a4_18 rfl kc_java_lang_Integer_266 ?_
  refine g_iand (pc' := 22) dJ6_bitCount_0f7a4_21 rfl ?_
  refine g_iadd (pc' := 23) dJ6_bitCount_0f7a4_22 rfl ?_
  refine g_istore_n (pc' := 24) (L' := [(0, vI ((iand (p0 - (iand (iushr p0 1) 1431655765)) 858993459) + (iand (iushr (p0 - (iand (iushr p0 1) 1431655765)) 2) 858993459)))]) dJ6_bitCount_0f7a4_23 rfl (Nat.le_of_ble_eq_true rfl) rfl ?_
  refine g_iload_n (pc' := 25) 0 dJ6_bitCount_0f7a4_24 rfl rfl ?_
  refine g_iload_n (pc' := 26) 0 dJ6_bitCount_0f7a4_25 rfl rfl ?_
  refine g_iconst (pc' := 27) dJ6_bitCount_0f7a4_26 rfl ?_
  refine g_iushr (pc' := 28) dJ6_bitCount_0f7a4_27 rfl ?_
  refine g_iadd (pc' := 29) dJ6_bitCount_0f7a4_28 rfl ?_
  refine g_ldcw (pc' := 32) dJ6_bitCount_0f7a4_29 rfl kc_java_lang_Integer_267 ?_
  refine g_iand (pc' := 33) dJ6_bitCount_0f7a4_32 rfl ?_
  refine g_istore_n (pc' := 34) (L' := [(0, vI (iand (((iand (p0 - (iand (iushr p0 1) 1431655765)) 858993459) + (iand (iushr (p0 - (iand (iushr p0 1) 1431655765)) 2) 858993459)) + (iushr ((iand (p0 - (iand (iushr p0 1) 1431655765)) 858993459) + (iand (iushr (p0 - (iand (iushr p0 1) 1431655765)) 2) 858993459)) 4)) 252645135))]) dJ6_bitCount_0f7a4_33 rfl (Nat.le_of_ble_eq_true rfl) rfl ?_
  refine g_iload_n (pc' := 35) 0 dJ6_bitCount_0f7a4_34 rfl rfl ?_
  refine g_iload_n (pc' := 36) 0 dJ6_bitCount_0f7a4_35 rfl rfl ?_
  refine g_bipush (pc' := 38) dJ6_bitCount_0f7a4_36 rfl rfl ?_
  refine g_iushr (pc' := 39) dJ6_bitCount_0f7a4_38 rfl ?_
  refine g_iadd (pc' := 40) dJ6_bitCount_0f7a4_39 rfl ?_
  refine g_istore_n (pc' := 41) (L' := [(0, vI ((iand (((iand (p0 - (iand (iushr p0 1) 1431655765)) 858993459) + (iand (iushr (p0 - (iand (iushr p0 1) 1431655765)) 2) 858993459)) + (iushr ((iand (p0 - (iand (iushr p0 1) 1431655765)) 858993459) + (iand (iushr (p0 - (iand (iushr p0 1) 1431655765)) 2) 858993459)) 4)) 252645135) + (iushr (iand (((iand (p0 - (iand (iushr p0 1) 1431655765)) 858993459) + (iand (iushr (p0 - (iand (iushr p0 1) 1431655765)) 2) 858993459)) + (iushr ((iand (p0 - (iand (iushr p0 1) 1431655765)) 858993459) + (iand (iushr (p0 - (iand (iushr p0 1) 1431655765)) 2) 858993459)) 4)) 252645135) 8)))]) dJ6_bitCount_0f7a4_40 rfl (Nat.le_of_ble_eq_true rfl) rfl ?_
  refine g_iload_n (pc' := 42) 0 dJ6_bitCount_0f7a4_41 rfl rfl ?_
  refine g_iload_n (pc' := 43) 0 dJ6_bitCount_0f7a4_42 rfl rfl ?_
  refine g_bipush (pc' := 45) dJ6_bitCount_0f7a4_43 rfl rfl ?_
  refine g_iushr (pc' := 46) dJ6_bitCount_0f7a4_45 rfl ?_
  refine g_iadd (pc' := 47) dJ6_bitCount_0f7a4_46 rfl ?_
  refine g_istore_n (pc' := 48) (L' := [(0, vI (((iand (((iand (p0 - (iand (iushr p0 1) 1431655765)) 858993459) + (iand (iushr (p0 - (iand (iushr p0 1) 1431655765)) 2) 858993459)) + (iushr ((iand (p0 - (iand (iushr p0 1) 1431655765)) 858993459) + (iand (iushr (p0 - (iand (iushr p0 1) 1431655765)) 2) 858993459)) 4)) 252645135) + (iushr (iand (((iand (p0 - (iand (iushr p0 1) 1431655765)) 858993459) + (iand (iushr (p0 - (iand (iushr p0 1) 1431655765)) 2) 858993459)) + (iushr ((iand (p0 - (iand (iushr p0 1) 1431655765)) 858993459) + (iand (iushr (p0 - (iand (iushr p0 1) 1431655765)) 2) 858993459)) 4)) 252645135) 8)) + (iushr ((iand (((iand (p0 - (iand (iushr p0 1) 1431655765)) 858993459) + (iand (iushr (p0 - (iand (iushr p0 1) 1431655765)) 2) 858993459)) + (iushr ((iand (p0 - (iand (iushr p0 1) 1431655765)) 858993459) + (iand (iushr (p0 - (iand (iushr p0 1) 1431655765)) 2) 858993459)) 4)) 252645135) + (iushr (iand (((iand (p0 - (iand (iushr p0 1) 1431655765)) 858993459) + (iand (iushr (p0 - (iand (iushr p0 1) 1431655765)) 2) 858993459)) + (iushr ((iand (p0 - (iand (iushr p0 1) 1431655765)) 858993459) + (iand (iushr (p0 - (iand (iushr p0 1) 1431655765)) 2) 858993459)) 4)) 252645135) 8)) 16)))]) dJ6_bitCount_0f7a4_47 rfl (Nat.le_of_ble_eq_true rfl) rfl ?_
  refine g_iload_n (pc' := 49) 0 dJ6_bitCount_0f7a4_48 rfl rfl ?_
  refine g_bipush (pc' := 51) dJ6_bitCount_0f7a4_49 rfl rfl ?_
  refine g_iand (pc' := 52) dJ6_bitCount_0f7a4_51 rfl ?_
  exact g_retI rfl (rg_iand _ _) dJ6_bitCount_0f7a4_52 h
theorem e_J6_bitCount_0f7a4 {w : Wd} {d : Nat} {P : Int → IM → LM → Prop} {i : IM} {l : LM} {p0 : Int}  (h : gI w d X_J6_bitCount_0f7a4 P i l 0 [(0, vI p0)] []) : cI w (d + 1) X_J6_bitCount_0f7a4 [vI p0] i l P := CI_of (by decide +kernel) (Nat.le_of_ble_eq_true rfl) h

theorem dX5_leastOf_0 : decode cX5_leastOf 0 = .ok (.iload_n 0, 1) := by decide +kernel
theorem dX5_leastOf_1 : decode cX5_leastOf 1 = .ok (.sipush 255, 3) := by decide +kernel
theorem dX5_leastOf_4 : decode cX5_leastOf 4 = .ok (.iand, 1) := by decide +kernel
theorem dX5_leastOf_5 : decode cX5_leastOf 5 = .ok (.iload_n 1, 1) := by decide +kernel
theorem dX5_leastOf_6 : decode cX5_leastOf 6 = .ok (.sipush 255, 3) := by decide +kernel
theorem dX5_leastOf_9 : decode cX5_leastOf 9 = .ok (.iand, 1) := by decide +kernel
theorem dX5_leastOf_10 : decode cX5_leastOf 10 = .ok (.invokestatic 118, 3) := by decide +kernel
theorem dX5_leastOf_13 : decode cX5_leastOf 13 = .ok (.iload_n 0, 1) := by decide +kernel
theorem dX5_leastOf_14 : decode cX5_leastOf 14 = .ok (.ldc 123, 2) := by decide +kernel
theorem dX5_leastOf_16 : decode cX5_leastOf 16 = .ok (.iand, 1) := by decide +kernel
theorem dX5_leastOf_17 : decode cX5_leastOf 17 = .ok (.iload_n 1, 1) := by decide +kernel
theorem dX5_leastOf_18 : decode cX5_leastOf 18 = .ok (.ldc 123, 2) := by decide +kernel
theorem dX5_leastOf_20 : decode cX5_leastOf 20 = .ok (.iand, 1) := by decide +kernel
theorem dX5_leastOf_21 : decode cX5_leastOf 21 = .ok (.invokestatic 118, 3) := by decide +kernel
theorem dX5_leastOf_24 : decode cX5_leastOf 24 = .ok (.ior, 1) := by decide +kernel
theorem dX5_leastOf_25 : decode cX5_leastOf 25 = .ok (.iload_n 0, 1) := by decide +kernel
theorem dX5_leastOf_26 : decode cX5_leastOf 26 = .ok (.ldc 124, 2) := by decide +kernel
theorem dX5_leastOf_28 : decode cX5_leastOf 28 = .ok (.iand, 1) := by decide +kernel
theorem dX5_leastOf_29 : decode cX5_leastOf 29 = .ok (.iload_n 1, 1) := by decide +kernel
theorem dX5_leastOf_30 : decode cX5_leastOf 30 = .ok (.ldc 124, 2) := by decide +kernel
theorem dX5_leastOf_32 : decode cX5_leastOf 32 = .ok (.iand, 1) := by decide +kernel
theorem dX5_leastOf_33 : decode cX5_leastOf 33 = .ok (.invokestatic 118, 3) := by decide +kernel
theorem dX5_leastOf_36 : decode cX5_leastOf 36 = .ok (.ior, 1) := by decide +kernel
theorem dX5_leastOf_37 : decode cX5_leastOf 37 = .ok (.ireturn, 1) := by decide +kernel
set_option maxRecDepth 20000 in
theorem s_X5_leastOf {w : Wd} {d : Nat} {P : Int → IM → LM → Prop} {i : IM} {l : LM} (p0 : Int) (p1 : Int)  (hd : 1 ≤ d) (h : P (ior (ior (min (iand p0 255) (iand p1 255)) (min (iand p0 65280) (iand p1 65280))) (min (iand p0 16711680) (iand p1 16711680))) i l) : gI w d X_X5_leastOf P i l 0 [(0, vI p0), (1, vI p1)] [] := by
  refine g_iload_n (pc' := 1) 0 dX5_leastOf_0 rfl rfl ?_
  refine g_sipush (pc' := 4) dX5_leastOf_1 rfl rfl ?_
  refine g_iand (pc' := 5) dX5_leastOf_4 rfl ?_
  refine g_iload_n (pc' := 6) 1 dX5_leastOf_5 rfl rfl ?_
  refine g_sipush (pc' := 9) dX5_leastOf_6 rfl rfl ?_
  refine g_iand (pc' := 10) dX5_leastOf_9 rfl ?_
  refine g_pSI (pc' := 13) (vs := [vI (iand p0 255), vI (iand p1 255)]) (st := []) (val := min (iand p0 255) (iand p1 255)) (sp_min (le_hd hd rfl) (rg_iand _ _) (rg_iand _ _)) mk_J9_min_7cf53 ms_J9_min_7cf53 lk_X5_118 rfl (Nat.le_of_ble_eq_true rfl) (Nat.le_of_ble_eq_true rfl) rfl dX5_leastOf_10 rfl z2 (fun rg1 => ?_)
  refine g_iload_n (pc' := 14) 0 dX5_leastOf_13 rfl rfl ?_
  refine g_ldc (pc' := 16) dX5_leastOf_14 rfl kc_X5_123 ?_
  refine g_iand (pc' := 17) dX5_leastOf_16 rfl ?_
  refine g_iload_n (pc' := 18) 1 dX5_leastOf_17 rfl rfl ?_
  refine g_ldc (pc' := 20) dX5_leastOf_18 rfl kc_X5_123 ?_
  refine g_iand (pc' := 21) dX5_leastOf_20 rfl ?_
  refine g_pSI (pc' := 24) (vs := [vI (iand p0 65280), vI (iand p1 65280)]) (st := [vI (min (iand p0 255) (iand p1 255))]) (val := min (iand p0 65280) (iand p1 65280)) (sp_min (le_hd hd rfl) (rg_iand _ _) (rg_iand _ _)) mk_J9_min_7cf53 ms_J9_min_7cf53 lk_X5_118 rfl (Nat.le_of_ble_eq_true rfl) (Nat.le_of_ble_eq_true rfl) rfl dX5_leastOf_21 rfl z2 (fun rg2 => ?_)
  refine g_ior (pc' := 25) dX5_leastOf_24 rfl ?_
  refine g_iload_n (pc' := 26) 0 dX5_leastOf_25 rfl rfl ?_
  refine g_ldc (pc' := 28) dX5_leastOf_26 rfl kc_X5_124 ?_
  refine g_iand (pc' := 29) dX5_leastOf_28 rfl ?_
  refine g_iload_n (pc' := 30) 1 dX5_leastOf_29 rfl rfl ?_
  refine g_ldc (pc' := 32) dX5_leastOf_30 rfl kc_X5_124 ?_
  refine g_iand (pc' := 33) dX5_leastOf_32 rfl ?_
  refine g_pSI (pc' := 36) (vs := [vI (iand p0 16711680), vI (iand p1 16711680)]) (st := [vI (ior (min (iand p0 255) (iand p1 255)) (min (iand p0 65280) (iand p1 65280)))]) (val := min (iand p0 16711680) (iand p1 16711680)) (sp_min (le_hd hd rfl) (rg_iand _ _) (rg_iand _ _)) mk_J9_min_7cf53 ms_J9_min_7cf53 lk_X5_118 rfl (Nat.le_of_ble_eq_true rfl) (Nat.le_of_ble_eq_true rfl) rfl dX5_leastOf_33 rfl z2 (fun rg3 => ?_)
  refine g_ior (pc' := 37) dX5_leastOf_36 rfl ?_
  exact g_retI rfl (rg_ior _ _) dX5_leastOf_37 h
theorem e_X5_leastOf {w : Wd} {d : Nat} {P : Int → IM → LM → Prop} {i : IM} {l : LM} {p0 : Int} {p1 : Int}  (h : gI w d X_X5_leastOf P i l 0 [(0, vI p0), (1, vI p1)] []) : cI w (d + 1) X_X5_leastOf [vI p0, vI p1] i l P := CI_of (by decide +kernel) (Nat.le_of_ble_eq_true rfl) h
