theorem dX0_limitOf_0 : decode cX0_limitOf 0 = .ok (.aload_n 0, 1) := by decide +kernel
theorem dX0_limitOf_1 : decode cX0_limitOf 1 = .ok (.iload_n 1, 1) := by decide +kernel
theorem dX0_limitOf_2 : decode cX0_limitOf 2 = .ok (.iload_n 2, 1) := by decide +kernel
theorem dX0_limitOf_3 : decode cX0_limitOf 3 = .ok (.iload_n 3, 1) := by decide +kernel
theorem dX0_limitOf_4 : decode cX0_limitOf 4 = .ok (.invokevirtual 23, 3) := by decide +kernel
theorem dX0_limitOf_7 : decode cX0_limitOf 7 = .ok (.aload_n 0, 1) := by decide +kernel
theorem dX0_limitOf_8 : decode cX0_limitOf 8 = .ok (.iconst 0, 1) := by decide +kernel
theorem dX0_limitOf_9 : decode cX0_limitOf 9 = .ok (.invokevirtual 27, 3) := by decide +kernel
theorem dX0_limitOf_12 : decode cX0_limitOf 12 = .ok (.ifCond .eq 15, 3) := by decide +kernel
theorem dX0_limitOf_15 : decode cX0_limitOf 15 = .ok (.aload_n 0, 1) := by decide +kernel
theorem dX0_limitOf_16 : decode cX0_limitOf 16 = .ok (.getfield 31, 3) := by decide +kernel
theorem dX0_limitOf_19 : decode cX0_limitOf 19 = .ok (.bipush 8, 2) := by decide +kernel
theorem dX0_limitOf_21 : decode cX0_limitOf 21 = .ok (.invokestatic 35, 3) := by decide +kernel
theorem dX0_limitOf_24 : decode cX0_limitOf 24 = .ok (.goto 4, 3) := by decide +kernel
theorem dX0_limitOf_27 : decode cX0_limitOf 27 = .ok (.iconst 3, 1) := by decide +kernel
theorem dX0_limitOf_28 : decode cX0_limitOf 28 = .ok (.ireturn, 1) := by decide +kernel
set_option maxRecDepth 20000 in
theorem s_X0_limitOf {w : Wd} {d : Nat} {P : Int → IM → LM → Prop} {i : IM} {l : LM} (p0 : Int) (p1 : Int) (p2 : Int)  (hd : 2 ≤ d) (h : cVd w d X_X0_ask [vR (some 41), vI p0, vI p1, vI p2] i l (fun i1 l1 => cI w d X_X0_tells [vR (some 41), vI 0] i1 l1 (fun r2 i2 l2 => ((rg (if (r2 = 0) then 3 else max 0 (min 8 (i2 41 3)))) ∧ P (if (r2 = 0) then 3 else max 0 (min 8 (i2 41 3))) i2 l2)))) : gI w d X_X0_limitOf P i l 0 [(0, vR (some 41)), (1, vI p0), (2, vI p1), (3, vI p2)] [] := by
  refine g_aload_n (pc' := 1) 0 dX0_limitOf_0 rfl rfl ?_
  refine g_iload_n (pc' := 2) 1 dX0_limitOf_1 rfl rfl ?_
  refine g_iload_n (pc' := 3) 2 dX0_limitOf_2 rfl rfl ?_
  refine g_iload_n (pc' := 4) 3 dX0_limitOf_3 rfl rfl ?_
  refine g_cVV (pc' := 7) (vs := [vI p0, vI p1, vI p2]) (st := []) (c := 0) h mv_X0_ask lk_X0_23 rfl rfl rfl rfl (Nat.le_of_ble_eq_true rfl) (Nat.le_of_ble_eq_true rfl) rfl dX0_limitOf_4 rfl z2 (fun i1 l1 h => ?_)
  refine g_aload_n (pc' := 8) 0 dX0_limitOf_7 rfl rfl ?_
  refine g_iconst (pc' := 9) dX0_limitOf_8 rfl ?_
  refine g_cVI (pc' := 12) (vs := [vI 0]) (st := []) (c := 0) h mv_X0_tells lk_X0_27 rfl rfl rfl rfl (Nat.le_of_ble_eq_true rfl) (Nat.le_of_ble_eq_true rfl) rfl dX0_limitOf_9 rfl z2 (fun r2 i2 l2 rg2 h => ?_)
  have hJ : gI w d X_X0_limitOf P i2 l2 28 [(0, vR (some 41)), (1, vI p0), (2, vI p1), (3, vI p2)] [vI (if (r2 = 0) then 3 else max 0 (min 8 (i2 41 3)))] := by
    obtain ⟨ob7, h⟩ := h
    exact g_retI rfl ob7 dX0_limitOf_28 h
  refine g_if_eq (tgt := 27) (pc' := 15) rg2 Iff.rfl dX0_limitOf_12 rfl rfl (fun c4 => ?_) (fun c4 => ?_)
  · refine g_iconst (pc' := 28) dX0_limitOf_27 rfl ?_
    rw [if_pos c4 (α := Int) (t := 3) (e := max 0 (min 8 (i2 41 3)))] at hJ
    exact hJ
  · refine g_aload_n (pc' := 16) 0 dX0_limitOf_15 rfl rfl ?_
    refine g_getI (pc' := 19) (z := 3) rfl fl_X0_31 rfl rfl dX0_limitOf_16 rfl (fun rg5 => ?_)
    refine g_bipush (pc' := 21) dX0_limitOf_19 rfl rfl ?_
    refine g_pNI (pc' := 24) (vs := [vI (i2 41 3), vI 8]) (st := []) (val := max 0 (min 8 (i2 41 3))) (sp_X11_nearestTo (le_hd hd rfl) rg5 (rg_lit rfl)) mk_X11_nearestTo ms_X11_nearestTo (fun _ h => h.2.2.2.2.1) rfl (Nat.le_of_ble_eq_true rfl) (Nat.le_of_ble_eq_true rfl) rfl dX0_limitOf_21 rfl z2 (fun rg6 => ?_)
    refine g_goto (tgt := 28) dX0_limitOf_24 rfl ?_
    rw [if_neg c4 (α := Int) (t := 3) (e := max 0 (min 8 (i2 41 3)))] at hJ
    exact hJ
theorem e_X0_limitOf {w : Wd} {d : Nat} {P : Int → IM → LM → Prop} {i : IM} {l : LM} {p0 : Int} {p1 : Int} {p2 : Int}  (h : gI w d X_X0_limitOf P i l 0 [(0, vR (some 41)), (1, vI p0), (2, vI p1), (3, vI p2)] []) : cI w (d + 1) X_X0_limitOf [vR (some 41), vI p0, vI p1, vI p2] i l P := CI_of (by decide +kernel) (Nat.le_of_ble_eq_true rfl) h

theorem dX0_priceOf_0 : decode cX0_priceOf 0 = .ok (.aload_n 0, 1) := by decide +kernel
theorem dX0_priceOf_1 : decode cX0_priceOf 1 = .ok (.getfield 19, 3) := by decide +kernel
theorem dX0_priceOf_4 : decode cX0_priceOf 4 = .ok (.iload_n 1, 1) := by decide +kernel
theorem dX0_priceOf_5 : decode cX0_priceOf 5 = .ok (.iconst 1, 1) := by decide +kernel
theorem dX0_priceOf_6 : decode cX0_priceOf 6 = .ok (.invokevirtual 39, 3) := by decide +kernel
theorem dX0_priceOf_9 : decode cX0_priceOf 9 = .ok (.iload_n 2, 1) := by decide +kernel
theorem dX0_priceOf_10 : decode cX0_priceOf 10 = .ok (.if_icmp .ne 5, 3) := by decide +kernel
theorem dX0_priceOf_13 : decode cX0_priceOf 13 = .ok (.iconst 0, 1) := by decide +kernel
theorem dX0_priceOf_14 : decode cX0_priceOf 14 = .ok (.ireturn, 1) := by decide +kernel
theorem dX0_priceOf_15 : decode cX0_priceOf 15 = .ok (.aload_n 0, 1) := by decide +kernel
theorem dX0_priceOf_16 : decode cX0_priceOf 16 = .ok (.iconst 0, 1) := by decide +kernel
theorem dX0_priceOf_17 : decode cX0_priceOf 17 = .ok (.iconst 0, 1) := by decide +kernel
theorem dX0_priceOf_18 : decode cX0_priceOf 18 = .ok (.iconst 0, 1) := by decide +kernel
theorem dX0_priceOf_19 : decode cX0_priceOf 19 = .ok (.invokevirtual 23, 3) := by decide +kernel
theorem dX0_priceOf_22 : decode cX0_priceOf 22 = .ok (.aload_n 0, 1) := by decide +kernel
theorem dX0_priceOf_23 : decode cX0_priceOf 23 = .ok (.getfield 9, 3) := by decide +kernel
theorem dX0_priceOf_26 : decode cX0_priceOf 26 = .ok (.iconst 1, 1) := by decide +kernel
theorem dX0_priceOf_27 : decode cX0_priceOf 27 = .ok (.iload_n 1, 1) := by decide +kernel
theorem dX0_priceOf_28 : decode cX0_priceOf 28 = .ok (.iastore, 1) := by decide +kernel
theorem dX0_priceOf_29 : decode cX0_priceOf 29 = .ok (.aload_n 0, 1) := by decide +kernel
theorem dX0_priceOf_30 : decode cX0_priceOf 30 = .ok (.getfield 9, 3) := by decide +kernel
theorem dX0_priceOf_33 : decode cX0_priceOf 33 = .ok (.iconst 4, 1) := by decide +kernel
theorem dX0_priceOf_34 : decode cX0_priceOf 34 = .ok (.aload_n 0, 1) := by decide +kernel
theorem dX0_priceOf_35 : decode cX0_priceOf 35 = .ok (.getfield 19, 3) := by decide +kernel
theorem dX0_priceOf_38 : decode cX0_priceOf 38 = .ok (.iload_n 1, 1) := by decide +kernel
theorem dX0_priceOf_39 : decode cX0_priceOf 39 = .ok (.iconst 0, 1) := by decide +kernel
theorem dX0_priceOf_40 : decode cX0_priceOf 40 = .ok (.invokevirtual 39, 3) := by decide +kernel
theorem dX0_priceOf_43 : decode cX0_priceOf 43 = .ok (.iastore, 1) := by decide +kernel
theorem dX0_priceOf_44 : decode cX0_priceOf 44 = .ok (.aload_n 0, 1) := by decide +kernel
theorem dX0_priceOf_45 : decode cX0_priceOf 45 = .ok (.getfield 9, 3) := by decide +kernel
theorem dX0_priceOf_48 : decode cX0_priceOf 48 = .ok (.iconst 3, 1) := by decide +kernel
theorem dX0_priceOf_49 : decode cX0_priceOf 49 = .ok (.iload_n 2, 1) := by decide +kernel
theorem dX0_priceOf_50 : decode cX0_priceOf 50 = .ok (.iastore, 1) := by decide +kernel
theorem dX0_priceOf_51 : decode cX0_priceOf 51 = .ok (.aload_n 0, 1) := by decide +kernel
theorem dX0_priceOf_52 : decode cX0_priceOf 52 = .ok (.iconst 1, 1) := by decide +kernel
theorem dX0_priceOf_53 : decode cX0_priceOf 53 = .ok (.invokevirtual 27, 3) := by decide +kernel
theorem dX0_priceOf_56 : decode cX0_priceOf 56 = .ok (.ifCond .eq 15, 3) := by decide +kernel
theorem dX0_priceOf_59 : decode cX0_priceOf 59 = .ok (.aload_n 0, 1) := by decide +kernel
theorem dX0_priceOf_60 : decode cX0_priceOf 60 = .ok (.getfield 31, 3) := by decide +kernel
theorem dX0_priceOf_63 : decode cX0_priceOf 63 = .ok (.bipush 99, 2) := by decide +kernel
theorem dX0_priceOf_65 : decode cX0_priceOf 65 = .ok (.invokestatic 35, 3) := by decide +kernel
theorem dX0_priceOf_68 : decode cX0_priceOf 68 = .ok (.goto 12, 3) := by decide +kernel
theorem dX0_priceOf_71 : decode cX0_priceOf 71 = .ok (.aload_n 0, 1) := by decide +kernel
theorem dX0_priceOf_72 : decode cX0_priceOf 72 = .ok (.getfield 19, 3) := by decide +kernel
theorem dX0_priceOf_75 : decode cX0_priceOf 75 = .ok (.iload_n 1, 1) := by decide +kernel
theorem dX0_priceOf_76 : decode cX0_priceOf 76 = .ok (.iconst 3, 1) := by decide +kernel
theorem dX0_priceOf_77 : decode cX0_priceOf 77 = .ok (.invokevirtual 39, 3) := by decide +kernel
theorem dX0_priceOf_80 : decode cX0_priceOf 80 = .ok (.ireturn, 1) := by decide +kernel
set_option maxRecDepth 20000 in
theorem s_X0_priceOf {w : Wd} {d : Nat} {P : Int → IM → LM → Prop} {i : IM} {l : LM} (p0 : Int) (p1 : Int)  (hd : 2 ≤ d) (h : ((0 ≤ p0 * 8 + 1 ∧ p0 * 8 + 1 < 80) ∧ ((rg p1) ∧ ((i 8 (p0 * 8 + 1) = p1) → P 0 i l) ∧ ((¬ (i 8 (p0 * 8 + 1) = p1)) → cVd w d X_X0_ask [vR (some 41), vI 0, vI 0, vI 0] i l (fun i6 l6 => ((rg p0) ∧ (0 ≤ p0 * 8 + 0 ∧ p0 * 8 + 0 < 80) ∧ (rg p1) ∧ cI w d X_X0_tells [vR (some 41), vI 1] (u2 (u2 (u2 i6 42 1 p0) 42 4 ((u2 i6 42 1 p0) 8 (p0 * 8 + 0))) 42 3 p1) l6 (fun r11 i11 l11 => (((r11 = 0) → 0 ≤ p0 * 8 + 3 ∧ p0 * 8 + 3 < 80) ∧ ((rg (if (r11 = 0) then i11 8 (p0 * 8 + 3) else max 0 (min 99 (i11 41 3)))) ∧ P (if (r11 = 0) then i11 8 (p0 * 8 + 3) else max 0 (min 99 (i11 41 3))) i11 l11))))))))) : gI w d X_X0_priceOf P i l 0 [(0, vR (some 41)), (1, vI p0), (2, vI p1)] [] := by
  obtain ⟨ob1, h⟩ := h
  refine g_aload_n (pc' := 1) 0 dX0_priceOf_0 rfl rfl ?_
  refine g_getR (pc' := 4) (o := some 7) fl_X0_19 rfl rfl rfl dX0_priceOf_1 rfl ?_
  refine g_iload_n (pc' := 5) 1 dX0_priceOf_4 rfl rfl ?_
  refine g_iconst (pc' := 6) dX0_priceOf_5 rfl ?_
  refine g_pVI (pc' := 9) (vs := [vI p0, vI 1]) (st := []) (val := i 8 (p0 * 8 + 1)) (c := 9) (sp_X9_trait (le_hd hd rfl) ob1) mv_X9_trait lk_X0_39 rfl rfl rfl rfl (Nat.le_of_ble_eq_true rfl) (Nat.le_of_ble_eq_true rfl) rfl dX0_priceOf_6 rfl z2 (fun rg2 => ?_)
  refine g_iload_n (pc' := 10) 2 dX0_priceOf_9 rfl rfl ?_
  obtain ⟨hob4, hk19, hk20⟩ := h
  refine g_icmp_ne (tgt := 15) (pc' := 13) rg2 (hob4) Iff.rfl dX0_priceOf_10 rfl rfl (fun c5 => ?_) (fun c5 => ?_)
  · have h := hk20 c5
    refine g_aload_n (pc' := 16) 0 dX0_priceOf_15 rfl rfl ?_
    refine g_iconst (pc' := 17) dX0_priceOf_16 rfl ?_
    refine g_iconst (pc' := 18) dX0_priceOf_17 rfl ?_
    refine g_iconst (pc' := 19) dX0_priceOf_18 rfl ?_
    refine g_cVV (pc' := 22) (vs := [vI 0, vI 0, vI 0]) (st := []) (c := 0) h mv_X0_ask lk_X0_23 rfl rfl rfl rfl (Nat.le_of_ble_eq_true rfl) (Nat.le_of_ble_eq_true rfl) rfl dX0_priceOf_19 rfl z2 (fun i6 l6 h => ?_)
    obtain ⟨ob7, ob8, ob10, h⟩ := h
    refine g_aload_n (pc' := 23) 0 dX0_priceOf_22 rfl rfl ?_
    refine g_getR (pc' := 26) (o := some 42) fl_X0_9 rfl rfl rfl dX0_priceOf_23 rfl ?_
    refine g_iconst (pc' := 27) dX0_priceOf_26 rfl ?_
    refine g_iload_n (pc' := 28) 1 dX0_priceOf_27 rfl rfl ?_
    refine g_iast (pc' := 29) (N := 9) rfl rfl (Nat.lt_of_lt_of_le (Nat.lt_succ_self _) (Nat.le_of_ble_eq_true rfl)) (by decide) ob7 dX0_priceOf_28 rfl ?_
    refine g_aload_n (pc' := 30) 0 dX0_priceOf_29 rfl rfl ?_
    refine g_getR (pc' := 33) (o := some 42) fl_X0_9 rfl rfl rfl dX0_priceOf_30 rfl ?_
    refine g_iconst (pc' := 34) dX0_priceOf_33 rfl ?_
    refine g_aload_n (pc' := 35) 0 dX0_priceOf_34 rfl rfl ?_
    refine g_getR (pc' := 38) (o := some 7) fl_X0_19 rfl rfl rfl dX0_priceOf_35 rfl ?_
    refine g_iload_n (pc' := 39) 1 dX0_priceOf_38 rfl rfl ?_
    refine g_iconst (pc' := 40) dX0_priceOf_39 rfl ?_
    refine g_pVI (pc' := 43) (vs := [vI p0, vI 0]) (st := [vI 4, vR (some 42)]) (val := (u2 i6 42 1 p0) 8 (p0 * 8 + 0)) (c := 9) (sp_X9_trait (le_hd hd rfl) ob8) mv_X9_trait lk_X0_39 rfl rfl rfl rfl (Nat.le_of_ble_eq_true rfl) (Nat.le_of_ble_eq_true rfl) rfl dX0_priceOf_40 rfl z2 (fun rg9 => ?_)
    refine g_iast (pc' := 44) (N := 9) rfl rfl (Nat.lt_of_lt_of_le (Nat.lt_succ_self _) (Nat.le_of_ble_eq_true rfl)) (by decide) rg9 dX0_priceOf_43 rfl ?_
    refine g_aload_n (pc' := 45) 0 dX0_priceOf_44 rfl rfl ?_
    refine g_getR (pc' := 48) (o := some 42) fl_X0_9 rfl rfl rfl dX0_priceOf_45 rfl ?_
    refine g_iconst (pc' := 49) dX0_priceOf_48 rfl ?_
    refine g_iload_n (pc' := 50) 2 dX0_priceOf_49 rfl rfl ?_
    refine g_iast (pc' := 51) (N := 9) rfl rfl (Nat.lt_of_lt_of_le (Nat.lt_succ_self _) (Nat.le_of_ble_eq_true rfl)) (by decide) ob10 dX0_priceOf_50 rfl ?_
    refine g_aload_n (pc' := 52) 0 dX0_priceOf_51 rfl rfl ?_
    refine g_iconst (pc' := 53) dX0_priceOf_52 rfl ?_
    refine g_cVI (pc' := 56) (vs := [vI 1]) (st := []) (c := 0) h mv_X0_tells lk_X0_27 rfl rfl rfl rfl (Nat.le_of_ble_eq_true rfl) (Nat.le_of_ble_eq_true rfl) rfl dX0_priceOf_53 rfl z2 (fun r11 i11 l11 rg11 h => ?_)
    refine g_rg (fun hRG12 => ?_)
    obtain ⟨hob14, h⟩ := h
    have hJ : gI w d X_X0_priceOf P i11 l11 80 [(0, vR (some 41)), (1, vI p0), (2, vI p1)] [vI (if (r11 = 0) then i11 8 (p0 * 8 + 3) else max 0 (min 99 (i11 41 3)))] := by
      obtain ⟨ob18, h⟩ := h
      exact g_retI rfl ob18 dX0_priceOf_80 h
    refine g_if_eq (tgt := 71) (pc' := 59) rg11 Iff.rfl dX0_priceOf_56 rfl rfl (fun c13 => ?_) (fun c13 => ?_)
    · refine g_aload_n (pc' := 72) 0 dX0_priceOf_71 rfl rfl ?_
      refine g_getR (pc' := 75) (o := some 7) fl_X0_19 rfl rfl rfl dX0_priceOf_72 rfl ?_
      refine g_iload_n (pc' := 76) 1 dX0_priceOf_75 rfl rfl ?_
      refine g_iconst (pc' := 77) dX0_priceOf_76 rfl ?_
      refine g_pVI (pc' := 80) (vs := [vI p0, vI 3]) (st := []) (val := i11 8 (p0 * 8 + 3)) (c := 9) (sp_X9_trait (le_hd hd rfl) (hob14 c13)) mv_X9_trait lk_X0_39 rfl rfl rfl rfl (Nat.le_of_ble_eq_true rfl) (Nat.le_of_ble_eq_true rfl) rfl dX0_priceOf_77 rfl z2 (fun rg15 => ?_)
      rw [if_pos c13 (α := Int) (t := i11 8 (p0 * 8 + 3)) (e := max 0 (min 99 (i11 41 3)))] at hJ
      exact hJ
    · refine g_aload_n (pc' := 60) 0 dX0_priceOf_59 rfl rfl ?_
      refine g_getI (pc' := 63) (z := 3) rfl fl_X0_31 rfl rfl dX0_priceOf_60 rfl (fun rg16 => ?_)
      refine g_bipush (pc' := 65) dX0_priceOf_63 rfl rfl ?_
      refine g_pNI (pc' := 68) (vs := [vI (i11 41 3), vI 99]) (st := []) (val := max 0 (min 99 (i11 41 3))) (sp_X11_nearestTo (le_hd hd rfl) rg16 (rg_lit rfl)) mk_X11_nearestTo ms_X11_nearestTo (fun _ h => h.2.2.2.2.1) rfl (Nat.le_of_ble_eq_true rfl) (Nat.le_of_ble_eq_true rfl) rfl dX0_priceOf_65 rfl z2 (fun rg17 => ?_)
      refine g_goto (tgt := 80) dX0_priceOf_68 rfl ?_
      rw [if_neg c13 (α := Int) (t := i11 8 (p0 * 8 + 3)) (e := max 0 (min 99 (i11 41 3)))] at hJ
      exact hJ
  · have h := hk19 c5
    refine g_iconst (pc' := 14) dX0_priceOf_13 rfl ?_
    exact g_retI rfl (rg_lit rfl) dX0_priceOf_14 h
theorem e_X0_priceOf {w : Wd} {d : Nat} {P : Int → IM → LM → Prop} {i : IM} {l : LM} {p0 : Int} {p1 : Int}  (h : gI w d X_X0_priceOf P i l 0 [(0, vR (some 41)), (1, vI p0), (2, vI p1)] []) : cI w (d + 1) X_X0_priceOf [vR (some 41), vI p0, vI p1] i l P := CI_of (by decide +kernel) (Nat.le_of_ble_eq_true rfl) h

theorem dX0_showsThing_0 : decode cX0_showsThing 0 = .ok (.aload_n 0, 1) := by decide +kernel
theorem dX0_showsThing_1 : decode cX0_showsThing 1 = .ok (.iload_n 1, 1) := by decide +kernel
theorem dX0_showsThing_2 : decode cX0_showsThing 2 = .ok (.iload 4, 2) := by decide +kernel
theorem dX0_showsThing_4 : decode cX0_showsThing 4 = .ok (.iload 5, 2) := by decide +kernel
theorem dX0_showsThing_6 : decode cX0_showsThing 6 = .ok (.invokevirtual 23, 3) := by decide +kernel
theorem dX0_showsThing_9 : decode cX0_showsThing 9 = .ok (.aload_n 0, 1) := by decide +kernel
theorem dX0_showsThing_10 : decode cX0_showsThing 10 = .ok (.getfield 9, 3) := by decide +kernel
theorem dX0_showsThing_13 : decode cX0_showsThing 13 = .ok (.iconst 1, 1) := by decide +kernel
theorem dX0_showsThing_14 : decode cX0_showsThing 14 = .ok (.iload_n 2, 1) := by decide +kernel
theorem dX0_showsThing_15 : decode cX0_showsThing 15 = .ok (.iastore, 1) := by decide +kernel
theorem dX0_showsThing_16 : decode cX0_showsThing 16 = .ok (.aload_n 0, 1) := by decide +kernel
theorem dX0_showsThing_17 : decode cX0_showsThing 17 = .ok (.getfield 9, 3) := by decide +kernel
theorem dX0_showsThing_20 : decode cX0_showsThing 20 = .ok (.iconst 4, 1) := by decide +kernel
theorem dX0_showsThing_21 : decode cX0_showsThing 21 = .ok (.aload_n 0, 1) := by decide +kernel
theorem dX0_showsThing_22 : decode cX0_showsThing 22 = .ok (.getfield 19, 3) := by decide +kernel
theorem dX0_showsThing_25 : decode cX0_showsThing 25 = .ok (.iload_n 2, 1) := by decide +kernel
theorem dX0_showsThing_26 : decode cX0_showsThing 26 = .ok (.iconst 0, 1) := by decide +kernel
theorem dX0_showsThing_27 : decode cX0_showsThing 27 = .ok (.invokevirtual 39, 3) := by decide +kernel
theorem dX0_showsThing_30 : decode cX0_showsThing 30 = .ok (.iastore, 1) := by decide +kernel
theorem dX0_showsThing_31 : decode cX0_showsThing 31 = .ok (.aload_n 0, 1) := by decide +kernel
theorem dX0_showsThing_32 : decode cX0_showsThing 32 = .ok (.getfield 9, 3) := by decide +kernel
theorem dX0_showsThing_35 : decode cX0_showsThing 35 = .ok (.iconst 3, 1) := by decide +kernel
theorem dX0_showsThing_36 : decode cX0_showsThing 36 = .ok (.iload_n 3, 1) := by decide +kernel
theorem dX0_showsThing_37 : decode cX0_showsThing 37 = .ok (.iastore, 1) := by decide +kernel
theorem dX0_showsThing_38 : decode cX0_showsThing 38 = .ok (.aload_n 0, 1) := by decide +kernel
theorem dX0_showsThing_39 : decode cX0_showsThing 39 = .ok (.iconst 3, 1) := by decide +kernel
theorem dX0_showsThing_40 : decode cX0_showsThing 40 = .ok (.invokevirtual 27, 3) := by decide +kernel
theorem dX0_showsThing_43 : decode cX0_showsThing 43 = .ok (.ifCond .ne 15, 3) := by decide +kernel
theorem dX0_showsThing_46 : decode cX0_showsThing 46 = .ok (.aload_n 0, 1) := by decide +kernel
theorem dX0_showsThing_47 : decode cX0_showsThing 47 = .ok (.iconst 2, 1) := by decide +kernel
theorem dX0_showsThing_48 : decode cX0_showsThing 48 = .ok (.invokevirtual 27, 3) := by decide +kernel
theorem dX0_showsThing_51 : decode cX0_showsThing 51 = .ok (.ifCond .ne 7, 3) := by decide +kernel
theorem dX0_showsThing_54 : decode cX0_showsThing 54 = .ok (.iconst 1, 1) := by decide +kernel
theorem dX0_showsThing_55 : decode cX0_showsThing 55 = .ok (.goto 4, 3) := by decide +kernel
theorem dX0_showsThing_58 : decode cX0_showsThing 58 = .ok (.iconst 0, 1) := by decide +kernel
theorem dX0_showsThing_59 : decode cX0_showsThing 59 = .ok (.ireturn, 1) := by decide +kernel
set_option maxRecDepth 20000 in
theorem s_X0_showsThing {w : Wd} {d : Nat} {P : Int → IM → LM → Prop} {i : IM} {l : LM} (p0 : Int) (p1 : Int) (p2 : Int) (p3 : Int) (p4 : Int)  (hd : 1 ≤ d) (h : cVd w d X_X0_ask [vR (some 41), vI p0, vI p3, vI p4] i l (fun i1 l1 => ((rg p1) ∧ (0 ≤ p1 * 8 + 0 ∧ p1 * 8 + 0 < 80) ∧ (rg p2) ∧ cI w d X_X0_tells [vR (some 41), vI 3] (u2 (u2 (u2 i1 42 1 p1) 42 4 ((u2 i1 42 1 p1) 8 (p1 * 8 + 0))) 42 3 p2) l1 (fun r6 i6 l6 => (((r6 = 0) → cI w d X_X0_tells [vR (some 41), vI 2] i6 l6 (fun r9 i9 l9 => P (bI (r9 = 0)) i9 l9)) ∧ ((¬ (r6 = 0)) → P 0 i6 l6)))))) : gI w d X_X0_showsThing P i l 0 [(0, vR (some 41)), (1, vI p0), (2, vI p1), (3, vI p2), (4, vI p3), (5, vI p4)] [] := by
  refine g_aload_n (pc' := 1) 0 dX0_showsThing_0 rfl rfl ?_
  refine g_iload_n (pc' := 2) 1 dX0_showsThing_1 rfl rfl ?_
  refine g_iload (pc' := 4) 4 dX0_showsThing_2 rfl rfl ?_
  refine g_iload (pc' := 6) 5 dX0_showsThing_4 rfl rfl ?_
  refine g_cVV (pc' := 9) (vs := [vI p0, vI p3, vI p4]) (st := []) (c := 0) h mv_X0_ask lk_X0_23 rfl rfl rfl rfl (Nat.le_of_ble_eq_true rfl) (Nat.le_of_ble_eq_true rfl) rfl dX0_showsThing_6 rfl z2 (fun i1 l1 h => ?_)
  obtain ⟨ob2, ob3, ob5, h⟩ := h
  refine g_aload_n (pc' := 10) 0 dX0_showsThing_9 rfl rfl ?_
  refine g_getR (pc' := 13) (o := some 42) fl_X0_9 rfl rfl rfl dX0_showsThing_10 rfl ?_
  refine g_iconst (pc' := 14) dX0_showsThing_13 rfl ?_
  refine g_iload_n (pc' := 15) 2 dX0_showsThing_14 rfl rfl ?_
  refine g_iast (pc' := 16) (N := 9) rfl rfl (Nat.lt_of_lt_of_le (Nat.lt_succ_self _) (Nat.le_of_ble_eq_true rfl)) (by decide) ob2 dX0_showsThing_15 rfl ?_
  refine g_aload_n (pc' := 17) 0 dX0_showsThing_16 rfl rfl ?_
  refine g_getR (pc' := 20) (o := some 42) fl_X0_9 rfl rfl rfl dX0_showsThing_17 rfl ?_
  refine g_iconst (pc' := 21) dX0_showsThing_20 rfl ?_
  refine g_aload_n (pc' := 22) 0 dX0_showsThing_21 rfl rfl ?_
  refine g_getR (pc' := 25) (o := some 7) fl_X0_19 rfl rfl rfl dX0_showsThing_22 rfl ?_
  refine g_iload_n (pc' := 26) 2 dX0_showsThing_25 rfl rfl ?_
  refine g_iconst (pc' := 27) dX0_showsThing_26 rfl ?_
  refine g_pVI (pc' := 30) (vs := [vI p1, vI 0]) (st := [vI 4, vR (some 42)]) (val := (u2 i1 42 1 p1) 8 (p1 * 8 + 0)) (c := 9) (sp_X9_trait (le_hd hd rfl) ob3) mv_X9_trait lk_X0_39 rfl rfl rfl rfl (Nat.le_of_ble_eq_true rfl) (Nat.le_of_ble_eq_true rfl) rfl dX0_showsThing_27 rfl z2 (fun rg4 => ?_)
  refine g_iast (pc' := 31) (N := 9) rfl rfl (Nat.lt_of_lt_of_le (Nat.lt_succ_self _) (Nat.le_of_ble_eq_true rfl)) (by decide) rg4 dX0_showsThing_30 rfl ?_
  refine g_aload_n (pc' := 32) 0 dX0_showsThing_31 rfl rfl ?_
  refine g_getR (pc' := 35) (o := some 42) fl_X0_9 rfl rfl rfl dX0_showsThing_32 rfl ?_
  refine g_iconst (pc' := 36) dX0_showsThing_35 rfl ?_
  refine g_iload_n (pc' := 37) 3 dX0_showsThing_36 rfl rfl ?_
  refine g_iast (pc' := 38) (N := 9) rfl rfl (Nat.lt_of_lt_of_le (Nat.lt_succ_self _) (Nat.le_of_ble_eq_true rfl)) (by decide) ob5 dX0_showsThing_37 rfl ?_
  refine g_aload_n (pc' := 39) 0 dX0_showsThing_38 rfl rfl ?_
  refine g_iconst (pc' := 40) dX0_showsThing_39 rfl ?_
  refine g_cVI (pc' := 43) (vs := [vI 3]) (st := []) (c := 0) h mv_X0_tells lk_X0_27 rfl rfl rfl rfl (Nat.le_of_ble_eq_true rfl) (Nat.le_of_ble_eq_true rfl) rfl dX0_showsThing_40 rfl z2 (fun r6 i6 l6 rg6 h => ?_)
  obtain ⟨hk12, hk13⟩ := h
  refine g_if_ne (tgt := 58) (pc' := 46) rg6 Iff.rfl dX0_showsThing_43 rfl rfl (fun c8 => ?_) (fun c8 => ?_)
  · refine g_iconst (pc' := 59) dX0_showsThing_58 rfl ?_
    have h := hk13 c8
    exact g_retZ rfl (by decide) dX0_showsThing_59 h
  · have h := hk12 c8
    refine g_aload_n (pc' := 47) 0 dX0_showsThing_46 rfl rfl ?_
    refine g_iconst (pc' := 48) dX0_showsThing_47 rfl ?_
    refine g_cVI (pc' := 51) (vs := [vI 2]) (st := []) (c := 0) h mv_X0_tells lk_X0_27 rfl rfl rfl rfl (Nat.le_of_ble_eq_true rfl) (Nat.le_of_ble_eq_true rfl) rfl dX0_showsThing_48 rfl z2 (fun r9 i9 l9 rg9 h => ?_)
    have hJ : gI w d X_X0_showsThing P i9 l9 59 [(0, vR (some 41)), (1, vI p0), (2, vI p1), (3, vI p2), (4, vI p3), (5, vI p4)] [vI (bI (r9 = 0))] := by
      exact g_retZ rfl (bI_01 _) dX0_showsThing_59 h
    refine g_if_ne (tgt := 58) (pc' := 54) rg9 Iff.rfl dX0_showsThing_51 rfl rfl (fun c11 => ?_) (fun c11 => ?_)
    · refine g_iconst (pc' := 59) dX0_showsThing_58 rfl ?_
      rw [bI_f (p := (r9 = 0)) c11] at hJ
      exact hJ
    · refine g_iconst (pc' := 55) dX0_showsThing_54 rfl ?_
      refine g_goto (tgt := 59) dX0_showsThing_55 rfl ?_
      rw [bI_t (p := (r9 = 0)) c11] at hJ
      exact hJ
theorem e_X0_showsThing {w : Wd} {d : Nat} {P : Int → IM → LM → Prop} {i : IM} {l : LM} {p0 : Int} {p1 : Int} {p2 : Int} {p3 : Int} {p4 : Int}  (h : gI w d X_X0_showsThing P i l 0 [(0, vR (some 41)), (1, vI p0), (2, vI p1), (3, vI p2), (4, vI p3), (5, vI p4)] []) : cI w (d + 1) X_X0_showsThing [vR (some 41), vI p0, vI p1, vI p2, vI p3, vI p4] i l P := CI_of (by decide +kernel) (Nat.le_of_ble_eq_true rfl) h

theorem dX0_showsOne_0 : decode cX0_showsOne 0 = .ok (.aload_n 0, 1) := by decide +kernel
theorem dX0_showsOne_1 : decode cX0_showsOne 1 = .ok (.iload_n 1, 1) := by decide +kernel
theorem dX0_showsOne_2 : decode cX0_showsOne 2 = .ok (.iload 4, 2) := by decide +kernel
theorem dX0_showsOne_4 : decode cX0_showsOne 4 = .ok (.iload 5, 2) := by decide +kernel
theorem dX0_showsOne_6 : decode cX0_showsOne 6 = .ok (.invokevirtual 23, 3) := by decide +kernel
theorem dX0_showsOne_9 : decode cX0_showsOne 9 = .ok (.aload_n 0, 1) := by decide +kernel
theorem dX0_showsOne_10 : decode cX0_showsOne 10 = .ok (.getfield 9, 3) := by decide +kernel
theorem dX0_showsOne_13 : decode cX0_showsOne 13 = .ok (.iconst 2, 1) := by decide +kernel
theorem dX0_showsOne_14 : decode cX0_showsOne 14 = .ok (.iload_n 3, 1) := by decide +kernel
theorem dX0_showsOne_15 : decode cX0_showsOne 15 = .ok (.iastore, 1) := by decide +kernel
theorem dX0_showsOne_16 : decode cX0_showsOne 16 = .ok (.aload_n 0, 1) := by decide +kernel
theorem dX0_showsOne_17 : decode cX0_showsOne 17 = .ok (.getfield 9, 3) := by decide +kernel
theorem dX0_showsOne_20 : decode cX0_showsOne 20 = .ok (.iconst 3, 1) := by decide +kernel
theorem dX0_showsOne_21 : decode cX0_showsOne 21 = .ok (.aload_n 0, 1) := by decide +kernel
theorem dX0_showsOne_22 : decode cX0_showsOne 22 = .ok (.getfield 19, 3) := by decide +kernel
theorem dX0_showsOne_25 : decode cX0_showsOne 25 = .ok (.getfield 44, 3) := by decide +kernel
theorem dX0_showsOne_28 : decode cX0_showsOne 28 = .ok (.iload_n 2, 1) := by decide +kernel
theorem dX0_showsOne_29 : decode cX0_showsOne 29 = .ok (.iaload, 1) := by decide +kernel
theorem dX0_showsOne_30 : decode cX0_showsOne 30 = .ok (.iastore, 1) := by decide +kernel
theorem dX0_showsOne_31 : decode cX0_showsOne 31 = .ok (.aload_n 0, 1) := by decide +kernel
theorem dX0_showsOne_32 : decode cX0_showsOne 32 = .ok (.getfield 9, 3) := by decide +kernel
theorem dX0_showsOne_35 : decode cX0_showsOne 35 = .ok (.bipush 7, 2) := by decide +kernel
theorem dX0_showsOne_37 : decode cX0_showsOne 37 = .ok (.iconst 1, 1) := by decide +kernel
theorem dX0_showsOne_38 : decode cX0_showsOne 38 = .ok (.iastore, 1) := by decide +kernel
theorem dX0_showsOne_39 : decode cX0_showsOne 39 = .ok (.aload_n 0, 1) := by decide +kernel
theorem dX0_showsOne_40 : decode cX0_showsOne 40 = .ok (.getfield 9, 3) := by decide +kernel
theorem dX0_showsOne_43 : decode cX0_showsOne 43 = .ok (.bipush 8, 2) := by decide +kernel
theorem dX0_showsOne_45 : decode cX0_showsOne 45 = .ok (.iload_n 2, 1) := by decide +kernel
theorem dX0_showsOne_46 : decode cX0_showsOne 46 = .ok (.iastore, 1) := by decide +kernel
theorem dX0_showsOne_47 : decode cX0_showsOne 47 = .ok (.aload_n 0, 1) := by decide +kernel
theorem dX0_showsOne_48 : decode cX0_showsOne 48 = .ok (.iconst 3, 1) := by decide +kernel
theorem dX0_showsOne_49 : decode cX0_showsOne 49 = .ok (.invokevirtual 27, 3) := by decide +kernel
theorem dX0_showsOne_52 : decode cX0_showsOne 52 = .ok (.ifCond .ne 15, 3) := by decide +kernel
theorem dX0_showsOne_55 : decode cX0_showsOne 55 = .ok (.aload_n 0, 1) := by decide +kernel
theorem dX0_showsOne_56 : decode cX0_showsOne 56 = .ok (.iconst 2, 1) := by decide +kernel
theorem dX0_showsOne_57 : decode cX0_showsOne 57 = .ok (.invokevirtual 27, 3) := by decide +kernel
theorem dX0_showsOne_60 : decode cX0_showsOne 60 = .ok (.ifCond .ne 7, 3) := by decide +kernel
theorem dX0_showsOne_63 : decode cX0_showsOne 63 = .ok (.iconst 1, 1) := by decide +kernel
theorem dX0_showsOne_64 : decode cX0_showsOne 64 = .ok (.goto 4, 3) := by decide +kernel
theorem dX0_showsOne_67 : decode cX0_showsOne 67 = .ok (.iconst 0, 1) := by decide +kernel
theorem dX0_showsOne_68 : decode cX0_showsOne 68 = .ok (.ireturn, 1) := by decide +kernel
set_option maxRecDepth 20000 in
theorem s_X0_showsOne {w : Wd} {d : Nat} {P : Int → IM → LM → Prop} {i : IM} {l : LM} (p0 : Int) (p1 : Int) (p2 : Int) (p3 : Int) (p4 : Int)  (h : cVd w d X_X0_ask [vR (some 41), vI p0, vI p3, vI p4] i l (fun i1 l1 => ((rg p2) ∧ (0 ≤ p1 ∧ p1 < 5) ∧ (rg p1) ∧ cI w d X_X0_tells [vR (some 41), vI 3] (u2 (u2 (u2 (u2 i1 42 2 p2) 42 3 ((u2 i1 42 2 p2) 10 p1)) 42 7 1) 42 8 p1) l1 (fun r6 i6 l6 => (((r6 = 0) → cI w d X_X0_tells [vR (some 41), vI 2] i6 l6 (fun r9 i9 l9 => P (bI (r9 = 0)) i9 l9)) ∧ ((¬ (r6 = 0)) → P 0 i6 l6)))))) : gI w d X_X0_showsOne P i l 0 [(0, vR (some 41)), (1, vI p0), (2, vI p1), (3, vI p2), (4, vI p3), (5, vI p4)] [] := by
  refine g_aload_n (pc' := 1) 0 dX0_showsOne_0 rfl rfl ?_
  refine g_iload_n (pc' := 2) 1 dX0_showsOne_1 rfl rfl ?_
  refine g_iload (pc' := 4) 4 dX0_showsOne_2 rfl rfl ?_
  refine g_iload (pc' := 6) 5 dX0_showsOne_4 rfl rfl ?_
  refine g_cVV (pc' := 9) (vs := [vI p0, vI p3, vI p4]) (st := []) (c := 0) h mv_X0_ask lk_X0_23 rfl rfl rfl rfl (Nat.le_of_ble_eq_true rfl) (Nat.le_of_ble_eq_true rfl) rfl dX0_showsOne_6 rfl z2 (fun i1 l1 h => ?_)
  obtain ⟨ob2, ob3, ob5, h⟩ := h
  refine g_aload_n (pc' := 10) 0 dX0_showsOne_9 rfl rfl ?_
  refine g_getR (pc' := 13) (o := some 42) fl_X0_9 rfl rfl rfl dX0_showsOne_10 rfl ?_
  refine g_iconst (pc' := 14) dX0_showsOne_13 rfl ?_
  refine g_iload_n (pc' := 15) 3 dX0_showsOne_14 rfl rfl ?_
  refine g_iast (pc' := 16) (N := 9) rfl rfl (Nat.lt_of_lt_of_le (Nat.lt_succ_self _) (Nat.le_of_ble_eq_true rfl)) (by decide) ob2 dX0_showsOne_15 rfl ?_
  refine g_aload_n (pc' := 17) 0 dX0_showsOne_16 rfl rfl ?_
  refine g_getR (pc' := 20) (o := some 42) fl_X0_9 rfl rfl rfl dX0_showsOne_17 rfl ?_
  refine g_iconst (pc' := 21) dX0_showsOne_20 rfl ?_
  refine g_aload_n (pc' := 22) 0 dX0_showsOne_21 rfl rfl ?_
  refine g_getR (pc' := 25) (o := some 7) fl_X0_19 rfl rfl rfl dX0_showsOne_22 rfl ?_
  refine g_getR (pc' := 28) (o := some 10) fl_X0_44 rfl rfl rfl dX0_showsOne_25 rfl ?_
  refine g_iload_n (pc' := 29) 2 dX0_showsOne_28 rfl rfl ?_
  refine g_iald (pc' := 30) (N := 5) rfl rfl (Nat.lt_of_lt_of_le (Nat.lt_succ_self _) (Nat.le_of_ble_eq_true rfl)) ob3 dX0_showsOne_29 rfl (fun rg4 => ?_)
  refine g_iast (pc' := 31) (N := 9) rfl rfl (Nat.lt_of_lt_of_le (Nat.lt_succ_self _) (Nat.le_of_ble_eq_true rfl)) (by decide) rg4 dX0_showsOne_30 rfl ?_
  refine g_aload_n (pc' := 32) 0 dX0_showsOne_31 rfl rfl ?_
  refine g_getR (pc' := 35) (o := some 42) fl_X0_9 rfl rfl rfl dX0_showsOne_32 rfl ?_
  refine g_bipush (pc' := 37) dX0_showsOne_35 rfl rfl ?_
  refine g_iconst (pc' := 38) dX0_showsOne_37 rfl ?_
  refine g_iast (pc' := 39) (N := 9) rfl rfl (Nat.lt_of_lt_of_le (Nat.lt_succ_self _) (Nat.le_of_ble_eq_true rfl)) (by decide) (rg_lit rfl) dX0_showsOne_38 rfl ?_
  refine g_aload_n (pc' := 40) 0 dX0_showsOne_39 rfl rfl ?_
  refine g_getR (pc' := 43) (o := some 42) fl_X0_9 rfl rfl rfl dX0_showsOne_40 rfl ?_
  refine g_bipush (pc' := 45) dX0_showsOne_43 rfl rfl ?_
  refine g_iload_n (pc' := 46) 2 dX0_showsOne_45 rfl rfl ?_
  refine g_iast (pc' := 47) (N := 9) rfl rfl (Nat.lt_of_lt_of_le (Nat.lt_succ_self _) (Nat.le_of_ble_eq_true rfl)) (by decide) ob5 dX0_showsOne_46 rfl ?_
  refine g_aload_n (pc' := 48) 0 dX0_showsOne_47 rfl rfl ?_
  refine g_iconst (pc' := 49) dX0_showsOne_48 rfl ?_
  refine g_cVI (pc' := 52) (vs := [vI 3]) (st := []) (c := 0) h mv_X0_tells lk_X0_27 rfl rfl rfl rfl (Nat.le_of_ble_eq_true rfl) (Nat.le_of_ble_eq_true rfl) rfl dX0_showsOne_49 rfl z2 (fun r6 i6 l6 rg6 h => ?_)
  obtain ⟨hk12, hk13⟩ := h
  refine g_if_ne (tgt := 67) (pc' := 55) rg6 Iff.rfl dX0_showsOne_52 rfl rfl (fun c8 => ?_) (fun c8 => ?_)
  · refine g_iconst (pc' := 68) dX0_showsOne_67 rfl ?_
    have h := hk13 c8
    exact g_retZ rfl (by decide) dX0_showsOne_68 h
  · have h := hk12 c8
    refine g_aload_n (pc' := 56) 0 dX0_showsOne_55 rfl rfl ?_
    refine g_iconst (pc' := 57) dX0_showsOne_56 rfl ?_
    refine g_cVI (pc' := 60) (vs := [vI 2]) (st := []) (c := 0) h mv_X0_tells lk_X0_27 rfl rfl rfl rfl (Nat.le_of_ble_eq_true rfl) (Nat.le_of_ble_eq_true rfl) rfl dX0_showsOne_57 rfl z2 (fun r9 i9 l9 rg9 h => ?_)
    have hJ : gI w d X_X0_showsOne P i9 l9 68 [(0, vR (some 41)), (1, vI p0), (2, vI p1), (3, vI p2), (4, vI p3), (5, vI p4)] [vI (bI (r9 = 0))] := by
      exact g_retZ rfl (bI_01 _) dX0_showsOne_68 h
    refine g_if_ne (tgt := 67) (pc' := 63) rg9 Iff.rfl dX0_showsOne_60 rfl rfl (fun c11 => ?_) (fun c11 => ?_)
    · refine g_iconst (pc' := 68) dX0_showsOne_67 rfl ?_
      rw [bI_f (p := (r9 = 0)) c11] at hJ
      exact hJ
    · refine g_iconst (pc' := 64) dX0_showsOne_63 rfl ?_
      refine g_goto (tgt := 68) dX0_showsOne_64 rfl ?_
      rw [bI_t (p := (r9 = 0)) c11] at hJ
      exact hJ
theorem e_X0_showsOne {w : Wd} {d : Nat} {P : Int → IM → LM → Prop} {i : IM} {l : LM} {p0 : Int} {p1 : Int} {p2 : Int} {p3 : Int} {p4 : Int}  (h : gI w d X_X0_showsOne P i l 0 [(0, vR (some 41)), (1, vI p0), (2, vI p1), (3, vI p2), (4, vI p3), (5, vI p4)] []) : cI w (d + 1) X_X0_showsOne [vR (some 41), vI p0, vI p1, vI p2, vI p3, vI p4] i l P := CI_of (by decide +kernel) (Nat.le_of_ble_eq_true rfl) h

theorem dX0_ask_0 : decode cX0_ask 0 = .ok (.aload_n 0, 1) := by decide +kernel
theorem dX0_ask_1 : decode cX0_ask 1 = .ok (.getfield 9, 3) := by decide +kernel
theorem dX0_ask_4 : decode cX0_ask 4 = .ok (.iconst 0, 1) := by decide +kernel
theorem dX0_ask_5 : decode cX0_ask 5 = .ok (.invokestatic 47, 3) := by decide +kernel
theorem dX0_ask_8 : decode cX0_ask 8 = .ok (.aload_n 0, 1) := by decide +kernel
theorem dX0_ask_9 : decode cX0_ask 9 = .ok (.getfield 9, 3) := by decide +kernel
theorem dX0_ask_12 : decode cX0_ask 12 = .ok (.iconst 0, 1) := by decide +kernel
theorem dX0_ask_13 : decode cX0_ask 13 = .ok (.iload_n 1, 1) := by decide +kernel
theorem dX0_ask_14 : decode cX0_ask 14 = .ok (.iastore, 1) := by decide +kernel
theorem dX0_ask_15 : decode cX0_ask 15 = .ok (.aload_n 0, 1) := by decide +kernel
theorem dX0_ask_16 : decode cX0_ask 16 = .ok (.getfield 9, 3) := by decide +kernel
theorem dX0_ask_19 : decode cX0_ask 19 = .ok (.iconst 5, 1) := by decide +kernel
theorem dX0_ask_20 : decode cX0_ask 20 = .ok (.iload_n 2, 1) := by decide +kernel
theorem dX0_ask_21 : decode cX0_ask 21 = .ok (.iastore, 1) := by decide +kernel
theorem dX0_ask_22 : decode cX0_ask 22 = .ok (.aload_n 0, 1) := by decide +kernel
theorem dX0_ask_23 : decode cX0_ask 23 = .ok (.getfield 9, 3) := by decide +kernel
theorem dX0_ask_26 : decode cX0_ask 26 = .ok (.bipush 6, 2) := by decide +kernel
theorem dX0_ask_28 : decode cX0_ask 28 = .ok (.iload_n 3, 1) := by decide +kernel
theorem dX0_ask_29 : decode cX0_ask 29 = .ok (.iastore, 1) := by decide +kernel
theorem dX0_ask_30 : decode cX0_ask 30 = .ok (.return_, 1) := by decide +kernel
set_option maxRecDepth 20000 in
theorem s_X0_ask {w : Wd} {d : Nat} {P : IM → LM → Prop} {i : IM} {l : LM} (p0 : Int) (p1 : Int) (p2 : Int)  (hd : 1 ≤ d) (h : ((rg p0) ∧ (rg p1) ∧ (rg p2) ∧ P (u2 (u2 (u2 (fillA i 42 9 0) 42 0 p0) 42 5 p1) 42 6 p2) l)) : gV w d X_X0_ask P i l 0 [(0, vR (some 41)), (1, vI p0), (2, vI p1), (3, vI p2)] [] := by
  obtain ⟨ob1, ob2, ob3, h⟩ := h
  refine g_aload_n (pc' := 1) 0 dX0_ask_0 rfl rfl ?_
  refine g_getR (pc' := 4) (o := some 42) fl_X0_9 rfl rfl rfl dX0_ask_1 rfl ?_
  refine g_iconst (pc' := 5) dX0_ask_4 rfl ?_
  refine g_fill (pc' := 8) (st := []) (le_hd hd rfl) rfl (Nat.le_of_ble_eq_true rfl) (rg_lit rfl) lk_X0_47 (Nat.le_of_ble_eq_true rfl) dX0_ask_5 rfl ?_
  refine g_aload_n (pc' := 9) 0 dX0_ask_8 rfl rfl ?_
  refine g_getR (pc' := 12) (o := some 42) fl_X0_9 rfl rfl rfl dX0_ask_9 rfl ?_
  refine g_iconst (pc' := 13) dX0_ask_12 rfl ?_
  refine g_iload_n (pc' := 14) 1 dX0_ask_13 rfl rfl ?_
  refine g_iast (pc' := 15) (N := 9) rfl rfl (Nat.lt_of_lt_of_le (Nat.lt_succ_self _) (Nat.le_of_ble_eq_true rfl)) (by decide) ob1 dX0_ask_14 rfl ?_
  refine g_aload_n (pc' := 16) 0 dX0_ask_15 rfl rfl ?_
  refine g_getR (pc' := 19) (o := some 42) fl_X0_9 rfl rfl rfl dX0_ask_16 rfl ?_
  refine g_iconst (pc' := 20) dX0_ask_19 rfl ?_
  refine g_iload_n (pc' := 21) 2 dX0_ask_20 rfl rfl ?_
  refine g_iast (pc' := 22) (N := 9) rfl rfl (Nat.lt_of_lt_of_le (Nat.lt_succ_self _) (Nat.le_of_ble_eq_true rfl)) (by decide) ob2 dX0_ask_21 rfl ?_
  refine g_aload_n (pc' := 23) 0 dX0_ask_22 rfl rfl ?_
  refine g_getR (pc' := 26) (o := some 42) fl_X0_9 rfl rfl rfl dX0_ask_23 rfl ?_
  refine g_bipush (pc' := 28) dX0_ask_26 rfl rfl ?_
  refine g_iload_n (pc' := 29) 3 dX0_ask_28 rfl rfl ?_
  refine g_iast (pc' := 30) (N := 9) rfl rfl (Nat.lt_of_lt_of_le (Nat.lt_succ_self _) (Nat.le_of_ble_eq_true rfl)) (by decide) ob3 dX0_ask_29 rfl ?_
  exact g_retV rfl dX0_ask_30 h
theorem e_X0_ask {w : Wd} {d : Nat} {P : IM → LM → Prop} {i : IM} {l : LM} {p0 : Int} {p1 : Int} {p2 : Int}  (h : gV w d X_X0_ask P i l 0 [(0, vR (some 41)), (1, vI p0), (2, vI p1), (3, vI p2)] []) : cVd w (d + 1) X_X0_ask [vR (some 41), vI p0, vI p1, vI p2] i l P := CV_of (by decide +kernel) (Nat.le_of_ble_eq_true rfl) h

theorem dX0_tells_0 : decode cX0_tells 0 = .ok (.aload_n 0, 1) := by decide +kernel
theorem dX0_tells_1 : decode cX0_tells 1 = .ok (.getfield 19, 3) := by decide +kernel
theorem dX0_tells_4 : decode cX0_tells 4 = .ok (.invokevirtual 53, 3) := by decide +kernel
theorem dX0_tells_7 : decode cX0_tells 7 = .ok (.astore_n 2, 1) := by decide +kernel
theorem dX0_tells_8 : decode cX0_tells 8 = .ok (.aload_n 2, 1) := by decide +kernel
theorem dX0_tells_9 : decode cX0_tells 9 = .ok (.ifnull 11, 3) := by decide +kernel
theorem dX0_tells_12 : decode cX0_tells 12 = .ok (.aload_n 2, 1) := by decide +kernel
theorem dX0_tells_13 : decode cX0_tells 13 = .ok (.iload_n 1, 1) := by decide +kernel
theorem dX0_tells_14 : decode cX0_tells 14 = .ok (.invokevirtual 57, 3) := by decide +kernel
theorem dX0_tells_17 : decode cX0_tells 17 = .ok (.ifCond .ne 5, 3) := by decide +kernel
theorem dX0_tells_20 : decode cX0_tells 20 = .ok (.iconst 0, 1) := by decide +kernel
theorem dX0_tells_21 : decode cX0_tells 21 = .ok (.ireturn, 1) := by decide +kernel
theorem dX0_tells_22 : decode cX0_tells 22 = .ok (.aload_n 2, 1) := by decide +kernel
theorem dX0_tells_23 : decode cX0_tells 23 = .ok (.getfield 62, 3) := by decide +kernel
theorem dX0_tells_26 : decode cX0_tells 26 = .ok (.astore_n 3, 1) := by decide +kernel
theorem dX0_tells_27 : decode cX0_tells 27 = .ok (.aload_n 3, 1) := by decide +kernel
theorem dX0_tells_28 : decode cX0_tells 28 = .ok (.arraylength, 1) := by decide +kernel
theorem dX0_tells_29 : decode cX0_tells 29 = .ok (.iconst 4, 1) := by decide +kernel
theorem dX0_tells_30 : decode cX0_tells 30 = .ok (.isub, 1) := by decide +kernel
theorem dX0_tells_31 : decode cX0_tells 31 = .ok (.istore 4, 2) := by decide +kernel
theorem dX0_tells_33 : decode cX0_tells 33 = .ok (.iload 4, 2) := by decide +kernel
theorem dX0_tells_35 : decode cX0_tells 35 = .ok (.ifCond .lt 72, 3) := by decide +kernel
theorem dX0_tells_38 : decode cX0_tells 38 = .ok (.aload_n 3, 1) := by decide +kernel
theorem dX0_tells_39 : decode cX0_tells 39 = .ok (.iload 4, 2) := by decide +kernel
theorem dX0_tells_41 : decode cX0_tells 41 = .ok (.iaload, 1) := by decide +kernel
theorem dX0_tells_42 : decode cX0_tells 42 = .ok (.iload_n 1, 1) := by decide +kernel
theorem dX0_tells_43 : decode cX0_tells 43 = .ok (.if_icmp .ne 58, 3) := by decide +kernel
theorem dX0_tells_46 : decode cX0_tells 46 = .ok (.aload_n 0, 1) := by decide +kernel
theorem dX0_tells_47 : decode cX0_tells 47 = .ok (.aload_n 2, 1) := by decide +kernel
theorem dX0_tells_48 : decode cX0_tells 48 = .ok (.getfield 65, 3) := by decide +kernel
theorem dX0_tells_51 : decode cX0_tells 51 = .ok (.aload_n 3, 1) := by decide +kernel
theorem dX0_tells_52 : decode cX0_tells 52 = .ok (.iload 4, 2) := by decide +kernel
theorem dX0_tells_54 : decode cX0_tells 54 = .ok (.iconst 2, 1) := by decide +kernel
theorem dX0_tells_55 : decode cX0_tells 55 = .ok (.iadd, 1) := by decide +kernel
theorem dX0_tells_56 : decode cX0_tells 56 = .ok (.iaload, 1) := by decide +kernel
theorem dX0_tells_57 : decode cX0_tells 57 = .ok (.aload_n 3, 1) := by decide +kernel
theorem dX0_tells_58 : decode cX0_tells 58 = .ok (.iload 4, 2) := by decide +kernel
theorem dX0_tells_60 : decode cX0_tells 60 = .ok (.iconst 3, 1) := by decide +kernel
theorem dX0_tells_61 : decode cX0_tells 61 = .ok (.iadd, 1) := by decide +kernel
theorem dX0_tells_62 : decode cX0_tells 62 = .ok (.iaload, 1) := by decide +kernel
theorem dX0_tells_63 : decode cX0_tells 63 = .ok (.invokevirtual 68, 3) := by decide +kernel
theorem dX0_tells_66 : decode cX0_tells 66 = .ok (.ifCond .eq 35, 3) := by decide +kernel
theorem dX0_tells_69 : decode cX0_tells 69 = .ok (.aload_n 0, 1) := by decide +kernel
theorem dX0_tells_70 : decode cX0_tells 70 = .ok (.getfield 31, 3) := by decide +kernel
theorem dX0_tells_73 : decode cX0_tells 73 = .ok (.ifCond .eq 28, 3) := by decide +kernel
theorem dX0_tells_76 : decode cX0_tells 76 = .ok (.aload_n 0, 1) := by decide +kernel
theorem dX0_tells_77 : decode cX0_tells 77 = .ok (.aload_n 2, 1) := by decide +kernel
theorem dX0_tells_78 : decode cX0_tells 78 = .ok (.getfield 65, 3) := by decide +kernel
theorem dX0_tells_81 : decode cX0_tells 81 = .ok (.aload_n 3, 1) := by decide +kernel
theorem dX0_tells_82 : decode cX0_tells 82 = .ok (.iload 4, 2) := by decide +kernel
theorem dX0_tells_84 : decode cX0_tells 84 = .ok (.iconst 1, 1) := by decide +kernel
theorem dX0_tells_85 : decode cX0_tells 85 = .ok (.iadd, 1) := by decide +kernel
theorem dX0_tells_86 : decode cX0_tells 86 = .ok (.iaload, 1) := by decide +kernel
theorem dX0_tells_87 : decode cX0_tells 87 = .ok (.aload_n 3, 1) := by decide +kernel
theorem dX0_tells_88 : decode cX0_tells 88 = .ok (.iload 4, 2) := by decide +kernel
theorem dX0_tells_90 : decode cX0_tells 90 = .ok (.iconst 2, 1) := by decide +kernel
theorem dX0_tells_91 : decode cX0_tells 91 = .ok (.iadd, 1) := by decide +kernel
theorem dX0_tells_92 : decode cX0_tells 92 = .ok (.iaload, 1) := by decide +kernel
theorem dX0_tells_93 : decode cX0_tells 93 = .ok (.invokevirtual 68, 3) := by decide +kernel
theorem dX0_tells_96 : decode cX0_tells 96 = .ok (.ifCond .eq 5, 3) := by decide +kernel
theorem dX0_tells_99 : decode cX0_tells 99 = .ok (.iconst 1, 1) := by decide +kernel
theorem dX0_tells_100 : decode cX0_tells 100 = .ok (.ireturn, 1) := by decide +kernel
theorem dX0_tells_101 : decode cX0_tells 101 = .ok (.iinc 4 (-4), 3) := by decide +kernel
theorem dX0_tells_104 : decode cX0_tells 104 = .ok (.goto (-71), 3) := by decide +kernel
theorem dX0_tells_107 : decode cX0_tells 107 = .ok (.iconst 0, 1) := by decide +kernel
theorem dX0_tells_108 : decode cX0_tells 108 = .ok (.ireturn, 1) := by decide +kernel
set_option maxRecDepth 20000 in
theorem s_X0_tells {w : Wd} {d : Nat} {P : Int → IM → LM → Prop} {i : IM} {l : LM} (p0 : Int)  (hd : 1 ≤ d) (h : ((0 ≤ i 7 14 ∧ i 7 14 < i 7 12 → i 7 14 < 6) ∧ ((rul w i = none → P 0 i l) ∧ (∀ lw : Nat, rul w i = some lw → (LawAt w lw ∧ ((0 ≤ p0 ∧ p0 < 4) ∧ (((0 ≤ i (lw + 3) p0) → gI w d X_X0_tells P i l 33 [(0, vR (some 41)), (1, vI p0), (2, vR (some lw)), (3, vR (some (lw + 2))), (4, vI (((w.2.2.1 (lw + 2) : Nat) : Int) - 4))] []) ∧ ((¬ (0 ≤ i (lw + 3) p0)) → P 0 i l)))))))) : gI w d X_X0_tells P i l 0 [(0, vR (some 41)), (1, vI p0)] [] := by
  obtain ⟨ob1, h⟩ := h
  refine g_aload_n (pc' := 1) 0 dX0_tells_0 rfl rfl ?_
  refine g_getR (pc' := 4) (o := some 7) fl_X0_19 rfl rfl rfl dX0_tells_1 rfl ?_
  refine g_pVR (pc' := 7) (vs := []) (st := []) (val := rul w i) (c := 9) (sp_X9_ruling (le_hd hd rfl) ob1) mv_X9_ruling lk_X0_53 rfl rfl rfl rfl (Nat.le_of_ble_eq_true rfl) (Nat.le_of_ble_eq_true rfl) rfl dX0_tells_4 rfl z2 ?_
  refine g_astore_no (pc' := 8) (o := rul w i) (L' := [(2, vR (rul w i)), (0, vR (some 41)), (1, vI p0)]) dX0_tells_7 rfl (Nat.le_of_ble_eq_true rfl) rfl ?_
  refine g_aload_no (pc' := 9) (o := rul w i) 0 dX0_tells_8 rfl rfl ?_
  rcases ho : rul w i with _ | lw
  · have h := h.1 ho
    refine g_ifnull_n (tgt := 20) dX0_tells_9 rfl ?_
    refine g_iconst (pc' := 21) dX0_tells_20 rfl ?_
    exact g_retZ rfl (by decide) dX0_tells_21 h
  · obtain ⟨hL, h⟩ := h.2 lw ho
    refine g_ifnull_s (pc' := 12) dX0_tells_9 rfl ?_
    obtain ⟨ob3, h⟩ := h
    refine g_aload_n (pc' := 13) 0 dX0_tells_12 rfl rfl ?_
    refine g_iload_n (pc' := 14) 2 dX0_tells_13 rfl rfl ?_
    refine g_pVI (pc' := 17) (vs := [vI p0]) (st := []) (val := bI (0 ≤ i (lw + 3) p0)) (c := 2) (sp_X2_has hL (le_hd hd rfl) ob3) mv_X2_has lk_X0_57 rfl rfl (sh_law hL) rfl (Nat.le_of_ble_eq_true rfl) (Nat.le_of_ble_eq_true rfl) rfl dX0_tells_14 rfl z2 (fun rg4 => ?_)
    obtain ⟨hk7, hk8⟩ := h
    have hk7g : (0 ≤ i (lw + 3) p0) → gI w d X_X0_tells P i l 22 [(2, vR (some lw)), (0, vR (some 41)), (1, vI p0)] [] := by
      intro hp
      have h := hk7 hp
      refine g_aload_n (pc' := 23) 0 dX0_tells_22 rfl rfl ?_
      refine g_getR (pc' := 26) (o := some (lw + 2)) fl_X0_62 (sh_law hL) rfl (rf_law hL 1) dX0_tells_23 rfl ?_
      refine g_astore_n (pc' := 27) (L' := [(3, vR (some (lw + 2))), (2, vR (some lw)), (0, vR (some 41)), (1, vI p0)]) dX0_tells_26 rfl (Nat.le_of_ble_eq_true rfl) rfl ?_
      refine g_aload_n (pc' := 28) 0 dX0_tells_27 rfl rfl ?_
      refine g_alen (pc' := 29) (N := ((w.2.2.1 (lw + 2) : Nat) : Int)) rfl (sh_clauses hL) (by decide) dX0_tells_28 rfl ?_
      refine g_iconst (pc' := 30) dX0_tells_29 rfl ?_
      refine g_isub (pc' := 31) dX0_tells_30 rfl ?_
      refine g_istore (pc' := 33) (L' := [(4, vI (((w.2.2.1 (lw + 2) : Nat) : Int) - 4)), (3, vR (some (lw + 2))), (2, vR (some lw)), (0, vR (some 41)), (1, vI p0)]) dX0_tells_31 rfl (Nat.le_of_ble_eq_true rfl) rfl ?_
      refine g_sub (L' := [(0, vR (some 41)), (1, vI p0), (2, vR (some lw)), (3, vR (some (lw + 2))), (4, vI (((w.2.2.1 (lw + 2) : Nat) : Int) - 4))]) [3, 4, 2, 1, 0] rfl ?_
      exact h
    have hk8g : (¬ (0 ≤ i (lw + 3) p0)) → gI w d X_X0_tells P i l 20 [(2, vR (some lw)), (0, vR (some 41)), (1, vI p0)] [] := by
      intro hp
      have h := hk8 hp
      refine g_iconst (pc' := 21) dX0_tells_20 rfl ?_
      exact g_retZ rfl (by decide) dX0_tells_21 h
    refine g_if_ne (tgt := 22) (pc' := 20) rg4 (bI_eq _) dX0_tells_17 rfl rfl (fun c6n => ?_) (fun c6 => ?_)
    · have c6 := Decidable.of_not_not c6n
      exact hk7g c6
    · exact hk8g c6
theorem e_X0_tells {w : Wd} {d : Nat} {P : Int → IM → LM → Prop} {i : IM} {l : LM} {p0 : Int}  (h : gI w d X_X0_tells P i l 0 [(0, vR (some 41)), (1, vI p0)] []) : cI w (d + 1) X_X0_tells [vR (some 41), vI p0] i l P := CI_of (by decide +kernel) (Nat.le_of_ble_eq_true rfl) h
set_option maxRecDepth 20000 in
theorem s_X0_tells_33 {w : Wd} {d : Nat} {P : Int → IM → LM → Prop} {i : IM} {l : LM} (x1 : Int) (x4 : Int)  {lw : Nat} (hL : LawAt w lw) (h : ((rg x4) ∧ (¬ (x4 < 0) → 0 ≤ x4 ∧ x4 < ((w.2.2.1 (lw + 2) : Nat) : Int)) ∧ (¬ (x4 < 0) → rg x1) ∧ ((x4 < 0) → P 0 i l) ∧ ((¬ (x4 < 0) ∧ (¬ (i (lw + 2) x4 = x1))) → gI w d X_X0_tells P i l 33 [(0, vR (some 41)), (1, vI x1), (2, vR (some lw)), (3, vR (some (lw + 2))), (4, vI (x4 + (-4)))] []) ∧ ((¬ (x4 < 0) ∧ (i (lw + 2) x4 = x1)) → ((0 ≤ x4 + 2 ∧ x4 + 2 < ((w.2.2.1 (lw + 2) : Nat) : Int)) ∧ (0 ≤ x4 + 3 ∧ x4 + 3 < ((w.2.2.1 (lw + 2) : Nat) : Int)) ∧ cI w d X_X0_runs [vR (some 41), vR (some (lw + 1)), vI (i (lw + 2) (x4 + 2)), vI (i (lw + 2) (x4 + 3))] i l (fun r24 i24 l24 => ((((r24 = 0) ∨ (i24 41 3 = 0)) → gI w d X_X0_tells P i24 l24 33 [(0, vR (some 41)), (1, vI x1), (2, vR (some lw)), (3, vR (some (lw + 2))), (4, vI (x4 + (-4)))] []) ∧ ((¬ ((r24 = 0) ∨ (i24 41 3 = 0))) → ((0 ≤ x4 + 1 ∧ x4 + 1 < ((w.2.2.1 (lw + 2) : Nat) : Int)) ∧ (0 ≤ x4 + 2 ∧ x4 + 2 < ((w.2.2.1 (lw + 2) : Nat) : Int)) ∧ cI w d X_X0_runs [vR (some 41), vR (some (lw + 1)), vI (i24 (lw + 2) (x4 + 1)), vI (i24 (lw + 2) (x4 + 2))] i24 l24 (fun r37 i37 l37 => (((r37 = 0) → gI w d X_X0_tells P i37 l37 33 [(0, vR (some 41)), (1, vI x1), (2, vR (some lw)), (3, vR (some (lw + 2))), (4, vI (x4 + (-4)))] []) ∧ ((¬ (r37 = 0)) → P 1 i37 l37))))))))))) : gI w d X_X0_tells P i l 33 [(0, vR (some 41)), (1, vI x1), (2, vR (some lw)), (3, vR (some (lw + 2))), (4, vI x4)] [] := by
  refine g_iload (pc' := 35) 4 dX0_tells_33 rfl rfl ?_
  obtain ⟨hob10, hob12, hob14, hk44, hk45, hk46⟩ := h
  have hk44g : (x4 < 0) → gI w d X_X0_tells P i l 107 [(0, vR (some 41)), (1, vI x1), (2, vR (some lw)), (3, vR (some (lw + 2))), (4, vI x4)] [] := by
    intro hp
    have h := hk44 hp
    refine g_iconst (pc' := 108) dX0_tells_107 rfl ?_
    exact g_retZ rfl (by decide) dX0_tells_108 h
  have hk45g : (¬ (x4 < 0) ∧ (¬ (i (lw + 2) x4 = x1))) → gI w d X_X0_tells P i l 101 [(0, vR (some 41)), (1, vI x1), (2, vR (some lw)), (3, vR (some (lw + 2))), (4, vI x4)] [] := by
    intro hp
    have h := hk45 hp
    refine g_iinc (pc' := 104) (L' := [(4, vI (x4 + (-4))), (0, vR (some 41)), (1, vI x1), (2, vR (some lw)), (3, vR (some (lw + 2)))]) 4 dX0_tells_101 rfl (Nat.le_of_ble_eq_true rfl) rfl rfl ?_
    refine g_goto (tgt := 33) dX0_tells_104 rfl ?_
    refine g_sub (L' := [(0, vR (some 41)), (1, vI x1), (2, vR (some lw)), (3, vR (some (lw + 2))), (4, vI (x4 + (-4)))]) [1, 2, 3, 4, 0] rfl ?_
    exact h
  have hk46g : (¬ (x4 < 0) ∧ (i (lw + 2) x4 = x1)) → gI w d X_X0_tells P i l 46 [(0, vR (some 41)), (1, vI x1), (2, vR (some lw)), (3, vR (some (lw + 2))), (4, vI x4)] [] := by
    intro hp
    have h := hk46 hp
    obtain ⟨ob20, ob22, h⟩ := h
    refine g_aload_n (pc' := 47) 0 dX0_tells_46 rfl rfl ?_
    refine g_aload_n (pc' := 48) 2 dX0_tells_47 rfl rfl ?_
    refine g_getR (pc' := 51) (o := some (lw + 1)) fl_X0_65 (sh_law hL) rfl (rf_law hL 0) dX0_tells_48 rfl ?_
    refine g_aload_n (pc' := 52) 3 dX0_tells_51 rfl rfl ?_
    refine g_iload (pc' := 54) 4 dX0_tells_52 rfl rfl ?_
    refine g_iconst (pc' := 55) dX0_tells_54 rfl ?_
    refine g_iadd (pc' := 56) dX0_tells_55 rfl ?_
    refine g_iald (pc' := 57) (N := ((w.2.2.1 (lw + 2) : Nat) : Int)) (sh_clauses hL) rfl (sm_clauses hL) ob20 dX0_tells_56 rfl (fun rg21 => ?_)
    refine g_aload_n (pc' := 58) 3 dX0_tells_57 rfl rfl ?_
    refine g_iload (pc' := 60) 4 dX0_tells_58 rfl rfl ?_
    refine g_iconst (pc' := 61) dX0_tells_60 rfl ?_
    refine g_iadd (pc' := 62) dX0_tells_61 rfl ?_
    refine g_iald (pc' := 63) (N := ((w.2.2.1 (lw + 2) : Nat) : Int)) (sh_clauses hL) rfl (sm_clauses hL) ob22 dX0_tells_62 rfl (fun rg23 => ?_)
    refine g_cVI (pc' := 66) (vs := [vR (some (lw + 1)), vI (i (lw + 2) (x4 + 2)), vI (i (lw + 2) (x4 + 3))]) (st := []) (c := 0) h mv_X0_runs lk_X0_68 rfl rfl rfl rfl (Nat.le_of_ble_eq_true rfl) (Nat.le_of_ble_eq_true rfl) rfl dX0_tells_63 rfl z2 (fun r24 i24 l24 rg24 h => ?_)
    obtain ⟨hk42, hk43⟩ := h
    have hk42g : ((r24 = 0) ∨ (i24 41 3 = 0)) → gI w d X_X0_tells P i24 l24 101 [(0, vR (some 41)), (1, vI x1), (2, vR (some lw)), (3, vR (some (lw + 2))), (4, vI x4)] [] := by
      intro hp
      have h := hk42 hp
      refine g_iinc (pc' := 104) (L' := [(4, vI (x4 + (-4))), (0, vR (some 41)), (1, vI x1), (2, vR (some lw)), (3, vR (some (lw + 2)))]) 4 dX0_tells_101 rfl (Nat.le_of_ble_eq_true rfl) rfl rfl ?_
      refine g_goto (tgt := 33) dX0_tells_104 rfl ?_
      refine g_sub (L' := [(0, vR (some 41)), (1, vI x1), (2, vR (some lw)), (3, vR (some (lw + 2))), (4, vI (x4 + (-4)))]) [1, 2, 3, 4, 0] rfl ?_
      exact h
    have hk43g : (¬ ((r24 = 0) ∨ (i24 41 3 = 0))) → gI w d X_X0_tells P i24 l24 76 [(0, vR (some 41)), (1, vI x1), (2, vR (some lw)), (3, vR (some (lw + 2))), (4, vI x4)] [] := by
      intro hp
      have h := hk43 hp
      obtain ⟨ob33, ob35, h⟩ := h
      refine g_aload_n (pc' := 77) 0 dX0_tells_76 rfl rfl ?_
      refine g_aload_n (pc' := 78) 2 dX0_tells_77 rfl rfl ?_
      refine g_getR (pc' := 81) (o := some (lw + 1)) fl_X0_65 (sh_law hL) rfl (rf_law hL 0) dX0_tells_78 rfl ?_
      refine g_aload_n (pc' := 82) 3 dX0_tells_81 rfl rfl ?_
      refine g_iload (pc' := 84) 4 dX0_tells_82 rfl rfl ?_
      refine g_iconst (pc' := 85) dX0_tells_84 rfl ?_
      refine g_iadd (pc' := 86) dX0_tells_85 rfl ?_
      refine g_iald (pc' := 87) (N := ((w.2.2.1 (lw + 2) : Nat) : Int)) (sh_clauses hL) rfl (sm_clauses hL) ob33 dX0_tells_86 rfl (fun rg34 => ?_)
      refine g_aload_n (pc' := 88) 3 dX0_tells_87 rfl rfl ?_
      refine g_iload (pc' := 90) 4 dX0_tells_88 rfl rfl ?_
      refine g_iconst (pc' := 91) dX0_tells_90 rfl ?_
      refine g_iadd (pc' := 92) dX0_tells_91 rfl ?_
      refine g_iald (pc' := 93) (N := ((w.2.2.1 (lw + 2) : Nat) : Int)) (sh_clauses hL) rfl (sm_clauses hL) ob35 dX0_tells_92 rfl (fun rg36 => ?_)
      refine g_cVI (pc' := 96) (vs := [vR (some (lw + 1)), vI (i24 (lw + 2) (x4 + 1)), vI (i24 (lw + 2) (x4 + 2))]) (st := []) (c := 0) h mv_X0_runs lk_X0_68 rfl rfl rfl rfl (Nat.le_of_ble_eq_true rfl) (Nat.le_of_ble_eq_true rfl) rfl dX0_tells_93 rfl z2 (fun r37 i37 l37 rg37 h => ?_)
      obtain ⟨hk40, hk41⟩ := h
      refine g_if_eq (tgt := 101) (pc' := 99) rg37 Iff.rfl dX0_tells_96 rfl rfl (fun c39 => ?_) (fun c39 => ?_)
      · have h := hk40 c39
        refine g_iinc (pc' := 104) (L' := [(4, vI (x4 + (-4))), (0, vR (some 41)), (1, vI x1), (2, vR (some lw)), (3, vR (some (lw + 2)))]) 4 dX0_tells_101 rfl (Nat.le_of_ble_eq_true rfl) rfl rfl ?_
        refine g_goto (tgt := 33) dX0_tells_104 rfl ?_
        refine g_sub (L' := [(0, vR (some 41)), (1, vI x1), (2, vR (some lw)), (3, vR (some (lw + 2))), (4, vI (x4 + (-4)))]) [1, 2, 3, 4, 0] rfl ?_
        exact h
      · have h := hk41 c39
        refine g_iconst (pc' := 100) dX0_tells_99 rfl ?_
        exact g_retZ rfl (by decide) dX0_tells_100 h
    refine g_if_eq (tgt := 101) (pc' := 69) rg24 Iff.rfl dX0_tells_66 rfl rfl (fun c26 => ?_) (fun c26 => ?_)
    · exact hk42g (Or.inl c26)
    · refine g_aload_n (pc' := 70) 0 dX0_tells_69 rfl rfl ?_
      refine g_getI (pc' := 73) (z := 3) rfl fl_X0_31 rfl rfl dX0_tells_70 rfl (fun rg27 => ?_)
      refine g_if_eq (tgt := 101) (pc' := 76) rg27 Iff.rfl dX0_tells_73 rfl rfl (fun c28 => ?_) (fun c28 => ?_)
      · exact hk42g (Or.inr c28)
      · exact hk43g (fun q => q.elim c26 c28)
  refine g_if_lt (tgt := 107) (pc' := 38) (hob10) Iff.rfl dX0_tells_35 rfl rfl (fun c11 => ?_) (fun c11 => ?_)
  · exact hk44g c11
  · refine g_aload_n (pc' := 39) 3 dX0_tells_38 rfl rfl ?_
    refine g_iload (pc' := 41) 4 dX0_tells_39 rfl rfl ?_
    refine g_iald (pc' := 42) (N := ((w.2.2.1 (lw + 2) : Nat) : Int)) (sh_clauses hL) rfl (sm_clauses hL) (hob12 c11) dX0_tells_41 rfl (fun rg13 => ?_)
    refine g_iload_n (pc' := 43) 1 dX0_tells_42 rfl rfl ?_
    refine g_icmp_ne (tgt := 101) (pc' := 46) rg13 (hob14 c11) Iff.rfl dX0_tells_43 rfl rfl (fun c15 => ?_) (fun c15 => ?_)
    · exact hk45g ⟨c11, c15⟩
    · exact hk46g ⟨c11, c15⟩

theorem dX0_runs_0 : decode cX0_runs 0 = .ok (.iconst 0, 1) := by decide +kernel
theorem dX0_runs_1 : decode cX0_runs 1 = .ok (.istore 4, 2) := by decide +kernel
theorem dX0_runs_3 : decode cX0_runs 3 = .ok (.iload_n 2, 1) := by decide +kernel
theorem dX0_runs_4 : decode cX0_runs 4 = .ok (.istore 5, 2) := by decide +kernel
theorem dX0_runs_6 : decode cX0_runs 6 = .ok (.iload 5, 2) := by decide +kernel
theorem dX0_runs_8 : decode cX0_runs 8 = .ok (.iload_n 3, 1) := by decide +kernel
theorem dX0_runs_9 : decode cX0_runs 9 = .ok (.if_icmp .ge 431, 3) := by decide +kernel
theorem dX0_runs_12 : decode cX0_runs 12 = .ok (.iload 5, 2) := by decide +kernel
theorem dX0_runs_14 : decode cX0_runs 14 = .ok (.aload_n 1, 1) := by decide +kernel
theorem dX0_runs_15 : decode cX0_runs 15 = .ok (.arraylength, 1) := by decide +kernel
theorem dX0_runs_16 : decode cX0_runs 16 = .ok (.if_icmp .ge 424, 3) := by decide +kernel
theorem dX0_runs_19 : decode cX0_runs 19 = .ok (.aload_n 1, 1) := by decide +kernel
theorem dX0_runs_20 : decode cX0_runs 20 = .ok (.iload 5, 2) := by decide +kernel
theorem dX0_runs_22 : decode cX0_runs 22 = .ok (.iaload, 1) := by decide +kernel
theorem dX0_runs_23 : decode cX0_runs 23 = .ok (.bipush 15, 2) := by decide +kernel
theorem dX0_runs_25 : decode cX0_runs 25 = .ok (.iand, 1) := by decide +kernel
theorem dX0_runs_26 : decode cX0_runs 26 = .ok (.istore 6, 2) := by decide +kernel
theorem dX0_runs_28 : decode cX0_runs 28 = .ok (.aload_n 1, 1) := by decide +kernel
theorem dX0_runs_29 : decode cX0_runs 29 = .ok (.iload 5, 2) := by decide +kernel
theorem dX0_runs_31 : decode cX0_runs 31 = .ok (.iaload, 1) := by decide +kernel
theorem dX0_runs_32 : decode cX0_runs 32 = .ok (.iconst 4, 1) := by decide +kernel
theorem dX0_runs_33 : decode cX0_runs 33 = .ok (.ishr, 1) := by decide +kernel
theorem dX0_runs_34 : decode cX0_runs 34 = .ok (.istore 7, 2) := by decide +kernel
theorem dX0_runs_36 : decode cX0_runs 36 = .ok (.iload 6, 2) := by decide +kernel
theorem dX0_runs_38 : decode cX0_runs 38 = .ok (.ifCond .eq 9, 3) := by decide +kernel
theorem dX0_runs_41 : decode cX0_runs 41 = .ok (.iload 6, 2) := by decide +kernel
theorem dX0_runs_43 : decode cX0_runs 43 = .ok (.iconst 1, 1) := by decide +kernel
theorem dX0_runs_44 : decode cX0_runs 44 = .ok (.if_icmp .ne 61, 3) := by decide +kernel
theorem dX0_runs_47 : decode cX0_runs 47 = .ok (.iload 4, 2) := by decide +kernel
theorem dX0_runs_49 : decode cX0_runs 49 = .ok (.aload_n 0, 1) := by decide +kernel
theorem dX0_runs_50 : decode cX0_runs 50 = .ok (.getfield 15, 3) := by decide +kernel
theorem dX0_runs_53 : decode cX0_runs 53 = .ok (.arraylength, 1) := by decide +kernel
theorem dX0_runs_54 : decode cX0_runs 54 = .ok (.if_icmp .ge 16, 3) := by decide +kernel
theorem dX0_runs_57 : decode cX0_runs 57 = .ok (.iload 6, 2) := by decide +kernel
theorem dX0_runs_59 : decode cX0_runs 59 = .ok (.iconst 1, 1) := by decide +kernel
theorem dX0_runs_60 : decode cX0_runs 60 = .ok (.if_icmp .ne 12, 3) := by decide +kernel
theorem dX0_runs_63 : decode cX0_runs 63 = .ok (.iload 7, 2) := by decide +kernel
theorem dX0_runs_65 : decode cX0_runs 65 = .ok (.bipush 9, 2) := by decide +kernel
theorem dX0_runs_67 : decode cX0_runs 67 = .ok (.if_icmp .lt 5, 3) := by decide +kernel
theorem dX0_runs_70 : decode cX0_runs 70 = .ok (.iconst 0, 1) := by decide +kernel
theorem dX0_runs_71 : decode cX0_runs 71 = .ok (.ireturn, 1) := by decide +kernel
theorem dX0_runs_72 : decode cX0_runs 72 = .ok (.aload_n 0, 1) := by decide +kernel
theorem dX0_runs_73 : decode cX0_runs 73 = .ok (.getfield 15, 3) := by decide +kernel
theorem dX0_runs_76 : decode cX0_runs 76 = .ok (.iload 4, 2) := by decide +kernel
theorem dX0_runs_78 : decode cX0_runs 78 = .ok (.iload 6, 2) := by decide +kernel
theorem dX0_runs_80 : decode cX0_runs 80 = .ok (.iconst 1, 1) := by decide +kernel
theorem dX0_runs_81 : decode cX0_runs 81 = .ok (.if_icmp .ne 14, 3) := by decide +kernel
theorem dX0_runs_84 : decode cX0_runs 84 = .ok (.aload_n 0, 1) := by decide +kernel
theorem dX0_runs_85 : decode cX0_runs 85 = .ok (.getfield 9, 3) := by decide +kernel
theorem dX0_runs_88 : decode cX0_runs 88 = .ok (.iload 7, 2) := by decide +kernel
theorem dX0_runs_90 : decode cX0_runs 90 = .ok (.iaload, 1) := by decide +kernel
theorem dX0_runs_91 : decode cX0_runs 91 = .ok (.i2l, 1) := by decide +kernel
theorem dX0_runs_92 : decode cX0_runs 92 = .ok (.goto 6, 3) := by decide +kernel
theorem dX0_runs_95 : decode cX0_runs 95 = .ok (.iload 7, 2) := by decide +kernel
theorem dX0_runs_97 : decode cX0_runs 97 = .ok (.i2l, 1) := by decide +kernel
theorem dX0_runs_98 : decode cX0_runs 98 = .ok (.lastore, 1) := by decide +kernel
theorem dX0_runs_99 : decode cX0_runs 99 = .ok (.iinc 4 1, 3) := by decide +kernel
theorem dX0_runs_102 : decode cX0_runs 102 = .ok (.goto 332, 3) := by decide +kernel
theorem dX0_runs_105 : decode cX0_runs 105 = .ok (.iload 6, 2) := by decide +kernel
theorem dX0_runs_107 : decode cX0_runs 107 = .ok (.bipush 9, 2) := by decide +kernel
theorem dX0_runs_109 : decode cX0_runs 109 = .ok (.if_icmp .ne 31, 3) := by decide +kernel
theorem dX0_runs_112 : decode cX0_runs 112 = .ok (.iload 4, 2) := by decide +kernel
theorem dX0_runs_114 : decode cX0_runs 114 = .ok (.ifCond .le 26, 3) := by decide +kernel
theorem dX0_runs_117 : decode cX0_runs 117 = .ok (.aload_n 0, 1) := by decide +kernel
theorem dX0_runs_118 : decode cX0_runs 118 = .ok (.getfield 15, 3) := by decide +kernel
theorem dX0_runs_121 : decode cX0_runs 121 = .ok (.iload 4, 2) := by decide +kernel
theorem dX0_runs_123 : decode cX0_runs 123 = .ok (.iconst 1, 1) := by decide +kernel
theorem dX0_runs_124 : decode cX0_runs 124 = .ok (.isub, 1) := by decide +kernel
theorem dX0_runs_125 : decode cX0_runs 125 = .ok (.lconst 1, 1) := by decide +kernel
theorem dX0_runs_126 : decode cX0_runs 126 = .ok (.aload_n 0, 1) := by decide +kernel
theorem dX0_runs_127 : decode cX0_runs 127 = .ok (.getfield 15, 3) := by decide +kernel
theorem dX0_runs_130 : decode cX0_runs 130 = .ok (.iload 4, 2) := by decide +kernel
theorem dX0_runs_132 : decode cX0_runs 132 = .ok (.iconst 1, 1) := by decide +kernel
theorem dX0_runs_133 : decode cX0_runs 133 = .ok (.isub, 1) := by decide +kernel
theorem dX0_runs_134 : decode cX0_runs 134 = .ok (.laload, 1) := by decide +kernel
theorem dX0_runs_135 : decode cX0_runs 135 = .ok (.lsub, 1) := by decide +kernel
theorem dX0_runs_136 : decode cX0_runs 136 = .ok (.lastore, 1) := by decide +kernel
theorem dX0_runs_137 : decode cX0_runs 137 = .ok (.goto 297, 3) := by decide +kernel
theorem dX0_runs_140 : decode cX0_runs 140 = .ok (.iload 6, 2) := by decide +kernel
theorem dX0_runs_142 : decode cX0_runs 142 = .ok (.bipush 10, 2) := by decide +kernel
theorem dX0_runs_144 : decode cX0_runs 144 = .ok (.if_icmp .lt 69, 3) := by decide +kernel
theorem dX0_runs_147 : decode cX0_runs 147 = .ok (.iload 4, 2) := by decide +kernel
theorem dX0_runs_149 : decode cX0_runs 149 = .ok (.ifCond .le 64, 3) := by decide +kernel
theorem dX0_runs_152 : decode cX0_runs 152 = .ok (.aload_n 0, 1) := by decide +kernel
theorem dX0_runs_153 : decode cX0_runs 153 = .ok (.getfield 15, 3) := by decide +kernel
theorem dX0_runs_156 : decode cX0_runs 156 = .ok (.iload 4, 2) := by decide +kernel
theorem dX0_runs_158 : decode cX0_runs 158 = .ok (.iconst 1, 1) := by decide +kernel
theorem dX0_runs_159 : decode cX0_runs 159 = .ok (.isub, 1) := by decide +kernel
theorem dX0_runs_160 : decode cX0_runs 160 = .ok (.laload, 1) := by decide +kernel
theorem dX0_runs_161 : decode cX0_runs 161 = .ok (.lconst 0, 1) := by decide +kernel
theorem dX0_runs_162 : decode cX0_runs 162 = .ok (.lcmp, 1) := by decide +kernel
theorem dX0_runs_163 : decode cX0_runs 163 = .ok (.ifCond .eq 7, 3) := by decide +kernel
theorem dX0_runs_166 : decode cX0_runs 166 = .ok (.iconst 1, 1) := by decide +kernel
theorem dX0_runs_167 : decode cX0_runs 167 = .ok (.goto 4, 3) := by decide +kernel
theorem dX0_runs_170 : decode cX0_runs 170 = .ok (.iconst 0, 1) := by decide +kernel
theorem dX0_runs_171 : decode cX0_runs 171 = .ok (.iload 6, 2) := by decide +kernel
theorem dX0_runs_173 : decode cX0_runs 173 = .ok (.bipush 10, 2) := by decide +kernel
theorem dX0_runs_175 : decode cX0_runs 175 = .ok (.if_icmp .ne 7, 3) := by decide +kernel
theorem dX0_runs_178 : decode cX0_runs 178 = .ok (.iconst 1, 1) := by decide +kernel
theorem dX0_runs_179 : decode cX0_runs 179 = .ok (.goto 4, 3) := by decide +kernel
theorem dX0_runs_182 : decode cX0_runs 182 = .ok (.iconst 0, 1) := by decide +kernel
theorem dX0_runs_183 : decode cX0_runs 183 = .ok (.if_icmp .ne 24, 3) := by decide +kernel
theorem dX0_runs_186 : decode cX0_runs 186 = .ok (.iload 7, 2) := by decide +kernel
theorem dX0_runs_188 : decode cX0_runs 188 = .ok (.iload 5, 2) := by decide +kernel
theorem dX0_runs_190 : decode cX0_runs 190 = .ok (.if_icmp .le 10, 3) := by decide +kernel
theorem dX0_runs_193 : decode cX0_runs 193 = .ok (.iload 7, 2) := by decide +kernel
theorem dX0_runs_195 : decode cX0_runs 195 = .ok (.iconst 1, 1) := by decide +kernel
theorem dX0_runs_196 : decode cX0_runs 196 = .ok (.isub, 1) := by decide +kernel
theorem dX0_runs_197 : decode cX0_runs 197 = .ok (.goto 5, 3) := by decide +kernel
theorem dX0_runs_200 : decode cX0_runs 200 = .ok (.iload 5, 2) := by decide +kernel
theorem dX0_runs_202 : decode cX0_runs 202 = .ok (.istore 5, 2) := by decide +kernel
theorem dX0_runs_204 : decode cX0_runs 204 = .ok (.goto 230, 3) := by decide +kernel
theorem dX0_runs_207 : decode cX0_runs 207 = .ok (.iinc 4 (-1), 3) := by decide +kernel
theorem dX0_runs_210 : decode cX0_runs 210 = .ok (.goto 224, 3) := by decide +kernel
theorem dX0_runs_213 : decode cX0_runs 213 = .ok (.iload 4, 2) := by decide +kernel
theorem dX0_runs_215 : decode cX0_runs 215 = .ok (.iconst 1, 1) := by decide +kernel
theorem dX0_runs_216 : decode cX0_runs 216 = .ok (.if_icmp .le 216, 3) := by decide +kernel
theorem dX0_runs_219 : decode cX0_runs 219 = .ok (.iinc 4 (-1), 3) := by decide +kernel
theorem dX0_runs_222 : decode cX0_runs 222 = .ok (.aload_n 0, 1) := by decide +kernel
theorem dX0_runs_223 : decode cX0_runs 223 = .ok (.getfield 15, 3) := by decide +kernel
theorem dX0_runs_226 : decode cX0_runs 226 = .ok (.iload 4, 2) := by decide +kernel
theorem dX0_runs_228 : decode cX0_runs 228 = .ok (.laload, 1) := by decide +kernel
theorem dX0_runs_229 : decode cX0_runs 229 = .ok (.lstore 8, 2) := by decide +kernel
theorem dX0_runs_231 : decode cX0_runs 231 = .ok (.aload_n 0, 1) := by decide +kernel
theorem dX0_runs_232 : decode cX0_runs 232 = .ok (.getfield 15, 3) := by decide +kernel
theorem dX0_runs_235 : decode cX0_runs 235 = .ok (.iload 4, 2) := by decide +kernel
theorem dX0_runs_237 : decode cX0_runs 237 = .ok (.iconst 1, 1) := by decide +kernel
theorem dX0_runs_238 : decode cX0_runs 238 = .ok (.isub, 1) := by decide +kernel
theorem dX0_runs_239 : decode cX0_runs 239 = .ok (.laload, 1) := by decide +kernel
theorem dX0_runs_240 : decode cX0_runs 240 = .ok (.lstore 10, 2) := by decide +kernel
theorem dX0_runs_242 : decode cX0_runs 242 = .ok (.iload 6, 2) := by decide +kernel
theorem dX0_runs_244 : decode cX0_runs 244 = .ok (.iconst 5, 1) := by decide +kernel
theorem dX0_runs_245 : decode cX0_runs 245 = .ok (.if_icmp .ne 12, 3) := by decide +kernel
theorem dX0_runs_248 : decode cX0_runs 248 = .ok (.lload 8, 2) := by decide +kernel
theorem dX0_runs_250 : decode cX0_runs 250 = .ok (.lconst 0, 1) := by decide +kernel
theorem dX0_runs_251 : decode cX0_runs 251 = .ok (.lcmp, 1) := by decide +kernel
theorem dX0_runs_252 : decode cX0_runs 252 = .ok (.ifCond .ne 5, 3) := by decide +kernel
theorem dX0_runs_255 : decode cX0_runs 255 = .ok (.iconst 0, 1) := by decide +kernel
theorem dX0_runs_256 : decode cX0_runs 256 = .ok (.ireturn, 1) := by decide +kernel
theorem dX0_runs_257 : decode cX0_runs 257 = .ok (.iload 6, 2) := by decide +kernel
theorem dX0_runs_259 : decode cX0_runs 259 = .ok (.tableswitch 124 2 7 #[37, 47, 57, 67, 88, 106], 37) := by decide +kernel
theorem dX0_runs_296 : decode cX0_runs 296 = .ok (.lload 10, 2) := by decide +kernel
theorem dX0_runs_298 : decode cX0_runs 298 = .ok (.lload 8, 2) := by decide +kernel
theorem dX0_runs_300 : decode cX0_runs 300 = .ok (.ladd, 1) := by decide +kernel
theorem dX0_runs_301 : decode cX0_runs 301 = .ok (.lstore 10, 2) := by decide +kernel
theorem dX0_runs_303 : decode cX0_runs 303 = .ok (.goto 95, 3) := by decide +kernel
theorem dX0_runs_306 : decode cX0_runs 306 = .ok (.lload 10, 2) := by decide +kernel
theorem dX0_runs_308 : decode cX0_runs 308 = .ok (.lload 8, 2) := by decide +kernel
theorem dX0_runs_310 : decode cX0_runs 310 = .ok (.lsub, 1) := by decide +kernel
theorem dX0_runs_311 : decode cX0_runs 311 = .ok (.lstore 10, 2) := by decide +kernel
theorem dX0_runs_313 : decode cX0_runs 313 = .ok (.goto 85, 3) := by decide +kernel
theorem dX0_runs_316 : decode cX0_runs 316 = .ok (.lload 10, 2) := by decide +kernel
theorem dX0_runs_318 : decode cX0_runs 318 = .ok (.lload 8, 2) := by decide +kernel
theorem dX0_runs_320 : decode cX0_runs 320 = .ok (.lmul, 1) := by decide +kernel
theorem dX0_runs_321 : decode cX0_runs 321 = .ok (.lstore 10, 2) := by decide +kernel
theorem dX0_runs_323 : decode cX0_runs 323 = .ok (.goto 75, 3) := by decide +kernel
theorem dX0_runs_326 : decode cX0_runs 326 = .ok (.lload 8, 2) := by decide +kernel
theorem dX0_runs_328 : decode cX0_runs 328 = .ok (.lconst 0, 1) := by decide +kernel
theorem dX0_runs_329 : decode cX0_runs 329 = .ok (.lcmp, 1) := by decide +kernel
theorem dX0_runs_330 : decode cX0_runs 330 = .ok (.ifCond .ne 7, 3) := by decide +kernel
theorem dX0_runs_333 : decode cX0_runs 333 = .ok (.lconst 0, 1) := by decide +kernel
theorem dX0_runs_334 : decode cX0_runs 334 = .ok (.goto 8, 3) := by decide +kernel
theorem dX0_runs_337 : decode cX0_runs 337 = .ok (.lload 10, 2) := by decide +kernel
theorem dX0_runs_339 : decode cX0_runs 339 = .ok (.lload 8, 2) := by decide +kernel
theorem dX0_runs_341 : decode cX0_runs 341 = .ok (.ldiv, 1) := by decide +kernel
theorem dX0_runs_342 : decode cX0_runs 342 = .ok (.lstore 10, 2) := by decide +kernel
theorem dX0_runs_344 : decode cX0_runs 344 = .ok (.goto 54, 3) := by decide +kernel
theorem dX0_runs_347 : decode cX0_runs 347 = .ok (.lload 10, 2) := by decide +kernel
theorem dX0_runs_349 : decode cX0_runs 349 = .ok (.lload 8, 2) := by decide +kernel
theorem dX0_runs_351 : decode cX0_runs 351 = .ok (.lcmp, 1) := by decide +kernel
theorem dX0_runs_352 : decode cX0_runs 352 = .ok (.ifCond .ge 7, 3) := by decide +kernel
theorem dX0_runs_355 : decode cX0_runs 355 = .ok (.lconst 1, 1) := by decide +kernel
theorem dX0_runs_356 : decode cX0_runs 356 = .ok (.goto 4, 3) := by decide +kernel
theorem dX0_runs_359 : decode cX0_runs 359 = .ok (.lconst 0, 1) := by decide +kernel
theorem dX0_runs_360 : decode cX0_runs 360 = .ok (.lstore 10, 2) := by decide +kernel
theorem dX0_runs_362 : decode cX0_runs 362 = .ok (.goto 36, 3) := by decide +kernel
theorem dX0_runs_365 : decode cX0_runs 365 = .ok (.lload 10, 2) := by decide +kernel
theorem dX0_runs_367 : decode cX0_runs 367 = .ok (.lload 8, 2) := by decide +kernel
theorem dX0_runs_369 : decode cX0_runs 369 = .ok (.lcmp, 1) := by decide +kernel
theorem dX0_runs_370 : decode cX0_runs 370 = .ok (.ifCond .le 7, 3) := by decide +kernel
theorem dX0_runs_373 : decode cX0_runs 373 = .ok (.lconst 1, 1) := by decide +kernel
theorem dX0_runs_374 : decode cX0_runs 374 = .ok (.goto 4, 3) := by decide +kernel
theorem dX0_runs_377 : decode cX0_runs 377 = .ok (.lconst 0, 1) := by decide +kernel
theorem dX0_runs_378 : decode cX0_runs 378 = .ok (.lstore 10, 2) := by decide +kernel
theorem dX0_runs_380 : decode cX0_runs 380 = .ok (.goto 18, 3) := by decide +kernel
theorem dX0_runs_383 : decode cX0_runs 383 = .ok (.lload 10, 2) := by decide +kernel
theorem dX0_runs_385 : decode cX0_runs 385 = .ok (.lload 8, 2) := by decide +kernel
theorem dX0_runs_387 : decode cX0_runs 387 = .ok (.lcmp, 1) := by decide +kernel
theorem dX0_runs_388 : decode cX0_runs 388 = .ok (.ifCond .ne 7, 3) := by decide +kernel
theorem dX0_runs_391 : decode cX0_runs 391 = .ok (.lconst 1, 1) := by decide +kernel
theorem dX0_runs_392 : decode cX0_runs 392 = .ok (.goto 4, 3) := by decide +kernel
theorem dX0_runs_395 : decode cX0_runs 395 = .ok (.lconst 0, 1) := by decide +kernel
theorem dX0_runs_396 : decode cX0_runs 396 = .ok (.lstore 10, 2) := by decide +kernel
theorem dX0_runs_398 : decode cX0_runs 398 = .ok (.lload 10, 2) := by decide +kernel
theorem dX0_runs_400 : decode cX0_runs 400 = .ok (.ldc2_w 72, 3) := by decide +kernel
theorem dX0_runs_403 : decode cX0_runs 403 = .ok (.lcmp, 1) := by decide +kernel
theorem dX0_runs_404 : decode cX0_runs 404 = .ok (.ifCond .gt 12, 3) := by decide +kernel
theorem dX0_runs_407 : decode cX0_runs 407 = .ok (.lload 10, 2) := by decide +kernel
theorem dX0_runs_409 : decode cX0_runs 409 = .ok (.ldc2_w 74, 3) := by decide +kernel
theorem dX0_runs_412 : decode cX0_runs 412 = .ok (.lcmp, 1) := by decide +kernel
theorem dX0_runs_413 : decode cX0_runs 413 = .ok (.ifCond .ge 5, 3) := by decide +kernel
theorem dX0_runs_416 : decode cX0_runs 416 = .ok (.iconst 0, 1) := by decide +kernel
theorem dX0_runs_417 : decode cX0_runs 417 = .ok (.ireturn, 1) := by decide +kernel
theorem dX0_runs_418 : decode cX0_runs 418 = .ok (.aload_n 0, 1) := by decide +kernel
theorem dX0_runs_419 : decode cX0_runs 419 = .ok (.getfield 15, 3) := by decide +kernel
theorem dX0_runs_422 : decode cX0_runs 422 = .ok (.iload 4, 2) := by decide +kernel
theorem dX0_runs_424 : decode cX0_runs 424 = .ok (.iconst 1, 1) := by decide +kernel
theorem dX0_runs_425 : decode cX0_runs 425 = .ok (.isub, 1) := by decide +kernel
theorem dX0_runs_426 : decode cX0_runs 426 = .ok (.lload 10, 2) := by decide +kernel
theorem dX0_runs_428 : decode cX0_runs 428 = .ok (.lastore, 1) := by decide +kernel
theorem dX0_runs_429 : decode cX0_runs 429 = .ok (.goto 5, 3) := by decide +kernel
theorem dX0_runs_432 : decode cX0_runs 432 = .ok (.iconst 0, 1) := by decide +kernel
theorem dX0_runs_433 : decode cX0_runs 433 = .ok (.ireturn, 1) := by decide +kernel
theorem dX0_runs_434 : decode cX0_runs 434 = .ok (.iinc 5 1, 3) := by decide +kernel
theorem dX0_runs_437 : decode cX0_runs 437 = .ok (.goto (-431), 3) := by decide +kernel
theorem dX0_runs_440 : decode cX0_runs 440 = .ok (.aload_n 0, 1) := by decide +kernel
theorem dX0_runs_441 : decode cX0_runs 441 = .ok (.iload 4, 2) := by decide +kernel
theorem dX0_runs_443 : decode cX0_runs 443 = .ok (.ifCond .le 16, 3) := by decide +kernel
theorem dX0_runs_446 : decode cX0_runs 446 = .ok (.aload_n 0, 1) := by decide +kernel
theorem dX0_runs_447 : decode cX0_runs 447 = .ok (.getfield 15, 3) := by decide +kernel
theorem dX0_runs_450 : decode cX0_runs 450 = .ok (.iload 4, 2) := by decide +kernel
theorem dX0_runs_452 : decode cX0_runs 452 = .ok (.iconst 1, 1) := by decide +kernel
theorem dX0_runs_453 : decode cX0_runs 453 = .ok (.isub, 1) := by decide +kernel
theorem dX0_runs_454 : decode cX0_runs 454 = .ok (.laload, 1) := by decide +kernel
theorem dX0_runs_455 : decode cX0_runs 455 = .ok (.l2i, 1) := by decide +kernel
theorem dX0_runs_456 : decode cX0_runs 456 = .ok (.goto 4, 3) := by decide +kernel
theorem dX0_runs_459 : decode cX0_runs 459 = .ok (.iconst 1, 1) := by decide +kernel
theorem dX0_runs_460 : decode cX0_runs 460 = .ok (.putfield 31, 3) := by decide +kernel
theorem dX0_runs_463 : decode cX0_runs 463 = .ok (.iconst 1, 1) := by decide +kernel
theorem dX0_runs_464 : decode cX0_runs 464 = .ok (.ireturn, 1) := by decide +kernel
set_option maxRecDepth 20000 in
theorem s_X0_runs {w : Wd} {d : Nat} {P : Int → IM → LM → Prop} {i : IM} {l : LM} (p1 : Int) (p2 : Int) {cd : Nat} (hcd : CodeAt w cd) (h : gI w d X_X0_runs P i l 6 [(0, vR (some 41)), (1, vR (some cd)), (3, vI p2), (4, vI 0), (5, vI p1)] []) : gI w d X_X0_runs P i l 0 [(0, vR (some 41)), (1, vR (some cd)), (2, vI p1), (3, vI p2)] [] := by
  refine g_iconst (pc' := 1) dX0_runs_0 rfl ?_
  refine g_istore (pc' := 3) (L' := [(4, vI 0), (0, vR (some 41)), (1, vR (some cd)), (2, vI p1), (3, vI p2)]) dX0_runs_1 rfl (Nat.le_of_ble_eq_true rfl) rfl ?_
  refine g_iload_n (pc' := 4) 3 dX0_runs_3 rfl rfl ?_
  refine g_istore (pc' := 6) (L' := [(5, vI p1), (4, vI 0), (0, vR (some 41)), (1, vR (some cd)), (2, vI p1), (3, vI p2)]) dX0_runs_4 rfl (Nat.le_of_ble_eq_true rfl) rfl ?_
  refine g_sub (L' := [(0, vR (some 41)), (1, vR (some cd)), (3, vI p2), (4, vI 0), (5, vI p1)]) [2, 3, 5, 1, 0] rfl ?_
  exact h
theorem e_X0_runs {w : Wd} {d : Nat} {P : Int → IM → LM → Prop} {i : IM} {l : LM} {p1 : Int} {p2 : Int} {cd : Nat} (h : gI w d X_X0_runs P i l 0 [(0, vR (some 41)), (1, vR (some cd)), (2, vI p1), (3, vI p2)] []) : cI w (d + 1) X_X0_runs [vR (some 41), vR (some cd), vI p1, vI p2] i l P := CI_of (by decide +kernel) (Nat.le_of_ble_eq_true rfl) h
set_option maxRecDepth 20000 in
theorem s_X0_runs_6 {w : Wd} {d : Nat} {P : Int → IM → LM → Prop} {i : IM} {l : LM} (x3 : Int) (x4 : Int) (x5 : Int) {cd : Nat} (hcd : CodeAt w cd) (h : ((rg x5) ∧ (rg x3) ∧ (¬ (x3 ≤ x5) → rg ((w.2.2.1 cd : Nat) : Int)) ∧ (((x3 ≤ x5) ∨ (((w.2.2.1 cd : Nat) : Int) ≤ x5)) → gI w d X_X0_runs P i l 440 [(0, vR (some 41)), (4, vI x4)] []) ∧ ((¬ ((x3 ≤ x5) ∨ (((w.2.2.1 cd : Nat) : Int) ≤ x5))) → ((0 ≤ x5 ∧ x5 < ((w.2.2.1 cd : Nat) : Int)) ∧ ((¬ (iand (i cd x5) 15 = 0) → ¬ (iand (i cd x5) 15 = 1) → (iand (i cd x5) 15 = 9) → rg x4) ∧ (((iand (i cd x5) 15 = 0) ∨ (iand (i cd x5) 15 = 1)) → gI w d X_X0_runs P i l 47 [(0, vR (some 41)), (1, vR (some cd)), (3, vI x3), (4, vI x4), (5, vI x5), (6, vI (iand (i cd x5) 15)), (7, vI (ishr (i cd x5) 4))] []) ∧ ((¬ (iand (i cd x5) 15 = 0) ∧ (¬ (iand (i cd x5) 15 = 1) ∧ (¬ (iand (i cd x5) 15 = 9) ∨ (x4 ≤ 0)))) → gI w d X_X0_runs P i l 140 [(0, vR (some 41)), (1, vR (some cd)), (3, vI x3), (4, vI x4), (5, vI x5), (6, vI (iand (i cd x5) 15)), (7, vI (ishr (i cd x5) 4))] []) ∧ ((¬ (iand (i cd x5) 15 = 0) ∧ (¬ (iand (i cd x5) 15 = 1) ∧ ((iand (i cd x5) 15 = 9) ∧ (¬ (x4 ≤ 0))))) → ((0 ≤ x4 - 1 ∧ x4 - 1 < 64) ∧ gI w d X_X0_runs P i (u2l l 43 (x4 - 1) (1 - (l 43 (x4 - 1)))) 6 [(0, vR (some 41)), (1, vR (some cd)), (3, vI x3), (4, vI x4), (5, vI (x5 + 1))] []))))))) : gI w d X_X0_runs P i l 6 [(0, vR (some 41)), (1, vR (some cd)), (3, vI x3), (4, vI x4), (5, vI x5)] [] := by
  refine g_iload (pc' := 8) 4 dX0_runs_6 rfl rfl ?_
  refine g_iload_n (pc' := 9) 2 dX0_runs_8 rfl rfl ?_
  obtain ⟨hob2, hob3, hob5, hk23, hk24⟩ := h
  have hk23g : ((x3 ≤ x5) ∨ (((w.2.2.1 cd : Nat) : Int) ≤ x5)) → gI w d X_X0_runs P i l 440 [(0, vR (some 41)), (1, vR (some cd)), (3, vI x3), (4, vI x4), (5, vI x5)] [] := by
    intro hp
    have h := hk23 hp
    refine g_sub (L' := [(0, vR (some 41)), (4, vI x4)]) [0, 3] rfl ?_
    exact h
  have hk24g : (¬ ((x3 ≤ x5) ∨ (((w.2.2.1 cd : Nat) : Int) ≤ x5))) → gI w d X_X0_runs P i l 19 [(0, vR (some 41)), (1, vR (some cd)), (3, vI x3), (4, vI x4), (5, vI x5)] [] := by
    intro hp
    have h := hk24 hp
    obtain ⟨ob9, h⟩ := h
    refine g_aload_n (pc' := 20) 1 dX0_runs_19 rfl rfl ?_
    refine g_iload (pc' := 22) 4 dX0_runs_20 rfl rfl ?_
    refine g_iald (pc' := 23) (N := ((w.2.2.1 cd : Nat) : Int)) hcd.1 rfl hcd.2 ob9 dX0_runs_22 rfl (fun rg10 => ?_)
    refine g_bipush (pc' := 25) dX0_runs_23 rfl rfl ?_
    refine g_iand (pc' := 26) dX0_runs_25 rfl ?_
    refine g_istore (pc' := 28) (L' := [(6, vI (iand (i cd x5) 15)), (0, vR (some 41)), (1, vR (some cd)), (3, vI x3), (4, vI x4), (5, vI x5)]) dX0_runs_26 rfl (Nat.le_of_ble_eq_true rfl) rfl ?_
    refine g_aload_n (pc' := 29) 2 dX0_runs_28 rfl rfl ?_
    refine g_iload (pc' := 31) 5 dX0_runs_29 rfl rfl ?_
    refine g_iald (pc' := 32) (N := ((w.2.2.1 cd : Nat) : Int)) hcd.1 rfl hcd.2 ob9 dX0_runs_31 rfl (fun rg11 => ?_)
    refine g_iconst (pc' := 33) dX0_runs_32 rfl ?_
    refine g_ishr (pc' := 34) dX0_runs_33 rfl ?_
    refine g_istore (pc' := 36) (L' := [(7, vI (ishr (i cd x5) 4)), (6, vI (iand (i cd x5) 15)), (0, vR (some 41)), (1, vR (some cd)), (3, vI x3), (4, vI x4), (5, vI x5)]) dX0_runs_34 rfl (Nat.le_of_ble_eq_true rfl) rfl ?_
    refine g_iload (pc' := 38) 1 dX0_runs_36 rfl rfl ?_
    obtain ⟨hob16, hk20, hk21, hk22⟩ := h
    have hk20g : ((iand (i cd x5) 15 = 0) ∨ (iand (i cd x5) 15 = 1)) → gI w d X_X0_runs P i l 47 [(7, vI (ishr (i cd x5) 4)), (6, vI (iand (i cd x5) 15)), (0, vR (some 41)), (1, vR (some cd)), (3, vI x3), (4, vI x4), (5, vI x5)] [] := by
      intro hp
      have h := hk20 hp
      refine g_sub (L' := [(0, vR (some 41)), (1, vR (some cd)), (3, vI x3), (4, vI x4), (5, vI x5), (6, vI (iand (i cd x5) 15)), (7, vI (ishr (i cd x5) 4))]) [2, 3, 4, 5, 6, 1, 0] rfl ?_
      exact h
    have hk21g : (¬ (iand (i cd x5) 15 = 0) ∧ (¬ (iand (i cd x5) 15 = 1) ∧ (¬ (iand (i cd x5) 15 = 9) ∨ (x4 ≤ 0)))) → gI w d X_X0_runs P i l 140 [(7, vI (ishr (i cd x5) 4)), (6, vI (iand (i cd x5) 15)), (0, vR (some 41)), (1, vR (some cd)), (3, vI x3), (4, vI x4), (5, vI x5)] [] := by
      intro hp
      have h := hk21 hp
      refine g_sub (L' := [(0, vR (some 41)), (1, vR (some cd)), (3, vI x3), (4, vI x4), (5, vI x5), (6, vI (iand (i cd x5) 15)), (7, vI (ishr (i cd x5) 4))]) [2, 3, 4, 5, 6, 1, 0] rfl ?_
      exact h
    have hk22g : (¬ (iand (i cd x5) 15 = 0) ∧ (¬ (iand (i cd x5) 15 = 1) ∧ ((iand (i cd x5) 15 = 9) ∧ (¬ (x4 ≤ 0))))) → gI w d X_X0_runs P i l 117 [(7, vI (ishr (i cd x5) 4)), (6, vI (iand (i cd x5) 15)), (0, vR (some 41)), (1, vR (some cd)), (3, vI x3), (4, vI x4), (5, vI x5)] [] := by
      intro hp
      have h := hk22 hp
      obtain ⟨ob19, h⟩ := h
      refine g_aload_n (pc' := 118) 2 dX0_runs_117 rfl rfl ?_
      refine g_getR (pc' := 121) (o := some 43) fl_X0_15 rfl rfl rfl dX0_runs_118 rfl ?_
      refine g_iload (pc' := 123) 5 dX0_runs_121 rfl rfl ?_
      refine g_iconst (pc' := 124) dX0_runs_123 rfl ?_
      refine g_isub (pc' := 125) dX0_runs_124 rfl ?_
      refine g_lconst (pc' := 126) (v := 1) dX0_runs_125 rfl rfl ?_
      refine g_aload_n (pc' := 127) 2 dX0_runs_126 rfl rfl ?_
      refine g_getR (pc' := 130) (o := some 43) fl_X0_15 rfl rfl rfl dX0_runs_127 rfl ?_
      refine g_iload (pc' := 132) 5 dX0_runs_130 rfl rfl ?_
      refine g_iconst (pc' := 133) dX0_runs_132 rfl ?_
      refine g_isub (pc' := 134) dX0_runs_133 rfl ?_
      refine g_lald (pc' := 135) (N := 64) rfl rfl (Nat.lt_of_lt_of_le (Nat.lt_succ_self _) (Nat.le_of_ble_eq_true rfl)) ob19 dX0_runs_134 rfl ?_
      refine g_lsub (pc' := 136) dX0_runs_135 rfl ?_
      refine g_last (pc' := 137) (N := 64) rfl rfl (Nat.lt_of_lt_of_le (Nat.lt_succ_self _) (Nat.le_of_ble_eq_true rfl)) ob19 dX0_runs_136 rfl ?_
      refine g_goto (tgt := 434) dX0_runs_137 rfl ?_
      refine g_iinc (pc' := 437) (L' := [(5, vI (x5 + 1)), (7, vI (ishr (i cd x5) 4)), (6, vI (iand (i cd x5) 15)), (0, vR (some 41)), (1, vR (some cd)), (3, vI x3), (4, vI x4)]) 6 dX0_runs_434 rfl (Nat.le_of_ble_eq_true rfl) rfl rfl ?_
      refine g_goto (tgt := 6) dX0_runs_437 rfl ?_
      refine g_sub (L' := [(0, vR (some 41)), (1, vR (some cd)), (3, vI x3), (4, vI x4), (5, vI (x5 + 1))]) [3, 4, 5, 6, 0] rfl ?_
      exact h
    refine g_if_eq (tgt := 47) (pc' := 41) (rg_iand _ _) Iff.rfl dX0_runs_38 rfl rfl (fun c13 => ?_) (fun c13 => ?_)
    · exact hk20g (Or.inl c13)
    · refine g_iload (pc' := 43) 1 dX0_runs_41 rfl rfl ?_
      refine g_iconst (pc' := 44) dX0_runs_43 rfl ?_
      refine g_icmp_ne (tgt := 105) (pc' := 47) (rg_iand _ _) (rg_lit rfl) Iff.rfl dX0_runs_44 rfl rfl (fun c14 => ?_) (fun c14 => ?_)
      · refine g_iload (pc' := 107) 1 dX0_runs_105 rfl rfl ?_
        refine g_bipush (pc' := 109) dX0_runs_107 rfl rfl ?_
        refine g_icmp_ne (tgt := 140) (pc' := 112) (rg_iand _ _) (rg_lit rfl) Iff.rfl dX0_runs_109 rfl rfl (fun c15 => ?_) (fun c15 => ?_)
        · exact hk21g ⟨c13, ⟨c14, (Or.inl c15)⟩⟩
        · refine g_iload (pc' := 114) 5 dX0_runs_112 rfl rfl ?_
          refine g_if_le (tgt := 140) (pc' := 117) (hob16 c13 c14 c15) Iff.rfl dX0_runs_114 rfl rfl (fun c17 => ?_) (fun c17 => ?_)
          · exact hk21g ⟨c13, ⟨c14, (Or.inr c17)⟩⟩
          · exact hk22g ⟨c13, ⟨c14, ⟨c15, c17⟩⟩⟩
      · exact hk20g (Or.inr c14)
  refine g_icmp_ge (tgt := 440) (pc' := 12) (hob2) (hob3) Iff.rfl dX0_runs_9 rfl rfl (fun c4 => ?_) (fun c4 => ?_)
  · exact hk23g (Or.inl c4)
  · refine g_iload (pc' := 14) 4 dX0_runs_12 rfl rfl ?_
    refine g_aload_n (pc' := 15) 1 dX0_runs_14 rfl rfl ?_
    refine g_alen (pc' := 16) (N := ((w.2.2.1 cd : Nat) : Int)) rfl hcd.1 (by decide) dX0_runs_15 rfl ?_
    refine g_icmp_ge (tgt := 440) (pc' := 19) (hob2) (hob5 c4) Iff.rfl dX0_runs_16 rfl rfl (fun c6 => ?_) (fun c6 => ?_)
    · exact hk23g (Or.inr c6)
    · exact hk24g (fun q => q.elim c4 c6)
set_option maxRecDepth 20000 in
theorem s_X0_runs_440 {w : Wd} {d : Nat} {P : Int → IM → LM → Prop} {i : IM} {l : LM} (x4 : Int) {cd : Nat} (hcd : CodeAt w cd) (h : ((rg x4) ∧ (¬ (x4 ≤ 0) → 0 ≤ x4 - 1 ∧ x4 - 1 < 64) ∧ P 1 (u2 i 41 3 (if (x4 ≤ 0) then 1 else l2i (l 43 (x4 - 1)))) l)) : gI w d X_X0_runs P i l 440 [(0, vR (some 41)), (4, vI x4)] [] := by
  refine g_aload_n (pc' := 441) 0 dX0_runs_440 rfl rfl ?_
  refine g_iload (pc' := 443) 1 dX0_runs_441 rfl rfl ?_
  obtain ⟨hob26, hob28, h⟩ := h
  have hJ : gI w d X_X0_runs P i l 460 [(0, vR (some 41)), (4, vI x4)] [vI (if (x4 ≤ 0) then 1 else l2i (l 43 (x4 - 1))), vR (some 41)] := by
    refine g_putI (pc' := 463) (z := 3) rfl fp_X0_31 rfl rfl (rg_ite (rg_lit rfl) (rg_l2i _)) dX0_runs_460 rfl ?_
    refine g_iconst (pc' := 464) dX0_runs_463 rfl ?_
    exact g_retZ rfl (by decide) dX0_runs_464 h
  refine g_if_le (tgt := 459) (pc' := 446) (hob26) Iff.rfl dX0_runs_443 rfl rfl (fun c27 => ?_) (fun c27 => ?_)
  · refine g_iconst (pc' := 460) dX0_runs_459 rfl ?_
    rw [if_pos c27 (α := Int) (t := 1) (e := l2i (l 43 (x4 - 1)))] at hJ
    exact hJ
  · refine g_aload_n (pc' := 447) 0 dX0_runs_446 rfl rfl ?_
    refine g_getR (pc' := 450) (o := some 43) fl_X0_15 rfl rfl rfl dX0_runs_447 rfl ?_
    refine g_iload (pc' := 452) 1 dX0_runs_450 rfl rfl ?_
    refine g_iconst (pc' := 453) dX0_runs_452 rfl ?_
    refine g_isub (pc' := 454) dX0_runs_453 rfl ?_
    refine g_lald (pc' := 455) (N := 64) rfl rfl (Nat.lt_of_lt_of_le (Nat.lt_succ_self _) (Nat.le_of_ble_eq_true rfl)) (hob28 c27) dX0_runs_454 rfl ?_
    refine g_l2i (pc' := 456) dX0_runs_455 rfl ?_
    refine g_goto (tgt := 460) dX0_runs_456 rfl ?_
    rw [if_neg c27 (α := Int) (t := 1) (e := l2i (l 43 (x4 - 1)))] at hJ
    exact hJ
set_option maxRecDepth 20000 in
theorem s_X0_runs_47 {w : Wd} {d : Nat} {P : Int → IM → LM → Prop} {i : IM} {l : LM} (x3 : Int) (x4 : Int) (x5 : Int) (x6 : Int) (x7 : Int) {cd : Nat} (hcd : CodeAt w cd) (h : ((rg x4) ∧ (¬ (64 ≤ x4) → rg x6) ∧ (¬ (64 ≤ x4) → (x6 = 1) → rg x7) ∧ (((64 ≤ x4) ∨ ((x6 = 1) ∧ (¬ (x7 < 9)))) → P 0 i l) ∧ ((¬ ((64 ≤ x4) ∨ ((x6 = 1) ∧ (¬ (x7 < 9))))) → gI w d X_X0_runs P i l 72 [(0, vR (some 41)), (1, vR (some cd)), (3, vI x3), (4, vI x4), (5, vI x5), (6, vI x6), (7, vI x7)] []))) : gI w d X_X0_runs P i l 47 [(0, vR (some 41)), (1, vR (some cd)), (3, vI x3), (4, vI x4), (5, vI x5), (6, vI x6), (7, vI x7)] [] := by
  refine g_iload (pc' := 49) 3 dX0_runs_47 rfl rfl ?_
  refine g_aload_n (pc' := 50) 0 dX0_runs_49 rfl rfl ?_
  refine g_getR (pc' := 53) (o := some 43) fl_X0_15 rfl rfl rfl dX0_runs_50 rfl ?_
  refine g_alen (pc' := 54) (N := 64) rfl rfl (by decide) dX0_runs_53 rfl ?_
  obtain ⟨hob30, hob32, hob34, hk36, hk37⟩ := h
  have hk36g : ((64 ≤ x4) ∨ ((x6 = 1) ∧ (¬ (x7 < 9)))) → gI w d X_X0_runs P i l 70 [(0, vR (some 41)), (1, vR (some cd)), (3, vI x3), (4, vI x4), (5, vI x5), (6, vI x6), (7, vI x7)] [] := by
    intro hp
    have h := hk36 hp
    refine g_iconst (pc' := 71) dX0_runs_70 rfl ?_
    exact g_retZ rfl (by decide) dX0_runs_71 h
  have hk37g : (¬ ((64 ≤ x4) ∨ ((x6 = 1) ∧ (¬ (x7 < 9))))) → gI w d X_X0_runs P i l 72 [(0, vR (some 41)), (1, vR (some cd)), (3, vI x3), (4, vI x4), (5, vI x5), (6, vI x6), (7, vI x7)] [] := by
    intro hp
    have h := hk37 hp
    exact h
  refine g_icmp_ge (tgt := 70) (pc' := 57) (hob30) (rg_lit rfl) Iff.rfl dX0_runs_54 rfl rfl (fun c31 => ?_) (fun c31 => ?_)
  · exact hk36g (Or.inl c31)
  · refine g_iload (pc' := 59) 5 dX0_runs_57 rfl rfl ?_
    refine g_iconst (pc' := 60) dX0_runs_59 rfl ?_
    refine g_icmp_ne (tgt := 72) (pc' := 63) (hob32 c31) (rg_lit rfl) Iff.rfl dX0_runs_60 rfl rfl (fun c33 => ?_) (fun c33 => ?_)
    · exact hk37g (fun q => q.elim c31 (fun q => c33 q.1))
    · refine g_iload (pc' := 65) 6 dX0_runs_63 rfl rfl ?_
      refine g_bipush (pc' := 67) dX0_runs_65 rfl rfl ?_
      refine g_icmp_lt (tgt := 72) (pc' := 70) (hob34 c31 c33) (rg_lit rfl) Iff.rfl dX0_runs_67 rfl rfl (fun c35 => ?_) (fun c35 => ?_)
      · exact hk37g (fun q => q.elim c31 (fun q => (fun q => q c35) q.2))
      · exact hk36g (Or.inr ⟨c33, c35⟩)
set_option maxRecDepth 20000 in
theorem s_X0_runs_140 {w : Wd} {d : Nat} {P : Int → IM → LM → Prop} {i : IM} {l : LM} (x3 : Int) (x4 : Int) (x5 : Int) (x6 : Int) (x7 : Int) {cd : Nat} (hcd : CodeAt w cd) (h : ((rg x6) ∧ (¬ (x6 < 10) → rg x4) ∧ (((x6 < 10) ∨ (x4 ≤ 0)) → gI w d X_X0_runs P i l 213 [(0, vR (some 41)), (1, vR (some cd)), (3, vI x3), (4, vI x4), (5, vI x5), (6, vI x6)] []) ∧ ((¬ ((x6 < 10) ∨ (x4 ≤ 0))) → ((0 ≤ x4 - 1 ∧ x4 - 1 < 64) ∧ ((rg x6) ∧ (((bI (¬ (l 43 (x4 - 1) = 0)) = bI (x6 = 10)) → ((rg x7) ∧ (rg x5) ∧ gI w d X_X0_runs P i l 6 [(0, vR (some 41)), (1, vR (some cd)), (3, vI x3), (4, vI x4), (5, vI ((if (x7 ≤ x5) then x5 else x7 - 1) + 1))] [])) ∧ ((¬ (bI (¬ (l 43 (x4 - 1) = 0)) = bI (x6 = 10))) → gI w d X_X0_runs P i l 6 [(0, vR (some 41)), (1, vR (some cd)), (3, vI x3), (4, vI (x4 + (-1))), (5, vI (x5 + 1))] []))))))) : gI w d X_X0_runs P i l 140 [(0, vR (some 41)), (1, vR (some cd)), (3, vI x3), (4, vI x4), (5, vI x5), (6, vI x6), (7, vI x7)] [] := by
  refine g_iload (pc' := 142) 5 dX0_runs_140 rfl rfl ?_
  refine g_bipush (pc' := 144) dX0_runs_142 rfl rfl ?_
  obtain ⟨hob57, hob59, hk92, hk93⟩ := h
  have hk92g : ((x6 < 10) ∨ (x4 ≤ 0)) → gI w d X_X0_runs P i l 213 [(0, vR (some 41)), (1, vR (some cd)), (3, vI x3), (4, vI x4), (5, vI x5), (6, vI x6), (7, vI x7)] [] := by
    intro hp
    have h := hk92 hp
    refine g_sub (L' := [(0, vR (some 41)), (1, vR (some cd)), (3, vI x3), (4, vI x4), (5, vI x5), (6, vI x6)]) [0, 1, 2, 3, 4, 5] rfl ?_
    exact h
  have hk93g : (¬ ((x6 < 10) ∨ (x4 ≤ 0))) → gI w d X_X0_runs P i l 152 [(0, vR (some 41)), (1, vR (some cd)), (3, vI x3), (4, vI x4), (5, vI x5), (6, vI x6), (7, vI x7)] [] := by
    intro hp
    have h := hk93 hp
    obtain ⟨ob62, h⟩ := h
    refine g_aload_n (pc' := 153) 0 dX0_runs_152 rfl rfl ?_
    refine g_getR (pc' := 156) (o := some 43) fl_X0_15 rfl rfl rfl dX0_runs_153 rfl ?_
    refine g_iload (pc' := 158) 3 dX0_runs_156 rfl rfl ?_
    refine g_iconst (pc' := 159) dX0_runs_158 rfl ?_
    refine g_isub (pc' := 160) dX0_runs_159 rfl ?_
    refine g_lald (pc' := 161) (N := 64) rfl rfl (Nat.lt_of_lt_of_le (Nat.lt_succ_self _) (Nat.le_of_ble_eq_true rfl)) ob62 dX0_runs_160 rfl ?_
    refine g_lconst (pc' := 162) (v := 0) dX0_runs_161 rfl rfl ?_
    refine g_lcmp (pc' := 163) dX0_runs_162 rfl ?_
    have hJ : gI w d X_X0_runs P i l 171 [(0, vR (some 41)), (1, vR (some cd)), (3, vI x3), (4, vI x4), (5, vI x5), (6, vI x6), (7, vI x7)] [vI (bI (¬ (l 43 (x4 - 1) = 0)))] := by
      refine g_iload (pc' := 173) 5 dX0_runs_171 rfl rfl ?_
      refine g_bipush (pc' := 175) dX0_runs_173 rfl rfl ?_
      obtain ⟨hob66, h⟩ := h
      have hJ : gI w d X_X0_runs P i l 183 [(0, vR (some 41)), (1, vR (some cd)), (3, vI x3), (4, vI x4), (5, vI x5), (6, vI x6), (7, vI x7)] [vI (bI (x6 = 10)), vI (bI (¬ (l 43 (x4 - 1) = 0)))] := by
        obtain ⟨hk90, hk91⟩ := h
        refine g_icmp_ne (tgt := 207) (pc' := 186) (rg_bI _) (rg_bI _) Iff.rfl dX0_runs_183 rfl rfl (fun c85 => ?_) (fun c85 => ?_)
        · have h := hk91 c85
          refine g_iinc (pc' := 210) (L' := [(4, vI (x4 + (-1))), (0, vR (some 41)), (1, vR (some cd)), (3, vI x3), (5, vI x5), (6, vI x6), (7, vI x7)]) 3 dX0_runs_207 rfl (Nat.le_of_ble_eq_true rfl) rfl rfl ?_
          refine g_goto (tgt := 434) dX0_runs_210 rfl ?_
          refine g_iinc (pc' := 437) (L' := [(5, vI (x5 + 1)), (4, vI (x4 + (-1))), (0, vR (some 41)), (1, vR (some cd)), (3, vI x3), (6, vI x6), (7, vI x7)]) 4 dX0_runs_434 rfl (Nat.le_of_ble_eq_true rfl) rfl rfl ?_
          refine g_goto (tgt := 6) dX0_runs_437 rfl ?_
          refine g_sub (L' := [(0, vR (some 41)), (1, vR (some cd)), (3, vI x3), (4, vI (x4 + (-1))), (5, vI (x5 + 1))]) [2, 3, 4, 1, 0] rfl ?_
          exact h
        · have h := hk90 c85
          refine g_iload (pc' := 188) 6 dX0_runs_186 rfl rfl ?_
          refine g_iload (pc' := 190) 4 dX0_runs_188 rfl rfl ?_
          obtain ⟨hob87, hob88, h⟩ := h
          have hJ : gI w d X_X0_runs P i l 202 [(0, vR (some 41)), (1, vR (some cd)), (3, vI x3), (4, vI x4), (5, vI x5), (6, vI x6), (7, vI x7)] [vI (if (x7 ≤ x5) then x5 else x7 - 1)] := by
            refine g_istore (pc' := 204) (L' := [(5, vI (if (x7 ≤ x5) then x5 else x7 - 1)), (0, vR (some 41)), (1, vR (some cd)), (3, vI x3), (4, vI x4), (6, vI x6), (7, vI x7)]) dX0_runs_202 rfl (Nat.le_of_ble_eq_true rfl) rfl ?_
            refine g_goto (tgt := 434) dX0_runs_204 rfl ?_
            refine g_iinc (pc' := 437) (L' := [(5, vI ((if (x7 ≤ x5) then x5 else x7 - 1) + 1)), (0, vR (some 41)), (1, vR (some cd)), (3, vI x3), (4, vI x4), (6, vI x6), (7, vI x7)]) 0 dX0_runs_434 rfl (Nat.le_of_ble_eq_true rfl) rfl rfl ?_
            refine g_goto (tgt := 6) dX0_runs_437 rfl ?_
            refine g_sub (L' := [(0, vR (some 41)), (1, vR (some cd)), (3, vI x3), (4, vI x4), (5, vI ((if (x7 ≤ x5) then x5 else x7 - 1) + 1))]) [1, 2, 3, 4, 0] rfl ?_
            exact h
          refine g_icmp_le (tgt := 200) (pc' := 193) (hob87) (hob88) Iff.rfl dX0_runs_190 rfl rfl (fun c89 => ?_) (fun c89 => ?_)
          · refine g_iload (pc' := 202) 4 dX0_runs_200 rfl rfl ?_
            rw [if_pos c89 (α := Int) (t := x5) (e := x7 - 1)] at hJ
            exact hJ
          · refine g_iload (pc' := 195) 6 dX0_runs_193 rfl rfl ?_
            refine g_iconst (pc' := 196) dX0_runs_195 rfl ?_
            refine g_isub (pc' := 197) dX0_runs_196 rfl ?_
            refine g_goto (tgt := 202) dX0_runs_197 rfl ?_
            rw [if_neg c89 (α := Int) (t := x5) (e := x7 - 1)] at hJ
            exact hJ
      refine g_icmp_ne (tgt := 182) (pc' := 178) (hob66) (rg_lit rfl) Iff.rfl dX0_runs_175 rfl rfl (fun c67 => ?_) (fun c67 => ?_)
      · refine g_iconst (pc' := 183) dX0_runs_182 rfl ?_
        rw [bI_f (p := (x6 = 10)) c67] at hJ
        exact hJ
      · refine g_iconst (pc' := 179) dX0_runs_178 rfl ?_
        refine g_goto (tgt := 183) dX0_runs_179 rfl ?_
        rw [bI_t (p := (x6 = 10)) c67] at hJ
        exact hJ
    refine g_if_eq (tgt := 170) (pc' := 166) (rg_lcmpI _ _) (lcmpI_eq _ _) dX0_runs_163 rfl rfl (fun c64 => ?_) (fun c64 => ?_)
    · refine g_iconst (pc' := 171) dX0_runs_170 rfl ?_
      rw [bI_f (p := (¬ (l 43 (x4 - 1) = 0))) (fun q => q c64)] at hJ
      exact hJ
    · refine g_iconst (pc' := 167) dX0_runs_166 rfl ?_
      refine g_goto (tgt := 171) dX0_runs_167 rfl ?_
      rw [bI_t (p := (¬ (l 43 (x4 - 1) = 0))) c64] at hJ
      exact hJ
  refine g_icmp_lt (tgt := 213) (pc' := 147) (hob57) (rg_lit rfl) Iff.rfl dX0_runs_144 rfl rfl (fun c58 => ?_) (fun c58 => ?_)
  · exact hk92g (Or.inl c58)
  · refine g_iload (pc' := 149) 3 dX0_runs_147 rfl rfl ?_
    refine g_if_le (tgt := 213) (pc' := 152) (hob59 c58) Iff.rfl dX0_runs_149 rfl rfl (fun c60 => ?_) (fun c60 => ?_)
    · exact hk92g (Or.inr c60)
    · exact hk93g (fun q => q.elim c58 c60)
set_option maxRecDepth 20000 in
theorem s_X0_runs_72 {w : Wd} {d : Nat} {P : Int → IM → LM → Prop} {i : IM} {l : LM} (x3 : Int) (x4 : Int) (x5 : Int) (x6 : Int) (x7 : Int) {cd : Nat} (hcd : CodeAt w cd) (h : ((rg x6) ∧ ((x6 = 1) → 0 ≤ x7 ∧ x7 < 9) ∧ ((0 ≤ x4 ∧ x4 < 64) ∧ gI w d X_X0_runs P i (u2l l 43 x4 (if (x6 = 1) then i2l (i 42 x7) else i2l x7)) 6 [(0, vR (some 41)), (1, vR (some cd)), (3, vI x3), (4, vI (x4 + 1)), (5, vI (x5 + 1))] []))) : gI w d X_X0_runs P i l 72 [(0, vR (some 41)), (1, vR (some cd)), (3, vI x3), (4, vI x4), (5, vI x5), (6, vI x6), (7, vI x7)] [] := by
  refine g_aload_n (pc' := 73) 0 dX0_runs_72 rfl rfl ?_
  refine g_getR (pc' := 76) (o := some 43) fl_X0_15 rfl rfl rfl dX0_runs_73 rfl ?_
  refine g_iload (pc' := 78) 3 dX0_runs_76 rfl rfl ?_
  refine g_iload (pc' := 80) 5 dX0_runs_78 rfl rfl ?_
  refine g_iconst (pc' := 81) dX0_runs_80 rfl ?_
  obtain ⟨hob95, hob97, h⟩ := h
  have hJ : gI w d X_X0_runs P i l 98 [(0, vR (some 41)), (1, vR (some cd)), (3, vI x3), (4, vI x4), (5, vI x5), (6, vI x6), (7, vI x7)] [vL (if (x6 = 1) then i2l (i 42 x7) else i2l x7), vI x4, vR (some 43)] := by
    obtain ⟨ob99, h⟩ := h
    refine g_last (pc' := 99) (N := 64) rfl rfl (Nat.lt_of_lt_of_le (Nat.lt_succ_self _) (Nat.le_of_ble_eq_true rfl)) ob99 dX0_runs_98 rfl ?_
    refine g_iinc (pc' := 102) (L' := [(4, vI (x4 + 1)), (0, vR (some 41)), (1, vR (some cd)), (3, vI x3), (5, vI x5), (6, vI x6), (7, vI x7)]) 3 dX0_runs_99 rfl (Nat.le_of_ble_eq_true rfl) rfl rfl ?_
    refine g_goto (tgt := 434) dX0_runs_102 rfl ?_
    refine g_iinc (pc' := 437) (L' := [(5, vI (x5 + 1)), (4, vI (x4 + 1)), (0, vR (some 41)), (1, vR (some cd)), (3, vI x3), (6, vI x6), (7, vI x7)]) 4 dX0_runs_434 rfl (Nat.le_of_ble_eq_true rfl) rfl rfl ?_
    refine g_goto (tgt := 6) dX0_runs_437 rfl ?_
    refine g_sub (L' := [(0, vR (some 41)), (1, vR (some cd)), (3, vI x3), (4, vI (x4 + 1)), (5, vI (x5 + 1))]) [2, 3, 4, 1, 0] rfl ?_
    exact h
  refine g_icmp_ne (tgt := 95) (pc' := 84) (hob95) (rg_lit rfl) Iff.rfl dX0_runs_81 rfl rfl (fun c96 => ?_) (fun c96 => ?_)
  · refine g_iload (pc' := 97) 6 dX0_runs_95 rfl rfl ?_
    refine g_i2l (pc' := 98) dX0_runs_97 rfl ?_
    rw [if_neg c96 (α := Int64) (t := i2l (i 42 x7)) (e := i2l x7)] at hJ
    exact hJ
  · refine g_aload_n (pc' := 85) 0 dX0_runs_84 rfl rfl ?_
    refine g_getR (pc' := 88) (o := some 42) fl_X0_9 rfl rfl rfl dX0_runs_85 rfl ?_
    refine g_iload (pc' := 90) 6 dX0_runs_88 rfl rfl ?_
    refine g_iald (pc' := 91) (N := 9) rfl rfl (Nat.lt_of_lt_of_le (Nat.lt_succ_self _) (Nat.le_of_ble_eq_true rfl)) (hob97 c96) dX0_runs_90 rfl (fun rg98 => ?_)
    refine g_i2l (pc' := 92) dX0_runs_91 rfl ?_
    refine g_goto (tgt := 98) dX0_runs_92 rfl ?_
    rw [if_pos c96 (α := Int64) (t := i2l (i 42 x7)) (e := i2l x7)] at hJ
    exact hJ
set_option maxRecDepth 20000 in
theorem s_X0_runs_213 {w : Wd} {d : Nat} {P : Int → IM → LM → Prop} {i : IM} {l : LM} (x3 : Int) (x4 : Int) (x5 : Int) (x6 : Int) {cd : Nat} (hcd : CodeAt w cd) (h : ((rg x4) ∧ ((x4 ≤ 1) → P 0 i l) ∧ ((¬ (x4 ≤ 1)) → ((0 ≤ x4 + (-1) ∧ x4 + (-1) < 64) ∧ (0 ≤ (x4 + (-1)) - 1 ∧ (x4 + (-1)) - 1 < 64) ∧ ((rg x6) ∧ (((x6 = 5) ∧ (l 43 (x4 + (-1)) = 0)) → P 0 i l) ∧ ((¬ ((x6 = 5) ∧ (l 43 (x4 + (-1)) = 0))) → gI w d X_X0_runs P i l 257 [(0, vR (some 41)), (1, vR (some cd)), (3, vI x3), (4, vI (x4 + (-1))), (5, vI x5), (6, vI x6), (8, vL (l 43 (x4 + (-1)))), (10, vL (l 43 ((x4 + (-1)) - 1)))] [])))))) : gI w d X_X0_runs P i l 213 [(0, vR (some 41)), (1, vR (some cd)), (3, vI x3), (4, vI x4), (5, vI x5), (6, vI x6)] [] := by
  refine g_iload (pc' := 215) 3 dX0_runs_213 rfl rfl ?_
  refine g_iconst (pc' := 216) dX0_runs_215 rfl ?_
  obtain ⟨hob101, hk111, hk112⟩ := h
  refine g_icmp_le (tgt := 432) (pc' := 219) (hob101) (rg_lit rfl) Iff.rfl dX0_runs_216 rfl rfl (fun c102 => ?_) (fun c102 => ?_)
  · have h := hk111 c102
    refine g_iconst (pc' := 433) dX0_runs_432 rfl ?_
    exact g_retZ rfl (by decide) dX0_runs_433 h
  · have h := hk112 c102
    obtain ⟨ob103, ob104, h⟩ := h
    refine g_iinc (pc' := 222) (L' := [(4, vI (x4 + (-1))), (0, vR (some 41)), (1, vR (some cd)), (3, vI x3), (5, vI x5), (6, vI x6)]) 3 dX0_runs_219 rfl (Nat.le_of_ble_eq_true rfl) rfl rfl ?_
    refine g_aload_n (pc' := 223) 1 dX0_runs_222 rfl rfl ?_
    refine g_getR (pc' := 226) (o := some 43) fl_X0_15 rfl rfl rfl dX0_runs_223 rfl ?_
    refine g_iload (pc' := 228) 0 dX0_runs_226 rfl rfl ?_
    refine g_lald (pc' := 229) (N := 64) rfl rfl (Nat.lt_of_lt_of_le (Nat.lt_succ_self _) (Nat.le_of_ble_eq_true rfl)) ob103 dX0_runs_228 rfl ?_
    refine g_lstore (pc' := 231) (L' := [(8, vL (l 43 (x4 + (-1)))), (4, vI (x4 + (-1))), (0, vR (some 41)), (1, vR (some cd)), (3, vI x3), (5, vI x5), (6, vI x6)]) dX0_runs_229 rfl (Nat.le_of_ble_eq_true rfl) rfl ?_
    refine g_aload_n (pc' := 232) 2 dX0_runs_231 rfl rfl ?_
    refine g_getR (pc' := 235) (o := some 43) fl_X0_15 rfl rfl rfl dX0_runs_232 rfl ?_
    refine g_iload (pc' := 237) 1 dX0_runs_235 rfl rfl ?_
    refine g_iconst (pc' := 238) dX0_runs_237 rfl ?_
    refine g_isub (pc' := 239) dX0_runs_238 rfl ?_
    refine g_lald (pc' := 240) (N := 64) rfl rfl (Nat.lt_of_lt_of_le (Nat.lt_succ_self _) (Nat.le_of_ble_eq_true rfl)) ob104 dX0_runs_239 rfl ?_
    refine g_lstore (pc' := 242) (L' := [(10, vL (l 43 ((x4 + (-1)) - 1))), (8, vL (l 43 (x4 + (-1)))), (4, vI (x4 + (-1))), (0, vR (some 41)), (1, vR (some cd)), (3, vI x3), (5, vI x5), (6, vI x6)]) dX0_runs_240 rfl (Nat.le_of_ble_eq_true rfl) rfl ?_
    refine g_iload (pc' := 244) 7 dX0_runs_242 rfl rfl ?_
    refine g_iconst (pc' := 245) dX0_runs_244 rfl ?_
    obtain ⟨hob106, hk109, hk110⟩ := h
    have hk109g : ((x6 = 5) ∧ (l 43 (x4 + (-1)) = 0)) → gI w d X_X0_runs P i l 255 [(10, vL (l 43 ((x4 + (-1)) - 1))), (8, vL (l 43 (x4 + (-1)))), (4, vI (x4 + (-1))), (0, vR (some 41)), (1, vR (some cd)), (3, vI x3), (5, vI x5), (6, vI x6)] [] := by
      intro hp
      have h := hk109 hp
      refine g_iconst (pc' := 256) dX0_runs_255 rfl ?_
      exact g_retZ rfl (by decide) dX0_runs_256 h
    have hk110g : (¬ ((x6 = 5) ∧ (l 43 (x4 + (-1)) = 0))) → gI w d X_X0_runs P i l 257 [(10, vL (l 43 ((x4 + (-1)) - 1))), (8, vL (l 43 (x4 + (-1)))), (4, vI (x4 + (-1))), (0, vR (some 41)), (1, vR (some cd)), (3, vI x3), (5, vI x5), (6, vI x6)] [] := by
      intro hp
      have h := hk110 hp
      refine g_sub (L' := [(0, vR (some 41)), (1, vR (some cd)), (3, vI x3), (4, vI (x4 + (-1))), (5, vI x5), (6, vI x6), (8, vL (l 43 (x4 + (-1)))), (10, vL (l 43 ((x4 + (-1)) - 1)))]) [3, 4, 5, 2, 6, 7, 1, 0] rfl ?_
      exact h
    refine g_icmp_ne (tgt := 257) (pc' := 248) (hob106) (rg_lit rfl) Iff.rfl dX0_runs_245 rfl rfl (fun c107 => ?_) (fun c107 => ?_)
    · exact hk110g (fun q => c107 q.1)
    · refine g_lload (pc' := 250) 1 dX0_runs_248 rfl rfl ?_
      refine g_lconst (pc' := 251) (v := 0) dX0_runs_250 rfl rfl ?_
      refine g_lcmp (pc' := 252) dX0_runs_251 rfl ?_
      refine g_if_ne (tgt := 257) (pc' := 255) (rg_lcmpI _ _) (lcmpI_eq _ _) dX0_runs_252 rfl rfl (fun c108 => ?_) (fun c108 => ?_)
      · exact hk110g (fun q => c108 q.2)
      · exact hk109g ⟨c107, c108⟩
set_option maxRecDepth 20000 in
theorem s_X0_runs_257 {w : Wd} {d : Nat} {P : Int → IM → LM → Prop} {i : IM} {l : LM} (x3 : Int) (x4 : Int) (x5 : Int) (x6 : Int) (x8 : Int64) (x10 : Int64) {cd : Nat} (hcd : CodeAt w cd) (h : ((rg x6) ∧ ((x6 < 2 ∨ 7 < x6 → gI w d X_X0_runs P i l 398 [(0, vR (some 41)), (1, vR (some cd)), (3, vI x3), (4, vI x4), (5, vI x5), (10, vL (if (x10 = x8) then 1 else 0))] []) ∧ (x6 = 2 → gI w d X_X0_runs P i l 398 [(0, vR (some 41)), (1, vR (some cd)), (3, vI x3), (4, vI x4), (5, vI x5), (10, vL (x10 + x8))] []) ∧ (x6 = 3 → gI w d X_X0_runs P i l 398 [(0, vR (some 41)), (1, vR (some cd)), (3, vI x3), (4, vI x4), (5, vI x5), (10, vL (x10 - x8))] []) ∧ (x6 = 4 → gI w d X_X0_runs P i l 398 [(0, vR (some 41)), (1, vR (some cd)), (3, vI x3), (4, vI x4), (5, vI x5), (10, vL (x10 * x8))] []) ∧ (x6 = 5 → ((¬ (x8 = 0) → ¬ (x8 : Int64) = 0) ∧ gI w d X_X0_runs P i l 398 [(0, vR (some 41)), (1, vR (some cd)), (3, vI x3), (4, vI x4), (5, vI x5), (10, vL (if (x8 = 0) then 0 else x10 / x8))] [])) ∧ (x6 = 6 → gI w d X_X0_runs P i l 398 [(0, vR (some 41)), (1, vR (some cd)), (3, vI x3), (4, vI x4), (5, vI x5), (10, vL (if (x8 ≤ x10) then 0 else 1))] []) ∧ (x6 = 7 → gI w d X_X0_runs P i l 398 [(0, vR (some 41)), (1, vR (some cd)), (3, vI x3), (4, vI x4), (5, vI x5), (10, vL (if (x10 ≤ x8) then 0 else 1))] [])))) : gI w d X_X0_runs P i l 257 [(0, vR (some 41)), (1, vR (some cd)), (3, vI x3), (4, vI x4), (5, vI x5), (6, vI x6), (8, vL x8), (10, vL x10)] [] := by
  obtain ⟨ob113, h⟩ := h
  refine g_iload (pc' := 259) 5 dX0_runs_257 rfl rfl ?_
  obtain ⟨hs116, hs117, hs118, hs119, hs123, hs126, hs129⟩ := h
  rcases sw_cases x6 2 7 with c130 | c130
  · have h := hs116 c130
    refine g_tabOut (tgt := 383) ob113 dX0_runs_259 c130 rfl ?_
    refine g_lload (pc' := 385) 7 dX0_runs_383 rfl rfl ?_
    refine g_lload (pc' := 387) 6 dX0_runs_385 rfl rfl ?_
    refine g_lcmp (pc' := 388) dX0_runs_387 rfl ?_
    have hJ : gI w d X_X0_runs P i l 396 [(0, vR (some 41)), (1, vR (some cd)), (3, vI x3), (4, vI x4), (5, vI x5), (6, vI x6), (8, vL x8), (10, vL x10)] [vL (if (x10 = x8) then 1 else 0)] := by
      refine g_lstore (pc' := 398) (L' := [(10, vL (if (x10 = x8) then 1 else 0)), (0, vR (some 41)), (1, vR (some cd)), (3, vI x3), (4, vI x4), (5, vI x5), (6, vI x6), (8, vL x8)]) dX0_runs_396 rfl (Nat.le_of_ble_eq_true rfl) rfl ?_
      refine g_sub (L' := [(0, vR (some 41)), (1, vR (some cd)), (3, vI x3), (4, vI x4), (5, vI x5), (10, vL (if (x10 = x8) then 1 else 0))]) [1, 2, 3, 4, 5, 0] rfl ?_
      exact h
    refine g_if_ne (tgt := 395) (pc' := 391) (rg_lcmpI _ _) (lcmpI_eq _ _) dX0_runs_388 rfl rfl (fun c115 => ?_) (fun c115 => ?_)
    · refine g_lconst (pc' := 396) (v := 0) dX0_runs_395 rfl rfl ?_
      rw [if_neg c115 (α := Int64) (t := 1) (e := 0)] at hJ
      exact hJ
    · refine g_lconst (pc' := 392) (v := 1) dX0_runs_391 rfl rfl ?_
      refine g_goto (tgt := 396) dX0_runs_392 rfl ?_
      rw [if_pos c115 (α := Int64) (t := 1) (e := 0)] at hJ
      exact hJ
  · have c130z : x6 = 2 ∨ x6 = 3 ∨ x6 = 4 ∨ x6 = 5 ∨ x6 = 6 ∨ x6 = 7 := by omega
    rcases c130z with c130 | c130 | c130 | c130 | c130 | c130
    · have h := hs117 c130
      refine g_tabIn (off := 37) (tgt := 296) ob113 dX0_runs_259 (by omega) (by omega) (by rw [c130]; rfl) rfl ?_
      refine g_lload (pc' := 298) 7 dX0_runs_296 rfl rfl ?_
      refine g_lload (pc' := 300) 6 dX0_runs_298 rfl rfl ?_
      refine g_ladd (pc' := 301) dX0_runs_300 rfl ?_
      refine g_lstore (pc' := 303) (L' := [(10, vL (x10 + x8)), (0, vR (some 41)), (1, vR (some cd)), (3, vI x3), (4, vI x4), (5, vI x5), (6, vI x6), (8, vL x8)]) dX0_runs_301 rfl (Nat.le_of_ble_eq_true rfl) rfl ?_
      refine g_goto (tgt := 398) dX0_runs_303 rfl ?_
      refine g_sub (L' := [(0, vR (some 41)), (1, vR (some cd)), (3, vI x3), (4, vI x4), (5, vI x5), (10, vL (x10 + x8))]) [1, 2, 3, 4, 5, 0] rfl ?_
      exact h
    · have h := hs118 c130
      refine g_tabIn (off := 47) (tgt := 306) ob113 dX0_runs_259 (by omega) (by omega) (by rw [c130]; rfl) rfl ?_
      refine g_lload (pc' := 308) 7 dX0_runs_306 rfl rfl ?_
      refine g_lload (pc' := 310) 6 dX0_runs_308 rfl rfl ?_
      refine g_lsub (pc' := 311) dX0_runs_310 rfl ?_
      refine g_lstore (pc' := 313) (L' := [(10, vL (x10 - x8)), (0, vR (some 41)), (1, vR (some cd)), (3, vI x3), (4, vI x4), (5, vI x5), (6, vI x6), (8, vL x8)]) dX0_runs_311 rfl (Nat.le_of_ble_eq_true rfl) rfl ?_
      refine g_goto (tgt := 398) dX0_runs_313 rfl ?_
      refine g_sub (L' := [(0, vR (some 41)), (1, vR (some cd)), (3, vI x3), (4, vI x4), (5, vI x5), (10, vL (x10 - x8))]) [1, 2, 3, 4, 5, 0] rfl ?_
      exact h
    · have h := hs119 c130
      refine g_tabIn (off := 57) (tgt := 316) ob113 dX0_runs_259 (by omega) (by omega) (by rw [c130]; rfl) rfl ?_
      refine g_lload (pc' := 318) 7 dX0_runs_316 rfl rfl ?_
      refine g_lload (pc' := 320) 6 dX0_runs_318 rfl rfl ?_
      refine g_lmul (pc' := 321) dX0_runs_320 rfl ?_
      refine g_lstore (pc' := 323) (L' := [(10, vL (x10 * x8)), (0, vR (some 41)), (1, vR (some cd)), (3, vI x3), (4, vI x4), (5, vI x5), (6, vI x6), (8, vL x8)]) dX0_runs_321 rfl (Nat.le_of_ble_eq_true rfl) rfl ?_
      refine g_goto (tgt := 398) dX0_runs_323 rfl ?_
      refine g_sub (L' := [(0, vR (some 41)), (1, vR (some cd)), (3, vI x3), (4, vI x4), (5, vI x5), (10, vL (x10 * x8))]) [1, 2, 3, 4, 5, 0] rfl ?_
      exact h
    · have h := hs123 c130
      refine g_tabIn (off := 67) (tgt := 326) ob113 dX0_runs_259 (by omega) (by omega) (by rw [c130]; rfl) rfl ?_
      refine g_lload (pc' := 328) 6 dX0_runs_326 rfl rfl ?_
      refine g_lconst (pc' := 329) (v := 0) dX0_runs_328 rfl rfl ?_
      refine g_lcmp (pc' := 330) dX0_runs_329 rfl ?_
      obtain ⟨hob122, h⟩ := h
      have hJ : gI w d X_X0_runs P i l 342 [(0, vR (some 41)), (1, vR (some cd)), (3, vI x3), (4, vI x4), (5, vI x5), (6, vI x6), (8, vL x8), (10, vL x10)] [vL (if (x8 = 0) then 0 else x10 / x8)] := by
        refine g_lstore (pc' := 344) (L' := [(10, vL (if (x8 = 0) then 0 else x10 / x8)), (0, vR (some 41)), (1, vR (some cd)), (3, vI x3), (4, vI x4), (5, vI x5), (6, vI x6), (8, vL x8)]) dX0_runs_342 rfl (Nat.le_of_ble_eq_true rfl) rfl ?_
        refine g_goto (tgt := 398) dX0_runs_344 rfl ?_
        refine g_sub (L' := [(0, vR (some 41)), (1, vR (some cd)), (3, vI x3), (4, vI x4), (5, vI x5), (10, vL (if (x8 = 0) then 0 else x10 / x8))]) [1, 2, 3, 4, 5, 0] rfl ?_
        exact h
      refine g_if_ne (tgt := 337) (pc' := 333) (rg_lcmpI _ _) (lcmpI_eq _ _) dX0_runs_330 rfl rfl (fun c121 => ?_) (fun c121 => ?_)
      · refine g_lload (pc' := 339) 7 dX0_runs_337 rfl rfl ?_
        refine g_lload (pc' := 341) 6 dX0_runs_339 rfl rfl ?_
        refine g_ldiv (pc' := 342) dX0_runs_341 rfl (hob122 c121) ?_
        rw [if_neg c121 (α := Int64) (t := 0) (e := x10 / x8)] at hJ
        exact hJ
      · refine g_lconst (pc' := 334) (v := 0) dX0_runs_333 rfl rfl ?_
        refine g_goto (tgt := 342) dX0_runs_334 rfl ?_
        rw [if_pos c121 (α := Int64) (t := 0) (e := x10 / x8)] at hJ
        exact hJ
    · have h := hs126 c130
      refine g_tabIn (off := 88) (tgt := 347) ob113 dX0_runs_259 (by omega) (by omega) (by rw [c130]; rfl) rfl ?_
      refine g_lload (pc' := 349) 7 dX0_runs_347 rfl rfl ?_
      refine g_lload (pc' := 351) 6 dX0_runs_349 rfl rfl ?_
      refine g_lcmp (pc' := 352) dX0_runs_351 rfl ?_
      have hJ : gI w d X_X0_runs P i l 360 [(0, vR (some 41)), (1, vR (some cd)), (3, vI x3), (4, vI x4), (5, vI x5), (6, vI x6), (8, vL x8), (10, vL x10)] [vL (if (x8 ≤ x10) then 0 else 1)] := by
        refine g_lstore (pc' := 362) (L' := [(10, vL (if (x8 ≤ x10) then 0 else 1)), (0, vR (some 41)), (1, vR (some cd)), (3, vI x3), (4, vI x4), (5, vI x5), (6, vI x6), (8, vL x8)]) dX0_runs_360 rfl (Nat.le_of_ble_eq_true rfl) rfl ?_
        refine g_goto (tgt := 398) dX0_runs_362 rfl ?_
        refine g_sub (L' := [(0, vR (some 41)), (1, vR (some cd)), (3, vI x3), (4, vI x4), (5, vI x5), (10, vL (if (x8 ≤ x10) then 0 else 1))]) [1, 2, 3, 4, 5, 0] rfl ?_
        exact h
      refine g_if_ge (tgt := 359) (pc' := 355) (rg_lcmpI _ _) (lcmpI_ge _ _) dX0_runs_352 rfl rfl (fun c125 => ?_) (fun c125 => ?_)
      · refine g_lconst (pc' := 360) (v := 0) dX0_runs_359 rfl rfl ?_
        rw [if_pos c125 (α := Int64) (t := 0) (e := 1)] at hJ
        exact hJ
      · refine g_lconst (pc' := 356) (v := 1) dX0_runs_355 rfl rfl ?_
        refine g_goto (tgt := 360) dX0_runs_356 rfl ?_
        rw [if_neg c125 (α := Int64) (t := 0) (e := 1)] at hJ
        exact hJ
    · have h := hs129 c130
      refine g_tabIn (off := 106) (tgt := 365) ob113 dX0_runs_259 (by omega) (by omega) (by rw [c130]; rfl) rfl ?_
      refine g_lload (pc' := 367) 7 dX0_runs_365 rfl rfl ?_
      refine g_lload (pc' := 369) 6 dX0_runs_367 rfl rfl ?_
      refine g_lcmp (pc' := 370) dX0_runs_369 rfl ?_
      have hJ : gI w d X_X0_runs P i l 378 [(0, vR (some 41)), (1, vR (some cd)), (3, vI x3), (4, vI x4), (5, vI x5), (6, vI x6), (8, vL x8), (10, vL x10)] [vL (if (x10 ≤ x8) then 0 else 1)] := by
        refine g_lstore (pc' := 380) (L' := [(10, vL (if (x10 ≤ x8) then 0 else 1)), (0, vR (some 41)), (1, vR (some cd)), (3, vI x3), (4, vI x4), (5, vI x5), (6, vI x6), (8, vL x8)]) dX0_runs_378 rfl (Nat.le_of_ble_eq_true rfl) rfl ?_
        refine g_goto (tgt := 398) dX0_runs_380 rfl ?_
        refine g_sub (L' := [(0, vR (some 41)), (1, vR (some cd)), (3, vI x3), (4, vI x4), (5, vI x5), (10, vL (if (x10 ≤ x8) then 0 else 1))]) [1, 2, 3, 4, 5, 0] rfl ?_
        exact h
      refine g_if_le (tgt := 377) (pc' := 373) (rg_lcmpI _ _) (lcmpI_le _ _) dX0_runs_370 rfl rfl (fun c128 => ?_) (fun c128 => ?_)
      · refine g_lconst (pc' := 378) (v := 0) dX0_runs_377 rfl rfl ?_
        rw [if_pos c128 (α := Int64) (t := 0) (e := 1)] at hJ
        exact hJ
      · refine g_lconst (pc' := 374) (v := 1) dX0_runs_373 rfl rfl ?_
        refine g_goto (tgt := 378) dX0_runs_374 rfl ?_
        rw [if_neg c128 (α := Int64) (t := 0) (e := 1)] at hJ
        exact hJ
set_option maxRecDepth 20000 in
theorem s_X0_runs_398 {w : Wd} {d : Nat} {P : Int → IM → LM → Prop} {i : IM} {l : LM} (x3 : Int) (x4 : Int) (x5 : Int) (x10 : Int64) {cd : Nat} (hcd : CodeAt w cd) (h : ((((1000000000 < x10) ∨ (¬ ((-1000000000) ≤ x10))) → P 0 i l) ∧ ((¬ ((1000000000 < x10) ∨ (¬ ((-1000000000) ≤ x10)))) → ((0 ≤ x4 - 1 ∧ x4 - 1 < 64) ∧ gI w d X_X0_runs P i (u2l l 43 (x4 - 1) x10) 6 [(0, vR (some 41)), (1, vR (some cd)), (3, vI x3), (4, vI x4), (5, vI (x5 + 1))] [])))) : gI w d X_X0_runs P i l 398 [(0, vR (some 41)), (1, vR (some cd)), (3, vI x3), (4, vI x4), (5, vI x5), (10, vL x10)] [] := by
  refine g_lload (pc' := 400) 5 dX0_runs_398 rfl rfl ?_
  refine g_ldc2 (pc' := 403) dX0_runs_400 rfl kl_X0_72 ?_
  refine g_lcmp (pc' := 404) dX0_runs_403 rfl ?_
  obtain ⟨hk135, hk136⟩ := h
  have hk135g : ((1000000000 < x10) ∨ (¬ ((-1000000000) ≤ x10))) → gI w d X_X0_runs P i l 416 [(0, vR (some 41)), (1, vR (some cd)), (3, vI x3), (4, vI x4), (5, vI x5), (10, vL x10)] [] := by
    intro hp
    have h := hk135 hp
    refine g_iconst (pc' := 417) dX0_runs_416 rfl ?_
    exact g_retZ rfl (by decide) dX0_runs_417 h
  have hk136g : (¬ ((1000000000 < x10) ∨ (¬ ((-1000000000) ≤ x10)))) → gI w d X_X0_runs P i l 418 [(0, vR (some 41)), (1, vR (some cd)), (3, vI x3), (4, vI x4), (5, vI x5), (10, vL x10)] [] := by
    intro hp
    have h := hk136 hp
    obtain ⟨ob134, h⟩ := h
    refine g_aload_n (pc' := 419) 0 dX0_runs_418 rfl rfl ?_
    refine g_getR (pc' := 422) (o := some 43) fl_X0_15 rfl rfl rfl dX0_runs_419 rfl ?_
    refine g_iload (pc' := 424) 3 dX0_runs_422 rfl rfl ?_
    refine g_iconst (pc' := 425) dX0_runs_424 rfl ?_
    refine g_isub (pc' := 426) dX0_runs_425 rfl ?_
    refine g_lload (pc' := 428) 5 dX0_runs_426 rfl rfl ?_
    refine g_last (pc' := 429) (N := 64) rfl rfl (Nat.lt_of_lt_of_le (Nat.lt_succ_self _) (Nat.le_of_ble_eq_true rfl)) ob134 dX0_runs_428 rfl ?_
    refine g_goto (tgt := 434) dX0_runs_429 rfl ?_
    refine g_iinc (pc' := 437) (L' := [(5, vI (x5 + 1)), (0, vR (some 41)), (1, vR (some cd)), (3, vI x3), (4, vI x4), (10, vL x10)]) 4 dX0_runs_434 rfl (Nat.le_of_ble_eq_true rfl) rfl rfl ?_
    refine g_goto (tgt := 6) dX0_runs_437 rfl ?_
    refine g_sub (L' := [(0, vR (some 41)), (1, vR (some cd)), (3, vI x3), (4, vI x4), (5, vI (x5 + 1))]) [1, 2, 3, 4, 0] rfl ?_
    exact h
  refine g_if_gt (tgt := 416) (pc' := 407) (rg_lcmpI _ _) (lcmpI_gt _ _) dX0_runs_404 rfl rfl (fun c132 => ?_) (fun c132 => ?_)
  · exact hk135g (Or.inl c132)
  · refine g_lload (pc' := 409) 5 dX0_runs_407 rfl rfl ?_
    refine g_ldc2 (pc' := 412) dX0_runs_409 rfl kl_X0_74 ?_
    refine g_lcmp (pc' := 413) dX0_runs_412 rfl ?_
    refine g_if_ge (tgt := 418) (pc' := 416) (rg_lcmpI _ _) (lcmpI_ge _ _) dX0_runs_413 rfl rfl (fun c133 => ?_) (fun c133 => ?_)
    · exact hk136g (fun q => q.elim c132 (fun q => q c133))
    · exact hk135g (Or.inr c133)
