theorem dX12_paint_0 : decode cX12_paint 0 = .ok (.iload_n 1, 1) := by decide +kernel
theorem dX12_paint_1 : decode cX12_paint 1 = .ok (.invokestatic 385, 3) := by decide +kernel
theorem dX12_paint_4 : decode cX12_paint 4 = .ok (.ifCond .eq 11, 3) := by decide +kernel
theorem dX12_paint_7 : decode cX12_paint 7 = .ok (.aload_n 0, 1) := by decide +kernel
theorem dX12_paint_8 : decode cX12_paint 8 = .ok (.iload_n 2, 1) := by decide +kernel
theorem dX12_paint_9 : decode cX12_paint 9 = .ok (.invokevirtual 134, 3) := by decide +kernel
theorem dX12_paint_12 : decode cX12_paint 12 = .ok (.ifCond .ne 5, 3) := by decide +kernel
theorem dX12_paint_15 : decode cX12_paint 15 = .ok (.iconst (-1), 1) := by decide +kernel
theorem dX12_paint_16 : decode cX12_paint 16 = .ok (.ireturn, 1) := by decide +kernel
theorem dX12_paint_17 : decode cX12_paint 17 = .ok (.aload_n 0, 1) := by decide +kernel
theorem dX12_paint_18 : decode cX12_paint 18 = .ok (.iload_n 1, 1) := by decide +kernel
theorem dX12_paint_19 : decode cX12_paint 19 = .ok (.iconst (-1), 1) := by decide +kernel
theorem dX12_paint_20 : decode cX12_paint 20 = .ok (.invokevirtual 388, 3) := by decide +kernel
theorem dX12_paint_23 : decode cX12_paint 23 = .ok (.aload_n 0, 1) := by decide +kernel
theorem dX12_paint_24 : decode cX12_paint 24 = .ok (.getfield 351, 3) := by decide +kernel
theorem dX12_paint_27 : decode cX12_paint 27 = .ok (.ifCond .ne 7, 3) := by decide +kernel
theorem dX12_paint_30 : decode cX12_paint 30 = .ok (.iconst (-1), 1) := by decide +kernel
theorem dX12_paint_31 : decode cX12_paint 31 = .ok (.goto 14, 3) := by decide +kernel
theorem dX12_paint_34 : decode cX12_paint 34 = .ok (.aload_n 0, 1) := by decide +kernel
theorem dX12_paint_35 : decode cX12_paint 35 = .ok (.iload_n 2, 1) := by decide +kernel
theorem dX12_paint_36 : decode cX12_paint 36 = .ok (.aload_n 0, 1) := by decide +kernel
theorem dX12_paint_37 : decode cX12_paint 37 = .ok (.getfield 73, 3) := by decide +kernel
theorem dX12_paint_40 : decode cX12_paint 40 = .ok (.iload_n 2, 1) := by decide +kernel
theorem dX12_paint_41 : decode cX12_paint 41 = .ok (.iaload, 1) := by decide +kernel
theorem dX12_paint_42 : decode cX12_paint 42 = .ok (.invokevirtual 339, 3) := by decide +kernel
theorem dX12_paint_45 : decode cX12_paint 45 = .ok (.ireturn, 1) := by decide +kernel
set_option maxRecDepth 20000 in
theorem s_X12_paint {w : Wd} {d : Nat} {P : Int → IM → LM → Prop} {i : IM} {l : LM} (p0 : Int) (p1 : Int)  (hd : 2 ≤ d) (h : ((rg p0) ∧ (((1 ≤ p0 ∧ p0 ≤ 4095) → rg p1) ∧ ((1 ≤ p0 ∧ p0 ≤ 4095) → rg (i 101 307 - 1)) ∧ (((1 ≤ p0 ∧ p0 ≤ 4095) ∧ (0 ≤ p1 ∧ p1 < i 101 307)) → cVd w d X_X12_paints [vR (some 99), vI p0, vI (-1)] i l (fun i9 l9 => ((¬ (i9 99 35 = 0) → 0 ≤ p1 ∧ p1 < 10) ∧ ((rg (if (i9 99 35 = 0) then (-1) else mColour i9 p1 (i9 117 p1))) ∧ P (if (i9 99 35 = 0) then (-1) else mColour i9 p1 (i9 117 p1)) i9 l9)))) ∧ ((¬ ((1 ≤ p0 ∧ p0 ≤ 4095) ∧ (0 ≤ p1 ∧ p1 < i 101 307))) → P (-1) i l)))) : gI w d X_X12_paint P i l 0 [(0, vR (some 99)), (1, vI p0), (2, vI p1)] [] := by
  obtain ⟨ob1, h⟩ := h
  refine g_iload_n (pc' := 1) 1 dX12_paint_0 rfl rfl ?_
  refine g_pSI (pc' := 4) (vs := [vI p0]) (st := []) (val := bI (1 ≤ p0 ∧ p0 ≤ 4095)) (sp_X12_areMonths (le_hd hd rfl) ob1) mk_X12_areMonths ms_X12_areMonths lk_X12_385 rfl (Nat.le_of_ble_eq_true rfl) (Nat.le_of_ble_eq_true rfl) rfl dX12_paint_1 rfl z2 (fun rg2 => ?_)
  obtain ⟨hob5, hob6, hk17, hk18⟩ := h
  have hk17g : ((1 ≤ p0 ∧ p0 ≤ 4095) ∧ (0 ≤ p1 ∧ p1 < i 101 307)) → gI w d X_X12_paint P i l 17 [(0, vR (some 99)), (1, vI p0), (2, vI p1)] [] := by
    intro hp
    have h := hk17 hp
    refine g_aload_n (pc' := 18) 0 dX12_paint_17 rfl rfl ?_
    refine g_iload_n (pc' := 19) 1 dX12_paint_18 rfl rfl ?_
    refine g_iconst (pc' := 20) dX12_paint_19 rfl ?_
    refine g_cVV (pc' := 23) (vs := [vI p0, vI (-1)]) (st := []) (c := 12) h mv_X12_paints lk_X12_388 rfl rfl rfl rfl (Nat.le_of_ble_eq_true rfl) (Nat.le_of_ble_eq_true rfl) rfl dX12_paint_20 rfl z2 (fun i9 l9 h => ?_)
    refine g_aload_n (pc' := 24) 0 dX12_paint_23 rfl rfl ?_
    refine g_getI (pc' := 27) (z := 35) rfl fl_X12_351 rfl rfl dX12_paint_24 rfl (fun rg10 => ?_)
    obtain ⟨hob13, h⟩ := h
    have hJ : gI w d X_X12_paint P i9 l9 45 [(0, vR (some 99)), (1, vI p0), (2, vI p1)] [vI (if (i9 99 35 = 0) then (-1) else mColour i9 p1 (i9 117 p1))] := by
      obtain ⟨ob16, h⟩ := h
      exact g_retI rfl ob16 dX12_paint_45 h
    refine g_if_ne (tgt := 34) (pc' := 30) rg10 Iff.rfl dX12_paint_27 rfl rfl (fun c12 => ?_) (fun c12 => ?_)
    · refine g_aload_n (pc' := 35) 0 dX12_paint_34 rfl rfl ?_
      refine g_iload_n (pc' := 36) 2 dX12_paint_35 rfl rfl ?_
      refine g_aload_n (pc' := 37) 0 dX12_paint_36 rfl rfl ?_
      refine g_getR (pc' := 40) (o := some 117) fl_X12_73 rfl rfl rfl dX12_paint_37 rfl ?_
      refine g_iload_n (pc' := 41) 2 dX12_paint_40 rfl rfl ?_
      refine g_iald (pc' := 42) (N := 10) rfl rfl (Nat.lt_of_lt_of_le (Nat.lt_succ_self _) (Nat.le_of_ble_eq_true rfl)) (hob13 c12) dX12_paint_41 rfl (fun rg14 => ?_)
      refine g_pVI (pc' := 45) (vs := [vI p1, vI (i9 117 p1)]) (st := []) (val := mColour i9 p1 (i9 117 p1)) (c := 12) (sp_X12_colourOf (le_hd hd rfl) rg14 (hob13 c12)) mv_X12_colourOf lk_X12_339 rfl rfl rfl rfl (Nat.le_of_ble_eq_true rfl) (Nat.le_of_ble_eq_true rfl) rfl dX12_paint_42 rfl z2 (fun rg15 => ?_)
      rw [if_neg c12 (α := Int) (t := (-1)) (e := mColour i9 p1 (i9 117 p1))] at hJ
      exact hJ
    · refine g_iconst (pc' := 31) dX12_paint_30 rfl ?_
      refine g_goto (tgt := 45) dX12_paint_31 rfl ?_
      rw [if_pos c12 (α := Int) (t := (-1)) (e := mColour i9 p1 (i9 117 p1))] at hJ
      exact hJ
  have hk18g : (¬ ((1 ≤ p0 ∧ p0 ≤ 4095) ∧ (0 ≤ p1 ∧ p1 < i 101 307))) → gI w d X_X12_paint P i l 15 [(0, vR (some 99)), (1, vI p0), (2, vI p1)] [] := by
    intro hp
    have h := hk18 hp
    refine g_iconst (pc' := 16) dX12_paint_15 rfl ?_
    exact g_retI rfl (rg_lit rfl) dX12_paint_16 h
  refine g_if_eq (tgt := 15) (pc' := 7) rg2 (bI_eq _) dX12_paint_4 rfl rfl (fun c4 => ?_) (fun c4n => ?_)
  · exact hk18g (fun q => c4 q.1)
  · have c4 := Decidable.of_not_not c4n
    refine g_aload_n (pc' := 8) 0 dX12_paint_7 rfl rfl ?_
    refine g_iload_n (pc' := 9) 2 dX12_paint_8 rfl rfl ?_
    refine g_pVI (pc' := 12) (vs := [vI p1]) (st := []) (val := bI (0 ≤ p1 ∧ p1 < i 101 307)) (c := 12) (sp_X12_isThing (le_hd hd rfl) (hob5 c4) (hob6 c4)) mv_X12_isThing lk_X12_134 rfl rfl rfl rfl (Nat.le_of_ble_eq_true rfl) (Nat.le_of_ble_eq_true rfl) rfl dX12_paint_9 rfl z2 (fun rg7 => ?_)
    refine g_if_ne (tgt := 17) (pc' := 15) rg7 (bI_eq _) dX12_paint_12 rfl rfl (fun c8n => ?_) (fun c8 => ?_)
    · have c8 := Decidable.of_not_not c8n
      exact hk17g ⟨c4, c8⟩
    · exact hk18g (fun q => c8 q.2)
theorem e_X12_paint {w : Wd} {d : Nat} {P : Int → IM → LM → Prop} {i : IM} {l : LM} {p0 : Int} {p1 : Int}  (h : gI w d X_X12_paint P i l 0 [(0, vR (some 99)), (1, vI p0), (2, vI p1)] []) : cI w (d + 1) X_X12_paint [vR (some 99), vI p0, vI p1] i l P := CI_of (by decide +kernel) (Nat.le_of_ble_eq_true rfl) h

theorem dX12_fewest_0 : decode cX12_fewest 0 = .ok (.iload_n 1, 1) := by decide +kernel
theorem dX12_fewest_1 : decode cX12_fewest 1 = .ok (.invokestatic 385, 3) := by decide +kernel
theorem dX12_fewest_4 : decode cX12_fewest 4 = .ok (.ifCond .eq 12, 3) := by decide +kernel
theorem dX12_fewest_7 : decode cX12_fewest 7 = .ok (.iload_n 2, 1) := by decide +kernel
theorem dX12_fewest_8 : decode cX12_fewest 8 = .ok (.iconst 0, 1) := by decide +kernel
theorem dX12_fewest_9 : decode cX12_fewest 9 = .ok (.iconst 2, 1) := by decide +kernel
theorem dX12_fewest_10 : decode cX12_fewest 10 = .ok (.invokestatic 106, 3) := by decide +kernel
theorem dX12_fewest_13 : decode cX12_fewest 13 = .ok (.ifCond .ne 5, 3) := by decide +kernel
theorem dX12_fewest_16 : decode cX12_fewest 16 = .ok (.iconst (-1), 1) := by decide +kernel
theorem dX12_fewest_17 : decode cX12_fewest 17 = .ok (.ireturn, 1) := by decide +kernel
theorem dX12_fewest_18 : decode cX12_fewest 18 = .ok (.aload_n 0, 1) := by decide +kernel
theorem dX12_fewest_19 : decode cX12_fewest 19 = .ok (.iload_n 1, 1) := by decide +kernel
theorem dX12_fewest_20 : decode cX12_fewest 20 = .ok (.iconst (-1), 1) := by decide +kernel
theorem dX12_fewest_21 : decode cX12_fewest 21 = .ok (.invokevirtual 388, 3) := by decide +kernel
theorem dX12_fewest_24 : decode cX12_fewest 24 = .ok (.aload_n 0, 1) := by decide +kernel
theorem dX12_fewest_25 : decode cX12_fewest 25 = .ok (.getfield 351, 3) := by decide +kernel
theorem dX12_fewest_28 : decode cX12_fewest 28 = .ok (.ifCond .ne 7, 3) := by decide +kernel
theorem dX12_fewest_31 : decode cX12_fewest 31 = .ok (.iconst (-1), 1) := by decide +kernel
theorem dX12_fewest_32 : decode cX12_fewest 32 = .ok (.goto 30, 3) := by decide +kernel
theorem dX12_fewest_35 : decode cX12_fewest 35 = .ok (.iload_n 2, 1) := by decide +kernel
theorem dX12_fewest_36 : decode cX12_fewest 36 = .ok (.ifCond .ne 10, 3) := by decide +kernel
theorem dX12_fewest_39 : decode cX12_fewest 39 = .ok (.aload_n 0, 1) := by decide +kernel
theorem dX12_fewest_40 : decode cX12_fewest 40 = .ok (.getfield 363, 3) := by decide +kernel
theorem dX12_fewest_43 : decode cX12_fewest 43 = .ok (.goto 19, 3) := by decide +kernel
theorem dX12_fewest_46 : decode cX12_fewest 46 = .ok (.iload_n 2, 1) := by decide +kernel
theorem dX12_fewest_47 : decode cX12_fewest 47 = .ok (.iconst 1, 1) := by decide +kernel
theorem dX12_fewest_48 : decode cX12_fewest 48 = .ok (.if_icmp .ne 10, 3) := by decide +kernel
theorem dX12_fewest_51 : decode cX12_fewest 51 = .ok (.aload_n 0, 1) := by decide +kernel
theorem dX12_fewest_52 : decode cX12_fewest 52 = .ok (.getfield 366, 3) := by decide +kernel
theorem dX12_fewest_55 : decode cX12_fewest 55 = .ok (.goto 7, 3) := by decide +kernel
theorem dX12_fewest_58 : decode cX12_fewest 58 = .ok (.aload_n 0, 1) := by decide +kernel
theorem dX12_fewest_59 : decode cX12_fewest 59 = .ok (.getfield 369, 3) := by decide +kernel
theorem dX12_fewest_62 : decode cX12_fewest 62 = .ok (.ireturn, 1) := by decide +kernel
set_option maxRecDepth 20000 in
theorem s_X12_fewest {w : Wd} {d : Nat} {P : Int → IM → LM → Prop} {i : IM} {l : LM} (p0 : Int) (p1 : Int)  (hd : 2 ≤ d) (h : ((rg p0) ∧ (((1 ≤ p0 ∧ p0 ≤ 4095) → rg p1) ∧ (((1 ≤ p0 ∧ p0 ≤ 4095) ∧ (0 ≤ p1 ∧ p1 ≤ 2)) → cVd w d X_X12_paints [vR (some 99), vI p0, vI (-1)] i l (fun i8 l8 => ((¬ (i8 99 35 = 0) → rg p1) ∧ P (if (i8 99 35 = 0) then (-1) else (if (p1 = 0) then i8 99 40 else (if (p1 = 1) then i8 99 41 else i8 99 42))) i8 l8))) ∧ ((¬ ((1 ≤ p0 ∧ p0 ≤ 4095) ∧ (0 ≤ p1 ∧ p1 ≤ 2))) → P (-1) i l)))) : gI w d X_X12_fewest P i l 0 [(0, vR (some 99)), (1, vI p0), (2, vI p1)] [] := by
  obtain ⟨ob1, h⟩ := h
  refine g_iload_n (pc' := 1) 1 dX12_fewest_0 rfl rfl ?_
  refine g_pSI (pc' := 4) (vs := [vI p0]) (st := []) (val := bI (1 ≤ p0 ∧ p0 ≤ 4095)) (sp_X12_areMonths (le_hd hd rfl) ob1) mk_X12_areMonths ms_X12_areMonths lk_X12_385 rfl (Nat.le_of_ble_eq_true rfl) (Nat.le_of_ble_eq_true rfl) rfl dX12_fewest_1 rfl z2 (fun rg2 => ?_)
  obtain ⟨hob5, hk18, hk19⟩ := h
  have hk18g : ((1 ≤ p0 ∧ p0 ≤ 4095) ∧ (0 ≤ p1 ∧ p1 ≤ 2)) → gI w d X_X12_fewest P i l 18 [(0, vR (some 99)), (1, vI p0), (2, vI p1)] [] := by
    intro hp
    have h := hk18 hp
    refine g_aload_n (pc' := 19) 0 dX12_fewest_18 rfl rfl ?_
    refine g_iload_n (pc' := 20) 1 dX12_fewest_19 rfl rfl ?_
    refine g_iconst (pc' := 21) dX12_fewest_20 rfl ?_
    refine g_cVV (pc' := 24) (vs := [vI p0, vI (-1)]) (st := []) (c := 12) h mv_X12_paints lk_X12_388 rfl rfl rfl rfl (Nat.le_of_ble_eq_true rfl) (Nat.le_of_ble_eq_true rfl) rfl dX12_fewest_21 rfl z2 (fun i8 l8 h => ?_)
    refine g_aload_n (pc' := 25) 0 dX12_fewest_24 rfl rfl ?_
    refine g_getI (pc' := 28) (z := 35) rfl fl_X12_351 rfl rfl dX12_fewest_25 rfl (fun rg9 => ?_)
    refine g_rg (fun hRG10 => ?_)
    obtain ⟨hob12, h⟩ := h
    have hJ : gI w d X_X12_fewest P i8 l8 62 [(0, vR (some 99)), (1, vI p0), (2, vI p1)] [vI (if (i8 99 35 = 0) then (-1) else (if (p1 = 0) then i8 99 40 else (if (p1 = 1) then i8 99 41 else i8 99 42)))] := by
      exact g_retI rfl (rg_ite (rg_lit rfl) (rg_ite (hRG10 _ _) (rg_ite (hRG10 _ _) (hRG10 _ _)))) dX12_fewest_62 h
    refine g_if_ne (tgt := 35) (pc' := 31) rg9 Iff.rfl dX12_fewest_28 rfl rfl (fun c11 => ?_) (fun c11 => ?_)
    · refine g_iload_n (pc' := 36) 2 dX12_fewest_35 rfl rfl ?_
      refine g_if_ne (tgt := 46) (pc' := 39) (hob12 c11) Iff.rfl dX12_fewest_36 rfl rfl (fun c13 => ?_) (fun c13 => ?_)
      · refine g_iload_n (pc' := 47) 2 dX12_fewest_46 rfl rfl ?_
        refine g_iconst (pc' := 48) dX12_fewest_47 rfl ?_
        refine g_icmp_ne (tgt := 58) (pc' := 51) (hob12 c11) (rg_lit rfl) Iff.rfl dX12_fewest_48 rfl rfl (fun c14 => ?_) (fun c14 => ?_)
        · refine g_aload_n (pc' := 59) 0 dX12_fewest_58 rfl rfl ?_
          refine g_getI (pc' := 62) (z := 42) rfl fl_X12_369 rfl rfl dX12_fewest_59 rfl (fun rg15 => ?_)
          rw [if_neg c11 (α := Int) (t := (-1)) (e := (if (p1 = 0) then i8 99 40 else (if (p1 = 1) then i8 99 41 else i8 99 42))), if_neg c13 (α := Int) (t := i8 99 40) (e := (if (p1 = 1) then i8 99 41 else i8 99 42)), if_neg c14 (α := Int) (t := i8 99 41) (e := i8 99 42)] at hJ
          exact hJ
        · refine g_aload_n (pc' := 52) 0 dX12_fewest_51 rfl rfl ?_
          refine g_getI (pc' := 55) (z := 41) rfl fl_X12_366 rfl rfl dX12_fewest_52 rfl (fun rg16 => ?_)
          refine g_goto (tgt := 62) dX12_fewest_55 rfl ?_
          rw [if_neg c11 (α := Int) (t := (-1)) (e := (if (p1 = 0) then i8 99 40 else (if (p1 = 1) then i8 99 41 else i8 99 42))), if_neg c13 (α := Int) (t := i8 99 40) (e := (if (p1 = 1) then i8 99 41 else i8 99 42)), if_pos c14 (α := Int) (t := i8 99 41) (e := i8 99 42)] at hJ
          exact hJ
      · refine g_aload_n (pc' := 40) 0 dX12_fewest_39 rfl rfl ?_
        refine g_getI (pc' := 43) (z := 40) rfl fl_X12_363 rfl rfl dX12_fewest_40 rfl (fun rg17 => ?_)
        refine g_goto (tgt := 62) dX12_fewest_43 rfl ?_
        rw [if_neg c11 (α := Int) (t := (-1)) (e := (if (p1 = 0) then i8 99 40 else (if (p1 = 1) then i8 99 41 else i8 99 42))), if_pos c13 (α := Int) (t := i8 99 40) (e := (if (p1 = 1) then i8 99 41 else i8 99 42))] at hJ
        exact hJ
    · refine g_iconst (pc' := 32) dX12_fewest_31 rfl ?_
      refine g_goto (tgt := 62) dX12_fewest_32 rfl ?_
      rw [if_pos c11 (α := Int) (t := (-1)) (e := (if (p1 = 0) then i8 99 40 else (if (p1 = 1) then i8 99 41 else i8 99 42)))] at hJ
      exact hJ
  have hk19g : (¬ ((1 ≤ p0 ∧ p0 ≤ 4095) ∧ (0 ≤ p1 ∧ p1 ≤ 2))) → gI w d X_X12_fewest P i l 16 [(0, vR (some 99)), (1, vI p0), (2, vI p1)] [] := by
    intro hp
    have h := hk19 hp
    refine g_iconst (pc' := 17) dX12_fewest_16 rfl ?_
    exact g_retI rfl (rg_lit rfl) dX12_fewest_17 h
  refine g_if_eq (tgt := 16) (pc' := 7) rg2 (bI_eq _) dX12_fewest_4 rfl rfl (fun c4 => ?_) (fun c4n => ?_)
  · exact hk19g (fun q => c4 q.1)
  · have c4 := Decidable.of_not_not c4n
    refine g_iload_n (pc' := 8) 2 dX12_fewest_7 rfl rfl ?_
    refine g_iconst (pc' := 9) dX12_fewest_8 rfl ?_
    refine g_iconst (pc' := 10) dX12_fewest_9 rfl ?_
    refine g_pSI (pc' := 13) (vs := [vI p1, vI 0, vI 2]) (st := []) (val := bI (0 ≤ p1 ∧ p1 ≤ 2)) (sp_X12_lies (le_hd hd rfl) (hob5 c4) (rg_lit rfl) (rg_lit rfl)) mk_X12_lies ms_X12_lies lk_X12_106 rfl (Nat.le_of_ble_eq_true rfl) (Nat.le_of_ble_eq_true rfl) rfl dX12_fewest_10 rfl z2 (fun rg6 => ?_)
    refine g_if_ne (tgt := 18) (pc' := 16) rg6 (bI_eq _) dX12_fewest_13 rfl rfl (fun c7n => ?_) (fun c7 => ?_)
    · have c7 := Decidable.of_not_not c7n
      exact hk18g ⟨c4, c7⟩
    · exact hk19g (fun q => c7 q.2)
theorem e_X12_fewest {w : Wd} {d : Nat} {P : Int → IM → LM → Prop} {i : IM} {l : LM} {p0 : Int} {p1 : Int}  (h : gI w d X_X12_fewest P i l 0 [(0, vR (some 99)), (1, vI p0), (2, vI p1)] []) : cI w (d + 1) X_X12_fewest [vR (some 99), vI p0, vI p1] i l P := CI_of (by decide +kernel) (Nat.le_of_ble_eq_true rfl) h

theorem dX12_take_0 : decode cX12_take 0 = .ok (.iload_n 1, 1) := by decide +kernel
theorem dX12_take_1 : decode cX12_take 1 = .ok (.invokestatic 385, 3) := by decide +kernel
theorem dX12_take_4 : decode cX12_take 4 = .ok (.ifCond .ne 9, 3) := by decide +kernel
theorem dX12_take_7 : decode cX12_take 7 = .ok (.aload_n 0, 1) := by decide +kernel
theorem dX12_take_8 : decode cX12_take 8 = .ok (.iconst (-1), 1) := by decide +kernel
theorem dX12_take_9 : decode cX12_take 9 = .ok (.invokevirtual 110, 3) := by decide +kernel
theorem dX12_take_12 : decode cX12_take 12 = .ok (.ireturn, 1) := by decide +kernel
theorem dX12_take_13 : decode cX12_take 13 = .ok (.aload_n 0, 1) := by decide +kernel
theorem dX12_take_14 : decode cX12_take 14 = .ok (.iload_n 1, 1) := by decide +kernel
theorem dX12_take_15 : decode cX12_take 15 = .ok (.iconst (-1), 1) := by decide +kernel
theorem dX12_take_16 : decode cX12_take 16 = .ok (.invokevirtual 388, 3) := by decide +kernel
theorem dX12_take_19 : decode cX12_take 19 = .ok (.aload_n 0, 1) := by decide +kernel
theorem dX12_take_20 : decode cX12_take 20 = .ok (.getfield 351, 3) := by decide +kernel
theorem dX12_take_23 : decode cX12_take 23 = .ok (.ifCond .ne 10, 3) := by decide +kernel
theorem dX12_take_26 : decode cX12_take 26 = .ok (.aload_n 0, 1) := by decide +kernel
theorem dX12_take_27 : decode cX12_take 27 = .ok (.bipush (-3), 2) := by decide +kernel
theorem dX12_take_29 : decode cX12_take 29 = .ok (.invokevirtual 110, 3) := by decide +kernel
theorem dX12_take_32 : decode cX12_take 32 = .ok (.ireturn, 1) := by decide +kernel
theorem dX12_take_33 : decode cX12_take 33 = .ok (.iconst 0, 1) := by decide +kernel
theorem dX12_take_34 : decode cX12_take 34 = .ok (.istore_n 2, 1) := by decide +kernel
theorem dX12_take_35 : decode cX12_take 35 = .ok (.iconst 0, 1) := by decide +kernel
theorem dX12_take_36 : decode cX12_take 36 = .ok (.istore_n 3, 1) := by decide +kernel
theorem dX12_take_37 : decode cX12_take 37 = .ok (.iload_n 3, 1) := by decide +kernel
theorem dX12_take_38 : decode cX12_take 38 = .ok (.aload_n 0, 1) := by decide +kernel
theorem dX12_take_39 : decode cX12_take 39 = .ok (.invokevirtual 117, 3) := by decide +kernel
theorem dX12_take_42 : decode cX12_take 42 = .ok (.if_icmp .ge 50, 3) := by decide +kernel
theorem dX12_take_45 : decode cX12_take 45 = .ok (.iload_n 2, 1) := by decide +kernel
theorem dX12_take_46 : decode cX12_take 46 = .ok (.aload_n 0, 1) := by decide +kernel
theorem dX12_take_47 : decode cX12_take 47 = .ok (.getfield 73, 3) := by decide +kernel
theorem dX12_take_50 : decode cX12_take 50 = .ok (.iload_n 3, 1) := by decide +kernel
theorem dX12_take_51 : decode cX12_take 51 = .ok (.iaload, 1) := by decide +kernel
theorem dX12_take_52 : decode cX12_take 52 = .ok (.ifCond .ne 7, 3) := by decide +kernel
theorem dX12_take_55 : decode cX12_take 55 = .ok (.iconst 0, 1) := by decide +kernel
theorem dX12_take_56 : decode cX12_take 56 = .ok (.goto 4, 3) := by decide +kernel
theorem dX12_take_59 : decode cX12_take 59 = .ok (.iconst 1, 1) := by decide +kernel
theorem dX12_take_60 : decode cX12_take 60 = .ok (.iadd, 1) := by decide +kernel
theorem dX12_take_61 : decode cX12_take 61 = .ok (.istore_n 2, 1) := by decide +kernel
theorem dX12_take_62 : decode cX12_take 62 = .ok (.aload_n 0, 1) := by decide +kernel
theorem dX12_take_63 : decode cX12_take 63 = .ok (.getfield 20, 3) := by decide +kernel
theorem dX12_take_66 : decode cX12_take 66 = .ok (.iconst 0, 1) := by decide +kernel
theorem dX12_take_67 : decode cX12_take 67 = .ok (.bipush 8, 2) := by decide +kernel
theorem dX12_take_69 : decode cX12_take 69 = .ok (.iload_n 3, 1) := by decide +kernel
theorem dX12_take_70 : decode cX12_take 70 = .ok (.imul, 1) := by decide +kernel
theorem dX12_take_71 : decode cX12_take 71 = .ok (.iadd, 1) := by decide +kernel
theorem dX12_take_72 : decode cX12_take 72 = .ok (.iconst 1, 1) := by decide +kernel
theorem dX12_take_73 : decode cX12_take 73 = .ok (.iadd, 1) := by decide +kernel
theorem dX12_take_74 : decode cX12_take 74 = .ok (.aload_n 0, 1) := by decide +kernel
theorem dX12_take_75 : decode cX12_take 75 = .ok (.iload_n 3, 1) := by decide +kernel
theorem dX12_take_76 : decode cX12_take 76 = .ok (.aload_n 0, 1) := by decide +kernel
theorem dX12_take_77 : decode cX12_take 77 = .ok (.getfield 73, 3) := by decide +kernel
theorem dX12_take_80 : decode cX12_take 80 = .ok (.iload_n 3, 1) := by decide +kernel
theorem dX12_take_81 : decode cX12_take 81 = .ok (.iaload, 1) := by decide +kernel
theorem dX12_take_82 : decode cX12_take 82 = .ok (.invokevirtual 339, 3) := by decide +kernel
theorem dX12_take_85 : decode cX12_take 85 = .ok (.iastore, 1) := by decide +kernel
theorem dX12_take_86 : decode cX12_take 86 = .ok (.iinc 3 1, 3) := by decide +kernel
theorem dX12_take_89 : decode cX12_take 89 = .ok (.goto (-52), 3) := by decide +kernel
theorem dX12_take_92 : decode cX12_take 92 = .ok (.aload_n 0, 1) := by decide +kernel
theorem dX12_take_93 : decode cX12_take 93 = .ok (.iload_n 2, 1) := by decide +kernel
theorem dX12_take_94 : decode cX12_take 94 = .ok (.invokevirtual 114, 3) := by decide +kernel
theorem dX12_take_97 : decode cX12_take 97 = .ok (.ireturn, 1) := by decide +kernel
set_option maxRecDepth 20000 in
theorem s_X12_take {w : Wd} {d : Nat} {P : Int → IM → LM → Prop} {i : IM} {l : LM} (p0 : Int)  (hd : 2 ≤ d) (h : ((rg p0) ∧ (((1 ≤ p0 ∧ p0 ≤ 4095) → cVd w d X_X12_paints [vR (some 99), vI p0, vI (-1)] i l (fun i5 l5 => (((i5 99 35 = 0) → cI w d X_X12_refuses [vR (some 99), vI (-3)] i5 l5 (fun r9 i9 l9 => P r9 i9 l9)) ∧ ((¬ (i5 99 35 = 0)) → gI w d X_X12_take P i5 l5 37 [(0, vR (some 99)), (2, vI 0), (3, vI 0)] [])))) ∧ ((¬ (1 ≤ p0 ∧ p0 ≤ 4095)) → cI w d X_X12_refuses [vR (some 99), vI (-1)] i l (fun r12 i12 l12 => P r12 i12 l12))))) : gI w d X_X12_take P i l 0 [(0, vR (some 99)), (1, vI p0)] [] := by
  obtain ⟨ob1, h⟩ := h
  refine g_iload_n (pc' := 1) 1 dX12_take_0 rfl rfl ?_
  refine g_pSI (pc' := 4) (vs := [vI p0]) (st := []) (val := bI (1 ≤ p0 ∧ p0 ≤ 4095)) (sp_X12_areMonths (le_hd hd rfl) ob1) mk_X12_areMonths ms_X12_areMonths lk_X12_385 rfl (Nat.le_of_ble_eq_true rfl) (Nat.le_of_ble_eq_true rfl) rfl dX12_take_1 rfl z2 (fun rg2 => ?_)
  obtain ⟨hk13, hk14⟩ := h
  have hk13g : (1 ≤ p0 ∧ p0 ≤ 4095) → gI w d X_X12_take P i l 13 [(0, vR (some 99)), (1, vI p0)] [] := by
    intro hp
    have h := hk13 hp
    refine g_aload_n (pc' := 14) 0 dX12_take_13 rfl rfl ?_
    refine g_iload_n (pc' := 15) 1 dX12_take_14 rfl rfl ?_
    refine g_iconst (pc' := 16) dX12_take_15 rfl ?_
    refine g_cVV (pc' := 19) (vs := [vI p0, vI (-1)]) (st := []) (c := 12) h mv_X12_paints lk_X12_388 rfl rfl rfl rfl (Nat.le_of_ble_eq_true rfl) (Nat.le_of_ble_eq_true rfl) rfl dX12_take_16 rfl z2 (fun i5 l5 h => ?_)
    refine g_aload_n (pc' := 20) 0 dX12_take_19 rfl rfl ?_
    refine g_getI (pc' := 23) (z := 35) rfl fl_X12_351 rfl rfl dX12_take_20 rfl (fun rg6 => ?_)
    obtain ⟨hk10, hk11⟩ := h
    refine g_if_ne (tgt := 33) (pc' := 26) rg6 Iff.rfl dX12_take_23 rfl rfl (fun c8 => ?_) (fun c8 => ?_)
    · have h := hk11 c8
      refine g_iconst (pc' := 34) dX12_take_33 rfl ?_
      refine g_istore_n (pc' := 35) (L' := [(2, vI 0), (0, vR (some 99)), (1, vI p0)]) dX12_take_34 rfl (Nat.le_of_ble_eq_true rfl) rfl ?_
      refine g_iconst (pc' := 36) dX12_take_35 rfl ?_
      refine g_istore_n (pc' := 37) (L' := [(3, vI 0), (2, vI 0), (0, vR (some 99)), (1, vI p0)]) dX12_take_36 rfl (Nat.le_of_ble_eq_true rfl) rfl ?_
      refine g_sub (L' := [(0, vR (some 99)), (2, vI 0), (3, vI 0)]) [2, 1, 0] rfl ?_
      exact h
    · have h := hk10 c8
      refine g_aload_n (pc' := 27) 0 dX12_take_26 rfl rfl ?_
      refine g_bipush (pc' := 29) dX12_take_27 rfl rfl ?_
      refine g_cVI (pc' := 32) (vs := [vI (-3)]) (st := []) (c := 12) h mv_X12_refuses lk_X12_110 rfl rfl rfl rfl (Nat.le_of_ble_eq_true rfl) (Nat.le_of_ble_eq_true rfl) rfl dX12_take_29 rfl z2 (fun r9 i9 l9 rg9 h => ?_)
      exact g_retI rfl rg9 dX12_take_32 h
  have hk14g : (¬ (1 ≤ p0 ∧ p0 ≤ 4095)) → gI w d X_X12_take P i l 7 [(0, vR (some 99)), (1, vI p0)] [] := by
    intro hp
    have h := hk14 hp
    refine g_aload_n (pc' := 8) 0 dX12_take_7 rfl rfl ?_
    refine g_iconst (pc' := 9) dX12_take_8 rfl ?_
    refine g_cVI (pc' := 12) (vs := [vI (-1)]) (st := []) (c := 12) h mv_X12_refuses lk_X12_110 rfl rfl rfl rfl (Nat.le_of_ble_eq_true rfl) (Nat.le_of_ble_eq_true rfl) rfl dX12_take_9 rfl z2 (fun r12 i12 l12 rg12 h => ?_)
    exact g_retI rfl rg12 dX12_take_12 h
  refine g_if_ne (tgt := 13) (pc' := 7) rg2 (bI_eq _) dX12_take_4 rfl rfl (fun c4n => ?_) (fun c4 => ?_)
  · have c4 := Decidable.of_not_not c4n
    exact hk13g c4
  · exact hk14g c4
theorem e_X12_take {w : Wd} {d : Nat} {P : Int → IM → LM → Prop} {i : IM} {l : LM} {p0 : Int}  (h : gI w d X_X12_take P i l 0 [(0, vR (some 99)), (1, vI p0)] []) : cI w (d + 1) X_X12_take [vR (some 99), vI p0] i l P := CI_of (by decide +kernel) (Nat.le_of_ble_eq_true rfl) h
set_option maxRecDepth 20000 in
theorem s_X12_take_37 {w : Wd} {d : Nat} {P : Int → IM → LM → Prop} {i : IM} {l : LM} (x2 : Int) (x3 : Int)  (hd : 2 ≤ d) (h : ((rg x3) ∧ ((i 101 307 ≤ x3) → cI w d X_X12_good [vR (some 99), vI x2] i l (fun r39 i39 l39 => P r39 i39 l39)) ∧ ((¬ (i 101 307 ≤ x3)) → ((0 ≤ x3 ∧ x3 < 10) ∧ ((0 ≤ x3 ∧ x3 < 10) ∧ (0 ≤ (0 + (8 * x3)) + 1 ∧ (0 + (8 * x3)) + 1 < 5120) ∧ gI w d X_X12_take P (u2 i 101 ((0 + (8 * x3)) + 1) (mColour i x3 (i 117 x3))) l 37 [(0, vR (some 99)), (2, vI (x2 + (bI (¬ (i 117 x3 = 0))))), (3, vI (x3 + 1))] []))))) : gI w d X_X12_take P i l 37 [(0, vR (some 99)), (2, vI x2), (3, vI x3)] [] := by
  refine g_iload_n (pc' := 38) 2 dX12_take_37 rfl rfl ?_
  refine g_aload_n (pc' := 39) 0 dX12_take_38 rfl rfl ?_
  refine g_pVI (pc' := 42) (vs := []) (st := [vI x3]) (val := i 101 307) (c := 12) (sp_X12_things (le_hd hd rfl) ) mv_X12_things lk_X12_117 rfl rfl rfl rfl (Nat.le_of_ble_eq_true rfl) (Nat.le_of_ble_eq_true rfl) rfl dX12_take_39 rfl z2 (fun rg15 => ?_)
  obtain ⟨hob37, hk48, hk49⟩ := h
  refine g_icmp_ge (tgt := 92) (pc' := 45) (hob37) rg15 Iff.rfl dX12_take_42 rfl rfl (fun c38 => ?_) (fun c38 => ?_)
  · have h := hk48 c38
    refine g_aload_n (pc' := 93) 0 dX12_take_92 rfl rfl ?_
    refine g_iload_n (pc' := 94) 1 dX12_take_93 rfl rfl ?_
    refine g_cVI (pc' := 97) (vs := [vI x2]) (st := []) (c := 12) h mv_X12_good lk_X12_114 rfl rfl rfl rfl (Nat.le_of_ble_eq_true rfl) (Nat.le_of_ble_eq_true rfl) rfl dX12_take_94 rfl z2 (fun r39 i39 l39 rg39 h => ?_)
    exact g_retI rfl rg39 dX12_take_97 h
  · have h := hk49 c38
    obtain ⟨ob40, h⟩ := h
    refine g_iload_n (pc' := 46) 1 dX12_take_45 rfl rfl ?_
    refine g_aload_n (pc' := 47) 0 dX12_take_46 rfl rfl ?_
    refine g_getR (pc' := 50) (o := some 117) fl_X12_73 rfl rfl rfl dX12_take_47 rfl ?_
    refine g_iload_n (pc' := 51) 2 dX12_take_50 rfl rfl ?_
    refine g_iald (pc' := 52) (N := 10) rfl rfl (Nat.lt_of_lt_of_le (Nat.lt_succ_self _) (Nat.le_of_ble_eq_true rfl)) ob40 dX12_take_51 rfl (fun rg41 => ?_)
    have hJ : gI w d X_X12_take P i l 60 [(0, vR (some 99)), (2, vI x2), (3, vI x3)] [vI (bI (¬ (i 117 x3 = 0))), vI x2] := by
      obtain ⟨ob44, ob47, h⟩ := h
      refine g_iadd (pc' := 61) dX12_take_60 rfl ?_
      refine g_istore_n (pc' := 62) (L' := [(2, vI (x2 + (bI (¬ (i 117 x3 = 0))))), (0, vR (some 99)), (3, vI x3)]) dX12_take_61 rfl (Nat.le_of_ble_eq_true rfl) rfl ?_
      refine g_aload_n (pc' := 63) 1 dX12_take_62 rfl rfl ?_
      refine g_getR (pc' := 66) (o := some 101) fl_X12_20 rfl rfl rfl dX12_take_63 rfl ?_
      refine g_iconst (pc' := 67) dX12_take_66 rfl ?_
      refine g_bipush (pc' := 69) dX12_take_67 rfl rfl ?_
      refine g_iload_n (pc' := 70) 2 dX12_take_69 rfl rfl ?_
      refine g_imul (pc' := 71) dX12_take_70 rfl ?_
      refine g_iadd (pc' := 72) dX12_take_71 rfl ?_
      refine g_iconst (pc' := 73) dX12_take_72 rfl ?_
      refine g_iadd (pc' := 74) dX12_take_73 rfl ?_
      refine g_aload_n (pc' := 75) 1 dX12_take_74 rfl rfl ?_
      refine g_iload_n (pc' := 76) 2 dX12_take_75 rfl rfl ?_
      refine g_aload_n (pc' := 77) 1 dX12_take_76 rfl rfl ?_
      refine g_getR (pc' := 80) (o := some 117) fl_X12_73 rfl rfl rfl dX12_take_77 rfl ?_
      refine g_iload_n (pc' := 81) 2 dX12_take_80 rfl rfl ?_
      refine g_iald (pc' := 82) (N := 10) rfl rfl (Nat.lt_of_lt_of_le (Nat.lt_succ_self _) (Nat.le_of_ble_eq_true rfl)) ob44 dX12_take_81 rfl (fun rg45 => ?_)
      refine g_pVI (pc' := 85) (vs := [vI x3, vI (i 117 x3)]) (st := [vI ((0 + (8 * x3)) + 1), vR (some 101)]) (val := mColour i x3 (i 117 x3)) (c := 12) (sp_X12_colourOf (le_hd hd rfl) rg45 ob44) mv_X12_colourOf lk_X12_339 rfl rfl rfl rfl (Nat.le_of_ble_eq_true rfl) (Nat.le_of_ble_eq_true rfl) rfl dX12_take_82 rfl z2 (fun rg46 => ?_)
      refine g_iast (pc' := 86) (N := 5120) rfl rfl (Nat.lt_of_lt_of_le (Nat.lt_succ_self _) (Nat.le_of_ble_eq_true rfl)) ob47 rg46 dX12_take_85 rfl ?_
      refine g_iinc (pc' := 89) (L' := [(3, vI (x3 + 1)), (2, vI (x2 + (bI (¬ (i 117 x3 = 0))))), (0, vR (some 99))]) 2 dX12_take_86 rfl (Nat.le_of_ble_eq_true rfl) rfl rfl ?_
      refine g_goto (tgt := 37) dX12_take_89 rfl ?_
      refine g_sub (L' := [(0, vR (some 99)), (2, vI (x2 + (bI (¬ (i 117 x3 = 0))))), (3, vI (x3 + 1))]) [2, 1, 0] rfl ?_
      exact h
    refine g_if_ne (tgt := 59) (pc' := 55) rg41 Iff.rfl dX12_take_52 rfl rfl (fun c43 => ?_) (fun c43 => ?_)
    · refine g_iconst (pc' := 60) dX12_take_59 rfl ?_
      rw [bI_t (p := (¬ (i 117 x3 = 0))) c43] at hJ
      exact hJ
    · refine g_iconst (pc' := 56) dX12_take_55 rfl ?_
      refine g_goto (tgt := 60) dX12_take_56 rfl ?_
      rw [bI_f (p := (¬ (i 117 x3 = 0))) (fun q => q c43)] at hJ
      exact hJ

theorem dX12_mend_0 : decode cX12_mend 0 = .ok (.iload_n 1, 1) := by decide +kernel
theorem dX12_mend_1 : decode cX12_mend 1 = .ok (.invokestatic 385, 3) := by decide +kernel
theorem dX12_mend_4 : decode cX12_mend 4 = .ok (.ifCond .eq 16, 3) := by decide +kernel
theorem dX12_mend_7 : decode cX12_mend 7 = .ok (.iload_n 2, 1) := by decide +kernel
theorem dX12_mend_8 : decode cX12_mend 8 = .ok (.iconst (-1), 1) := by decide +kernel
theorem dX12_mend_9 : decode cX12_mend 9 = .ok (.if_icmp .eq 13, 3) := by decide +kernel
theorem dX12_mend_12 : decode cX12_mend 12 = .ok (.aload_n 0, 1) := by decide +kernel
theorem dX12_mend_13 : decode cX12_mend 13 = .ok (.iload_n 2, 1) := by decide +kernel
theorem dX12_mend_14 : decode cX12_mend 14 = .ok (.invokevirtual 134, 3) := by decide +kernel
theorem dX12_mend_17 : decode cX12_mend 17 = .ok (.ifCond .ne 5, 3) := by decide +kernel
theorem dX12_mend_20 : decode cX12_mend 20 = .ok (.iconst (-1), 1) := by decide +kernel
theorem dX12_mend_21 : decode cX12_mend 21 = .ok (.ireturn, 1) := by decide +kernel
theorem dX12_mend_22 : decode cX12_mend 22 = .ok (.aload_n 0, 1) := by decide +kernel
theorem dX12_mend_23 : decode cX12_mend 23 = .ok (.iload_n 1, 1) := by decide +kernel
theorem dX12_mend_24 : decode cX12_mend 24 = .ok (.iconst (-1), 1) := by decide +kernel
theorem dX12_mend_25 : decode cX12_mend 25 = .ok (.invokevirtual 388, 3) := by decide +kernel
theorem dX12_mend_28 : decode cX12_mend 28 = .ok (.iload_n 2, 1) := by decide +kernel
theorem dX12_mend_29 : decode cX12_mend 29 = .ok (.iconst (-1), 1) := by decide +kernel
theorem dX12_mend_30 : decode cX12_mend 30 = .ok (.if_icmp .ne 10, 3) := by decide +kernel
theorem dX12_mend_33 : decode cX12_mend 33 = .ok (.aload_n 0, 1) := by decide +kernel
theorem dX12_mend_34 : decode cX12_mend 34 = .ok (.getfield 360, 3) := by decide +kernel
theorem dX12_mend_37 : decode cX12_mend 37 = .ok (.goto 14, 3) := by decide +kernel
theorem dX12_mend_40 : decode cX12_mend 40 = .ok (.aload_n 0, 1) := by decide +kernel
theorem dX12_mend_41 : decode cX12_mend 41 = .ok (.iload_n 2, 1) := by decide +kernel
theorem dX12_mend_42 : decode cX12_mend 42 = .ok (.aload_n 0, 1) := by decide +kernel
theorem dX12_mend_43 : decode cX12_mend 43 = .ok (.getfield 76, 3) := by decide +kernel
theorem dX12_mend_46 : decode cX12_mend 46 = .ok (.iload_n 2, 1) := by decide +kernel
theorem dX12_mend_47 : decode cX12_mend 47 = .ok (.iaload, 1) := by decide +kernel
theorem dX12_mend_48 : decode cX12_mend 48 = .ok (.invokevirtual 339, 3) := by decide +kernel
theorem dX12_mend_51 : decode cX12_mend 51 = .ok (.ireturn, 1) := by decide +kernel
set_option maxRecDepth 20000 in
theorem s_X12_mend {w : Wd} {d : Nat} {P : Int → IM → LM → Prop} {i : IM} {l : LM} (p0 : Int) (p1 : Int)  (hd : 2 ≤ d) (h : ((rg p0) ∧ (((1 ≤ p0 ∧ p0 ≤ 4095) → rg p1) ∧ ((1 ≤ p0 ∧ p0 ≤ 4095) → ¬ (p1 = (-1)) → rg (i 101 307 - 1)) ∧ (((1 ≤ p0 ∧ p0 ≤ 4095) ∧ ((p1 = (-1)) ∨ (0 ≤ p1 ∧ p1 < i 101 307))) → gI w d X_X12_mend P i l 22 [(0, vR (some 99)), (1, vI p0), (2, vI p1)] []) ∧ ((¬ ((1 ≤ p0 ∧ p0 ≤ 4095) ∧ ((p1 = (-1)) ∨ (0 ≤ p1 ∧ p1 < i 101 307)))) → P (-1) i l)))) : gI w d X_X12_mend P i l 0 [(0, vR (some 99)), (1, vI p0), (2, vI p1)] [] := by
  obtain ⟨ob1, h⟩ := h
  refine g_iload_n (pc' := 1) 1 dX12_mend_0 rfl rfl ?_
  refine g_pSI (pc' := 4) (vs := [vI p0]) (st := []) (val := bI (1 ≤ p0 ∧ p0 ≤ 4095)) (sp_X12_areMonths (le_hd hd rfl) ob1) mk_X12_areMonths ms_X12_areMonths lk_X12_385 rfl (Nat.le_of_ble_eq_true rfl) (Nat.le_of_ble_eq_true rfl) rfl dX12_mend_1 rfl z2 (fun rg2 => ?_)
  obtain ⟨hob5, hob7, hk10, hk11⟩ := h
  have hk10g : ((1 ≤ p0 ∧ p0 ≤ 4095) ∧ ((p1 = (-1)) ∨ (0 ≤ p1 ∧ p1 < i 101 307))) → gI w d X_X12_mend P i l 22 [(0, vR (some 99)), (1, vI p0), (2, vI p1)] [] := by
    intro hp
    have h := hk10 hp
    exact h
  have hk11g : (¬ ((1 ≤ p0 ∧ p0 ≤ 4095) ∧ ((p1 = (-1)) ∨ (0 ≤ p1 ∧ p1 < i 101 307)))) → gI w d X_X12_mend P i l 20 [(0, vR (some 99)), (1, vI p0), (2, vI p1)] [] := by
    intro hp
    have h := hk11 hp
    refine g_iconst (pc' := 21) dX12_mend_20 rfl ?_
    exact g_retI rfl (rg_lit rfl) dX12_mend_21 h
  refine g_if_eq (tgt := 20) (pc' := 7) rg2 (bI_eq _) dX12_mend_4 rfl rfl (fun c4 => ?_) (fun c4n => ?_)
  · exact hk11g (fun q => c4 q.1)
  · have c4 := Decidable.of_not_not c4n
    refine g_iload_n (pc' := 8) 2 dX12_mend_7 rfl rfl ?_
    refine g_iconst (pc' := 9) dX12_mend_8 rfl ?_
    refine g_icmp_eq (tgt := 22) (pc' := 12) (hob5 c4) (rg_lit rfl) Iff.rfl dX12_mend_9 rfl rfl (fun c6 => ?_) (fun c6 => ?_)
    · exact hk10g ⟨c4, (Or.inl c6)⟩
    · refine g_aload_n (pc' := 13) 0 dX12_mend_12 rfl rfl ?_
      refine g_iload_n (pc' := 14) 2 dX12_mend_13 rfl rfl ?_
      refine g_pVI (pc' := 17) (vs := [vI p1]) (st := []) (val := bI (0 ≤ p1 ∧ p1 < i 101 307)) (c := 12) (sp_X12_isThing (le_hd hd rfl) (hob5 c4) (hob7 c4 c6)) mv_X12_isThing lk_X12_134 rfl rfl rfl rfl (Nat.le_of_ble_eq_true rfl) (Nat.le_of_ble_eq_true rfl) rfl dX12_mend_14 rfl z2 (fun rg8 => ?_)
      refine g_if_ne (tgt := 22) (pc' := 20) rg8 (bI_eq _) dX12_mend_17 rfl rfl (fun c9n => ?_) (fun c9 => ?_)
      · have c9 := Decidable.of_not_not c9n
        exact hk10g ⟨c4, (Or.inr c9)⟩
      · exact hk11g (fun q => (fun q => q.elim c6 c9) q.2)
theorem e_X12_mend {w : Wd} {d : Nat} {P : Int → IM → LM → Prop} {i : IM} {l : LM} {p0 : Int} {p1 : Int}  (h : gI w d X_X12_mend P i l 0 [(0, vR (some 99)), (1, vI p0), (2, vI p1)] []) : cI w (d + 1) X_X12_mend [vR (some 99), vI p0, vI p1] i l P := CI_of (by decide +kernel) (Nat.le_of_ble_eq_true rfl) h
set_option maxRecDepth 20000 in
theorem s_X12_mend_22 {w : Wd} {d : Nat} {P : Int → IM → LM → Prop} {i : IM} {l : LM} (x1 : Int) (x2 : Int)  (hd : 2 ≤ d) (h : cVd w d X_X12_paints [vR (some 99), vI x1, vI (-1)] i l (fun i12 l12 => ((rg x2) ∧ (¬ (x2 = (-1)) → 0 ≤ x2 ∧ x2 < 10) ∧ ((rg (if (x2 = (-1)) then i12 99 38 else mColour i12 x2 (i12 118 x2))) ∧ P (if (x2 = (-1)) then i12 99 38 else mColour i12 x2 (i12 118 x2)) i12 l12)))) : gI w d X_X12_mend P i l 22 [(0, vR (some 99)), (1, vI x1), (2, vI x2)] [] := by
  refine g_aload_n (pc' := 23) 0 dX12_mend_22 rfl rfl ?_
  refine g_iload_n (pc' := 24) 1 dX12_mend_23 rfl rfl ?_
  refine g_iconst (pc' := 25) dX12_mend_24 rfl ?_
  refine g_cVV (pc' := 28) (vs := [vI x1, vI (-1)]) (st := []) (c := 12) h mv_X12_paints lk_X12_388 rfl rfl rfl rfl (Nat.le_of_ble_eq_true rfl) (Nat.le_of_ble_eq_true rfl) rfl dX12_mend_25 rfl z2 (fun i12 l12 h => ?_)
  refine g_iload_n (pc' := 29) 2 dX12_mend_28 rfl rfl ?_
  refine g_iconst (pc' := 30) dX12_mend_29 rfl ?_
  refine g_rg (fun hRG13 => ?_)
  obtain ⟨hob14, hob16, h⟩ := h
  have hJ : gI w d X_X12_mend P i12 l12 51 [(0, vR (some 99)), (1, vI x1), (2, vI x2)] [vI (if (x2 = (-1)) then i12 99 38 else mColour i12 x2 (i12 118 x2))] := by
    obtain ⟨ob20, h⟩ := h
    exact g_retI rfl ob20 dX12_mend_51 h
  refine g_icmp_ne (tgt := 40) (pc' := 33) (hob14) (rg_lit rfl) Iff.rfl dX12_mend_30 rfl rfl (fun c15 => ?_) (fun c15 => ?_)
  · refine g_aload_n (pc' := 41) 0 dX12_mend_40 rfl rfl ?_
    refine g_iload_n (pc' := 42) 2 dX12_mend_41 rfl rfl ?_
    refine g_aload_n (pc' := 43) 0 dX12_mend_42 rfl rfl ?_
    refine g_getR (pc' := 46) (o := some 118) fl_X12_76 rfl rfl rfl dX12_mend_43 rfl ?_
    refine g_iload_n (pc' := 47) 2 dX12_mend_46 rfl rfl ?_
    refine g_iald (pc' := 48) (N := 10) rfl rfl (Nat.lt_of_lt_of_le (Nat.lt_succ_self _) (Nat.le_of_ble_eq_true rfl)) (hob16 c15) dX12_mend_47 rfl (fun rg17 => ?_)
    refine g_pVI (pc' := 51) (vs := [vI x2, vI (i12 118 x2)]) (st := []) (val := mColour i12 x2 (i12 118 x2)) (c := 12) (sp_X12_colourOf (le_hd hd rfl) rg17 (hob16 c15)) mv_X12_colourOf lk_X12_339 rfl rfl rfl rfl (Nat.le_of_ble_eq_true rfl) (Nat.le_of_ble_eq_true rfl) rfl dX12_mend_48 rfl z2 (fun rg18 => ?_)
    rw [if_neg c15 (α := Int) (t := i12 99 38) (e := mColour i12 x2 (i12 118 x2))] at hJ
    exact hJ
  · refine g_aload_n (pc' := 34) 0 dX12_mend_33 rfl rfl ?_
    refine g_getI (pc' := 37) (z := 38) rfl fl_X12_360 rfl rfl dX12_mend_34 rfl (fun rg19 => ?_)
    refine g_goto (tgt := 51) dX12_mend_37 rfl ?_
    rw [if_pos c15 (α := Int) (t := i12 99 38) (e := mColour i12 x2 (i12 118 x2))] at hJ
    exact hJ

theorem dX12_shut_0 : decode cX12_shut 0 = .ok (.iload_n 1, 1) := by decide +kernel
theorem dX12_shut_1 : decode cX12_shut 1 = .ok (.invokestatic 385, 3) := by decide +kernel
theorem dX12_shut_4 : decode cX12_shut 4 = .ok (.ifCond .ne 5, 3) := by decide +kernel
theorem dX12_shut_7 : decode cX12_shut 7 = .ok (.iconst (-1), 1) := by decide +kernel
theorem dX12_shut_8 : decode cX12_shut 8 = .ok (.ireturn, 1) := by decide +kernel
theorem dX12_shut_9 : decode cX12_shut 9 = .ok (.aload_n 0, 1) := by decide +kernel
theorem dX12_shut_10 : decode cX12_shut 10 = .ok (.iload_n 1, 1) := by decide +kernel
theorem dX12_shut_11 : decode cX12_shut 11 = .ok (.iconst (-1), 1) := by decide +kernel
theorem dX12_shut_12 : decode cX12_shut 12 = .ok (.invokevirtual 388, 3) := by decide +kernel
theorem dX12_shut_15 : decode cX12_shut 15 = .ok (.aload_n 0, 1) := by decide +kernel
theorem dX12_shut_16 : decode cX12_shut 16 = .ok (.getfield 379, 3) := by decide +kernel
theorem dX12_shut_19 : decode cX12_shut 19 = .ok (.ireturn, 1) := by decide +kernel
set_option maxRecDepth 20000 in
theorem s_X12_shut {w : Wd} {d : Nat} {P : Int → IM → LM → Prop} {i : IM} {l : LM} (p0 : Int)  (hd : 2 ≤ d) (h : ((rg p0) ∧ (((1 ≤ p0 ∧ p0 ≤ 4095) → cVd w d X_X12_paints [vR (some 99), vI p0, vI (-1)] i l (fun i5 l5 => P (i5 99 39) i5 l5)) ∧ ((¬ (1 ≤ p0 ∧ p0 ≤ 4095)) → P (-1) i l)))) : gI w d X_X12_shut P i l 0 [(0, vR (some 99)), (1, vI p0)] [] := by
  obtain ⟨ob1, h⟩ := h
  refine g_iload_n (pc' := 1) 1 dX12_shut_0 rfl rfl ?_
  refine g_pSI (pc' := 4) (vs := [vI p0]) (st := []) (val := bI (1 ≤ p0 ∧ p0 ≤ 4095)) (sp_X12_areMonths (le_hd hd rfl) ob1) mk_X12_areMonths ms_X12_areMonths lk_X12_385 rfl (Nat.le_of_ble_eq_true rfl) (Nat.le_of_ble_eq_true rfl) rfl dX12_shut_1 rfl z2 (fun rg2 => ?_)
  obtain ⟨hk7, hk8⟩ := h
  have hk7g : (1 ≤ p0 ∧ p0 ≤ 4095) → gI w d X_X12_shut P i l 9 [(0, vR (some 99)), (1, vI p0)] [] := by
    intro hp
    have h := hk7 hp
    refine g_aload_n (pc' := 10) 0 dX12_shut_9 rfl rfl ?_
    refine g_iload_n (pc' := 11) 1 dX12_shut_10 rfl rfl ?_
    refine g_iconst (pc' := 12) dX12_shut_11 rfl ?_
    refine g_cVV (pc' := 15) (vs := [vI p0, vI (-1)]) (st := []) (c := 12) h mv_X12_paints lk_X12_388 rfl rfl rfl rfl (Nat.le_of_ble_eq_true rfl) (Nat.le_of_ble_eq_true rfl) rfl dX12_shut_12 rfl z2 (fun i5 l5 h => ?_)
    refine g_aload_n (pc' := 16) 0 dX12_shut_15 rfl rfl ?_
    refine g_getI (pc' := 19) (z := 39) rfl fl_X12_379 rfl rfl dX12_shut_16 rfl (fun rg6 => ?_)
    exact g_retI rfl rg6 dX12_shut_19 h
  have hk8g : (¬ (1 ≤ p0 ∧ p0 ≤ 4095)) → gI w d X_X12_shut P i l 7 [(0, vR (some 99)), (1, vI p0)] [] := by
    intro hp
    have h := hk8 hp
    refine g_iconst (pc' := 8) dX12_shut_7 rfl ?_
    exact g_retI rfl (rg_lit rfl) dX12_shut_8 h
  refine g_if_ne (tgt := 9) (pc' := 7) rg2 (bI_eq _) dX12_shut_4 rfl rfl (fun c4n => ?_) (fun c4 => ?_)
  · have c4 := Decidable.of_not_not c4n
    exact hk7g c4
  · exact hk8g c4
theorem e_X12_shut {w : Wd} {d : Nat} {P : Int → IM → LM → Prop} {i : IM} {l : LM} {p0 : Int}  (h : gI w d X_X12_shut P i l 0 [(0, vR (some 99)), (1, vI p0)] []) : cI w (d + 1) X_X12_shut [vR (some 99), vI p0] i l P := CI_of (by decide +kernel) (Nat.le_of_ble_eq_true rfl) h

theorem dX12_canHold_0 : decode cX12_canHold 0 = .ok (.iconst 0, 1) := by decide +kernel
theorem dX12_canHold_1 : decode cX12_canHold 1 = .ok (.istore_n 2, 1) := by decide +kernel
theorem dX12_canHold_2 : decode cX12_canHold 2 = .ok (.iload_n 2, 1) := by decide +kernel
theorem dX12_canHold_3 : decode cX12_canHold 3 = .ok (.sipush 256, 3) := by decide +kernel
theorem dX12_canHold_6 : decode cX12_canHold 6 = .ok (.if_icmp .ge 26, 3) := by decide +kernel
theorem dX12_canHold_9 : decode cX12_canHold 9 = .ok (.aload_n 0, 1) := by decide +kernel
theorem dX12_canHold_10 : decode cX12_canHold 10 = .ok (.getfield 79, 3) := by decide +kernel
theorem dX12_canHold_13 : decode cX12_canHold 13 = .ok (.iload_n 2, 1) := by decide +kernel
theorem dX12_canHold_14 : decode cX12_canHold 14 = .ok (.baload, 1) := by decide +kernel
theorem dX12_canHold_15 : decode cX12_canHold 15 = .ok (.ifCond .eq 11, 3) := by decide +kernel
theorem dX12_canHold_18 : decode cX12_canHold 18 = .ok (.iload_n 2, 1) := by decide +kernel
theorem dX12_canHold_19 : decode cX12_canHold 19 = .ok (.iload_n 1, 1) := by decide +kernel
theorem dX12_canHold_20 : decode cX12_canHold 20 = .ok (.iand, 1) := by decide +kernel
theorem dX12_canHold_21 : decode cX12_canHold 21 = .ok (.ifCond .ne 5, 3) := by decide +kernel
theorem dX12_canHold_24 : decode cX12_canHold 24 = .ok (.iconst 1, 1) := by decide +kernel
theorem dX12_canHold_25 : decode cX12_canHold 25 = .ok (.ireturn, 1) := by decide +kernel
theorem dX12_canHold_26 : decode cX12_canHold 26 = .ok (.iinc 2 1, 3) := by decide +kernel
theorem dX12_canHold_29 : decode cX12_canHold 29 = .ok (.goto (-27), 3) := by decide +kernel
theorem dX12_canHold_32 : decode cX12_canHold 32 = .ok (.iconst 0, 1) := by decide +kernel
theorem dX12_canHold_33 : decode cX12_canHold 33 = .ok (.ireturn, 1) := by decide +kernel
set_option maxRecDepth 20000 in
theorem s_X12_canHold {w : Wd} {d : Nat} {P : Int → IM → LM → Prop} {i : IM} {l : LM} (p0 : Int)  (h : gI w d X_X12_canHold P i l 2 [(0, vR (some 99)), (1, vI p0), (2, vI 0)] []) : gI w d X_X12_canHold P i l 0 [(0, vR (some 99)), (1, vI p0)] [] := by
  refine g_iconst (pc' := 1) dX12_canHold_0 rfl ?_
  refine g_istore_n (pc' := 2) (L' := [(2, vI 0), (0, vR (some 99)), (1, vI p0)]) dX12_canHold_1 rfl (Nat.le_of_ble_eq_true rfl) rfl ?_
  refine g_sub (L' := [(0, vR (some 99)), (1, vI p0), (2, vI 0)]) [1, 2, 0] rfl ?_
  exact h
theorem e_X12_canHold {w : Wd} {d : Nat} {P : Int → IM → LM → Prop} {i : IM} {l : LM} {p0 : Int}  (h : gI w d X_X12_canHold P i l 0 [(0, vR (some 99)), (1, vI p0)] []) : cI w (d + 1) X_X12_canHold [vR (some 99), vI p0] i l P := CI_of (by decide +kernel) (Nat.le_of_ble_eq_true rfl) h
set_option maxRecDepth 20000 in
theorem s_X12_canHold_2 {w : Wd} {d : Nat} {P : Int → IM → LM → Prop} {i : IM} {l : LM} (x1 : Int) (x2 : Int)  (h : ((rg x2) ∧ (¬ (256 ≤ x2) → 0 ≤ x2 ∧ x2 < 256) ∧ ((256 ≤ x2) → P 0 i l) ∧ ((¬ (256 ≤ x2) ∧ ((i 119 x2 = 0) ∨ (¬ (iand x2 x1 = 0)))) → gI w d X_X12_canHold P i l 2 [(0, vR (some 99)), (1, vI x1), (2, vI (x2 + 1))] []) ∧ ((¬ (256 ≤ x2) ∧ (¬ (i 119 x2 = 0) ∧ (iand x2 x1 = 0))) → P 1 i l))) : gI w d X_X12_canHold P i l 2 [(0, vR (some 99)), (1, vI x1), (2, vI x2)] [] := by
  refine g_iload_n (pc' := 3) 2 dX12_canHold_2 rfl rfl ?_
  refine g_sipush (pc' := 6) dX12_canHold_3 rfl rfl ?_
  obtain ⟨hob2, hob4, hk8, hk9, hk10⟩ := h
  have hk8g : (256 ≤ x2) → gI w d X_X12_canHold P i l 32 [(0, vR (some 99)), (1, vI x1), (2, vI x2)] [] := by
    intro hp
    have h := hk8 hp
    refine g_iconst (pc' := 33) dX12_canHold_32 rfl ?_
    exact g_retZ rfl (by decide) dX12_canHold_33 h
  have hk9g : (¬ (256 ≤ x2) ∧ ((i 119 x2 = 0) ∨ (¬ (iand x2 x1 = 0)))) → gI w d X_X12_canHold P i l 26 [(0, vR (some 99)), (1, vI x1), (2, vI x2)] [] := by
    intro hp
    have h := hk9 hp
    refine g_iinc (pc' := 29) (L' := [(2, vI (x2 + 1)), (0, vR (some 99)), (1, vI x1)]) 2 dX12_canHold_26 rfl (Nat.le_of_ble_eq_true rfl) rfl rfl ?_
    refine g_goto (tgt := 2) dX12_canHold_29 rfl ?_
    refine g_sub (L' := [(0, vR (some 99)), (1, vI x1), (2, vI (x2 + 1))]) [1, 2, 0] rfl ?_
    exact h
  have hk10g : (¬ (256 ≤ x2) ∧ (¬ (i 119 x2 = 0) ∧ (iand x2 x1 = 0))) → gI w d X_X12_canHold P i l 24 [(0, vR (some 99)), (1, vI x1), (2, vI x2)] [] := by
    intro hp
    have h := hk10 hp
    refine g_iconst (pc' := 25) dX12_canHold_24 rfl ?_
    exact g_retZ rfl (by decide) dX12_canHold_25 h
  refine g_icmp_ge (tgt := 32) (pc' := 9) (hob2) (rg_lit rfl) Iff.rfl dX12_canHold_6 rfl rfl (fun c3 => ?_) (fun c3 => ?_)
  · exact hk8g c3
  · refine g_aload_n (pc' := 10) 0 dX12_canHold_9 rfl rfl ?_
    refine g_getR (pc' := 13) (o := some 119) fl_X12_79 rfl rfl rfl dX12_canHold_10 rfl ?_
    refine g_iload_n (pc' := 14) 2 dX12_canHold_13 rfl rfl ?_
    refine g_zald (pc' := 15) (N := 256) rfl rfl (Nat.lt_of_lt_of_le (Nat.lt_succ_self _) (Nat.le_of_ble_eq_true rfl)) (hob4 c3) dX12_canHold_14 rfl (fun rg5 => ?_)
    refine g_if_eq (tgt := 26) (pc' := 18) rg5 Iff.rfl dX12_canHold_15 rfl rfl (fun c6 => ?_) (fun c6 => ?_)
    · exact hk9g ⟨c3, (Or.inl c6)⟩
    · refine g_iload_n (pc' := 19) 2 dX12_canHold_18 rfl rfl ?_
      refine g_iload_n (pc' := 20) 1 dX12_canHold_19 rfl rfl ?_
      refine g_iand (pc' := 21) dX12_canHold_20 rfl ?_
      refine g_if_ne (tgt := 26) (pc' := 24) (rg_iand _ _) Iff.rfl dX12_canHold_21 rfl rfl (fun c7 => ?_) (fun c7 => ?_)
      · exact hk9g ⟨c3, (Or.inr c7)⟩
      · exact hk10g ⟨c3, ⟨c6, c7⟩⟩

theorem dX12_bars_0 : decode cX12_bars 0 = .ok (.iload_n 1, 1) := by decide +kernel
theorem dX12_bars_1 : decode cX12_bars 1 = .ok (.invokestatic 385, 3) := by decide +kernel
theorem dX12_bars_4 : decode cX12_bars 4 = .ok (.ifCond .ne 5, 3) := by decide +kernel
theorem dX12_bars_7 : decode cX12_bars 7 = .ok (.iconst (-1), 1) := by decide +kernel
theorem dX12_bars_8 : decode cX12_bars 8 = .ok (.ireturn, 1) := by decide +kernel
theorem dX12_bars_9 : decode cX12_bars 9 = .ok (.aload_n 0, 1) := by decide +kernel
theorem dX12_bars_10 : decode cX12_bars 10 = .ok (.iload_n 1, 1) := by decide +kernel
theorem dX12_bars_11 : decode cX12_bars 11 = .ok (.iconst (-1), 1) := by decide +kernel
theorem dX12_bars_12 : decode cX12_bars 12 = .ok (.invokevirtual 388, 3) := by decide +kernel
theorem dX12_bars_15 : decode cX12_bars 15 = .ok (.aload_n 0, 1) := by decide +kernel
theorem dX12_bars_16 : decode cX12_bars 16 = .ok (.getfield 351, 3) := by decide +kernel
theorem dX12_bars_19 : decode cX12_bars 19 = .ok (.ifCond .le 5, 3) := by decide +kernel
theorem dX12_bars_22 : decode cX12_bars 22 = .ok (.iconst 0, 1) := by decide +kernel
theorem dX12_bars_23 : decode cX12_bars 23 = .ok (.ireturn, 1) := by decide +kernel
theorem dX12_bars_24 : decode cX12_bars 24 = .ok (.iconst 1, 1) := by decide +kernel
theorem dX12_bars_25 : decode cX12_bars 25 = .ok (.aload_n 0, 1) := by decide +kernel
theorem dX12_bars_26 : decode cX12_bars 26 = .ok (.invokevirtual 121, 3) := by decide +kernel
theorem dX12_bars_29 : decode cX12_bars 29 = .ok (.ishl, 1) := by decide +kernel
theorem dX12_bars_30 : decode cX12_bars 30 = .ok (.iconst 1, 1) := by decide +kernel
theorem dX12_bars_31 : decode cX12_bars 31 = .ok (.isub, 1) := by decide +kernel
theorem dX12_bars_32 : decode cX12_bars 32 = .ok (.istore_n 2, 1) := by decide +kernel
theorem dX12_bars_33 : decode cX12_bars 33 = .ok (.iconst 0, 1) := by decide +kernel
theorem dX12_bars_34 : decode cX12_bars 34 = .ok (.istore_n 3, 1) := by decide +kernel
theorem dX12_bars_35 : decode cX12_bars 35 = .ok (.iload_n 3, 1) := by decide +kernel
theorem dX12_bars_36 : decode cX12_bars 36 = .ok (.aload_n 0, 1) := by decide +kernel
theorem dX12_bars_37 : decode cX12_bars 37 = .ok (.invokevirtual 121, 3) := by decide +kernel
theorem dX12_bars_40 : decode cX12_bars 40 = .ok (.if_icmp .ge 31, 3) := by decide +kernel
theorem dX12_bars_43 : decode cX12_bars 43 = .ok (.aload_n 0, 1) := by decide +kernel
theorem dX12_bars_44 : decode cX12_bars 44 = .ok (.iload_n 2, 1) := by decide +kernel
theorem dX12_bars_45 : decode cX12_bars 45 = .ok (.iconst 1, 1) := by decide +kernel
theorem dX12_bars_46 : decode cX12_bars 46 = .ok (.iload_n 3, 1) := by decide +kernel
theorem dX12_bars_47 : decode cX12_bars 47 = .ok (.ishl, 1) := by decide +kernel
theorem dX12_bars_48 : decode cX12_bars 48 = .ok (.iconst (-1), 1) := by decide +kernel
theorem dX12_bars_49 : decode cX12_bars 49 = .ok (.ixor, 1) := by decide +kernel
theorem dX12_bars_50 : decode cX12_bars 50 = .ok (.iand, 1) := by decide +kernel
theorem dX12_bars_51 : decode cX12_bars 51 = .ok (.invokevirtual 392, 3) := by decide +kernel
theorem dX12_bars_54 : decode cX12_bars 54 = .ok (.ifCond .ne 11, 3) := by decide +kernel
theorem dX12_bars_57 : decode cX12_bars 57 = .ok (.iload_n 2, 1) := by decide +kernel
theorem dX12_bars_58 : decode cX12_bars 58 = .ok (.iconst 1, 1) := by decide +kernel
theorem dX12_bars_59 : decode cX12_bars 59 = .ok (.iload_n 3, 1) := by decide +kernel
theorem dX12_bars_60 : decode cX12_bars 60 = .ok (.ishl, 1) := by decide +kernel
theorem dX12_bars_61 : decode cX12_bars 61 = .ok (.iconst (-1), 1) := by decide +kernel
theorem dX12_bars_62 : decode cX12_bars 62 = .ok (.ixor, 1) := by decide +kernel
theorem dX12_bars_63 : decode cX12_bars 63 = .ok (.iand, 1) := by decide +kernel
theorem dX12_bars_64 : decode cX12_bars 64 = .ok (.istore_n 2, 1) := by decide +kernel
theorem dX12_bars_65 : decode cX12_bars 65 = .ok (.iinc 3 1, 3) := by decide +kernel
theorem dX12_bars_68 : decode cX12_bars 68 = .ok (.goto (-33), 3) := by decide +kernel
theorem dX12_bars_71 : decode cX12_bars 71 = .ok (.iload_n 2, 1) := by decide +kernel
theorem dX12_bars_72 : decode cX12_bars 72 = .ok (.ireturn, 1) := by decide +kernel
set_option maxRecDepth 20000 in
theorem s_X12_bars {w : Wd} {d : Nat} {P : Int → IM → LM → Prop} {i : IM} {l : LM} (p0 : Int)  (hd : 2 ≤ d) (h : ((rg p0) ∧ (((1 ≤ p0 ∧ p0 ≤ 4095) → cVd w d X_X12_paints [vR (some 99), vI p0, vI (-1)] i l (fun i5 l5 => (((i5 99 35 ≤ 0) → gI w d X_X12_bars P i5 l5 35 [(0, vR (some 99)), (2, vI ((ishl 1 (i5 101 308)) - 1)), (3, vI 0)] []) ∧ ((¬ (i5 99 35 ≤ 0)) → P 0 i5 l5)))) ∧ ((¬ (1 ≤ p0 ∧ p0 ≤ 4095)) → P (-1) i l)))) : gI w d X_X12_bars P i l 0 [(0, vR (some 99)), (1, vI p0)] [] := by
  obtain ⟨ob1, h⟩ := h
  refine g_iload_n (pc' := 1) 1 dX12_bars_0 rfl rfl ?_
  refine g_pSI (pc' := 4) (vs := [vI p0]) (st := []) (val := bI (1 ≤ p0 ∧ p0 ≤ 4095)) (sp_X12_areMonths (le_hd hd rfl) ob1) mk_X12_areMonths ms_X12_areMonths lk_X12_385 rfl (Nat.le_of_ble_eq_true rfl) (Nat.le_of_ble_eq_true rfl) rfl dX12_bars_1 rfl z2 (fun rg2 => ?_)
  obtain ⟨hk13, hk14⟩ := h
  have hk13g : (1 ≤ p0 ∧ p0 ≤ 4095) → gI w d X_X12_bars P i l 9 [(0, vR (some 99)), (1, vI p0)] [] := by
    intro hp
    have h := hk13 hp
    refine g_aload_n (pc' := 10) 0 dX12_bars_9 rfl rfl ?_
    refine g_iload_n (pc' := 11) 1 dX12_bars_10 rfl rfl ?_
    refine g_iconst (pc' := 12) dX12_bars_11 rfl ?_
    refine g_cVV (pc' := 15) (vs := [vI p0, vI (-1)]) (st := []) (c := 12) h mv_X12_paints lk_X12_388 rfl rfl rfl rfl (Nat.le_of_ble_eq_true rfl) (Nat.le_of_ble_eq_true rfl) rfl dX12_bars_12 rfl z2 (fun i5 l5 h => ?_)
    refine g_aload_n (pc' := 16) 0 dX12_bars_15 rfl rfl ?_
    refine g_getI (pc' := 19) (z := 35) rfl fl_X12_351 rfl rfl dX12_bars_16 rfl (fun rg6 => ?_)
    obtain ⟨hk11, hk12⟩ := h
    refine g_if_le (tgt := 24) (pc' := 22) rg6 Iff.rfl dX12_bars_19 rfl rfl (fun c8 => ?_) (fun c8 => ?_)
    · have h := hk11 c8
      refine g_iconst (pc' := 25) dX12_bars_24 rfl ?_
      refine g_aload_n (pc' := 26) 0 dX12_bars_25 rfl rfl ?_
      refine g_pVI (pc' := 29) (vs := []) (st := [vI 1]) (val := i5 101 308) (c := 12) (sp_X12_windows (le_hd hd rfl) ) mv_X12_windows lk_X12_121 rfl rfl rfl rfl (Nat.le_of_ble_eq_true rfl) (Nat.le_of_ble_eq_true rfl) rfl dX12_bars_26 rfl z2 (fun rg10 => ?_)
      refine g_ishl (pc' := 30) dX12_bars_29 rfl ?_
      refine g_iconst (pc' := 31) dX12_bars_30 rfl ?_
      refine g_isub (pc' := 32) dX12_bars_31 rfl ?_
      refine g_istore_n (pc' := 33) (L' := [(2, vI ((ishl 1 (i5 101 308)) - 1)), (0, vR (some 99)), (1, vI p0)]) dX12_bars_32 rfl (Nat.le_of_ble_eq_true rfl) rfl ?_
      refine g_iconst (pc' := 34) dX12_bars_33 rfl ?_
      refine g_istore_n (pc' := 35) (L' := [(3, vI 0), (2, vI ((ishl 1 (i5 101 308)) - 1)), (0, vR (some 99)), (1, vI p0)]) dX12_bars_34 rfl (Nat.le_of_ble_eq_true rfl) rfl ?_
      refine g_sub (L' := [(0, vR (some 99)), (2, vI ((ishl 1 (i5 101 308)) - 1)), (3, vI 0)]) [2, 1, 0] rfl ?_
      exact h
    · have h := hk12 c8
      refine g_iconst (pc' := 23) dX12_bars_22 rfl ?_
      exact g_retI rfl (rg_lit rfl) dX12_bars_23 h
  have hk14g : (¬ (1 ≤ p0 ∧ p0 ≤ 4095)) → gI w d X_X12_bars P i l 7 [(0, vR (some 99)), (1, vI p0)] [] := by
    intro hp
    have h := hk14 hp
    refine g_iconst (pc' := 8) dX12_bars_7 rfl ?_
    exact g_retI rfl (rg_lit rfl) dX12_bars_8 h
  refine g_if_ne (tgt := 9) (pc' := 7) rg2 (bI_eq _) dX12_bars_4 rfl rfl (fun c4n => ?_) (fun c4 => ?_)
  · have c4 := Decidable.of_not_not c4n
    exact hk13g c4
  · exact hk14g c4
theorem e_X12_bars {w : Wd} {d : Nat} {P : Int → IM → LM → Prop} {i : IM} {l : LM} {p0 : Int}  (h : gI w d X_X12_bars P i l 0 [(0, vR (some 99)), (1, vI p0)] []) : cI w (d + 1) X_X12_bars [vR (some 99), vI p0] i l P := CI_of (by decide +kernel) (Nat.le_of_ble_eq_true rfl) h
set_option maxRecDepth 20000 in
theorem s_X12_bars_35 {w : Wd} {d : Nat} {P : Int → IM → LM → Prop} {i : IM} {l : LM} (x2 : Int) (x3 : Int)  (hd : 1 ≤ d) (h : ((rg x3) ∧ ((i 101 308 ≤ x3) → ((rg x2) ∧ P x2 i l)) ∧ ((¬ (i 101 308 ≤ x3)) → cI w d X_X12_canHold [vR (some 99), vI (iand x2 (ixor (ishl 1 x3) (-1)))] i l (fun r20 i20 l20 => (((r20 = 0) → gI w d X_X12_bars P i20 l20 35 [(0, vR (some 99)), (2, vI (iand x2 (ixor (ishl 1 x3) (-1)))), (3, vI (x3 + 1))] []) ∧ ((¬ (r20 = 0)) → gI w d X_X12_bars P i20 l20 35 [(0, vR (some 99)), (2, vI x2), (3, vI (x3 + 1))] [])))))) : gI w d X_X12_bars P i l 35 [(0, vR (some 99)), (2, vI x2), (3, vI x3)] [] := by
  refine g_iload_n (pc' := 36) 2 dX12_bars_35 rfl rfl ?_
  refine g_aload_n (pc' := 37) 0 dX12_bars_36 rfl rfl ?_
  refine g_pVI (pc' := 40) (vs := []) (st := [vI x3]) (val := i 101 308) (c := 12) (sp_X12_windows (le_hd hd rfl) ) mv_X12_windows lk_X12_121 rfl rfl rfl rfl (Nat.le_of_ble_eq_true rfl) (Nat.le_of_ble_eq_true rfl) rfl dX12_bars_37 rfl z2 (fun rg15 => ?_)
  obtain ⟨hob17, hk25, hk26⟩ := h
  refine g_icmp_ge (tgt := 71) (pc' := 43) (hob17) rg15 Iff.rfl dX12_bars_40 rfl rfl (fun c18 => ?_) (fun c18 => ?_)
  · have h := hk25 c18
    obtain ⟨ob19, h⟩ := h
    refine g_iload_n (pc' := 72) 1 dX12_bars_71 rfl rfl ?_
    exact g_retI rfl ob19 dX12_bars_72 h
  · have h := hk26 c18
    refine g_aload_n (pc' := 44) 0 dX12_bars_43 rfl rfl ?_
    refine g_iload_n (pc' := 45) 1 dX12_bars_44 rfl rfl ?_
    refine g_iconst (pc' := 46) dX12_bars_45 rfl ?_
    refine g_iload_n (pc' := 47) 2 dX12_bars_46 rfl rfl ?_
    refine g_ishl (pc' := 48) dX12_bars_47 rfl ?_
    refine g_iconst (pc' := 49) dX12_bars_48 rfl ?_
    refine g_ixor (pc' := 50) dX12_bars_49 rfl ?_
    refine g_iand (pc' := 51) dX12_bars_50 rfl ?_
    refine g_cVI (pc' := 54) (vs := [vI (iand x2 (ixor (ishl 1 x3) (-1)))]) (st := []) (c := 12) h mv_X12_canHold lk_X12_392 rfl rfl rfl rfl (Nat.le_of_ble_eq_true rfl) (Nat.le_of_ble_eq_true rfl) rfl dX12_bars_51 rfl z2 (fun r20 i20 l20 rg20 h => ?_)
    obtain ⟨hk23, hk24⟩ := h
    refine g_if_ne (tgt := 65) (pc' := 57) rg20 Iff.rfl dX12_bars_54 rfl rfl (fun c22 => ?_) (fun c22 => ?_)
    · have h := hk24 c22
      refine g_iinc (pc' := 68) (L' := [(3, vI (x3 + 1)), (0, vR (some 99)), (2, vI x2)]) 2 dX12_bars_65 rfl (Nat.le_of_ble_eq_true rfl) rfl rfl ?_
      refine g_goto (tgt := 35) dX12_bars_68 rfl ?_
      refine g_sub (L' := [(0, vR (some 99)), (2, vI x2), (3, vI (x3 + 1))]) [1, 2, 0] rfl ?_
      exact h
    · have h := hk23 c22
      refine g_iload_n (pc' := 58) 1 dX12_bars_57 rfl rfl ?_
      refine g_iconst (pc' := 59) dX12_bars_58 rfl ?_
      refine g_iload_n (pc' := 60) 2 dX12_bars_59 rfl rfl ?_
      refine g_ishl (pc' := 61) dX12_bars_60 rfl ?_
      refine g_iconst (pc' := 62) dX12_bars_61 rfl ?_
      refine g_ixor (pc' := 63) dX12_bars_62 rfl ?_
      refine g_iand (pc' := 64) dX12_bars_63 rfl ?_
      refine g_istore_n (pc' := 65) (L' := [(2, vI (iand x2 (ixor (ishl 1 x3) (-1)))), (0, vR (some 99)), (3, vI x3)]) dX12_bars_64 rfl (Nat.le_of_ble_eq_true rfl) rfl ?_
      refine g_iinc (pc' := 68) (L' := [(3, vI (x3 + 1)), (2, vI (iand x2 (ixor (ishl 1 x3) (-1)))), (0, vR (some 99))]) 2 dX12_bars_65 rfl (Nat.le_of_ble_eq_true rfl) rfl rfl ?_
      refine g_goto (tgt := 35) dX12_bars_68 rfl ?_
      refine g_sub (L' := [(0, vR (some 99)), (2, vI (iand x2 (ixor (ishl 1 x3) (-1)))), (3, vI (x3 + 1))]) [2, 1, 0] rfl ?_
      exact h

theorem dX12_third_0 : decode cX12_third 0 = .ok (.iload_n 1, 1) := by decide +kernel
theorem dX12_third_1 : decode cX12_third 1 = .ok (.invokestatic 385, 3) := by decide +kernel
theorem dX12_third_4 : decode cX12_third 4 = .ok (.ifCond .eq 11, 3) := by decide +kernel
theorem dX12_third_7 : decode cX12_third 7 = .ok (.aload_n 0, 1) := by decide +kernel
theorem dX12_third_8 : decode cX12_third 8 = .ok (.iload_n 2, 1) := by decide +kernel
theorem dX12_third_9 : decode cX12_third 9 = .ok (.invokevirtual 141, 3) := by decide +kernel
theorem dX12_third_12 : decode cX12_third 12 = .ok (.ifCond .ne 5, 3) := by decide +kernel
theorem dX12_third_15 : decode cX12_third 15 = .ok (.iconst (-1), 1) := by decide +kernel
theorem dX12_third_16 : decode cX12_third 16 = .ok (.ireturn, 1) := by decide +kernel
theorem dX12_third_17 : decode cX12_third 17 = .ok (.aload_n 0, 1) := by decide +kernel
theorem dX12_third_18 : decode cX12_third 18 = .ok (.iload_n 1, 1) := by decide +kernel
theorem dX12_third_19 : decode cX12_third 19 = .ok (.iconst (-1), 1) := by decide +kernel
theorem dX12_third_20 : decode cX12_third 20 = .ok (.invokevirtual 388, 3) := by decide +kernel
theorem dX12_third_23 : decode cX12_third 23 = .ok (.aload_n 0, 1) := by decide +kernel
theorem dX12_third_24 : decode cX12_third 24 = .ok (.getfield 351, 3) := by decide +kernel
theorem dX12_third_27 : decode cX12_third 27 = .ok (.ifCond .ne 5, 3) := by decide +kernel
theorem dX12_third_30 : decode cX12_third 30 = .ok (.iconst (-1), 1) := by decide +kernel
theorem dX12_third_31 : decode cX12_third 31 = .ok (.ireturn, 1) := by decide +kernel
theorem dX12_third_32 : decode cX12_third 32 = .ok (.aload_n 0, 1) := by decide +kernel
theorem dX12_third_33 : decode cX12_third 33 = .ok (.getfield 357, 3) := by decide +kernel
theorem dX12_third_36 : decode cX12_third 36 = .ok (.istore_n 3, 1) := by decide +kernel
theorem dX12_third_37 : decode cX12_third 37 = .ok (.aload_n 0, 1) := by decide +kernel
theorem dX12_third_38 : decode cX12_third 38 = .ok (.iload_n 1, 1) := by decide +kernel
theorem dX12_third_39 : decode cX12_third 39 = .ok (.iload_n 2, 1) := by decide +kernel
theorem dX12_third_40 : decode cX12_third 40 = .ok (.invokevirtual 388, 3) := by decide +kernel
theorem dX12_third_43 : decode cX12_third 43 = .ok (.aload_n 0, 1) := by decide +kernel
theorem dX12_third_44 : decode cX12_third 44 = .ok (.getfield 357, 3) := by decide +kernel
theorem dX12_third_47 : decode cX12_third 47 = .ok (.iload_n 3, 1) := by decide +kernel
theorem dX12_third_48 : decode cX12_third 48 = .ok (.isub, 1) := by decide +kernel
theorem dX12_third_49 : decode cX12_third 49 = .ok (.ireturn, 1) := by decide +kernel
set_option maxRecDepth 20000 in
theorem s_X12_third {w : Wd} {d : Nat} {P : Int → IM → LM → Prop} {i : IM} {l : LM} (p0 : Int) (p1 : Int)  (hd : 2 ≤ d) (h : ((rg p0) ∧ (((1 ≤ p0 ∧ p0 ≤ 4095) → rg p1) ∧ ((1 ≤ p0 ∧ p0 ≤ 4095) → rg (i 101 308 - 1)) ∧ (((1 ≤ p0 ∧ p0 ≤ 4095) ∧ (0 ≤ p1 ∧ p1 < i 101 308)) → cVd w d X_X12_paints [vR (some 99), vI p0, vI (-1)] i l (fun i9 l9 => (((i9 99 35 = 0) → P (-1) i9 l9) ∧ ((¬ (i9 99 35 = 0)) → cVd w d X_X12_paints [vR (some 99), vI p0, vI p1] i9 l9 (fun i15 l15 => ((rg ((i15 99 37) - (i9 99 37))) ∧ P ((i15 99 37) - (i9 99 37)) i15 l15)))))) ∧ ((¬ ((1 ≤ p0 ∧ p0 ≤ 4095) ∧ (0 ≤ p1 ∧ p1 < i 101 308))) → P (-1) i l)))) : gI w d X_X12_third P i l 0 [(0, vR (some 99)), (1, vI p0), (2, vI p1)] [] := by
  obtain ⟨ob1, h⟩ := h
  refine g_iload_n (pc' := 1) 1 dX12_third_0 rfl rfl ?_
  refine g_pSI (pc' := 4) (vs := [vI p0]) (st := []) (val := bI (1 ≤ p0 ∧ p0 ≤ 4095)) (sp_X12_areMonths (le_hd hd rfl) ob1) mk_X12_areMonths ms_X12_areMonths lk_X12_385 rfl (Nat.le_of_ble_eq_true rfl) (Nat.le_of_ble_eq_true rfl) rfl dX12_third_1 rfl z2 (fun rg2 => ?_)
  obtain ⟨hob5, hob6, hk20, hk21⟩ := h
  have hk20g : ((1 ≤ p0 ∧ p0 ≤ 4095) ∧ (0 ≤ p1 ∧ p1 < i 101 308)) → gI w d X_X12_third P i l 17 [(0, vR (some 99)), (1, vI p0), (2, vI p1)] [] := by
    intro hp
    have h := hk20 hp
    refine g_aload_n (pc' := 18) 0 dX12_third_17 rfl rfl ?_
    refine g_iload_n (pc' := 19) 1 dX12_third_18 rfl rfl ?_
    refine g_iconst (pc' := 20) dX12_third_19 rfl ?_
    refine g_cVV (pc' := 23) (vs := [vI p0, vI (-1)]) (st := []) (c := 12) h mv_X12_paints lk_X12_388 rfl rfl rfl rfl (Nat.le_of_ble_eq_true rfl) (Nat.le_of_ble_eq_true rfl) rfl dX12_third_20 rfl z2 (fun i9 l9 h => ?_)
    refine g_aload_n (pc' := 24) 0 dX12_third_23 rfl rfl ?_
    refine g_getI (pc' := 27) (z := 35) rfl fl_X12_351 rfl rfl dX12_third_24 rfl (fun rg10 => ?_)
    obtain ⟨hk18, hk19⟩ := h
    refine g_if_ne (tgt := 32) (pc' := 30) rg10 Iff.rfl dX12_third_27 rfl rfl (fun c12 => ?_) (fun c12 => ?_)
    · have h := hk19 c12
      refine g_aload_n (pc' := 33) 0 dX12_third_32 rfl rfl ?_
      refine g_getI (pc' := 36) (z := 37) rfl fl_X12_357 rfl rfl dX12_third_33 rfl (fun rg14 => ?_)
      refine g_istore_n (pc' := 37) (L' := [(3, vI (i9 99 37)), (0, vR (some 99)), (1, vI p0), (2, vI p1)]) dX12_third_36 rfl (Nat.le_of_ble_eq_true rfl) rfl ?_
      refine g_aload_n (pc' := 38) 1 dX12_third_37 rfl rfl ?_
      refine g_iload_n (pc' := 39) 2 dX12_third_38 rfl rfl ?_
      refine g_iload_n (pc' := 40) 3 dX12_third_39 rfl rfl ?_
      refine g_cVV (pc' := 43) (vs := [vI p0, vI p1]) (st := []) (c := 12) h mv_X12_paints lk_X12_388 rfl rfl rfl rfl (Nat.le_of_ble_eq_true rfl) (Nat.le_of_ble_eq_true rfl) rfl dX12_third_40 rfl z2 (fun i15 l15 h => ?_)
      obtain ⟨ob17, h⟩ := h
      refine g_aload_n (pc' := 44) 1 dX12_third_43 rfl rfl ?_
      refine g_getI (pc' := 47) (z := 37) rfl fl_X12_357 rfl rfl dX12_third_44 rfl (fun rg16 => ?_)
      refine g_iload_n (pc' := 48) 0 dX12_third_47 rfl rfl ?_
      refine g_isub (pc' := 49) dX12_third_48 rfl ?_
      exact g_retI rfl ob17 dX12_third_49 h
    · have h := hk18 c12
      refine g_iconst (pc' := 31) dX12_third_30 rfl ?_
      exact g_retI rfl (rg_lit rfl) dX12_third_31 h
  have hk21g : (¬ ((1 ≤ p0 ∧ p0 ≤ 4095) ∧ (0 ≤ p1 ∧ p1 < i 101 308))) → gI w d X_X12_third P i l 15 [(0, vR (some 99)), (1, vI p0), (2, vI p1)] [] := by
    intro hp
    have h := hk21 hp
    refine g_iconst (pc' := 16) dX12_third_15 rfl ?_
    exact g_retI rfl (rg_lit rfl) dX12_third_16 h
  refine g_if_eq (tgt := 15) (pc' := 7) rg2 (bI_eq _) dX12_third_4 rfl rfl (fun c4 => ?_) (fun c4n => ?_)
  · exact hk21g (fun q => c4 q.1)
  · have c4 := Decidable.of_not_not c4n
    refine g_aload_n (pc' := 8) 0 dX12_third_7 rfl rfl ?_
    refine g_iload_n (pc' := 9) 2 dX12_third_8 rfl rfl ?_
    refine g_pVI (pc' := 12) (vs := [vI p1]) (st := []) (val := bI (0 ≤ p1 ∧ p1 < i 101 308)) (c := 12) (sp_X12_isWindow (le_hd hd rfl) (hob5 c4) (hob6 c4)) mv_X12_isWindow lk_X12_141 rfl rfl rfl rfl (Nat.le_of_ble_eq_true rfl) (Nat.le_of_ble_eq_true rfl) rfl dX12_third_9 rfl z2 (fun rg7 => ?_)
    refine g_if_ne (tgt := 17) (pc' := 15) rg7 (bI_eq _) dX12_third_12 rfl rfl (fun c8n => ?_) (fun c8 => ?_)
    · have c8 := Decidable.of_not_not c8n
      exact hk20g ⟨c4, c8⟩
    · exact hk21g (fun q => c8 q.2)
theorem e_X12_third {w : Wd} {d : Nat} {P : Int → IM → LM → Prop} {i : IM} {l : LM} {p0 : Int} {p1 : Int}  (h : gI w d X_X12_third P i l 0 [(0, vR (some 99)), (1, vI p0), (2, vI p1)] []) : cI w (d + 1) X_X12_third [vR (some 99), vI p0, vI p1] i l P := CI_of (by decide +kernel) (Nat.le_of_ble_eq_true rfl) h

theorem dX12_near_0 : decode cX12_near 0 = .ok (.iload_n 1, 1) := by decide +kernel
theorem dX12_near_1 : decode cX12_near 1 = .ok (.iconst 0, 1) := by decide +kernel
theorem dX12_near_2 : decode cX12_near 2 = .ok (.iconst 2, 1) := by decide +kernel
theorem dX12_near_3 : decode cX12_near 3 = .ok (.invokestatic 106, 3) := by decide +kernel
theorem dX12_near_6 : decode cX12_near 6 = .ok (.ifCond .ne 5, 3) := by decide +kernel
theorem dX12_near_9 : decode cX12_near 9 = .ok (.iconst (-1), 1) := by decide +kernel
theorem dX12_near_10 : decode cX12_near 10 = .ok (.ireturn, 1) := by decide +kernel
theorem dX12_near_11 : decode cX12_near 11 = .ok (.iconst (-1), 1) := by decide +kernel
theorem dX12_near_12 : decode cX12_near 12 = .ok (.istore_n 2, 1) := by decide +kernel
theorem dX12_near_13 : decode cX12_near 13 = .ok (.iconst (-1), 1) := by decide +kernel
theorem dX12_near_14 : decode cX12_near 14 = .ok (.istore_n 3, 1) := by decide +kernel
theorem dX12_near_15 : decode cX12_near 15 = .ok (.ldc 192, 2) := by decide +kernel
theorem dX12_near_17 : decode cX12_near 17 = .ok (.istore 4, 2) := by decide +kernel
theorem dX12_near_19 : decode cX12_near 19 = .ok (.iconst 0, 1) := by decide +kernel
theorem dX12_near_20 : decode cX12_near 20 = .ok (.istore 5, 2) := by decide +kernel
theorem dX12_near_22 : decode cX12_near 22 = .ok (.iload 5, 2) := by decide +kernel
theorem dX12_near_24 : decode cX12_near 24 = .ok (.bipush 8, 2) := by decide +kernel
theorem dX12_near_26 : decode cX12_near 26 = .ok (.if_icmp .ge 198, 3) := by decide +kernel
theorem dX12_near_29 : decode cX12_near 29 = .ok (.iload 5, 2) := by decide +kernel
theorem dX12_near_31 : decode cX12_near 31 = .ok (.iconst 1, 1) := by decide +kernel
theorem dX12_near_32 : decode cX12_near 32 = .ok (.iadd, 1) := by decide +kernel
theorem dX12_near_33 : decode cX12_near 33 = .ok (.istore 6, 2) := by decide +kernel
theorem dX12_near_35 : decode cX12_near 35 = .ok (.iload 6, 2) := by decide +kernel
theorem dX12_near_37 : decode cX12_near 37 = .ok (.bipush 8, 2) := by decide +kernel
theorem dX12_near_39 : decode cX12_near 39 = .ok (.if_icmp .ge 179, 3) := by decide +kernel
theorem dX12_near_42 : decode cX12_near 42 = .ok (.aload_n 0, 1) := by decide +kernel
theorem dX12_near_43 : decode cX12_near 43 = .ok (.iload 5, 2) := by decide +kernel
theorem dX12_near_45 : decode cX12_near 45 = .ok (.invokevirtual 161, 3) := by decide +kernel
theorem dX12_near_48 : decode cX12_near 48 = .ok (.aload_n 0, 1) := by decide +kernel
theorem dX12_near_49 : decode cX12_near 49 = .ok (.iload 6, 2) := by decide +kernel
theorem dX12_near_51 : decode cX12_near 51 = .ok (.invokevirtual 161, 3) := by decide +kernel
theorem dX12_near_54 : decode cX12_near 54 = .ok (.if_icmp .ne 6, 3) := by decide +kernel
theorem dX12_near_57 : decode cX12_near 57 = .ok (.goto 155, 3) := by decide +kernel
theorem dX12_near_60 : decode cX12_near 60 = .ok (.aload_n 0, 1) := by decide +kernel
theorem dX12_near_61 : decode cX12_near 61 = .ok (.iload 5, 2) := by decide +kernel
theorem dX12_near_63 : decode cX12_near 63 = .ok (.invokevirtual 161, 3) := by decide +kernel
theorem dX12_near_66 : decode cX12_near 66 = .ok (.aload_n 0, 1) := by decide +kernel
theorem dX12_near_67 : decode cX12_near 67 = .ok (.iload 6, 2) := by decide +kernel
theorem dX12_near_69 : decode cX12_near 69 = .ok (.invokevirtual 161, 3) := by decide +kernel
theorem dX12_near_72 : decode cX12_near 72 = .ok (.invokestatic 382, 3) := by decide +kernel
theorem dX12_near_75 : decode cX12_near 75 = .ok (.istore 7, 2) := by decide +kernel
theorem dX12_near_77 : decode cX12_near 77 = .ok (.aload_n 0, 1) := by decide +kernel
theorem dX12_near_78 : decode cX12_near 78 = .ok (.iload 5, 2) := by decide +kernel
theorem dX12_near_80 : decode cX12_near 80 = .ok (.invokevirtual 161, 3) := by decide +kernel
theorem dX12_near_83 : decode cX12_near 83 = .ok (.aload_n 0, 1) := by decide +kernel
theorem dX12_near_84 : decode cX12_near 84 = .ok (.iload 6, 2) := by decide +kernel
theorem dX12_near_86 : decode cX12_near 86 = .ok (.invokevirtual 161, 3) := by decide +kernel
theorem dX12_near_89 : decode cX12_near 89 = .ok (.iadd, 1) := by decide +kernel
theorem dX12_near_90 : decode cX12_near 90 = .ok (.iload 7, 2) := by decide +kernel
theorem dX12_near_92 : decode cX12_near 92 = .ok (.isub, 1) := by decide +kernel
theorem dX12_near_93 : decode cX12_near 93 = .ok (.istore 8, 2) := by decide +kernel
theorem dX12_near_95 : decode cX12_near 95 = .ok (.iconst 0, 1) := by decide +kernel
theorem dX12_near_96 : decode cX12_near 96 = .ok (.istore 9, 2) := by decide +kernel
theorem dX12_near_98 : decode cX12_near 98 = .ok (.iconst 0, 1) := by decide +kernel
theorem dX12_near_99 : decode cX12_near 99 = .ok (.istore 10, 2) := by decide +kernel
theorem dX12_near_101 : decode cX12_near 101 = .ok (.iload 10, 2) := by decide +kernel
theorem dX12_near_103 : decode cX12_near 103 = .ok (.aload_n 0, 1) := by decide +kernel
theorem dX12_near_104 : decode cX12_near 104 = .ok (.invokevirtual 121, 3) := by decide +kernel
theorem dX12_near_107 : decode cX12_near 107 = .ok (.if_icmp .ge 85, 3) := by decide +kernel
theorem dX12_near_110 : decode cX12_near 110 = .ok (.aload_n 0, 1) := by decide +kernel
theorem dX12_near_111 : decode cX12_near 111 = .ok (.iload 10, 2) := by decide +kernel
theorem dX12_near_113 : decode cX12_near 113 = .ok (.aload_n 0, 1) := by decide +kernel
theorem dX12_near_114 : decode cX12_near 114 = .ok (.getfield 20, 3) := by decide +kernel
theorem dX12_near_117 : decode cX12_near 117 = .ok (.sipush 313, 3) := by decide +kernel
theorem dX12_near_120 : decode cX12_near 120 = .ok (.iaload, 1) := by decide +kernel
theorem dX12_near_121 : decode cX12_near 121 = .ok (.iconst 0, 1) := by decide +kernel
theorem dX12_near_122 : decode cX12_near 122 = .ok (.invokevirtual 318, 3) := by decide +kernel
theorem dX12_near_125 : decode cX12_near 125 = .ok (.istore 11, 2) := by decide +kernel
theorem dX12_near_127 : decode cX12_near 127 = .ok (.iload 11, 2) := by decide +kernel
theorem dX12_near_129 : decode cX12_near 129 = .ok (.iload 8, 2) := by decide +kernel
theorem dX12_near_131 : decode cX12_near 131 = .ok (.invokestatic 147, 3) := by decide +kernel
theorem dX12_near_134 : decode cX12_near 134 = .ok (.ifCond .eq 19, 3) := by decide +kernel
theorem dX12_near_137 : decode cX12_near 137 = .ok (.iload 11, 2) := by decide +kernel
theorem dX12_near_139 : decode cX12_near 139 = .ok (.iconst 1, 1) := by decide +kernel
theorem dX12_near_140 : decode cX12_near 140 = .ok (.iload 8, 2) := by decide +kernel
theorem dX12_near_142 : decode cX12_near 142 = .ok (.ishl, 1) := by decide +kernel
theorem dX12_near_143 : decode cX12_near 143 = .ok (.iconst (-1), 1) := by decide +kernel
theorem dX12_near_144 : decode cX12_near 144 = .ok (.ixor, 1) := by decide +kernel
theorem dX12_near_145 : decode cX12_near 145 = .ok (.iand, 1) := by decide +kernel
theorem dX12_near_146 : decode cX12_near 146 = .ok (.iconst 1, 1) := by decide +kernel
theorem dX12_near_147 : decode cX12_near 147 = .ok (.iload 7, 2) := by decide +kernel
theorem dX12_near_149 : decode cX12_near 149 = .ok (.ishl, 1) := by decide +kernel
theorem dX12_near_150 : decode cX12_near 150 = .ok (.ior, 1) := by decide +kernel
theorem dX12_near_151 : decode cX12_near 151 = .ok (.istore 11, 2) := by decide +kernel
theorem dX12_near_153 : decode cX12_near 153 = .ok (.iload 9, 2) := by decide +kernel
theorem dX12_near_155 : decode cX12_near 155 = .ok (.iload 11, 2) := by decide +kernel
theorem dX12_near_157 : decode cX12_near 157 = .ok (.invokestatic 327, 3) := by decide +kernel
theorem dX12_near_160 : decode cX12_near 160 = .ok (.aload_n 0, 1) := by decide +kernel
theorem dX12_near_161 : decode cX12_near 161 = .ok (.iload 10, 2) := by decide +kernel
theorem dX12_near_163 : decode cX12_near 163 = .ok (.aload_n 0, 1) := by decide +kernel
theorem dX12_near_164 : decode cX12_near 164 = .ok (.getfield 20, 3) := by decide +kernel
theorem dX12_near_167 : decode cX12_near 167 = .ok (.sipush 313, 3) := by decide +kernel
theorem dX12_near_170 : decode cX12_near 170 = .ok (.iaload, 1) := by decide +kernel
theorem dX12_near_171 : decode cX12_near 171 = .ok (.iconst 0, 1) := by decide +kernel
theorem dX12_near_172 : decode cX12_near 172 = .ok (.invokevirtual 330, 3) := by decide +kernel
theorem dX12_near_175 : decode cX12_near 175 = .ok (.if_icmp .gt 7, 3) := by decide +kernel
theorem dX12_near_178 : decode cX12_near 178 = .ok (.iconst 0, 1) := by decide +kernel
theorem dX12_near_179 : decode cX12_near 179 = .ok (.goto 4, 3) := by decide +kernel
theorem dX12_near_182 : decode cX12_near 182 = .ok (.iconst 1, 1) := by decide +kernel
theorem dX12_near_183 : decode cX12_near 183 = .ok (.iadd, 1) := by decide +kernel
theorem dX12_near_184 : decode cX12_near 184 = .ok (.istore 9, 2) := by decide +kernel
theorem dX12_near_186 : decode cX12_near 186 = .ok (.iinc 10 1, 3) := by decide +kernel
theorem dX12_near_189 : decode cX12_near 189 = .ok (.goto (-88), 3) := by decide +kernel
theorem dX12_near_192 : decode cX12_near 192 = .ok (.iload 9, 2) := by decide +kernel
theorem dX12_near_194 : decode cX12_near 194 = .ok (.iload 4, 2) := by decide +kernel
theorem dX12_near_196 : decode cX12_near 196 = .ok (.if_icmp .lt 6, 3) := by decide +kernel
theorem dX12_near_199 : decode cX12_near 199 = .ok (.goto 13, 3) := by decide +kernel
theorem dX12_near_202 : decode cX12_near 202 = .ok (.iload 5, 2) := by decide +kernel
theorem dX12_near_204 : decode cX12_near 204 = .ok (.istore_n 2, 1) := by decide +kernel
theorem dX12_near_205 : decode cX12_near 205 = .ok (.iload 6, 2) := by decide +kernel
theorem dX12_near_207 : decode cX12_near 207 = .ok (.istore_n 3, 1) := by decide +kernel
theorem dX12_near_208 : decode cX12_near 208 = .ok (.iload 9, 2) := by decide +kernel
theorem dX12_near_210 : decode cX12_near 210 = .ok (.istore 4, 2) := by decide +kernel
theorem dX12_near_212 : decode cX12_near 212 = .ok (.iinc 6 1, 3) := by decide +kernel
theorem dX12_near_215 : decode cX12_near 215 = .ok (.goto (-180), 3) := by decide +kernel
theorem dX12_near_218 : decode cX12_near 218 = .ok (.iinc 5 1, 3) := by decide +kernel
theorem dX12_near_221 : decode cX12_near 221 = .ok (.goto (-199), 3) := by decide +kernel
theorem dX12_near_224 : decode cX12_near 224 = .ok (.iload_n 2, 1) := by decide +kernel
theorem dX12_near_225 : decode cX12_near 225 = .ok (.iconst (-1), 1) := by decide +kernel
theorem dX12_near_226 : decode cX12_near 226 = .ok (.if_icmp .ne 7, 3) := by decide +kernel
theorem dX12_near_229 : decode cX12_near 229 = .ok (.iconst (-1), 1) := by decide +kernel
theorem dX12_near_230 : decode cX12_near 230 = .ok (.goto 22, 3) := by decide +kernel
theorem dX12_near_233 : decode cX12_near 233 = .ok (.iload_n 1, 1) := by decide +kernel
theorem dX12_near_234 : decode cX12_near 234 = .ok (.ifCond .ne 7, 3) := by decide +kernel
theorem dX12_near_237 : decode cX12_near 237 = .ok (.iload_n 2, 1) := by decide +kernel
theorem dX12_near_238 : decode cX12_near 238 = .ok (.goto 14, 3) := by decide +kernel
theorem dX12_near_241 : decode cX12_near 241 = .ok (.iload_n 1, 1) := by decide +kernel
theorem dX12_near_242 : decode cX12_near 242 = .ok (.iconst 1, 1) := by decide +kernel
theorem dX12_near_243 : decode cX12_near 243 = .ok (.if_icmp .ne 7, 3) := by decide +kernel
theorem dX12_near_246 : decode cX12_near 246 = .ok (.iload_n 3, 1) := by decide +kernel
theorem dX12_near_247 : decode cX12_near 247 = .ok (.goto 5, 3) := by decide +kernel
theorem dX12_near_250 : decode cX12_near 250 = .ok (.iload 4, 2) := by decide +kernel
theorem dX12_near_252 : decode cX12_near 252 = .ok (.ireturn, 1) := by decide +kernel
set_option maxRecDepth 20000 in
theorem s_X12_near {w : Wd} {d : Nat} {P : Int → IM → LM → Prop} {i : IM} {l : LM} (p0 : Int)  (hd : 1 ≤ d) (h : ((rg p0) ∧ (((0 ≤ p0 ∧ p0 ≤ 2) → gI w d X_X12_near P i l 22 [(0, vR (some 99)), (1, vI p0), (2, vI (-1)), (3, vI (-1)), (4, vI 1000000), (5, vI 0)] []) ∧ ((¬ (0 ≤ p0 ∧ p0 ≤ 2)) → P (-1) i l)))) : gI w d X_X12_near P i l 0 [(0, vR (some 99)), (1, vI p0)] [] := by
  obtain ⟨ob1, h⟩ := h
  refine g_iload_n (pc' := 1) 1 dX12_near_0 rfl rfl ?_
  refine g_iconst (pc' := 2) dX12_near_1 rfl ?_
  refine g_iconst (pc' := 3) dX12_near_2 rfl ?_
  refine g_pSI (pc' := 6) (vs := [vI p0, vI 0, vI 2]) (st := []) (val := bI (0 ≤ p0 ∧ p0 ≤ 2)) (sp_X12_lies (le_hd hd rfl) ob1 (rg_lit rfl) (rg_lit rfl)) mk_X12_lies ms_X12_lies lk_X12_106 rfl (Nat.le_of_ble_eq_true rfl) (Nat.le_of_ble_eq_true rfl) rfl dX12_near_3 rfl z2 (fun rg2 => ?_)
  obtain ⟨hk5, hk6⟩ := h
  have hk5g : (0 ≤ p0 ∧ p0 ≤ 2) → gI w d X_X12_near P i l 11 [(0, vR (some 99)), (1, vI p0)] [] := by
    intro hp
    have h := hk5 hp
    refine g_iconst (pc' := 12) dX12_near_11 rfl ?_
    refine g_istore_n (pc' := 13) (L' := [(2, vI (-1)), (0, vR (some 99)), (1, vI p0)]) dX12_near_12 rfl (Nat.le_of_ble_eq_true rfl) rfl ?_
    refine g_iconst (pc' := 14) dX12_near_13 rfl ?_
    refine g_istore_n (pc' := 15) (L' := [(3, vI (-1)), (2, vI (-1)), (0, vR (some 99)), (1, vI p0)]) dX12_near_14 rfl (Nat.le_of_ble_eq_true rfl) rfl ?_
    refine g_ldc (pc' := 17) dX12_near_15 rfl kc_X12_192 ?_
    refine g_istore (pc' := 19) (L' := [(4, vI 1000000), (3, vI (-1)), (2, vI (-1)), (0, vR (some 99)), (1, vI p0)]) dX12_near_17 rfl (Nat.le_of_ble_eq_true rfl) rfl ?_
    refine g_iconst (pc' := 20) dX12_near_19 rfl ?_
    refine g_istore (pc' := 22) (L' := [(5, vI 0), (4, vI 1000000), (3, vI (-1)), (2, vI (-1)), (0, vR (some 99)), (1, vI p0)]) dX12_near_20 rfl (Nat.le_of_ble_eq_true rfl) rfl ?_
    refine g_sub (L' := [(0, vR (some 99)), (1, vI p0), (2, vI (-1)), (3, vI (-1)), (4, vI 1000000), (5, vI 0)]) [4, 5, 3, 2, 1, 0] rfl ?_
    exact h
  have hk6g : (¬ (0 ≤ p0 ∧ p0 ≤ 2)) → gI w d X_X12_near P i l 9 [(0, vR (some 99)), (1, vI p0)] [] := by
    intro hp
    have h := hk6 hp
    refine g_iconst (pc' := 10) dX12_near_9 rfl ?_
    exact g_retI rfl (rg_lit rfl) dX12_near_10 h
  refine g_if_ne (tgt := 11) (pc' := 9) rg2 (bI_eq _) dX12_near_6 rfl rfl (fun c4n => ?_) (fun c4 => ?_)
  · have c4 := Decidable.of_not_not c4n
    exact hk5g c4
  · exact hk6g c4
theorem e_X12_near {w : Wd} {d : Nat} {P : Int → IM → LM → Prop} {i : IM} {l : LM} {p0 : Int}  (h : gI w d X_X12_near P i l 0 [(0, vR (some 99)), (1, vI p0)] []) : cI w (d + 1) X_X12_near [vR (some 99), vI p0] i l P := CI_of (by decide +kernel) (Nat.le_of_ble_eq_true rfl) h
set_option maxRecDepth 20000 in
theorem s_X12_near_22 {w : Wd} {d : Nat} {P : Int → IM → LM → Prop} {i : IM} {l : LM} (x1 : Int) (x2 : Int) (x3 : Int) (x4 : Int) (x5 : Int)  (h : ((rg x5) ∧ ((8 ≤ x5) → rg x2) ∧ (((8 ≤ x5) ∧ (¬ (x2 = (-1)))) → ((rg x1) ∧ ((rg (if (x1 = 0) then x2 else (if (x1 = 1) then x3 else x4))) ∧ P (if (x1 = 0) then x2 else (if (x1 = 1) then x3 else x4)) i l))) ∧ (((8 ≤ x5) ∧ (x2 = (-1))) → P (-1) i l) ∧ ((¬ (8 ≤ x5)) → gI w d X_X12_near P i l 35 [(0, vR (some 99)), (1, vI x1), (2, vI x2), (3, vI x3), (4, vI x4), (5, vI x5), (6, vI (x5 + 1))] []))) : gI w d X_X12_near P i l 22 [(0, vR (some 99)), (1, vI x1), (2, vI x2), (3, vI x3), (4, vI x4), (5, vI x5)] [] := by
  refine g_iload (pc' := 24) 5 dX12_near_22 rfl rfl ?_
  refine g_bipush (pc' := 26) dX12_near_24 rfl rfl ?_
  obtain ⟨hob28, hob30, hk37, hk38, hk39⟩ := h
  have hk37g : ((8 ≤ x5) ∧ (¬ (x2 = (-1)))) → gI w d X_X12_near P i l 233 [(0, vR (some 99)), (1, vI x1), (2, vI x2), (3, vI x3), (4, vI x4), (5, vI x5)] [] := by
    intro hp
    have h := hk37 hp
    refine g_iload_n (pc' := 234) 1 dX12_near_233 rfl rfl ?_
    obtain ⟨hob33, h⟩ := h
    have hJ : gI w d X_X12_near P i l 252 [(0, vR (some 99)), (1, vI x1), (2, vI x2), (3, vI x3), (4, vI x4), (5, vI x5)] [vI (if (x1 = 0) then x2 else (if (x1 = 1) then x3 else x4))] := by
      obtain ⟨ob36, h⟩ := h
      exact g_retI rfl ob36 dX12_near_252 h
    refine g_if_ne (tgt := 241) (pc' := 237) (hob33) Iff.rfl dX12_near_234 rfl rfl (fun c34 => ?_) (fun c34 => ?_)
    · refine g_iload_n (pc' := 242) 1 dX12_near_241 rfl rfl ?_
      refine g_iconst (pc' := 243) dX12_near_242 rfl ?_
      refine g_icmp_ne (tgt := 250) (pc' := 246) (hob33) (rg_lit rfl) Iff.rfl dX12_near_243 rfl rfl (fun c35 => ?_) (fun c35 => ?_)
      · refine g_iload (pc' := 252) 4 dX12_near_250 rfl rfl ?_
        rw [if_neg c34 (α := Int) (t := x2) (e := (if (x1 = 1) then x3 else x4)), if_neg c35 (α := Int) (t := x3) (e := x4)] at hJ
        exact hJ
      · refine g_iload_n (pc' := 247) 3 dX12_near_246 rfl rfl ?_
        refine g_goto (tgt := 252) dX12_near_247 rfl ?_
        rw [if_neg c34 (α := Int) (t := x2) (e := (if (x1 = 1) then x3 else x4)), if_pos c35 (α := Int) (t := x3) (e := x4)] at hJ
        exact hJ
    · refine g_iload_n (pc' := 238) 2 dX12_near_237 rfl rfl ?_
      refine g_goto (tgt := 252) dX12_near_238 rfl ?_
      rw [if_pos c34 (α := Int) (t := x2) (e := (if (x1 = 1) then x3 else x4))] at hJ
      exact hJ
  have hk38g : ((8 ≤ x5) ∧ (x2 = (-1))) → gI w d X_X12_near P i l 252 [(0, vR (some 99)), (1, vI x1), (2, vI x2), (3, vI x3), (4, vI x4), (5, vI x5)] [vI (-1)] := by
    intro hp
    have h := hk38 hp
    exact g_retI rfl (rg_lit rfl) dX12_near_252 h
  have hk39g : (¬ (8 ≤ x5)) → gI w d X_X12_near P i l 29 [(0, vR (some 99)), (1, vI x1), (2, vI x2), (3, vI x3), (4, vI x4), (5, vI x5)] [] := by
    intro hp
    have h := hk39 hp
    refine g_iload (pc' := 31) 5 dX12_near_29 rfl rfl ?_
    refine g_iconst (pc' := 32) dX12_near_31 rfl ?_
    refine g_iadd (pc' := 33) dX12_near_32 rfl ?_
    refine g_istore (pc' := 35) (L' := [(6, vI (x5 + 1)), (0, vR (some 99)), (1, vI x1), (2, vI x2), (3, vI x3), (4, vI x4), (5, vI x5)]) dX12_near_33 rfl (Nat.le_of_ble_eq_true rfl) rfl ?_
    refine g_sub (L' := [(0, vR (some 99)), (1, vI x1), (2, vI x2), (3, vI x3), (4, vI x4), (5, vI x5), (6, vI (x5 + 1))]) [1, 2, 3, 4, 5, 6, 0] rfl ?_
    exact h
  refine g_icmp_ge (tgt := 224) (pc' := 29) (hob28) (rg_lit rfl) Iff.rfl dX12_near_26 rfl rfl (fun c29 => ?_) (fun c29 => ?_)
  · refine g_iload_n (pc' := 225) 2 dX12_near_224 rfl rfl ?_
    refine g_iconst (pc' := 226) dX12_near_225 rfl ?_
    refine g_icmp_ne (tgt := 233) (pc' := 229) (hob30 c29) (rg_lit rfl) Iff.rfl dX12_near_226 rfl rfl (fun c31 => ?_) (fun c31 => ?_)
    · exact hk37g ⟨c29, c31⟩
    · refine g_iconst (pc' := 230) dX12_near_229 rfl ?_
      refine g_goto (tgt := 252) dX12_near_230 rfl ?_
      exact hk38g ⟨c29, c31⟩
  · exact hk39g c29
set_option maxRecDepth 20000 in
theorem s_X12_near_35 {w : Wd} {d : Nat} {P : Int → IM → LM → Prop} {i : IM} {l : LM} (x1 : Int) (x2 : Int) (x3 : Int) (x4 : Int) (x5 : Int) (x6 : Int)  (hd : 2 ≤ d) (h : ((rg x6) ∧ (¬ (8 ≤ x6) → 0 ≤ x5 ∧ x5 < 8) ∧ (¬ (8 ≤ x6) → sameOK i) ∧ (¬ (8 ≤ x6) → 0 ≤ x6 ∧ x6 < 8) ∧ ((8 ≤ x6) → gI w d X_X12_near P i l 22 [(0, vR (some 99)), (1, vI x1), (2, vI x2), (3, vI x3), (4, vI x4), (5, vI (x5 + 1))] []) ∧ ((¬ (8 ≤ x6) ∧ (¬ (mLow i x5 = mLow i x6))) → ((0 ≤ x5 ∧ x5 < 8) ∧ (sameOK i) ∧ (0 ≤ x6 ∧ x6 < 8) ∧ gI w d X_X12_near P i l 101 [(0, vR (some 99)), (1, vI x1), (2, vI x2), (3, vI x3), (4, vI x4), (5, vI x5), (6, vI x6), (7, vI (min (mLow i x5) (mLow i x6))), (8, vI (((mLow i x5) + (mLow i x6)) - (min (mLow i x5) (mLow i x6)))), (9, vI 0), (10, vI 0)] [])) ∧ ((¬ (8 ≤ x6) ∧ (mLow i x5 = mLow i x6)) → gI w d X_X12_near P i l 35 [(0, vR (some 99)), (1, vI x1), (2, vI x2), (3, vI x3), (4, vI x4), (5, vI x5), (6, vI (x6 + 1))] []))) : gI w d X_X12_near P i l 35 [(0, vR (some 99)), (1, vI x1), (2, vI x2), (3, vI x3), (4, vI x4), (5, vI x5), (6, vI x6)] [] := by
  refine g_iload (pc' := 37) 6 dX12_near_35 rfl rfl ?_
  refine g_bipush (pc' := 39) dX12_near_37 rfl rfl ?_
  obtain ⟨hob41, hob43, hob44, hob46, hk60, hk61, hk62⟩ := h
  have hk60g : (8 ≤ x6) → gI w d X_X12_near P i l 218 [(0, vR (some 99)), (1, vI x1), (2, vI x2), (3, vI x3), (4, vI x4), (5, vI x5), (6, vI x6)] [] := by
    intro hp
    have h := hk60 hp
    refine g_iinc (pc' := 221) (L' := [(5, vI (x5 + 1)), (0, vR (some 99)), (1, vI x1), (2, vI x2), (3, vI x3), (4, vI x4), (6, vI x6)]) 5 dX12_near_218 rfl (Nat.le_of_ble_eq_true rfl) rfl rfl ?_
    refine g_goto (tgt := 22) dX12_near_221 rfl ?_
    refine g_sub (L' := [(0, vR (some 99)), (1, vI x1), (2, vI x2), (3, vI x3), (4, vI x4), (5, vI (x5 + 1))]) [1, 2, 3, 4, 5, 0] rfl ?_
    exact h
  have hk61g : (¬ (8 ≤ x6) ∧ (¬ (mLow i x5 = mLow i x6))) → gI w d X_X12_near P i l 60 [(0, vR (some 99)), (1, vI x1), (2, vI x2), (3, vI x3), (4, vI x4), (5, vI x5), (6, vI x6)] [] := by
    intro hp
    have h := hk61 hp
    obtain ⟨ob52, ob53, ob55, h⟩ := h
    refine g_aload_n (pc' := 61) 0 dX12_near_60 rfl rfl ?_
    refine g_iload (pc' := 63) 5 dX12_near_61 rfl rfl ?_
    refine g_pVI (pc' := 66) (vs := [vI x5]) (st := []) (val := mLow i x5) (c := 12) (sp_X12_lowestOf (le_hd hd rfl) ob52 ob53) mv_X12_lowestOf lk_X12_161 rfl rfl rfl rfl (Nat.le_of_ble_eq_true rfl) (Nat.le_of_ble_eq_true rfl) rfl dX12_near_63 rfl z2 (fun rg54 => ?_)
    refine g_aload_n (pc' := 67) 0 dX12_near_66 rfl rfl ?_
    refine g_iload (pc' := 69) 6 dX12_near_67 rfl rfl ?_
    refine g_pVI (pc' := 72) (vs := [vI x6]) (st := [vI (mLow i x5)]) (val := mLow i x6) (c := 12) (sp_X12_lowestOf (le_hd hd rfl) ob55 ob53) mv_X12_lowestOf lk_X12_161 rfl rfl rfl rfl (Nat.le_of_ble_eq_true rfl) (Nat.le_of_ble_eq_true rfl) rfl dX12_near_69 rfl z2 (fun rg56 => ?_)
    refine g_pSI (pc' := 75) (vs := [vI (mLow i x5), vI (mLow i x6)]) (st := []) (val := min (mLow i x5) (mLow i x6)) (sp_X12_lesser (le_hd hd rfl) rg54 rg56) mk_X12_lesser ms_X12_lesser lk_X12_382 rfl (Nat.le_of_ble_eq_true rfl) (Nat.le_of_ble_eq_true rfl) rfl dX12_near_72 rfl z2 (fun rg57 => ?_)
    refine g_istore (pc' := 77) (L' := [(7, vI (min (mLow i x5) (mLow i x6))), (0, vR (some 99)), (1, vI x1), (2, vI x2), (3, vI x3), (4, vI x4), (5, vI x5), (6, vI x6)]) dX12_near_75 rfl (Nat.le_of_ble_eq_true rfl) rfl ?_
    refine g_aload_n (pc' := 78) 1 dX12_near_77 rfl rfl ?_
    refine g_iload (pc' := 80) 6 dX12_near_78 rfl rfl ?_
    refine g_pVI (pc' := 83) (vs := [vI x5]) (st := []) (val := mLow i x5) (c := 12) (sp_X12_lowestOf (le_hd hd rfl) ob52 ob53) mv_X12_lowestOf lk_X12_161 rfl rfl rfl rfl (Nat.le_of_ble_eq_true rfl) (Nat.le_of_ble_eq_true rfl) rfl dX12_near_80 rfl z2 (fun rg58 => ?_)
    refine g_aload_n (pc' := 84) 1 dX12_near_83 rfl rfl ?_
    refine g_iload (pc' := 86) 7 dX12_near_84 rfl rfl ?_
    refine g_pVI (pc' := 89) (vs := [vI x6]) (st := [vI (mLow i x5)]) (val := mLow i x6) (c := 12) (sp_X12_lowestOf (le_hd hd rfl) ob55 ob53) mv_X12_lowestOf lk_X12_161 rfl rfl rfl rfl (Nat.le_of_ble_eq_true rfl) (Nat.le_of_ble_eq_true rfl) rfl dX12_near_86 rfl z2 (fun rg59 => ?_)
    refine g_iadd (pc' := 90) dX12_near_89 rfl ?_
    refine g_iload (pc' := 92) 0 dX12_near_90 rfl rfl ?_
    refine g_isub (pc' := 93) dX12_near_92 rfl ?_
    refine g_istore (pc' := 95) (L' := [(8, vI (((mLow i x5) + (mLow i x6)) - (min (mLow i x5) (mLow i x6)))), (7, vI (min (mLow i x5) (mLow i x6))), (0, vR (some 99)), (1, vI x1), (2, vI x2), (3, vI x3), (4, vI x4), (5, vI x5), (6, vI x6)]) dX12_near_93 rfl (Nat.le_of_ble_eq_true rfl) rfl ?_
    refine g_iconst (pc' := 96) dX12_near_95 rfl ?_
    refine g_istore (pc' := 98) (L' := [(9, vI 0), (8, vI (((mLow i x5) + (mLow i x6)) - (min (mLow i x5) (mLow i x6)))), (7, vI (min (mLow i x5) (mLow i x6))), (0, vR (some 99)), (1, vI x1), (2, vI x2), (3, vI x3), (4, vI x4), (5, vI x5), (6, vI x6)]) dX12_near_96 rfl (Nat.le_of_ble_eq_true rfl) rfl ?_
    refine g_iconst (pc' := 99) dX12_near_98 rfl ?_
    refine g_istore (pc' := 101) (L' := [(10, vI 0), (9, vI 0), (8, vI (((mLow i x5) + (mLow i x6)) - (min (mLow i x5) (mLow i x6)))), (7, vI (min (mLow i x5) (mLow i x6))), (0, vR (some 99)), (1, vI x1), (2, vI x2), (3, vI x3), (4, vI x4), (5, vI x5), (6, vI x6)]) dX12_near_99 rfl (Nat.le_of_ble_eq_true rfl) rfl ?_
    refine g_sub (L' := [(0, vR (some 99)), (1, vI x1), (2, vI x2), (3, vI x3), (4, vI x4), (5, vI x5), (6, vI x6), (7, vI (min (mLow i x5) (mLow i x6))), (8, vI (((mLow i x5) + (mLow i x6)) - (min (mLow i x5) (mLow i x6)))), (9, vI 0), (10, vI 0)]) [4, 5, 6, 7, 8, 9, 10, 3, 2, 1, 0] rfl ?_
    exact h
  have hk62g : (¬ (8 ≤ x6) ∧ (mLow i x5 = mLow i x6)) → gI w d X_X12_near P i l 212 [(0, vR (some 99)), (1, vI x1), (2, vI x2), (3, vI x3), (4, vI x4), (5, vI x5), (6, vI x6)] [] := by
    intro hp
    have h := hk62 hp
    refine g_iinc (pc' := 215) (L' := [(6, vI (x6 + 1)), (0, vR (some 99)), (1, vI x1), (2, vI x2), (3, vI x3), (4, vI x4), (5, vI x5)]) 6 dX12_near_212 rfl (Nat.le_of_ble_eq_true rfl) rfl rfl ?_
    refine g_goto (tgt := 35) dX12_near_215 rfl ?_
    refine g_sub (L' := [(0, vR (some 99)), (1, vI x1), (2, vI x2), (3, vI x3), (4, vI x4), (5, vI x5), (6, vI (x6 + 1))]) [1, 2, 3, 4, 5, 6, 0] rfl ?_
    exact h
  refine g_icmp_ge (tgt := 218) (pc' := 42) (hob41) (rg_lit rfl) Iff.rfl dX12_near_39 rfl rfl (fun c42 => ?_) (fun c42 => ?_)
  · exact hk60g c42
  · refine g_aload_n (pc' := 43) 0 dX12_near_42 rfl rfl ?_
    refine g_iload (pc' := 45) 5 dX12_near_43 rfl rfl ?_
    refine g_pVI (pc' := 48) (vs := [vI x5]) (st := []) (val := mLow i x5) (c := 12) (sp_X12_lowestOf (le_hd hd rfl) (hob43 c42) (hob44 c42)) mv_X12_lowestOf lk_X12_161 rfl rfl rfl rfl (Nat.le_of_ble_eq_true rfl) (Nat.le_of_ble_eq_true rfl) rfl dX12_near_45 rfl z2 (fun rg45 => ?_)
    refine g_aload_n (pc' := 49) 0 dX12_near_48 rfl rfl ?_
    refine g_iload (pc' := 51) 6 dX12_near_49 rfl rfl ?_
    refine g_pVI (pc' := 54) (vs := [vI x6]) (st := [vI (mLow i x5)]) (val := mLow i x6) (c := 12) (sp_X12_lowestOf (le_hd hd rfl) (hob46 c42) (hob44 c42)) mv_X12_lowestOf lk_X12_161 rfl rfl rfl rfl (Nat.le_of_ble_eq_true rfl) (Nat.le_of_ble_eq_true rfl) rfl dX12_near_51 rfl z2 (fun rg47 => ?_)
    refine g_icmp_ne (tgt := 60) (pc' := 57) rg45 rg47 Iff.rfl dX12_near_54 rfl rfl (fun c48 => ?_) (fun c48 => ?_)
    · exact hk61g ⟨c42, c48⟩
    · refine g_goto (tgt := 212) dX12_near_57 rfl ?_
      exact hk62g ⟨c42, c48⟩
set_option maxRecDepth 20000 in
theorem s_X12_near_101 {w : Wd} {d : Nat} {P : Int → IM → LM → Prop} {i : IM} {l : LM} (x1 : Int) (x2 : Int) (x3 : Int) (x4 : Int) (x5 : Int) (x6 : Int) (x7 : Int) (x8 : Int) (x9 : Int) (x10 : Int)  (hd : 1 ≤ d) (h : ((rg x10) ∧ ((i 101 308 ≤ x10) → rg x9) ∧ ((i 101 308 ≤ x10) → rg x4) ∧ (((i 101 308 ≤ x10) ∧ (x9 < x4)) → gI w d X_X12_near P i l 35 [(0, vR (some 99)), (1, vI x1), (2, vI x5), (3, vI x6), (4, vI x9), (5, vI x5), (6, vI (x6 + 1))] []) ∧ (((i 101 308 ≤ x10) ∧ (¬ (x9 < x4))) → gI w d X_X12_near P i l 35 [(0, vR (some 99)), (1, vI x1), (2, vI x2), (3, vI x3), (4, vI x4), (5, vI x5), (6, vI (x6 + 1))] []) ∧ ((¬ (i 101 308 ≤ x10)) → cI w d X_X12_thingsSeen [vR (some 99), vI x10, vI (i 101 313), vI 0] i l (fun r72 i72 l72 => (((iand (ishr r72 x8) 1 = 1) → gI w d X_X12_near P i72 l72 153 [(0, vR (some 99)), (1, vI x1), (2, vI x2), (3, vI x3), (4, vI x4), (5, vI x5), (6, vI x6), (7, vI x7), (8, vI x8), (9, vI x9), (10, vI x10), (11, vI (ior (iand r72 (ixor (ishl 1 x8) (-1))) (ishl 1 x7)))] []) ∧ ((¬ (iand (ishr r72 x8) 1 = 1)) → gI w d X_X12_near P i72 l72 153 [(0, vR (some 99)), (1, vI x1), (2, vI x2), (3, vI x3), (4, vI x4), (5, vI x5), (6, vI x6), (7, vI x7), (8, vI x8), (9, vI x9), (10, vI x10), (11, vI r72)] [])))))) : gI w d X_X12_near P i l 101 [(0, vR (some 99)), (1, vI x1), (2, vI x2), (3, vI x3), (4, vI x4), (5, vI x5), (6, vI x6), (7, vI x7), (8, vI x8), (9, vI x9), (10, vI x10)] [] := by
  refine g_iload (pc' := 103) 10 dX12_near_101 rfl rfl ?_
  refine g_aload_n (pc' := 104) 0 dX12_near_103 rfl rfl ?_
  refine g_pVI (pc' := 107) (vs := []) (st := [vI x10]) (val := i 101 308) (c := 12) (sp_X12_windows (le_hd hd rfl) ) mv_X12_windows lk_X12_121 rfl rfl rfl rfl (Nat.le_of_ble_eq_true rfl) (Nat.le_of_ble_eq_true rfl) rfl dX12_near_104 rfl z2 (fun rg63 => ?_)
  obtain ⟨hob65, hob67, hob68, hk78, hk79, hk80⟩ := h
  have hk78g : ((i 101 308 ≤ x10) ∧ (x9 < x4)) → gI w d X_X12_near P i l 202 [(0, vR (some 99)), (1, vI x1), (2, vI x2), (3, vI x3), (4, vI x4), (5, vI x5), (6, vI x6), (7, vI x7), (8, vI x8), (9, vI x9), (10, vI x10)] [] := by
    intro hp
    have h := hk78 hp
    refine g_iload (pc' := 204) 5 dX12_near_202 rfl rfl ?_
    refine g_istore_n (pc' := 205) (L' := [(2, vI x5), (0, vR (some 99)), (1, vI x1), (3, vI x3), (4, vI x4), (5, vI x5), (6, vI x6), (7, vI x7), (8, vI x8), (9, vI x9), (10, vI x10)]) dX12_near_204 rfl (Nat.le_of_ble_eq_true rfl) rfl ?_
    refine g_iload (pc' := 207) 6 dX12_near_205 rfl rfl ?_
    refine g_istore_n (pc' := 208) (L' := [(3, vI x6), (2, vI x5), (0, vR (some 99)), (1, vI x1), (4, vI x4), (5, vI x5), (6, vI x6), (7, vI x7), (8, vI x8), (9, vI x9), (10, vI x10)]) dX12_near_207 rfl (Nat.le_of_ble_eq_true rfl) rfl ?_
    refine g_iload (pc' := 210) 9 dX12_near_208 rfl rfl ?_
    refine g_istore (pc' := 212) (L' := [(4, vI x9), (3, vI x6), (2, vI x5), (0, vR (some 99)), (1, vI x1), (5, vI x5), (6, vI x6), (7, vI x7), (8, vI x8), (9, vI x9), (10, vI x10)]) dX12_near_210 rfl (Nat.le_of_ble_eq_true rfl) rfl ?_
    refine g_iinc (pc' := 215) (L' := [(6, vI (x6 + 1)), (4, vI x9), (3, vI x6), (2, vI x5), (0, vR (some 99)), (1, vI x1), (5, vI x5), (7, vI x7), (8, vI x8), (9, vI x9), (10, vI x10)]) 6 dX12_near_212 rfl (Nat.le_of_ble_eq_true rfl) rfl rfl ?_
    refine g_goto (tgt := 35) dX12_near_215 rfl ?_
    refine g_sub (L' := [(0, vR (some 99)), (1, vI x1), (2, vI x5), (3, vI x6), (4, vI x9), (5, vI x5), (6, vI (x6 + 1))]) [4, 5, 3, 2, 1, 6, 0] rfl ?_
    exact h
  have hk79g : ((i 101 308 ≤ x10) ∧ (¬ (x9 < x4))) → gI w d X_X12_near P i l 212 [(0, vR (some 99)), (1, vI x1), (2, vI x2), (3, vI x3), (4, vI x4), (5, vI x5), (6, vI x6), (7, vI x7), (8, vI x8), (9, vI x9), (10, vI x10)] [] := by
    intro hp
    have h := hk79 hp
    refine g_iinc (pc' := 215) (L' := [(6, vI (x6 + 1)), (0, vR (some 99)), (1, vI x1), (2, vI x2), (3, vI x3), (4, vI x4), (5, vI x5), (7, vI x7), (8, vI x8), (9, vI x9), (10, vI x10)]) 6 dX12_near_212 rfl (Nat.le_of_ble_eq_true rfl) rfl rfl ?_
    refine g_goto (tgt := 35) dX12_near_215 rfl ?_
    refine g_sub (L' := [(0, vR (some 99)), (1, vI x1), (2, vI x2), (3, vI x3), (4, vI x4), (5, vI x5), (6, vI (x6 + 1))]) [1, 2, 3, 4, 5, 6, 0] rfl ?_
    exact h
  have hk80g : (¬ (i 101 308 ≤ x10)) → gI w d X_X12_near P i l 110 [(0, vR (some 99)), (1, vI x1), (2, vI x2), (3, vI x3), (4, vI x4), (5, vI x5), (6, vI x6), (7, vI x7), (8, vI x8), (9, vI x9), (10, vI x10)] [] := by
    intro hp
    have h := hk80 hp
    refine g_aload_n (pc' := 111) 0 dX12_near_110 rfl rfl ?_
    refine g_iload (pc' := 113) 10 dX12_near_111 rfl rfl ?_
    refine g_aload_n (pc' := 114) 0 dX12_near_113 rfl rfl ?_
    refine g_getR (pc' := 117) (o := some 101) fl_X12_20 rfl rfl rfl dX12_near_114 rfl ?_
    refine g_sipush (pc' := 120) dX12_near_117 rfl rfl ?_
    refine g_iald (pc' := 121) (N := 5120) rfl rfl (Nat.lt_of_lt_of_le (Nat.lt_succ_self _) (Nat.le_of_ble_eq_true rfl)) (by decide) dX12_near_120 rfl (fun rg71 => ?_)
    refine g_iconst (pc' := 122) dX12_near_121 rfl ?_
    refine g_cVI (pc' := 125) (vs := [vI x10, vI (i 101 313), vI 0]) (st := []) (c := 12) h mv_X12_thingsSeen lk_X12_318 rfl rfl rfl rfl (Nat.le_of_ble_eq_true rfl) (Nat.le_of_ble_eq_true rfl) rfl dX12_near_122 rfl z2 (fun r72 i72 l72 rg72 h => ?_)
    refine g_istore (pc' := 127) (L' := [(11, vI r72), (0, vR (some 99)), (1, vI x1), (2, vI x2), (3, vI x3), (4, vI x4), (5, vI x5), (6, vI x6), (7, vI x7), (8, vI x8), (9, vI x9), (10, vI x10)]) dX12_near_125 rfl (Nat.le_of_ble_eq_true rfl) rfl ?_
    refine g_iload (pc' := 129) 0 dX12_near_127 rfl rfl ?_
    refine g_iload (pc' := 131) 9 dX12_near_129 rfl rfl ?_
    refine g_pSI (pc' := 134) (vs := [vI r72, vI x8]) (st := []) (val := bI (iand (ishr r72 x8) 1 = 1)) (sp_X12_isIn (le_hd hd rfl) ) mk_X12_isIn ms_X12_isIn lk_X12_147 rfl (Nat.le_of_ble_eq_true rfl) (Nat.le_of_ble_eq_true rfl) rfl dX12_near_131 rfl z2 (fun rg73 => ?_)
    obtain ⟨hk76, hk77⟩ := h
    have hk76g : (iand (ishr r72 x8) 1 = 1) → gI w d X_X12_near P i72 l72 137 [(11, vI r72), (0, vR (some 99)), (1, vI x1), (2, vI x2), (3, vI x3), (4, vI x4), (5, vI x5), (6, vI x6), (7, vI x7), (8, vI x8), (9, vI x9), (10, vI x10)] [] := by
      intro hp
      have h := hk76 hp
      refine g_iload (pc' := 139) 0 dX12_near_137 rfl rfl ?_
      refine g_iconst (pc' := 140) dX12_near_139 rfl ?_
      refine g_iload (pc' := 142) 9 dX12_near_140 rfl rfl ?_
      refine g_ishl (pc' := 143) dX12_near_142 rfl ?_
      refine g_iconst (pc' := 144) dX12_near_143 rfl ?_
      refine g_ixor (pc' := 145) dX12_near_144 rfl ?_
      refine g_iand (pc' := 146) dX12_near_145 rfl ?_
      refine g_iconst (pc' := 147) dX12_near_146 rfl ?_
      refine g_iload (pc' := 149) 8 dX12_near_147 rfl rfl ?_
      refine g_ishl (pc' := 150) dX12_near_149 rfl ?_
      refine g_ior (pc' := 151) dX12_near_150 rfl ?_
      refine g_istore (pc' := 153) (L' := [(11, vI (ior (iand r72 (ixor (ishl 1 x8) (-1))) (ishl 1 x7))), (0, vR (some 99)), (1, vI x1), (2, vI x2), (3, vI x3), (4, vI x4), (5, vI x5), (6, vI x6), (7, vI x7), (8, vI x8), (9, vI x9), (10, vI x10)]) dX12_near_151 rfl (Nat.le_of_ble_eq_true rfl) rfl ?_
      refine g_sub (L' := [(0, vR (some 99)), (1, vI x1), (2, vI x2), (3, vI x3), (4, vI x4), (5, vI x5), (6, vI x6), (7, vI x7), (8, vI x8), (9, vI x9), (10, vI x10), (11, vI (ior (iand r72 (ixor (ishl 1 x8) (-1))) (ishl 1 x7)))]) [1, 2, 3, 4, 5, 6, 7, 8, 9, 10, 11, 0] rfl ?_
      exact h
    have hk77g : (¬ (iand (ishr r72 x8) 1 = 1)) → gI w d X_X12_near P i72 l72 153 [(11, vI r72), (0, vR (some 99)), (1, vI x1), (2, vI x2), (3, vI x3), (4, vI x4), (5, vI x5), (6, vI x6), (7, vI x7), (8, vI x8), (9, vI x9), (10, vI x10)] [] := by
      intro hp
      have h := hk77 hp
      refine g_sub (L' := [(0, vR (some 99)), (1, vI x1), (2, vI x2), (3, vI x3), (4, vI x4), (5, vI x5), (6, vI x6), (7, vI x7), (8, vI x8), (9, vI x9), (10, vI x10), (11, vI r72)]) [1, 2, 3, 4, 5, 6, 7, 8, 9, 10, 11, 0] rfl ?_
      exact h
    refine g_if_eq (tgt := 153) (pc' := 137) rg73 (bI_eq _) dX12_near_134 rfl rfl (fun c75 => ?_) (fun c75n => ?_)
    · exact hk77g c75
    · have c75 := Decidable.of_not_not c75n
      exact hk76g c75
  refine g_icmp_ge (tgt := 192) (pc' := 110) (hob65) rg63 Iff.rfl dX12_near_107 rfl rfl (fun c66 => ?_) (fun c66 => ?_)
  · refine g_iload (pc' := 194) 9 dX12_near_192 rfl rfl ?_
    refine g_iload (pc' := 196) 4 dX12_near_194 rfl rfl ?_
    refine g_icmp_lt (tgt := 202) (pc' := 199) (hob67 c66) (hob68 c66) Iff.rfl dX12_near_196 rfl rfl (fun c69 => ?_) (fun c69 => ?_)
    · exact hk78g ⟨c66, c69⟩
    · refine g_goto (tgt := 212) dX12_near_199 rfl ?_
      exact hk79g ⟨c66, c69⟩
  · exact hk80g c66
set_option maxRecDepth 20000 in
theorem s_X12_near_153 {w : Wd} {d : Nat} {P : Int → IM → LM → Prop} {i : IM} {l : LM} (x1 : Int) (x2 : Int) (x3 : Int) (x4 : Int) (x5 : Int) (x6 : Int) (x7 : Int) (x8 : Int) (x9 : Int) (x10 : Int) (x11 : Int)  (hd : 1 ≤ d) (h : ((0 ≤ x11 ∧ x11 < 2147483648) ∧ cI w d X_X12_limitOf [vR (some 99), vI x10, vI (i 101 313), vI 0] i l (fun r84 i84 l84 => gI w d X_X12_near P i84 l84 101 [(0, vR (some 99)), (1, vI x1), (2, vI x2), (3, vI x3), (4, vI x4), (5, vI x5), (6, vI x6), (7, vI x7), (8, vI x8), (9, vI (x9 + (bI (r84 < popI x11)))), (10, vI (x10 + 1))] []))) : gI w d X_X12_near P i l 153 [(0, vR (some 99)), (1, vI x1), (2, vI x2), (3, vI x3), (4, vI x4), (5, vI x5), (6, vI x6), (7, vI x7), (8, vI x8), (9, vI x9), (10, vI x10), (11, vI x11)] [] := by
  obtain ⟨ob81, h⟩ := h
  refine g_iload (pc' := 155) 9 dX12_near_153 rfl rfl ?_
  refine g_iload (pc' := 157) 11 dX12_near_155 rfl rfl ?_
  refine g_pSI (pc' := 160) (vs := [vI x11]) (st := [vI x9]) (val := popI x11) (sp_X12_ones (le_hd hd rfl) ob81) mk_X12_ones ms_X12_ones lk_X12_327 rfl (Nat.le_of_ble_eq_true rfl) (Nat.le_of_ble_eq_true rfl) rfl dX12_near_157 rfl z2 (fun rg82 => ?_)
  refine g_aload_n (pc' := 161) 0 dX12_near_160 rfl rfl ?_
  refine g_iload (pc' := 163) 10 dX12_near_161 rfl rfl ?_
  refine g_aload_n (pc' := 164) 0 dX12_near_163 rfl rfl ?_
  refine g_getR (pc' := 167) (o := some 101) fl_X12_20 rfl rfl rfl dX12_near_164 rfl ?_
  refine g_sipush (pc' := 170) dX12_near_167 rfl rfl ?_
  refine g_iald (pc' := 171) (N := 5120) rfl rfl (Nat.lt_of_lt_of_le (Nat.lt_succ_self _) (Nat.le_of_ble_eq_true rfl)) (by decide) dX12_near_170 rfl (fun rg83 => ?_)
  refine g_iconst (pc' := 172) dX12_near_171 rfl ?_
  refine g_cVI (pc' := 175) (vs := [vI x10, vI (i 101 313), vI 0]) (st := [vI (popI x11), vI x9]) (c := 12) h mv_X12_limitOf lk_X12_330 rfl rfl rfl rfl (Nat.le_of_ble_eq_true rfl) (Nat.le_of_ble_eq_true rfl) rfl dX12_near_172 rfl z2 (fun r84 i84 l84 rg84 h => ?_)
  have hJ : gI w d X_X12_near P i84 l84 183 [(0, vR (some 99)), (1, vI x1), (2, vI x2), (3, vI x3), (4, vI x4), (5, vI x5), (6, vI x6), (7, vI x7), (8, vI x8), (9, vI x9), (10, vI x10), (11, vI x11)] [vI (bI (r84 < popI x11)), vI x9] := by
    refine g_iadd (pc' := 184) dX12_near_183 rfl ?_
    refine g_istore (pc' := 186) (L' := [(9, vI (x9 + (bI (r84 < popI x11)))), (0, vR (some 99)), (1, vI x1), (2, vI x2), (3, vI x3), (4, vI x4), (5, vI x5), (6, vI x6), (7, vI x7), (8, vI x8), (10, vI x10), (11, vI x11)]) dX12_near_184 rfl (Nat.le_of_ble_eq_true rfl) rfl ?_
    refine g_iinc (pc' := 189) (L' := [(10, vI (x10 + 1)), (9, vI (x9 + (bI (r84 < popI x11)))), (0, vR (some 99)), (1, vI x1), (2, vI x2), (3, vI x3), (4, vI x4), (5, vI x5), (6, vI x6), (7, vI x7), (8, vI x8), (11, vI x11)]) 10 dX12_near_186 rfl (Nat.le_of_ble_eq_true rfl) rfl rfl ?_
    refine g_goto (tgt := 101) dX12_near_189 rfl ?_
    refine g_sub (L' := [(0, vR (some 99)), (1, vI x1), (2, vI x2), (3, vI x3), (4, vI x4), (5, vI x5), (6, vI x6), (7, vI x7), (8, vI x8), (9, vI (x9 + (bI (r84 < popI x11)))), (10, vI (x10 + 1))]) [2, 3, 4, 5, 6, 7, 8, 9, 10, 1, 0] rfl ?_
    exact h
  refine g_icmp_gt (tgt := 182) (pc' := 178) rg82 rg84 Iff.rfl dX12_near_175 rfl rfl (fun c86 => ?_) (fun c86 => ?_)
  · refine g_iconst (pc' := 183) dX12_near_182 rfl ?_
    rw [bI_t (p := (r84 < popI x11)) c86] at hJ
    exact hJ
  · refine g_iconst (pc' := 179) dX12_near_178 rfl ?_
    refine g_goto (tgt := 183) dX12_near_179 rfl ?_
    rw [bI_f (p := (r84 < popI x11)) c86] at hJ
    exact hJ

theorem dX12_mayBe_0 : decode cX12_mayBe 0 = .ok (.iconst 0, 1) := by decide +kernel
theorem dX12_mayBe_1 : decode cX12_mayBe 1 = .ok (.istore 4, 2) := by decide +kernel
theorem dX12_mayBe_3 : decode cX12_mayBe 3 = .ok (.iload 4, 2) := by decide +kernel
theorem dX12_mayBe_5 : decode cX12_mayBe 5 = .ok (.aload_n 0, 1) := by decide +kernel
theorem dX12_mayBe_6 : decode cX12_mayBe 6 = .ok (.invokevirtual 121, 3) := by decide +kernel
theorem dX12_mayBe_9 : decode cX12_mayBe 9 = .ok (.if_icmp .ge 55, 3) := by decide +kernel
theorem dX12_mayBe_12 : decode cX12_mayBe 12 = .ok (.aload_n 0, 1) := by decide +kernel
theorem dX12_mayBe_13 : decode cX12_mayBe 13 = .ok (.iload 4, 2) := by decide +kernel
theorem dX12_mayBe_15 : decode cX12_mayBe 15 = .ok (.iconst 1, 1) := by decide +kernel
theorem dX12_mayBe_16 : decode cX12_mayBe 16 = .ok (.invokevirtual 308, 3) := by decide +kernel
theorem dX12_mayBe_19 : decode cX12_mayBe 19 = .ok (.iload_n 2, 1) := by decide +kernel
theorem dX12_mayBe_20 : decode cX12_mayBe 20 = .ok (.invokestatic 147, 3) := by decide +kernel
theorem dX12_mayBe_23 : decode cX12_mayBe 23 = .ok (.ifCond .eq 35, 3) := by decide +kernel
theorem dX12_mayBe_26 : decode cX12_mayBe 26 = .ok (.aload_n 0, 1) := by decide +kernel
theorem dX12_mayBe_27 : decode cX12_mayBe 27 = .ok (.iload 4, 2) := by decide +kernel
theorem dX12_mayBe_29 : decode cX12_mayBe 29 = .ok (.iload_n 3, 1) := by decide +kernel
theorem dX12_mayBe_30 : decode cX12_mayBe 30 = .ok (.iload_n 1, 1) := by decide +kernel
theorem dX12_mayBe_31 : decode cX12_mayBe 31 = .ok (.iload_n 2, 1) := by decide +kernel
theorem dX12_mayBe_32 : decode cX12_mayBe 32 = .ok (.invokevirtual 324, 3) := by decide +kernel
theorem dX12_mayBe_35 : decode cX12_mayBe 35 = .ok (.invokestatic 327, 3) := by decide +kernel
theorem dX12_mayBe_38 : decode cX12_mayBe 38 = .ok (.aload_n 0, 1) := by decide +kernel
theorem dX12_mayBe_39 : decode cX12_mayBe 39 = .ok (.iload 4, 2) := by decide +kernel
theorem dX12_mayBe_41 : decode cX12_mayBe 41 = .ok (.aload_n 0, 1) := by decide +kernel
theorem dX12_mayBe_42 : decode cX12_mayBe 42 = .ok (.getfield 20, 3) := by decide +kernel
theorem dX12_mayBe_45 : decode cX12_mayBe 45 = .ok (.sipush 313, 3) := by decide +kernel
theorem dX12_mayBe_48 : decode cX12_mayBe 48 = .ok (.iaload, 1) := by decide +kernel
theorem dX12_mayBe_49 : decode cX12_mayBe 49 = .ok (.iload_n 3, 1) := by decide +kernel
theorem dX12_mayBe_50 : decode cX12_mayBe 50 = .ok (.invokevirtual 330, 3) := by decide +kernel
theorem dX12_mayBe_53 : decode cX12_mayBe 53 = .ok (.if_icmp .le 5, 3) := by decide +kernel
theorem dX12_mayBe_56 : decode cX12_mayBe 56 = .ok (.iconst 0, 1) := by decide +kernel
theorem dX12_mayBe_57 : decode cX12_mayBe 57 = .ok (.ireturn, 1) := by decide +kernel
theorem dX12_mayBe_58 : decode cX12_mayBe 58 = .ok (.iinc 4 1, 3) := by decide +kernel
theorem dX12_mayBe_61 : decode cX12_mayBe 61 = .ok (.goto (-58), 3) := by decide +kernel
theorem dX12_mayBe_64 : decode cX12_mayBe 64 = .ok (.iconst 1, 1) := by decide +kernel
theorem dX12_mayBe_65 : decode cX12_mayBe 65 = .ok (.ireturn, 1) := by decide +kernel
set_option maxRecDepth 20000 in
theorem s_X12_mayBe {w : Wd} {d : Nat} {P : Int → IM → LM → Prop} {i : IM} {l : LM} (p0 : Int) (p1 : Int) (p2 : Int)  (h : gI w d X_X12_mayBe P i l 3 [(0, vR (some 99)), (1, vI p0), (2, vI p1), (3, vI p2), (4, vI 0)] []) : gI w d X_X12_mayBe P i l 0 [(0, vR (some 99)), (1, vI p0), (2, vI p1), (3, vI p2)] [] := by
  refine g_iconst (pc' := 1) dX12_mayBe_0 rfl ?_
  refine g_istore (pc' := 3) (L' := [(4, vI 0), (0, vR (some 99)), (1, vI p0), (2, vI p1), (3, vI p2)]) dX12_mayBe_1 rfl (Nat.le_of_ble_eq_true rfl) rfl ?_
  refine g_sub (L' := [(0, vR (some 99)), (1, vI p0), (2, vI p1), (3, vI p2), (4, vI 0)]) [1, 2, 3, 4, 0] rfl ?_
  exact h
theorem e_X12_mayBe {w : Wd} {d : Nat} {P : Int → IM → LM → Prop} {i : IM} {l : LM} {p0 : Int} {p1 : Int} {p2 : Int}  (h : gI w d X_X12_mayBe P i l 0 [(0, vR (some 99)), (1, vI p0), (2, vI p1), (3, vI p2)] []) : cI w (d + 1) X_X12_mayBe [vR (some 99), vI p0, vI p1, vI p2] i l P := CI_of (by decide +kernel) (Nat.le_of_ble_eq_true rfl) h
set_option maxRecDepth 20000 in
theorem s_X12_mayBe_3 {w : Wd} {d : Nat} {P : Int → IM → LM → Prop} {i : IM} {l : LM} (x1 : Int) (x2 : Int) (x3 : Int) (x4 : Int)  (hd : 1 ≤ d) (h : ((rg x4) ∧ (¬ (i 101 308 ≤ x4) → 0 ≤ 80 + 3 * x4 + 1 ∧ 80 + 3 * x4 + 1 < 5120) ∧ ((i 101 308 ≤ x4) → P 1 i l) ∧ ((¬ (i 101 308 ≤ x4) ∧ (¬ (iand (ishr (i 101 (80 + 3 * x4 + 1)) x2) 1 = 1))) → gI w d X_X12_mayBe P i l 3 [(0, vR (some 99)), (1, vI x1), (2, vI x2), (3, vI x3), (4, vI (x4 + 1))] []) ∧ ((¬ (i 101 308 ≤ x4) ∧ (iand (ishr (i 101 (80 + 3 * x4 + 1)) x2) 1 = 1)) → cI w d X_X12_seen [vR (some 99), vI x4, vI x3, vI x1, vI x2] i l (fun r9 i9 l9 => ((0 ≤ r9 ∧ r9 < 2147483648) ∧ cI w d X_X12_limitOf [vR (some 99), vI x4, vI (i9 101 313), vI x3] i9 l9 (fun r13 i13 l13 => (((popI r9 ≤ r13) → gI w d X_X12_mayBe P i13 l13 3 [(0, vR (some 99)), (1, vI x1), (2, vI x2), (3, vI x3), (4, vI (x4 + 1))] []) ∧ ((¬ (popI r9 ≤ r13)) → P 0 i13 l13)))))))) : gI w d X_X12_mayBe P i l 3 [(0, vR (some 99)), (1, vI x1), (2, vI x2), (3, vI x3), (4, vI x4)] [] := by
  refine g_iload (pc' := 5) 4 dX12_mayBe_3 rfl rfl ?_
  refine g_aload_n (pc' := 6) 0 dX12_mayBe_5 rfl rfl ?_
  refine g_pVI (pc' := 9) (vs := []) (st := [vI x4]) (val := i 101 308) (c := 12) (sp_X12_windows (le_hd hd rfl) ) mv_X12_windows lk_X12_121 rfl rfl rfl rfl (Nat.le_of_ble_eq_true rfl) (Nat.le_of_ble_eq_true rfl) rfl dX12_mayBe_6 rfl z2 (fun rg1 => ?_)
  obtain ⟨hob3, hob5, hk18, hk19, hk20⟩ := h
  have hk18g : (i 101 308 ≤ x4) → gI w d X_X12_mayBe P i l 64 [(0, vR (some 99)), (1, vI x1), (2, vI x2), (3, vI x3), (4, vI x4)] [] := by
    intro hp
    have h := hk18 hp
    refine g_iconst (pc' := 65) dX12_mayBe_64 rfl ?_
    exact g_retZ rfl (by decide) dX12_mayBe_65 h
  have hk19g : (¬ (i 101 308 ≤ x4) ∧ (¬ (iand (ishr (i 101 (80 + 3 * x4 + 1)) x2) 1 = 1))) → gI w d X_X12_mayBe P i l 58 [(0, vR (some 99)), (1, vI x1), (2, vI x2), (3, vI x3), (4, vI x4)] [] := by
    intro hp
    have h := hk19 hp
    refine g_iinc (pc' := 61) (L' := [(4, vI (x4 + 1)), (0, vR (some 99)), (1, vI x1), (2, vI x2), (3, vI x3)]) 4 dX12_mayBe_58 rfl (Nat.le_of_ble_eq_true rfl) rfl rfl ?_
    refine g_goto (tgt := 3) dX12_mayBe_61 rfl ?_
    refine g_sub (L' := [(0, vR (some 99)), (1, vI x1), (2, vI x2), (3, vI x3), (4, vI (x4 + 1))]) [1, 2, 3, 4, 0] rfl ?_
    exact h
  have hk20g : (¬ (i 101 308 ≤ x4) ∧ (iand (ishr (i 101 (80 + 3 * x4 + 1)) x2) 1 = 1)) → gI w d X_X12_mayBe P i l 26 [(0, vR (some 99)), (1, vI x1), (2, vI x2), (3, vI x3), (4, vI x4)] [] := by
    intro hp
    have h := hk20 hp
    refine g_aload_n (pc' := 27) 0 dX12_mayBe_26 rfl rfl ?_
    refine g_iload (pc' := 29) 4 dX12_mayBe_27 rfl rfl ?_
    refine g_iload_n (pc' := 30) 3 dX12_mayBe_29 rfl rfl ?_
    refine g_iload_n (pc' := 31) 1 dX12_mayBe_30 rfl rfl ?_
    refine g_iload_n (pc' := 32) 2 dX12_mayBe_31 rfl rfl ?_
    refine g_cVI (pc' := 35) (vs := [vI x4, vI x3, vI x1, vI x2]) (st := []) (c := 12) h mv_X12_seen lk_X12_324 rfl rfl rfl rfl (Nat.le_of_ble_eq_true rfl) (Nat.le_of_ble_eq_true rfl) rfl dX12_mayBe_32 rfl z2 (fun r9 i9 l9 rg9 h => ?_)
    obtain ⟨ob10, h⟩ := h
    refine g_pSI (pc' := 38) (vs := [vI r9]) (st := []) (val := popI r9) (sp_X12_ones (le_hd hd rfl) ob10) mk_X12_ones ms_X12_ones lk_X12_327 rfl (Nat.le_of_ble_eq_true rfl) (Nat.le_of_ble_eq_true rfl) rfl dX12_mayBe_35 rfl z2 (fun rg11 => ?_)
    refine g_aload_n (pc' := 39) 0 dX12_mayBe_38 rfl rfl ?_
    refine g_iload (pc' := 41) 4 dX12_mayBe_39 rfl rfl ?_
    refine g_aload_n (pc' := 42) 0 dX12_mayBe_41 rfl rfl ?_
    refine g_getR (pc' := 45) (o := some 101) fl_X12_20 rfl rfl rfl dX12_mayBe_42 rfl ?_
    refine g_sipush (pc' := 48) dX12_mayBe_45 rfl rfl ?_
    refine g_iald (pc' := 49) (N := 5120) rfl rfl (Nat.lt_of_lt_of_le (Nat.lt_succ_self _) (Nat.le_of_ble_eq_true rfl)) (by decide) dX12_mayBe_48 rfl (fun rg12 => ?_)
    refine g_iload_n (pc' := 50) 3 dX12_mayBe_49 rfl rfl ?_
    refine g_cVI (pc' := 53) (vs := [vI x4, vI (i9 101 313), vI x3]) (st := [vI (popI r9)]) (c := 12) h mv_X12_limitOf lk_X12_330 rfl rfl rfl rfl (Nat.le_of_ble_eq_true rfl) (Nat.le_of_ble_eq_true rfl) rfl dX12_mayBe_50 rfl z2 (fun r13 i13 l13 rg13 h => ?_)
    obtain ⟨hk16, hk17⟩ := h
    refine g_icmp_le (tgt := 58) (pc' := 56) rg11 rg13 Iff.rfl dX12_mayBe_53 rfl rfl (fun c15 => ?_) (fun c15 => ?_)
    · have h := hk16 c15
      refine g_iinc (pc' := 61) (L' := [(4, vI (x4 + 1)), (0, vR (some 99)), (1, vI x1), (2, vI x2), (3, vI x3)]) 4 dX12_mayBe_58 rfl (Nat.le_of_ble_eq_true rfl) rfl rfl ?_
      refine g_goto (tgt := 3) dX12_mayBe_61 rfl ?_
      refine g_sub (L' := [(0, vR (some 99)), (1, vI x1), (2, vI x2), (3, vI x3), (4, vI (x4 + 1))]) [1, 2, 3, 4, 0] rfl ?_
      exact h
    · have h := hk17 c15
      refine g_iconst (pc' := 57) dX12_mayBe_56 rfl ?_
      exact g_retZ rfl (by decide) dX12_mayBe_57 h
  refine g_icmp_ge (tgt := 64) (pc' := 12) (hob3) rg1 Iff.rfl dX12_mayBe_9 rfl rfl (fun c4 => ?_) (fun c4 => ?_)
  · exact hk18g c4
  · refine g_aload_n (pc' := 13) 0 dX12_mayBe_12 rfl rfl ?_
    refine g_iload (pc' := 15) 4 dX12_mayBe_13 rfl rfl ?_
    refine g_iconst (pc' := 16) dX12_mayBe_15 rfl ?_
    refine g_pVI (pc' := 19) (vs := [vI x4, vI 1]) (st := []) (val := i 101 (80 + 3 * x4 + 1)) (c := 12) (sp_X12_windowOf (le_hd hd rfl) (hob5 c4)) mv_X12_windowOf lk_X12_308 rfl rfl rfl rfl (Nat.le_of_ble_eq_true rfl) (Nat.le_of_ble_eq_true rfl) rfl dX12_mayBe_16 rfl z2 (fun rg6 => ?_)
    refine g_iload_n (pc' := 20) 2 dX12_mayBe_19 rfl rfl ?_
    refine g_pSI (pc' := 23) (vs := [vI (i 101 (80 + 3 * x4 + 1)), vI x2]) (st := []) (val := bI (iand (ishr (i 101 (80 + 3 * x4 + 1)) x2) 1 = 1)) (sp_X12_isIn (le_hd hd rfl) ) mk_X12_isIn ms_X12_isIn lk_X12_147 rfl (Nat.le_of_ble_eq_true rfl) (Nat.le_of_ble_eq_true rfl) rfl dX12_mayBe_20 rfl z2 (fun rg7 => ?_)
    refine g_if_eq (tgt := 58) (pc' := 26) rg7 (bI_eq _) dX12_mayBe_23 rfl rfl (fun c8 => ?_) (fun c8n => ?_)
    · exact hk19g ⟨c4, c8⟩
    · have c8 := Decidable.of_not_not c8n
      exact hk20g ⟨c4, c8⟩

theorem dX12_soonOf_0 : decode cX12_soonOf 0 = .ok (.iload_n 2, 1) := by decide +kernel
theorem dX12_soonOf_1 : decode cX12_soonOf 1 = .ok (.istore 5, 2) := by decide +kernel
theorem dX12_soonOf_3 : decode cX12_soonOf 3 = .ok (.iload 5, 2) := by decide +kernel
theorem dX12_soonOf_5 : decode cX12_soonOf 5 = .ok (.bipush 120, 2) := by decide +kernel
theorem dX12_soonOf_7 : decode cX12_soonOf 7 = .ok (.if_icmp .ge 165, 3) := by decide +kernel
theorem dX12_soonOf_10 : decode cX12_soonOf 10 = .ok (.iconst 0, 1) := by decide +kernel
theorem dX12_soonOf_11 : decode cX12_soonOf 11 = .ok (.istore 6, 2) := by decide +kernel
theorem dX12_soonOf_13 : decode cX12_soonOf 13 = .ok (.iload 6, 2) := by decide +kernel
theorem dX12_soonOf_15 : decode cX12_soonOf 15 = .ok (.bipush 10, 2) := by decide +kernel
theorem dX12_soonOf_17 : decode cX12_soonOf 17 = .ok (.if_icmp .ge 130, 3) := by decide +kernel
theorem dX12_soonOf_20 : decode cX12_soonOf 20 = .ok (.iload 5, 2) := by decide +kernel
theorem dX12_soonOf_22 : decode cX12_soonOf 22 = .ok (.iload_n 2, 1) := by decide +kernel
theorem dX12_soonOf_23 : decode cX12_soonOf 23 = .ok (.if_icmp .ne 17, 3) := by decide +kernel
theorem dX12_soonOf_26 : decode cX12_soonOf 26 = .ok (.iload 6, 2) := by decide +kernel
theorem dX12_soonOf_28 : decode cX12_soonOf 28 = .ok (.iload_n 3, 1) := by decide +kernel
theorem dX12_soonOf_29 : decode cX12_soonOf 29 = .ok (.if_icmp .ne 7, 3) := by decide +kernel
theorem dX12_soonOf_32 : decode cX12_soonOf 32 = .ok (.iconst 1, 1) := by decide +kernel
theorem dX12_soonOf_33 : decode cX12_soonOf 33 = .ok (.goto 8, 3) := by decide +kernel
theorem dX12_soonOf_36 : decode cX12_soonOf 36 = .ok (.iconst 0, 1) := by decide +kernel
theorem dX12_soonOf_37 : decode cX12_soonOf 37 = .ok (.goto 4, 3) := by decide +kernel
theorem dX12_soonOf_40 : decode cX12_soonOf 40 = .ok (.iconst 0, 1) := by decide +kernel
theorem dX12_soonOf_41 : decode cX12_soonOf 41 = .ok (.istore 7, 2) := by decide +kernel
theorem dX12_soonOf_43 : decode cX12_soonOf 43 = .ok (.iconst 0, 1) := by decide +kernel
theorem dX12_soonOf_44 : decode cX12_soonOf 44 = .ok (.istore 8, 2) := by decide +kernel
theorem dX12_soonOf_46 : decode cX12_soonOf 46 = .ok (.iload 8, 2) := by decide +kernel
theorem dX12_soonOf_48 : decode cX12_soonOf 48 = .ok (.bipush 10, 2) := by decide +kernel
theorem dX12_soonOf_50 : decode cX12_soonOf 50 = .ok (.if_icmp .ge 56, 3) := by decide +kernel
theorem dX12_soonOf_53 : decode cX12_soonOf 53 = .ok (.iload 5, 2) := by decide +kernel
theorem dX12_soonOf_55 : decode cX12_soonOf 55 = .ok (.iload_n 2, 1) := by decide +kernel
theorem dX12_soonOf_56 : decode cX12_soonOf 56 = .ok (.if_icmp .le 50, 3) := by decide +kernel
theorem dX12_soonOf_59 : decode cX12_soonOf 59 = .ok (.iload 7, 2) := by decide +kernel
theorem dX12_soonOf_61 : decode cX12_soonOf 61 = .ok (.ifCond .ne 32, 3) := by decide +kernel
theorem dX12_soonOf_64 : decode cX12_soonOf 64 = .ok (.aload_n 0, 1) := by decide +kernel
theorem dX12_soonOf_65 : decode cX12_soonOf 65 = .ok (.getfield 88, 3) := by decide +kernel
theorem dX12_soonOf_68 : decode cX12_soonOf 68 = .ok (.bipush 10, 2) := by decide +kernel
theorem dX12_soonOf_70 : decode cX12_soonOf 70 = .ok (.iload 5, 2) := by decide +kernel
theorem dX12_soonOf_72 : decode cX12_soonOf 72 = .ok (.iconst 1, 1) := by decide +kernel
theorem dX12_soonOf_73 : decode cX12_soonOf 73 = .ok (.isub, 1) := by decide +kernel
theorem dX12_soonOf_74 : decode cX12_soonOf 74 = .ok (.imul, 1) := by decide +kernel
theorem dX12_soonOf_75 : decode cX12_soonOf 75 = .ok (.iload 8, 2) := by decide +kernel
theorem dX12_soonOf_77 : decode cX12_soonOf 77 = .ok (.iadd, 1) := by decide +kernel
theorem dX12_soonOf_78 : decode cX12_soonOf 78 = .ok (.baload, 1) := by decide +kernel
theorem dX12_soonOf_79 : decode cX12_soonOf 79 = .ok (.ifCond .eq 18, 3) := by decide +kernel
theorem dX12_soonOf_82 : decode cX12_soonOf 82 = .ok (.aload_n 0, 1) := by decide +kernel
theorem dX12_soonOf_83 : decode cX12_soonOf 83 = .ok (.iload 8, 2) := by decide +kernel
theorem dX12_soonOf_85 : decode cX12_soonOf 85 = .ok (.iload 6, 2) := by decide +kernel
theorem dX12_soonOf_87 : decode cX12_soonOf 87 = .ok (.invokevirtual 395, 3) := by decide +kernel
theorem dX12_soonOf_90 : decode cX12_soonOf 90 = .ok (.ifCond .eq 7, 3) := by decide +kernel
theorem dX12_soonOf_93 : decode cX12_soonOf 93 = .ok (.iconst 1, 1) := by decide +kernel
theorem dX12_soonOf_94 : decode cX12_soonOf 94 = .ok (.goto 4, 3) := by decide +kernel
theorem dX12_soonOf_97 : decode cX12_soonOf 97 = .ok (.iconst 0, 1) := by decide +kernel
theorem dX12_soonOf_98 : decode cX12_soonOf 98 = .ok (.istore 7, 2) := by decide +kernel
theorem dX12_soonOf_100 : decode cX12_soonOf 100 = .ok (.iinc 8 1, 3) := by decide +kernel
theorem dX12_soonOf_103 : decode cX12_soonOf 103 = .ok (.goto (-57), 3) := by decide +kernel
theorem dX12_soonOf_106 : decode cX12_soonOf 106 = .ok (.aload_n 0, 1) := by decide +kernel
theorem dX12_soonOf_107 : decode cX12_soonOf 107 = .ok (.getfield 88, 3) := by decide +kernel
theorem dX12_soonOf_110 : decode cX12_soonOf 110 = .ok (.bipush 10, 2) := by decide +kernel
theorem dX12_soonOf_112 : decode cX12_soonOf 112 = .ok (.iload 5, 2) := by decide +kernel
theorem dX12_soonOf_114 : decode cX12_soonOf 114 = .ok (.imul, 1) := by decide +kernel
theorem dX12_soonOf_115 : decode cX12_soonOf 115 = .ok (.iload 6, 2) := by decide +kernel
theorem dX12_soonOf_117 : decode cX12_soonOf 117 = .ok (.iadd, 1) := by decide +kernel
theorem dX12_soonOf_118 : decode cX12_soonOf 118 = .ok (.iload 7, 2) := by decide +kernel
theorem dX12_soonOf_120 : decode cX12_soonOf 120 = .ok (.ifCond .eq 19, 3) := by decide +kernel
theorem dX12_soonOf_123 : decode cX12_soonOf 123 = .ok (.aload_n 0, 1) := by decide +kernel
theorem dX12_soonOf_124 : decode cX12_soonOf 124 = .ok (.iload_n 1, 1) := by decide +kernel
theorem dX12_soonOf_125 : decode cX12_soonOf 125 = .ok (.iload 6, 2) := by decide +kernel
theorem dX12_soonOf_127 : decode cX12_soonOf 127 = .ok (.iload 5, 2) := by decide +kernel
theorem dX12_soonOf_129 : decode cX12_soonOf 129 = .ok (.invokevirtual 398, 3) := by decide +kernel
theorem dX12_soonOf_132 : decode cX12_soonOf 132 = .ok (.ifCond .eq 7, 3) := by decide +kernel
theorem dX12_soonOf_135 : decode cX12_soonOf 135 = .ok (.iconst 1, 1) := by decide +kernel
theorem dX12_soonOf_136 : decode cX12_soonOf 136 = .ok (.goto 4, 3) := by decide +kernel
theorem dX12_soonOf_139 : decode cX12_soonOf 139 = .ok (.iconst 0, 1) := by decide +kernel
theorem dX12_soonOf_140 : decode cX12_soonOf 140 = .ok (.bastore, 1) := by decide +kernel
theorem dX12_soonOf_141 : decode cX12_soonOf 141 = .ok (.iinc 6 1, 3) := by decide +kernel
theorem dX12_soonOf_144 : decode cX12_soonOf 144 = .ok (.goto (-131), 3) := by decide +kernel
theorem dX12_soonOf_147 : decode cX12_soonOf 147 = .ok (.aload_n 0, 1) := by decide +kernel
theorem dX12_soonOf_148 : decode cX12_soonOf 148 = .ok (.getfield 88, 3) := by decide +kernel
theorem dX12_soonOf_151 : decode cX12_soonOf 151 = .ok (.bipush 10, 2) := by decide +kernel
theorem dX12_soonOf_153 : decode cX12_soonOf 153 = .ok (.iload 5, 2) := by decide +kernel
theorem dX12_soonOf_155 : decode cX12_soonOf 155 = .ok (.imul, 1) := by decide +kernel
theorem dX12_soonOf_156 : decode cX12_soonOf 156 = .ok (.iload 4, 2) := by decide +kernel
theorem dX12_soonOf_158 : decode cX12_soonOf 158 = .ok (.iadd, 1) := by decide +kernel
theorem dX12_soonOf_159 : decode cX12_soonOf 159 = .ok (.baload, 1) := by decide +kernel
theorem dX12_soonOf_160 : decode cX12_soonOf 160 = .ok (.ifCond .eq 6, 3) := by decide +kernel
theorem dX12_soonOf_163 : decode cX12_soonOf 163 = .ok (.iload 5, 2) := by decide +kernel
theorem dX12_soonOf_165 : decode cX12_soonOf 165 = .ok (.ireturn, 1) := by decide +kernel
theorem dX12_soonOf_166 : decode cX12_soonOf 166 = .ok (.iinc 5 1, 3) := by decide +kernel
theorem dX12_soonOf_169 : decode cX12_soonOf 169 = .ok (.goto (-166), 3) := by decide +kernel
theorem dX12_soonOf_172 : decode cX12_soonOf 172 = .ok (.iconst (-1), 1) := by decide +kernel
theorem dX12_soonOf_173 : decode cX12_soonOf 173 = .ok (.ireturn, 1) := by decide +kernel
set_option maxRecDepth 20000 in
theorem s_X12_soonOf {w : Wd} {d : Nat} {P : Int → IM → LM → Prop} {i : IM} {l : LM} (p0 : Int) (p1 : Int) (p2 : Int) (p3 : Int)  (h : gI w d X_X12_soonOf P i l 3 [(0, vR (some 99)), (1, vI p0), (2, vI p1), (3, vI p2), (4, vI p3), (5, vI p1)] []) : gI w d X_X12_soonOf P i l 0 [(0, vR (some 99)), (1, vI p0), (2, vI p1), (3, vI p2), (4, vI p3)] [] := by
  refine g_iload_n (pc' := 1) 2 dX12_soonOf_0 rfl rfl ?_
  refine g_istore (pc' := 3) (L' := [(5, vI p1), (0, vR (some 99)), (1, vI p0), (2, vI p1), (3, vI p2), (4, vI p3)]) dX12_soonOf_1 rfl (Nat.le_of_ble_eq_true rfl) rfl ?_
  refine g_sub (L' := [(0, vR (some 99)), (1, vI p0), (2, vI p1), (3, vI p2), (4, vI p3), (5, vI p1)]) [1, 2, 3, 4, 5, 0] rfl ?_
  exact h
theorem e_X12_soonOf {w : Wd} {d : Nat} {P : Int → IM → LM → Prop} {i : IM} {l : LM} {p0 : Int} {p1 : Int} {p2 : Int} {p3 : Int}  (h : gI w d X_X12_soonOf P i l 0 [(0, vR (some 99)), (1, vI p0), (2, vI p1), (3, vI p2), (4, vI p3)] []) : cI w (d + 1) X_X12_soonOf [vR (some 99), vI p0, vI p1, vI p2, vI p3] i l P := CI_of (by decide +kernel) (Nat.le_of_ble_eq_true rfl) h
set_option maxRecDepth 20000 in
theorem s_X12_soonOf_3 {w : Wd} {d : Nat} {P : Int → IM → LM → Prop} {i : IM} {l : LM} (x1 : Int) (x2 : Int) (x3 : Int) (x4 : Int) (x5 : Int)  (h : ((rg x5) ∧ ((120 ≤ x5) → P (-1) i l) ∧ ((¬ (120 ≤ x5)) → gI w d X_X12_soonOf P i l 13 [(0, vR (some 99)), (1, vI x1), (2, vI x2), (3, vI x3), (4, vI x4), (5, vI x5), (6, vI 0)] []))) : gI w d X_X12_soonOf P i l 3 [(0, vR (some 99)), (1, vI x1), (2, vI x2), (3, vI x3), (4, vI x4), (5, vI x5)] [] := by
  refine g_iload (pc' := 5) 5 dX12_soonOf_3 rfl rfl ?_
  refine g_bipush (pc' := 7) dX12_soonOf_5 rfl rfl ?_
  obtain ⟨hob2, hk4, hk5⟩ := h
  refine g_icmp_ge (tgt := 172) (pc' := 10) (hob2) (rg_lit rfl) Iff.rfl dX12_soonOf_7 rfl rfl (fun c3 => ?_) (fun c3 => ?_)
  · have h := hk4 c3
    refine g_iconst (pc' := 173) dX12_soonOf_172 rfl ?_
    exact g_retI rfl (rg_lit rfl) dX12_soonOf_173 h
  · have h := hk5 c3
    refine g_iconst (pc' := 11) dX12_soonOf_10 rfl ?_
    refine g_istore (pc' := 13) (L' := [(6, vI 0), (0, vR (some 99)), (1, vI x1), (2, vI x2), (3, vI x3), (4, vI x4), (5, vI x5)]) dX12_soonOf_11 rfl (Nat.le_of_ble_eq_true rfl) rfl ?_
    refine g_sub (L' := [(0, vR (some 99)), (1, vI x1), (2, vI x2), (3, vI x3), (4, vI x4), (5, vI x5), (6, vI 0)]) [1, 2, 3, 4, 5, 6, 0] rfl ?_
    exact h
set_option maxRecDepth 20000 in
theorem s_X12_soonOf_13 {w : Wd} {d : Nat} {P : Int → IM → LM → Prop} {i : IM} {l : LM} (x1 : Int) (x2 : Int) (x3 : Int) (x4 : Int) (x5 : Int) (x6 : Int)  (h : ((rg x6) ∧ ((10 ≤ x6) → 0 ≤ (10 * x5) + x4 ∧ (10 * x5) + x4 < 1200) ∧ (¬ (10 ≤ x6) → rg x5) ∧ (¬ (10 ≤ x6) → rg x2) ∧ (((10 ≤ x6) ∧ (i 120 ((10 * x5) + x4) = 0)) → gI w d X_X12_soonOf P i l 3 [(0, vR (some 99)), (1, vI x1), (2, vI x2), (3, vI x3), (4, vI x4), (5, vI (x5 + 1))] []) ∧ (((10 ≤ x6) ∧ (¬ (i 120 ((10 * x5) + x4) = 0))) → ((rg x5) ∧ P x5 i l)) ∧ ((¬ (10 ≤ x6) ∧ (¬ (x5 = x2))) → gI w d X_X12_soonOf P i l 46 [(0, vR (some 99)), (1, vI x1), (2, vI x2), (3, vI x3), (4, vI x4), (5, vI x5), (6, vI x6), (7, vI 0), (8, vI 0)] []) ∧ ((¬ (10 ≤ x6) ∧ (x5 = x2)) → ((rg x6) ∧ (rg x3) ∧ gI w d X_X12_soonOf P i l 46 [(0, vR (some 99)), (1, vI x1), (2, vI x2), (3, vI x3), (4, vI x4), (5, vI x5), (6, vI x6), (7, vI (bI (x6 = x3))), (8, vI 0)] [])))) : gI w d X_X12_soonOf P i l 13 [(0, vR (some 99)), (1, vI x1), (2, vI x2), (3, vI x3), (4, vI x4), (5, vI x5), (6, vI x6)] [] := by
  refine g_iload (pc' := 15) 6 dX12_soonOf_13 rfl rfl ?_
  refine g_bipush (pc' := 17) dX12_soonOf_15 rfl rfl ?_
  obtain ⟨hob37, hob39, hob42, hob43, hk50, hk51, hk52, hk53⟩ := h
  have hk50g : ((10 ≤ x6) ∧ (i 120 ((10 * x5) + x4) = 0)) → gI w d X_X12_soonOf P i l 166 [(0, vR (some 99)), (1, vI x1), (2, vI x2), (3, vI x3), (4, vI x4), (5, vI x5), (6, vI x6)] [] := by
    intro hp
    have h := hk50 hp
    refine g_iinc (pc' := 169) (L' := [(5, vI (x5 + 1)), (0, vR (some 99)), (1, vI x1), (2, vI x2), (3, vI x3), (4, vI x4), (6, vI x6)]) 5 dX12_soonOf_166 rfl (Nat.le_of_ble_eq_true rfl) rfl rfl ?_
    refine g_goto (tgt := 3) dX12_soonOf_169 rfl ?_
    refine g_sub (L' := [(0, vR (some 99)), (1, vI x1), (2, vI x2), (3, vI x3), (4, vI x4), (5, vI (x5 + 1))]) [1, 2, 3, 4, 5, 0] rfl ?_
    exact h
  have hk51g : ((10 ≤ x6) ∧ (¬ (i 120 ((10 * x5) + x4) = 0))) → gI w d X_X12_soonOf P i l 163 [(0, vR (some 99)), (1, vI x1), (2, vI x2), (3, vI x3), (4, vI x4), (5, vI x5), (6, vI x6)] [] := by
    intro hp
    have h := hk51 hp
    obtain ⟨ob45, h⟩ := h
    refine g_iload (pc' := 165) 5 dX12_soonOf_163 rfl rfl ?_
    exact g_retI rfl ob45 dX12_soonOf_165 h
  have hk52g : (¬ (10 ≤ x6) ∧ (¬ (x5 = x2))) → gI w d X_X12_soonOf P i l 41 [(0, vR (some 99)), (1, vI x1), (2, vI x2), (3, vI x3), (4, vI x4), (5, vI x5), (6, vI x6)] [vI 0] := by
    intro hp
    have h := hk52 hp
    refine g_istore (pc' := 43) (L' := [(7, vI 0), (0, vR (some 99)), (1, vI x1), (2, vI x2), (3, vI x3), (4, vI x4), (5, vI x5), (6, vI x6)]) dX12_soonOf_41 rfl (Nat.le_of_ble_eq_true rfl) rfl ?_
    refine g_iconst (pc' := 44) dX12_soonOf_43 rfl ?_
    refine g_istore (pc' := 46) (L' := [(8, vI 0), (7, vI 0), (0, vR (some 99)), (1, vI x1), (2, vI x2), (3, vI x3), (4, vI x4), (5, vI x5), (6, vI x6)]) dX12_soonOf_44 rfl (Nat.le_of_ble_eq_true rfl) rfl ?_
    refine g_sub (L' := [(0, vR (some 99)), (1, vI x1), (2, vI x2), (3, vI x3), (4, vI x4), (5, vI x5), (6, vI x6), (7, vI 0), (8, vI 0)]) [2, 3, 4, 5, 6, 7, 8, 1, 0] rfl ?_
    exact h
  have hk53g : (¬ (10 ≤ x6) ∧ (x5 = x2)) → gI w d X_X12_soonOf P i l 26 [(0, vR (some 99)), (1, vI x1), (2, vI x2), (3, vI x3), (4, vI x4), (5, vI x5), (6, vI x6)] [] := by
    intro hp
    have h := hk53 hp
    refine g_iload (pc' := 28) 6 dX12_soonOf_26 rfl rfl ?_
    refine g_iload_n (pc' := 29) 3 dX12_soonOf_28 rfl rfl ?_
    obtain ⟨hob47, hob48, h⟩ := h
    have hJ : gI w d X_X12_soonOf P i l 41 [(0, vR (some 99)), (1, vI x1), (2, vI x2), (3, vI x3), (4, vI x4), (5, vI x5), (6, vI x6)] [vI (bI (x6 = x3))] := by
      refine g_istore (pc' := 43) (L' := [(7, vI (bI (x6 = x3))), (0, vR (some 99)), (1, vI x1), (2, vI x2), (3, vI x3), (4, vI x4), (5, vI x5), (6, vI x6)]) dX12_soonOf_41 rfl (Nat.le_of_ble_eq_true rfl) rfl ?_
      refine g_iconst (pc' := 44) dX12_soonOf_43 rfl ?_
      refine g_istore (pc' := 46) (L' := [(8, vI 0), (7, vI (bI (x6 = x3))), (0, vR (some 99)), (1, vI x1), (2, vI x2), (3, vI x3), (4, vI x4), (5, vI x5), (6, vI x6)]) dX12_soonOf_44 rfl (Nat.le_of_ble_eq_true rfl) rfl ?_
      refine g_sub (L' := [(0, vR (some 99)), (1, vI x1), (2, vI x2), (3, vI x3), (4, vI x4), (5, vI x5), (6, vI x6), (7, vI (bI (x6 = x3))), (8, vI 0)]) [2, 3, 4, 5, 6, 7, 8, 1, 0] rfl ?_
      exact h
    refine g_icmp_ne (tgt := 36) (pc' := 32) (hob47) (hob48) Iff.rfl dX12_soonOf_29 rfl rfl (fun c49 => ?_) (fun c49 => ?_)
    · refine g_iconst (pc' := 37) dX12_soonOf_36 rfl ?_
      refine g_goto (tgt := 41) dX12_soonOf_37 rfl ?_
      rw [bI_f (p := (x6 = x3)) c49] at hJ
      exact hJ
    · refine g_iconst (pc' := 33) dX12_soonOf_32 rfl ?_
      refine g_goto (tgt := 41) dX12_soonOf_33 rfl ?_
      rw [bI_t (p := (x6 = x3)) c49] at hJ
      exact hJ
  refine g_icmp_ge (tgt := 147) (pc' := 20) (hob37) (rg_lit rfl) Iff.rfl dX12_soonOf_17 rfl rfl (fun c38 => ?_) (fun c38 => ?_)
  · refine g_aload_n (pc' := 148) 0 dX12_soonOf_147 rfl rfl ?_
    refine g_getR (pc' := 151) (o := some 120) fl_X12_88 rfl rfl rfl dX12_soonOf_148 rfl ?_
    refine g_bipush (pc' := 153) dX12_soonOf_151 rfl rfl ?_
    refine g_iload (pc' := 155) 5 dX12_soonOf_153 rfl rfl ?_
    refine g_imul (pc' := 156) dX12_soonOf_155 rfl ?_
    refine g_iload (pc' := 158) 4 dX12_soonOf_156 rfl rfl ?_
    refine g_iadd (pc' := 159) dX12_soonOf_158 rfl ?_
    refine g_zald (pc' := 160) (N := 1200) rfl rfl (Nat.lt_of_lt_of_le (Nat.lt_succ_self _) (Nat.le_of_ble_eq_true rfl)) (hob39 c38) dX12_soonOf_159 rfl (fun rg40 => ?_)
    refine g_if_eq (tgt := 166) (pc' := 163) rg40 Iff.rfl dX12_soonOf_160 rfl rfl (fun c41 => ?_) (fun c41 => ?_)
    · exact hk50g ⟨c38, c41⟩
    · exact hk51g ⟨c38, c41⟩
  · refine g_iload (pc' := 22) 5 dX12_soonOf_20 rfl rfl ?_
    refine g_iload_n (pc' := 23) 2 dX12_soonOf_22 rfl rfl ?_
    refine g_icmp_ne (tgt := 40) (pc' := 26) (hob42 c38) (hob43 c38) Iff.rfl dX12_soonOf_23 rfl rfl (fun c44 => ?_) (fun c44 => ?_)
    · refine g_iconst (pc' := 41) dX12_soonOf_40 rfl ?_
      exact hk52g ⟨c38, c44⟩
    · exact hk53g ⟨c38, c44⟩
set_option maxRecDepth 20000 in
theorem s_X12_soonOf_46 {w : Wd} {d : Nat} {P : Int → IM → LM → Prop} {i : IM} {l : LM} (x1 : Int) (x2 : Int) (x3 : Int) (x4 : Int) (x5 : Int) (x6 : Int) (x7 : Int) (x8 : Int)  (hd : 2 ≤ d) (h : ((rg x8) ∧ (¬ (10 ≤ x8) → rg x5) ∧ (¬ (10 ≤ x8) → rg x2) ∧ (¬ (10 ≤ x8) → ¬ (x5 ≤ x2) → rg x7) ∧ (((10 ≤ x8) ∨ (x5 ≤ x2)) → gI w d X_X12_soonOf P i l 106 [(0, vR (some 99)), (1, vI x1), (2, vI x2), (3, vI x3), (4, vI x4), (5, vI x5), (6, vI x6), (7, vI x7)] []) ∧ ((¬ (10 ≤ x8) ∧ (¬ (x5 ≤ x2) ∧ (¬ (x7 = 0)))) → gI w d X_X12_soonOf P i l 46 [(0, vR (some 99)), (1, vI x1), (2, vI x2), (3, vI x3), (4, vI x4), (5, vI x5), (6, vI x6), (7, vI 1), (8, vI (x8 + 1))] []) ∧ ((¬ (10 ≤ x8) ∧ (¬ (x5 ≤ x2) ∧ (x7 = 0))) → ((0 ≤ (10 * (x5 - 1)) + x8 ∧ (10 * (x5 - 1)) + x8 < 1200) ∧ ((¬ (i 120 ((10 * (x5 - 1)) + x8) = 0) → rg x8) ∧ (¬ (i 120 ((10 * (x5 - 1)) + x8) = 0) → rg x6) ∧ (¬ (i 120 ((10 * (x5 - 1)) + x8) = 0) → 0 ≤ x8 ∧ x8 < 10) ∧ gI w d X_X12_soonOf P i l 46 [(0, vR (some 99)), (1, vI x1), (2, vI x2), (3, vI x3), (4, vI x4), (5, vI x5), (6, vI x6), (7, vI (bI (¬ (i 120 ((10 * (x5 - 1)) + x8) = 0) ∧ (mStep i x8 x6 = true)))), (8, vI (x8 + 1))] []))))) : gI w d X_X12_soonOf P i l 46 [(0, vR (some 99)), (1, vI x1), (2, vI x2), (3, vI x3), (4, vI x4), (5, vI x5), (6, vI x6), (7, vI x7), (8, vI x8)] [] := by
  refine g_iload (pc' := 48) 8 dX12_soonOf_46 rfl rfl ?_
  refine g_bipush (pc' := 50) dX12_soonOf_48 rfl rfl ?_
  obtain ⟨hob82, hob84, hob85, hob87, hk100, hk101, hk102⟩ := h
  have hk100g : ((10 ≤ x8) ∨ (x5 ≤ x2)) → gI w d X_X12_soonOf P i l 106 [(0, vR (some 99)), (1, vI x1), (2, vI x2), (3, vI x3), (4, vI x4), (5, vI x5), (6, vI x6), (7, vI x7), (8, vI x8)] [] := by
    intro hp
    have h := hk100 hp
    refine g_sub (L' := [(0, vR (some 99)), (1, vI x1), (2, vI x2), (3, vI x3), (4, vI x4), (5, vI x5), (6, vI x6), (7, vI x7)]) [0, 1, 2, 3, 4, 5, 6, 7] rfl ?_
    exact h
  have hk101g : (¬ (10 ≤ x8) ∧ (¬ (x5 ≤ x2) ∧ (¬ (x7 = 0)))) → gI w d X_X12_soonOf P i l 98 [(0, vR (some 99)), (1, vI x1), (2, vI x2), (3, vI x3), (4, vI x4), (5, vI x5), (6, vI x6), (7, vI x7), (8, vI x8)] [vI 1] := by
    intro hp
    have h := hk101 hp
    refine g_istore (pc' := 100) (L' := [(7, vI 1), (0, vR (some 99)), (1, vI x1), (2, vI x2), (3, vI x3), (4, vI x4), (5, vI x5), (6, vI x6), (8, vI x8)]) dX12_soonOf_98 rfl (Nat.le_of_ble_eq_true rfl) rfl ?_
    refine g_iinc (pc' := 103) (L' := [(8, vI (x8 + 1)), (7, vI 1), (0, vR (some 99)), (1, vI x1), (2, vI x2), (3, vI x3), (4, vI x4), (5, vI x5), (6, vI x6)]) 8 dX12_soonOf_100 rfl (Nat.le_of_ble_eq_true rfl) rfl rfl ?_
    refine g_goto (tgt := 46) dX12_soonOf_103 rfl ?_
    refine g_sub (L' := [(0, vR (some 99)), (1, vI x1), (2, vI x2), (3, vI x3), (4, vI x4), (5, vI x5), (6, vI x6), (7, vI 1), (8, vI (x8 + 1))]) [2, 3, 4, 5, 6, 7, 8, 1, 0] rfl ?_
    exact h
  have hk102g : (¬ (10 ≤ x8) ∧ (¬ (x5 ≤ x2) ∧ (x7 = 0))) → gI w d X_X12_soonOf P i l 64 [(0, vR (some 99)), (1, vI x1), (2, vI x2), (3, vI x3), (4, vI x4), (5, vI x5), (6, vI x6), (7, vI x7), (8, vI x8)] [] := by
    intro hp
    have h := hk102 hp
    obtain ⟨ob91, h⟩ := h
    refine g_aload_n (pc' := 65) 0 dX12_soonOf_64 rfl rfl ?_
    refine g_getR (pc' := 68) (o := some 120) fl_X12_88 rfl rfl rfl dX12_soonOf_65 rfl ?_
    refine g_bipush (pc' := 70) dX12_soonOf_68 rfl rfl ?_
    refine g_iload (pc' := 72) 5 dX12_soonOf_70 rfl rfl ?_
    refine g_iconst (pc' := 73) dX12_soonOf_72 rfl ?_
    refine g_isub (pc' := 74) dX12_soonOf_73 rfl ?_
    refine g_imul (pc' := 75) dX12_soonOf_74 rfl ?_
    refine g_iload (pc' := 77) 8 dX12_soonOf_75 rfl rfl ?_
    refine g_iadd (pc' := 78) dX12_soonOf_77 rfl ?_
    refine g_zald (pc' := 79) (N := 1200) rfl rfl (Nat.lt_of_lt_of_le (Nat.lt_succ_self _) (Nat.le_of_ble_eq_true rfl)) ob91 dX12_soonOf_78 rfl (fun rg92 => ?_)
    obtain ⟨hob95, hob96, hob97, h⟩ := h
    have hJ : gI w d X_X12_soonOf P i l 98 [(0, vR (some 99)), (1, vI x1), (2, vI x2), (3, vI x3), (4, vI x4), (5, vI x5), (6, vI x6), (7, vI x7), (8, vI x8)] [vI (bI (¬ (i 120 ((10 * (x5 - 1)) + x8) = 0) ∧ (mStep i x8 x6 = true)))] := by
      refine g_istore (pc' := 100) (L' := [(7, vI (bI (¬ (i 120 ((10 * (x5 - 1)) + x8) = 0) ∧ (mStep i x8 x6 = true)))), (0, vR (some 99)), (1, vI x1), (2, vI x2), (3, vI x3), (4, vI x4), (5, vI x5), (6, vI x6), (8, vI x8)]) dX12_soonOf_98 rfl (Nat.le_of_ble_eq_true rfl) rfl ?_
      refine g_iinc (pc' := 103) (L' := [(8, vI (x8 + 1)), (7, vI (bI (¬ (i 120 ((10 * (x5 - 1)) + x8) = 0) ∧ (mStep i x8 x6 = true)))), (0, vR (some 99)), (1, vI x1), (2, vI x2), (3, vI x3), (4, vI x4), (5, vI x5), (6, vI x6)]) 8 dX12_soonOf_100 rfl (Nat.le_of_ble_eq_true rfl) rfl rfl ?_
      refine g_goto (tgt := 46) dX12_soonOf_103 rfl ?_
      refine g_sub (L' := [(0, vR (some 99)), (1, vI x1), (2, vI x2), (3, vI x3), (4, vI x4), (5, vI x5), (6, vI x6), (7, vI (bI (¬ (i 120 ((10 * (x5 - 1)) + x8) = 0) ∧ (mStep i x8 x6 = true)))), (8, vI (x8 + 1))]) [2, 3, 4, 5, 6, 7, 8, 1, 0] rfl ?_
      exact h
    refine g_if_eq (tgt := 97) (pc' := 82) rg92 Iff.rfl dX12_soonOf_79 rfl rfl (fun c94 => ?_) (fun c94 => ?_)
    · refine g_iconst (pc' := 98) dX12_soonOf_97 rfl ?_
      rw [bI_f (p := (¬ (i 120 ((10 * (x5 - 1)) + x8) = 0) ∧ (mStep i x8 x6 = true))) (fun q => q.1 c94)] at hJ
      exact hJ
    · refine g_aload_n (pc' := 83) 0 dX12_soonOf_82 rfl rfl ?_
      refine g_iload (pc' := 85) 8 dX12_soonOf_83 rfl rfl ?_
      refine g_iload (pc' := 87) 6 dX12_soonOf_85 rfl rfl ?_
      refine g_pVI (pc' := 90) (vs := [vI x8, vI x6]) (st := []) (val := bI (mStep i x8 x6 = true)) (c := 12) (sp_X12_isStep (le_hd hd rfl) (hob95 c94) (hob96 c94) (hob97 c94)) mv_X12_isStep lk_X12_395 rfl rfl rfl rfl (Nat.le_of_ble_eq_true rfl) (Nat.le_of_ble_eq_true rfl) rfl dX12_soonOf_87 rfl z2 (fun rg98 => ?_)
      refine g_if_eq (tgt := 97) (pc' := 93) rg98 (bI_eq _) dX12_soonOf_90 rfl rfl (fun c99 => ?_) (fun c99n => ?_)
      · refine g_iconst (pc' := 98) dX12_soonOf_97 rfl ?_
        rw [bI_f (p := (¬ (i 120 ((10 * (x5 - 1)) + x8) = 0) ∧ (mStep i x8 x6 = true))) (fun q => c99 q.2)] at hJ
        exact hJ
      · have c99 := Decidable.of_not_not c99n
        refine g_iconst (pc' := 94) dX12_soonOf_93 rfl ?_
        refine g_goto (tgt := 98) dX12_soonOf_94 rfl ?_
        rw [bI_t (p := (¬ (i 120 ((10 * (x5 - 1)) + x8) = 0) ∧ (mStep i x8 x6 = true))) ⟨c94, c99⟩] at hJ
        exact hJ
  refine g_icmp_ge (tgt := 106) (pc' := 53) (hob82) (rg_lit rfl) Iff.rfl dX12_soonOf_50 rfl rfl (fun c83 => ?_) (fun c83 => ?_)
  · exact hk100g (Or.inl c83)
  · refine g_iload (pc' := 55) 5 dX12_soonOf_53 rfl rfl ?_
    refine g_iload_n (pc' := 56) 2 dX12_soonOf_55 rfl rfl ?_
    refine g_icmp_le (tgt := 106) (pc' := 59) (hob84 c83) (hob85 c83) Iff.rfl dX12_soonOf_56 rfl rfl (fun c86 => ?_) (fun c86 => ?_)
    · exact hk100g (Or.inr c86)
    · refine g_iload (pc' := 61) 7 dX12_soonOf_59 rfl rfl ?_
      refine g_if_ne (tgt := 93) (pc' := 64) (hob87 c83 c86) Iff.rfl dX12_soonOf_61 rfl rfl (fun c88 => ?_) (fun c88 => ?_)
      · refine g_iconst (pc' := 94) dX12_soonOf_93 rfl ?_
        refine g_goto (tgt := 98) dX12_soonOf_94 rfl ?_
        exact hk101g ⟨c83, ⟨c86, c88⟩⟩
      · exact hk102g ⟨c83, ⟨c86, c88⟩⟩
set_option maxRecDepth 20000 in
theorem s_X12_soonOf_106 {w : Wd} {d : Nat} {P : Int → IM → LM → Prop} {i : IM} {l : LM} (x1 : Int) (x2 : Int) (x3 : Int) (x4 : Int) (x5 : Int) (x6 : Int) (x7 : Int)  (h : ((rg x7) ∧ ((x7 = 0) → ((0 ≤ (10 * x5) + x6 ∧ (10 * x5) + x6 < 1200) ∧ gI w d X_X12_soonOf P (u2 i 120 ((10 * x5) + x6) 0) l 13 [(0, vR (some 99)), (1, vI x1), (2, vI x2), (3, vI x3), (4, vI x4), (5, vI x5), (6, vI (x6 + 1))] [])) ∧ ((¬ (x7 = 0)) → cI w d X_X12_mayBe [vR (some 99), vI x1, vI x6, vI x5] i l (fun r107 i107 l107 => ((0 ≤ (10 * x5) + x6 ∧ (10 * x5) + x6 < 1200) ∧ gI w d X_X12_soonOf P (u2 i107 120 ((10 * x5) + x6) (bI (¬ (r107 = 0)))) l107 13 [(0, vR (some 99)), (1, vI x1), (2, vI x2), (3, vI x3), (4, vI x4), (5, vI x5), (6, vI (x6 + 1))] []))))) : gI w d X_X12_soonOf P i l 106 [(0, vR (some 99)), (1, vI x1), (2, vI x2), (3, vI x3), (4, vI x4), (5, vI x5), (6, vI x6), (7, vI x7)] [] := by
  refine g_aload_n (pc' := 107) 0 dX12_soonOf_106 rfl rfl ?_
  refine g_getR (pc' := 110) (o := some 120) fl_X12_88 rfl rfl rfl dX12_soonOf_107 rfl ?_
  refine g_bipush (pc' := 112) dX12_soonOf_110 rfl rfl ?_
  refine g_iload (pc' := 114) 5 dX12_soonOf_112 rfl rfl ?_
  refine g_imul (pc' := 115) dX12_soonOf_114 rfl ?_
  refine g_iload (pc' := 117) 6 dX12_soonOf_115 rfl rfl ?_
  refine g_iadd (pc' := 118) dX12_soonOf_117 rfl ?_
  refine g_iload (pc' := 120) 7 dX12_soonOf_118 rfl rfl ?_
  obtain ⟨hob104, hk111, hk112⟩ := h
  refine g_if_eq (tgt := 139) (pc' := 123) (hob104) Iff.rfl dX12_soonOf_120 rfl rfl (fun c105 => ?_) (fun c105 => ?_)
  · refine g_iconst (pc' := 140) dX12_soonOf_139 rfl ?_
    have h := hk111 c105
    obtain ⟨ob106, h⟩ := h
    refine g_zast (pc' := 141) (N := 1200) rfl rfl (Nat.lt_of_lt_of_le (Nat.lt_succ_self _) (Nat.le_of_ble_eq_true rfl)) ob106 (by decide) dX12_soonOf_140 rfl ?_
    refine g_iinc (pc' := 144) (L' := [(6, vI (x6 + 1)), (0, vR (some 99)), (1, vI x1), (2, vI x2), (3, vI x3), (4, vI x4), (5, vI x5), (7, vI x7)]) 6 dX12_soonOf_141 rfl (Nat.le_of_ble_eq_true rfl) rfl rfl ?_
    refine g_goto (tgt := 13) dX12_soonOf_144 rfl ?_
    refine g_sub (L' := [(0, vR (some 99)), (1, vI x1), (2, vI x2), (3, vI x3), (4, vI x4), (5, vI x5), (6, vI (x6 + 1))]) [1, 2, 3, 4, 5, 6, 0] rfl ?_
    exact h
  · have h := hk112 c105
    refine g_aload_n (pc' := 124) 0 dX12_soonOf_123 rfl rfl ?_
    refine g_iload_n (pc' := 125) 1 dX12_soonOf_124 rfl rfl ?_
    refine g_iload (pc' := 127) 6 dX12_soonOf_125 rfl rfl ?_
    refine g_iload (pc' := 129) 5 dX12_soonOf_127 rfl rfl ?_
    refine g_cVI (pc' := 132) (vs := [vI x1, vI x6, vI x5]) (st := [vI ((10 * x5) + x6), vR (some 120)]) (c := 12) h mv_X12_mayBe lk_X12_398 rfl rfl rfl rfl (Nat.le_of_ble_eq_true rfl) (Nat.le_of_ble_eq_true rfl) rfl dX12_soonOf_129 rfl z2 (fun r107 i107 l107 rg107 h => ?_)
    have hJ : gI w d X_X12_soonOf P i107 l107 140 [(0, vR (some 99)), (1, vI x1), (2, vI x2), (3, vI x3), (4, vI x4), (5, vI x5), (6, vI x6), (7, vI x7)] [vI (bI (¬ (r107 = 0))), vI ((10 * x5) + x6), vR (some 120)] := by
      obtain ⟨ob110, h⟩ := h
      refine g_zast (pc' := 141) (N := 1200) rfl rfl (Nat.lt_of_lt_of_le (Nat.lt_succ_self _) (Nat.le_of_ble_eq_true rfl)) ob110 (bI_01 _) dX12_soonOf_140 rfl ?_
      refine g_iinc (pc' := 144) (L' := [(6, vI (x6 + 1)), (0, vR (some 99)), (1, vI x1), (2, vI x2), (3, vI x3), (4, vI x4), (5, vI x5), (7, vI x7)]) 6 dX12_soonOf_141 rfl (Nat.le_of_ble_eq_true rfl) rfl rfl ?_
      refine g_goto (tgt := 13) dX12_soonOf_144 rfl ?_
      refine g_sub (L' := [(0, vR (some 99)), (1, vI x1), (2, vI x2), (3, vI x3), (4, vI x4), (5, vI x5), (6, vI (x6 + 1))]) [1, 2, 3, 4, 5, 6, 0] rfl ?_
      exact h
    refine g_if_eq (tgt := 139) (pc' := 135) rg107 Iff.rfl dX12_soonOf_132 rfl rfl (fun c109 => ?_) (fun c109 => ?_)
    · refine g_iconst (pc' := 140) dX12_soonOf_139 rfl ?_
      rw [bI_f (p := (¬ (r107 = 0))) (fun q => q c109)] at hJ
      exact hJ
    · refine g_iconst (pc' := 136) dX12_soonOf_135 rfl ?_
      refine g_goto (tgt := 140) dX12_soonOf_136 rfl ?_
      rw [bI_t (p := (¬ (r107 = 0))) c109] at hJ
      exact hJ

theorem dX12_isWay_0 : decode cX12_isWay 0 = .ok (.aload_n 0, 1) := by decide +kernel
theorem dX12_isWay_1 : decode cX12_isWay 1 = .ok (.iload_n 1, 1) := by decide +kernel
theorem dX12_isWay_2 : decode cX12_isWay 2 = .ok (.invokevirtual 158, 3) := by decide +kernel
theorem dX12_isWay_5 : decode cX12_isWay 5 = .ok (.ifCond .eq 29, 3) := by decide +kernel
theorem dX12_isWay_8 : decode cX12_isWay 8 = .ok (.iload_n 2, 1) := by decide +kernel
theorem dX12_isWay_9 : decode cX12_isWay 9 = .ok (.invokestatic 164, 3) := by decide +kernel
theorem dX12_isWay_12 : decode cX12_isWay 12 = .ok (.ifCond .eq 22, 3) := by decide +kernel
theorem dX12_isWay_15 : decode cX12_isWay 15 = .ok (.iload_n 3, 1) := by decide +kernel
theorem dX12_isWay_16 : decode cX12_isWay 16 = .ok (.invokestatic 155, 3) := by decide +kernel
theorem dX12_isWay_19 : decode cX12_isWay 19 = .ok (.ifCond .eq 15, 3) := by decide +kernel
theorem dX12_isWay_22 : decode cX12_isWay 22 = .ok (.iload 4, 2) := by decide +kernel
theorem dX12_isWay_24 : decode cX12_isWay 24 = .ok (.invokestatic 155, 3) := by decide +kernel
theorem dX12_isWay_27 : decode cX12_isWay 27 = .ok (.ifCond .eq 7, 3) := by decide +kernel
theorem dX12_isWay_30 : decode cX12_isWay 30 = .ok (.iconst 1, 1) := by decide +kernel
theorem dX12_isWay_31 : decode cX12_isWay 31 = .ok (.goto 4, 3) := by decide +kernel
theorem dX12_isWay_34 : decode cX12_isWay 34 = .ok (.iconst 0, 1) := by decide +kernel
theorem dX12_isWay_35 : decode cX12_isWay 35 = .ok (.ireturn, 1) := by decide +kernel
set_option maxRecDepth 20000 in
theorem s_X12_isWay {w : Wd} {d : Nat} {P : Int → IM → LM → Prop} {i : IM} {l : LM} (p0 : Int) (p1 : Int) (p2 : Int) (p3 : Int)  (hd : 2 ≤ d) (h : ((rg p0) ∧ (rg (i 101 309 - 1)) ∧ (((0 ≤ p0 ∧ p0 < i 101 309) → rg p1) ∧ ((0 ≤ p0 ∧ p0 < i 101 309) → (0 ≤ p1 ∧ p1 ≤ 119) → rg p2) ∧ ((0 ≤ p0 ∧ p0 < i 101 309) → (0 ≤ p1 ∧ p1 ≤ 119) → (0 ≤ p2 ∧ p2 ≤ 9) → rg p3) ∧ P (bI ((0 ≤ p0 ∧ p0 < i 101 309) ∧ ((0 ≤ p1 ∧ p1 ≤ 119) ∧ ((0 ≤ p2 ∧ p2 ≤ 9) ∧ (0 ≤ p3 ∧ p3 ≤ 9))))) i l))) : gI w d X_X12_isWay P i l 0 [(0, vR (some 99)), (1, vI p0), (2, vI p1), (3, vI p2), (4, vI p3)] [] := by
  obtain ⟨ob1, ob2, h⟩ := h
  refine g_aload_n (pc' := 1) 0 dX12_isWay_0 rfl rfl ?_
  refine g_iload_n (pc' := 2) 1 dX12_isWay_1 rfl rfl ?_
  refine g_pVI (pc' := 5) (vs := [vI p0]) (st := []) (val := bI (0 ≤ p0 ∧ p0 < i 101 309)) (c := 12) (sp_X12_isPerson (le_hd hd rfl) ob1 ob2) mv_X12_isPerson lk_X12_158 rfl rfl rfl rfl (Nat.le_of_ble_eq_true rfl) (Nat.le_of_ble_eq_true rfl) rfl dX12_isWay_2 rfl z2 (fun rg3 => ?_)
  obtain ⟨hob6, hob9, hob12, h⟩ := h
  have hJ : gI w d X_X12_isWay P i l 35 [(0, vR (some 99)), (1, vI p0), (2, vI p1), (3, vI p2), (4, vI p3)] [vI (bI ((0 ≤ p0 ∧ p0 < i 101 309) ∧ ((0 ≤ p1 ∧ p1 ≤ 119) ∧ ((0 ≤ p2 ∧ p2 ≤ 9) ∧ (0 ≤ p3 ∧ p3 ≤ 9)))))] := by
    exact g_retZ rfl (bI_01 _) dX12_isWay_35 h
  refine g_if_eq (tgt := 34) (pc' := 8) rg3 (bI_eq _) dX12_isWay_5 rfl rfl (fun c5 => ?_) (fun c5n => ?_)
  · refine g_iconst (pc' := 35) dX12_isWay_34 rfl ?_
    rw [bI_f (p := ((0 ≤ p0 ∧ p0 < i 101 309) ∧ ((0 ≤ p1 ∧ p1 ≤ 119) ∧ ((0 ≤ p2 ∧ p2 ≤ 9) ∧ (0 ≤ p3 ∧ p3 ≤ 9))))) (fun q => c5 q.1)] at hJ
    exact hJ
  · have c5 := Decidable.of_not_not c5n
    refine g_iload_n (pc' := 9) 2 dX12_isWay_8 rfl rfl ?_
    refine g_pSI (pc' := 12) (vs := [vI p1]) (st := []) (val := bI (0 ≤ p1 ∧ p1 ≤ 119)) (sp_X12_isMinute (le_hd hd rfl) (hob6 c5)) mk_X12_isMinute ms_X12_isMinute lk_X12_164 rfl (Nat.le_of_ble_eq_true rfl) (Nat.le_of_ble_eq_true rfl) rfl dX12_isWay_9 rfl z2 (fun rg7 => ?_)
    refine g_if_eq (tgt := 34) (pc' := 15) rg7 (bI_eq _) dX12_isWay_12 rfl rfl (fun c8 => ?_) (fun c8n => ?_)
    · refine g_iconst (pc' := 35) dX12_isWay_34 rfl ?_
      rw [bI_f (p := ((0 ≤ p0 ∧ p0 < i 101 309) ∧ ((0 ≤ p1 ∧ p1 ≤ 119) ∧ ((0 ≤ p2 ∧ p2 ≤ 9) ∧ (0 ≤ p3 ∧ p3 ≤ 9))))) (fun q => (fun q => c8 q.1) q.2)] at hJ
      exact hJ
    · have c8 := Decidable.of_not_not c8n
      refine g_iload_n (pc' := 16) 3 dX12_isWay_15 rfl rfl ?_
      refine g_pSI (pc' := 19) (vs := [vI p2]) (st := []) (val := bI (0 ≤ p2 ∧ p2 ≤ 9)) (sp_X12_isPlace (le_hd hd rfl) (hob9 c5 c8)) mk_X12_isPlace ms_X12_isPlace lk_X12_155 rfl (Nat.le_of_ble_eq_true rfl) (Nat.le_of_ble_eq_true rfl) rfl dX12_isWay_16 rfl z2 (fun rg10 => ?_)
      refine g_if_eq (tgt := 34) (pc' := 22) rg10 (bI_eq _) dX12_isWay_19 rfl rfl (fun c11 => ?_) (fun c11n => ?_)
      · refine g_iconst (pc' := 35) dX12_isWay_34 rfl ?_
        rw [bI_f (p := ((0 ≤ p0 ∧ p0 < i 101 309) ∧ ((0 ≤ p1 ∧ p1 ≤ 119) ∧ ((0 ≤ p2 ∧ p2 ≤ 9) ∧ (0 ≤ p3 ∧ p3 ≤ 9))))) (fun q => (fun q => (fun q => c11 q.1) q.2) q.2)] at hJ
        exact hJ
      · have c11 := Decidable.of_not_not c11n
        refine g_iload (pc' := 24) 4 dX12_isWay_22 rfl rfl ?_
        refine g_pSI (pc' := 27) (vs := [vI p3]) (st := []) (val := bI (0 ≤ p3 ∧ p3 ≤ 9)) (sp_X12_isPlace (le_hd hd rfl) (hob12 c5 c8 c11)) mk_X12_isPlace ms_X12_isPlace lk_X12_155 rfl (Nat.le_of_ble_eq_true rfl) (Nat.le_of_ble_eq_true rfl) rfl dX12_isWay_24 rfl z2 (fun rg13 => ?_)
        refine g_if_eq (tgt := 34) (pc' := 30) rg13 (bI_eq _) dX12_isWay_27 rfl rfl (fun c14 => ?_) (fun c14n => ?_)
        · refine g_iconst (pc' := 35) dX12_isWay_34 rfl ?_
          rw [bI_f (p := ((0 ≤ p0 ∧ p0 < i 101 309) ∧ ((0 ≤ p1 ∧ p1 ≤ 119) ∧ ((0 ≤ p2 ∧ p2 ≤ 9) ∧ (0 ≤ p3 ∧ p3 ≤ 9))))) (fun q => (fun q => (fun q => c14 q.2) q.2) q.2)] at hJ
          exact hJ
        · have c14 := Decidable.of_not_not c14n
          refine g_iconst (pc' := 31) dX12_isWay_30 rfl ?_
          refine g_goto (tgt := 35) dX12_isWay_31 rfl ?_
          rw [bI_t (p := ((0 ≤ p0 ∧ p0 < i 101 309) ∧ ((0 ≤ p1 ∧ p1 ≤ 119) ∧ ((0 ≤ p2 ∧ p2 ≤ 9) ∧ (0 ≤ p3 ∧ p3 ≤ 9))))) ⟨c5, ⟨c8, ⟨c11, c14⟩⟩⟩] at hJ
          exact hJ
theorem e_X12_isWay {w : Wd} {d : Nat} {P : Int → IM → LM → Prop} {i : IM} {l : LM} {p0 : Int} {p1 : Int} {p2 : Int} {p3 : Int}  (h : gI w d X_X12_isWay P i l 0 [(0, vR (some 99)), (1, vI p0), (2, vI p1), (3, vI p2), (4, vI p3)] []) : cI w (d + 1) X_X12_isWay [vR (some 99), vI p0, vI p1, vI p2, vI p3] i l P := CI_of (by decide +kernel) (Nat.le_of_ble_eq_true rfl) h

theorem dX12_soon_0 : decode cX12_soon 0 = .ok (.aload_n 0, 1) := by decide +kernel
theorem dX12_soon_1 : decode cX12_soon 1 = .ok (.iload_n 1, 1) := by decide +kernel
theorem dX12_soon_2 : decode cX12_soon 2 = .ok (.iload_n 2, 1) := by decide +kernel
theorem dX12_soon_3 : decode cX12_soon 3 = .ok (.iload_n 3, 1) := by decide +kernel
theorem dX12_soon_4 : decode cX12_soon 4 = .ok (.iload 4, 2) := by decide +kernel
theorem dX12_soon_6 : decode cX12_soon 6 = .ok (.invokevirtual 401, 3) := by decide +kernel
theorem dX12_soon_9 : decode cX12_soon 9 = .ok (.ifCond .eq 15, 3) := by decide +kernel
theorem dX12_soon_12 : decode cX12_soon 12 = .ok (.aload_n 0, 1) := by decide +kernel
theorem dX12_soon_13 : decode cX12_soon 13 = .ok (.iload_n 1, 1) := by decide +kernel
theorem dX12_soon_14 : decode cX12_soon 14 = .ok (.iload_n 2, 1) := by decide +kernel
theorem dX12_soon_15 : decode cX12_soon 15 = .ok (.iload_n 3, 1) := by decide +kernel
theorem dX12_soon_16 : decode cX12_soon 16 = .ok (.iload 4, 2) := by decide +kernel
theorem dX12_soon_18 : decode cX12_soon 18 = .ok (.invokevirtual 405, 3) := by decide +kernel
theorem dX12_soon_21 : decode cX12_soon 21 = .ok (.goto 4, 3) := by decide +kernel
theorem dX12_soon_24 : decode cX12_soon 24 = .ok (.iconst (-1), 1) := by decide +kernel
theorem dX12_soon_25 : decode cX12_soon 25 = .ok (.ireturn, 1) := by decide +kernel
set_option maxRecDepth 20000 in
theorem s_X12_soon {w : Wd} {d : Nat} {P : Int → IM → LM → Prop} {i : IM} {l : LM} (p0 : Int) (p1 : Int) (p2 : Int) (p3 : Int)  (h : cI w d X_X12_isWay [vR (some 99), vI p0, vI p1, vI p2, vI p3] i l (fun r1 i1 l1 => (((r1 = 0) → P (-1) i1 l1) ∧ ((¬ (r1 = 0)) → cI w d X_X12_soonOf [vR (some 99), vI p0, vI p1, vI p2, vI p3] i1 l1 (fun r4 i4 l4 => P r4 i4 l4))))) : gI w d X_X12_soon P i l 0 [(0, vR (some 99)), (1, vI p0), (2, vI p1), (3, vI p2), (4, vI p3)] [] := by
  refine g_aload_n (pc' := 1) 0 dX12_soon_0 rfl rfl ?_
  refine g_iload_n (pc' := 2) 1 dX12_soon_1 rfl rfl ?_
  refine g_iload_n (pc' := 3) 2 dX12_soon_2 rfl rfl ?_
  refine g_iload_n (pc' := 4) 3 dX12_soon_3 rfl rfl ?_
  refine g_iload (pc' := 6) 4 dX12_soon_4 rfl rfl ?_
  refine g_cVI (pc' := 9) (vs := [vI p0, vI p1, vI p2, vI p3]) (st := []) (c := 12) h mv_X12_isWay lk_X12_401 rfl rfl rfl rfl (Nat.le_of_ble_eq_true rfl) (Nat.le_of_ble_eq_true rfl) rfl dX12_soon_6 rfl z2 (fun r1 i1 l1 rg1 h => ?_)
  obtain ⟨hk5, hk6⟩ := h
  refine g_if_eq (tgt := 24) (pc' := 12) rg1 Iff.rfl dX12_soon_9 rfl rfl (fun c3 => ?_) (fun c3 => ?_)
  · refine g_iconst (pc' := 25) dX12_soon_24 rfl ?_
    have h := hk5 c3
    exact g_retI rfl (rg_lit rfl) dX12_soon_25 h
  · have h := hk6 c3
    refine g_aload_n (pc' := 13) 0 dX12_soon_12 rfl rfl ?_
    refine g_iload_n (pc' := 14) 1 dX12_soon_13 rfl rfl ?_
    refine g_iload_n (pc' := 15) 2 dX12_soon_14 rfl rfl ?_
    refine g_iload_n (pc' := 16) 3 dX12_soon_15 rfl rfl ?_
    refine g_iload (pc' := 18) 4 dX12_soon_16 rfl rfl ?_
    refine g_cVI (pc' := 21) (vs := [vI p0, vI p1, vI p2, vI p3]) (st := []) (c := 12) h mv_X12_soonOf lk_X12_405 rfl rfl rfl rfl (Nat.le_of_ble_eq_true rfl) (Nat.le_of_ble_eq_true rfl) rfl dX12_soon_18 rfl z2 (fun r4 i4 l4 rg4 h => ?_)
    refine g_goto (tgt := 25) dX12_soon_21 rfl ?_
    exact g_retI rfl rg4 dX12_soon_25 h
theorem e_X12_soon {w : Wd} {d : Nat} {P : Int → IM → LM → Prop} {i : IM} {l : LM} {p0 : Int} {p1 : Int} {p2 : Int} {p3 : Int}  (h : gI w d X_X12_soon P i l 0 [(0, vR (some 99)), (1, vI p0), (2, vI p1), (3, vI p2), (4, vI p3)] []) : cI w (d + 1) X_X12_soon [vR (some 99), vI p0, vI p1, vI p2, vI p3] i l P := CI_of (by decide +kernel) (Nat.le_of_ble_eq_true rfl) h

theorem dX12_way_0 : decode cX12_way 0 = .ok (.aload_n 0, 1) := by decide +kernel
theorem dX12_way_1 : decode cX12_way 1 = .ok (.iload_n 1, 1) := by decide +kernel
theorem dX12_way_2 : decode cX12_way 2 = .ok (.iload_n 2, 1) := by decide +kernel
theorem dX12_way_3 : decode cX12_way 3 = .ok (.iload_n 3, 1) := by decide +kernel
theorem dX12_way_4 : decode cX12_way 4 = .ok (.iload 4, 2) := by decide +kernel
theorem dX12_way_6 : decode cX12_way 6 = .ok (.invokevirtual 401, 3) := by decide +kernel
theorem dX12_way_9 : decode cX12_way 9 = .ok (.ifCond .eq 11, 3) := by decide +kernel
theorem dX12_way_12 : decode cX12_way 12 = .ok (.iload 5, 2) := by decide +kernel
theorem dX12_way_14 : decode cX12_way 14 = .ok (.invokestatic 164, 3) := by decide +kernel
theorem dX12_way_17 : decode cX12_way 17 = .ok (.ifCond .ne 5, 3) := by decide +kernel
theorem dX12_way_20 : decode cX12_way 20 = .ok (.iconst (-1), 1) := by decide +kernel
theorem dX12_way_21 : decode cX12_way 21 = .ok (.ireturn, 1) := by decide +kernel
theorem dX12_way_22 : decode cX12_way 22 = .ok (.aload_n 0, 1) := by decide +kernel
theorem dX12_way_23 : decode cX12_way 23 = .ok (.iload_n 1, 1) := by decide +kernel
theorem dX12_way_24 : decode cX12_way 24 = .ok (.iload_n 2, 1) := by decide +kernel
theorem dX12_way_25 : decode cX12_way 25 = .ok (.iload_n 3, 1) := by decide +kernel
theorem dX12_way_26 : decode cX12_way 26 = .ok (.iload 4, 2) := by decide +kernel
theorem dX12_way_28 : decode cX12_way 28 = .ok (.invokevirtual 405, 3) := by decide +kernel
theorem dX12_way_31 : decode cX12_way 31 = .ok (.istore 6, 2) := by decide +kernel
theorem dX12_way_33 : decode cX12_way 33 = .ok (.iload 6, 2) := by decide +kernel
theorem dX12_way_35 : decode cX12_way 35 = .ok (.iconst (-1), 1) := by decide +kernel
theorem dX12_way_36 : decode cX12_way 36 = .ok (.if_icmp .eq 14, 3) := by decide +kernel
theorem dX12_way_39 : decode cX12_way 39 = .ok (.iload 5, 2) := by decide +kernel
theorem dX12_way_41 : decode cX12_way 41 = .ok (.iload_n 2, 1) := by decide +kernel
theorem dX12_way_42 : decode cX12_way 42 = .ok (.iload 6, 2) := by decide +kernel
theorem dX12_way_44 : decode cX12_way 44 = .ok (.invokestatic 106, 3) := by decide +kernel
theorem dX12_way_47 : decode cX12_way 47 = .ok (.ifCond .ne 5, 3) := by decide +kernel
theorem dX12_way_50 : decode cX12_way 50 = .ok (.iconst (-1), 1) := by decide +kernel
theorem dX12_way_51 : decode cX12_way 51 = .ok (.ireturn, 1) := by decide +kernel
theorem dX12_way_52 : decode cX12_way 52 = .ok (.iload 6, 2) := by decide +kernel
theorem dX12_way_54 : decode cX12_way 54 = .ok (.istore 7, 2) := by decide +kernel
theorem dX12_way_56 : decode cX12_way 56 = .ok (.iload 7, 2) := by decide +kernel
theorem dX12_way_58 : decode cX12_way 58 = .ok (.iload_n 2, 1) := by decide +kernel
theorem dX12_way_59 : decode cX12_way 59 = .ok (.if_icmp .lt 153, 3) := by decide +kernel
theorem dX12_way_62 : decode cX12_way 62 = .ok (.iconst 0, 1) := by decide +kernel
theorem dX12_way_63 : decode cX12_way 63 = .ok (.istore 8, 2) := by decide +kernel
theorem dX12_way_65 : decode cX12_way 65 = .ok (.iload 8, 2) := by decide +kernel
theorem dX12_way_67 : decode cX12_way 67 = .ok (.bipush 10, 2) := by decide +kernel
theorem dX12_way_69 : decode cX12_way 69 = .ok (.if_icmp .ge 137, 3) := by decide +kernel
theorem dX12_way_72 : decode cX12_way 72 = .ok (.iload 7, 2) := by decide +kernel
theorem dX12_way_74 : decode cX12_way 74 = .ok (.iload 6, 2) := by decide +kernel
theorem dX12_way_76 : decode cX12_way 76 = .ok (.if_icmp .ne 18, 3) := by decide +kernel
theorem dX12_way_79 : decode cX12_way 79 = .ok (.iload 8, 2) := by decide +kernel
theorem dX12_way_81 : decode cX12_way 81 = .ok (.iload 4, 2) := by decide +kernel
theorem dX12_way_83 : decode cX12_way 83 = .ok (.if_icmp .ne 7, 3) := by decide +kernel
theorem dX12_way_86 : decode cX12_way 86 = .ok (.iconst 1, 1) := by decide +kernel
theorem dX12_way_87 : decode cX12_way 87 = .ok (.goto 8, 3) := by decide +kernel
theorem dX12_way_90 : decode cX12_way 90 = .ok (.iconst 0, 1) := by decide +kernel
theorem dX12_way_91 : decode cX12_way 91 = .ok (.goto 4, 3) := by decide +kernel
theorem dX12_way_94 : decode cX12_way 94 = .ok (.iconst 0, 1) := by decide +kernel
theorem dX12_way_95 : decode cX12_way 95 = .ok (.istore 9, 2) := by decide +kernel
theorem dX12_way_97 : decode cX12_way 97 = .ok (.iconst 0, 1) := by decide +kernel
theorem dX12_way_98 : decode cX12_way 98 = .ok (.istore 10, 2) := by decide +kernel
theorem dX12_way_100 : decode cX12_way 100 = .ok (.iload 10, 2) := by decide +kernel
theorem dX12_way_102 : decode cX12_way 102 = .ok (.bipush 10, 2) := by decide +kernel
theorem dX12_way_104 : decode cX12_way 104 = .ok (.if_icmp .ge 57, 3) := by decide +kernel
theorem dX12_way_107 : decode cX12_way 107 = .ok (.iload 7, 2) := by decide +kernel
theorem dX12_way_109 : decode cX12_way 109 = .ok (.iload 6, 2) := by decide +kernel
theorem dX12_way_111 : decode cX12_way 111 = .ok (.if_icmp .ge 50, 3) := by decide +kernel
theorem dX12_way_114 : decode cX12_way 114 = .ok (.iload 9, 2) := by decide +kernel
theorem dX12_way_116 : decode cX12_way 116 = .ok (.ifCond .ne 32, 3) := by decide +kernel
theorem dX12_way_119 : decode cX12_way 119 = .ok (.aload_n 0, 1) := by decide +kernel
theorem dX12_way_120 : decode cX12_way 120 = .ok (.getfield 91, 3) := by decide +kernel
theorem dX12_way_123 : decode cX12_way 123 = .ok (.bipush 10, 2) := by decide +kernel
theorem dX12_way_125 : decode cX12_way 125 = .ok (.iload 7, 2) := by decide +kernel
theorem dX12_way_127 : decode cX12_way 127 = .ok (.iconst 1, 1) := by decide +kernel
theorem dX12_way_128 : decode cX12_way 128 = .ok (.iadd, 1) := by decide +kernel
theorem dX12_way_129 : decode cX12_way 129 = .ok (.imul, 1) := by decide +kernel
theorem dX12_way_130 : decode cX12_way 130 = .ok (.iload 10, 2) := by decide +kernel
theorem dX12_way_132 : decode cX12_way 132 = .ok (.iadd, 1) := by decide +kernel
theorem dX12_way_133 : decode cX12_way 133 = .ok (.baload, 1) := by decide +kernel
theorem dX12_way_134 : decode cX12_way 134 = .ok (.ifCond .eq 18, 3) := by decide +kernel
theorem dX12_way_137 : decode cX12_way 137 = .ok (.aload_n 0, 1) := by decide +kernel
theorem dX12_way_138 : decode cX12_way 138 = .ok (.iload 8, 2) := by decide +kernel
theorem dX12_way_140 : decode cX12_way 140 = .ok (.iload 10, 2) := by decide +kernel
theorem dX12_way_142 : decode cX12_way 142 = .ok (.invokevirtual 395, 3) := by decide +kernel
theorem dX12_way_145 : decode cX12_way 145 = .ok (.ifCond .eq 7, 3) := by decide +kernel
theorem dX12_way_148 : decode cX12_way 148 = .ok (.iconst 1, 1) := by decide +kernel
theorem dX12_way_149 : decode cX12_way 149 = .ok (.goto 4, 3) := by decide +kernel
theorem dX12_way_152 : decode cX12_way 152 = .ok (.iconst 0, 1) := by decide +kernel
theorem dX12_way_153 : decode cX12_way 153 = .ok (.istore 9, 2) := by decide +kernel
theorem dX12_way_155 : decode cX12_way 155 = .ok (.iinc 10 1, 3) := by decide +kernel
theorem dX12_way_158 : decode cX12_way 158 = .ok (.goto (-58), 3) := by decide +kernel
theorem dX12_way_161 : decode cX12_way 161 = .ok (.aload_n 0, 1) := by decide +kernel
theorem dX12_way_162 : decode cX12_way 162 = .ok (.getfield 91, 3) := by decide +kernel
theorem dX12_way_165 : decode cX12_way 165 = .ok (.bipush 10, 2) := by decide +kernel
theorem dX12_way_167 : decode cX12_way 167 = .ok (.iload 7, 2) := by decide +kernel
theorem dX12_way_169 : decode cX12_way 169 = .ok (.imul, 1) := by decide +kernel
theorem dX12_way_170 : decode cX12_way 170 = .ok (.iload 8, 2) := by decide +kernel
theorem dX12_way_172 : decode cX12_way 172 = .ok (.iadd, 1) := by decide +kernel
theorem dX12_way_173 : decode cX12_way 173 = .ok (.iload 9, 2) := by decide +kernel
theorem dX12_way_175 : decode cX12_way 175 = .ok (.ifCond .eq 23, 3) := by decide +kernel
theorem dX12_way_178 : decode cX12_way 178 = .ok (.aload_n 0, 1) := by decide +kernel
theorem dX12_way_179 : decode cX12_way 179 = .ok (.getfield 88, 3) := by decide +kernel
theorem dX12_way_182 : decode cX12_way 182 = .ok (.bipush 10, 2) := by decide +kernel
theorem dX12_way_184 : decode cX12_way 184 = .ok (.iload 7, 2) := by decide +kernel
theorem dX12_way_186 : decode cX12_way 186 = .ok (.imul, 1) := by decide +kernel
theorem dX12_way_187 : decode cX12_way 187 = .ok (.iload 8, 2) := by decide +kernel
theorem dX12_way_189 : decode cX12_way 189 = .ok (.iadd, 1) := by decide +kernel
theorem dX12_way_190 : decode cX12_way 190 = .ok (.baload, 1) := by decide +kernel
theorem dX12_way_191 : decode cX12_way 191 = .ok (.ifCond .eq 7, 3) := by decide +kernel
theorem dX12_way_194 : decode cX12_way 194 = .ok (.iconst 1, 1) := by decide +kernel
theorem dX12_way_195 : decode cX12_way 195 = .ok (.goto 4, 3) := by decide +kernel
theorem dX12_way_198 : decode cX12_way 198 = .ok (.iconst 0, 1) := by decide +kernel
theorem dX12_way_199 : decode cX12_way 199 = .ok (.bastore, 1) := by decide +kernel
theorem dX12_way_200 : decode cX12_way 200 = .ok (.iinc 8 1, 3) := by decide +kernel
theorem dX12_way_203 : decode cX12_way 203 = .ok (.goto (-138), 3) := by decide +kernel
theorem dX12_way_206 : decode cX12_way 206 = .ok (.iinc 7 (-1), 3) := by decide +kernel
theorem dX12_way_209 : decode cX12_way 209 = .ok (.goto (-153), 3) := by decide +kernel
theorem dX12_way_212 : decode cX12_way 212 = .ok (.iload_n 3, 1) := by decide +kernel
theorem dX12_way_213 : decode cX12_way 213 = .ok (.istore 7, 2) := by decide +kernel
theorem dX12_way_215 : decode cX12_way 215 = .ok (.iload_n 2, 1) := by decide +kernel
theorem dX12_way_216 : decode cX12_way 216 = .ok (.iconst 1, 1) := by decide +kernel
theorem dX12_way_217 : decode cX12_way 217 = .ok (.iadd, 1) := by decide +kernel
theorem dX12_way_218 : decode cX12_way 218 = .ok (.istore 8, 2) := by decide +kernel
theorem dX12_way_220 : decode cX12_way 220 = .ok (.iload 8, 2) := by decide +kernel
theorem dX12_way_222 : decode cX12_way 222 = .ok (.iload 5, 2) := by decide +kernel
theorem dX12_way_224 : decode cX12_way 224 = .ok (.if_icmp .gt 49, 3) := by decide +kernel
theorem dX12_way_227 : decode cX12_way 227 = .ok (.iconst 0, 1) := by decide +kernel
theorem dX12_way_228 : decode cX12_way 228 = .ok (.istore 9, 2) := by decide +kernel
theorem dX12_way_230 : decode cX12_way 230 = .ok (.aload_n 0, 1) := by decide +kernel
theorem dX12_way_231 : decode cX12_way 231 = .ok (.iload 7, 2) := by decide +kernel
theorem dX12_way_233 : decode cX12_way 233 = .ok (.iload 9, 2) := by decide +kernel
theorem dX12_way_235 : decode cX12_way 235 = .ok (.invokevirtual 395, 3) := by decide +kernel
theorem dX12_way_238 : decode cX12_way 238 = .ok (.ifCond .eq 19, 3) := by decide +kernel
theorem dX12_way_241 : decode cX12_way 241 = .ok (.aload_n 0, 1) := by decide +kernel
theorem dX12_way_242 : decode cX12_way 242 = .ok (.getfield 91, 3) := by decide +kernel
theorem dX12_way_245 : decode cX12_way 245 = .ok (.bipush 10, 2) := by decide +kernel
theorem dX12_way_247 : decode cX12_way 247 = .ok (.iload 8, 2) := by decide +kernel
theorem dX12_way_249 : decode cX12_way 249 = .ok (.imul, 1) := by decide +kernel
theorem dX12_way_250 : decode cX12_way 250 = .ok (.iload 9, 2) := by decide +kernel
theorem dX12_way_252 : decode cX12_way 252 = .ok (.iadd, 1) := by decide +kernel
theorem dX12_way_253 : decode cX12_way 253 = .ok (.baload, 1) := by decide +kernel
theorem dX12_way_254 : decode cX12_way 254 = .ok (.ifCond .ne 9, 3) := by decide +kernel
theorem dX12_way_257 : decode cX12_way 257 = .ok (.iinc 9 1, 3) := by decide +kernel
theorem dX12_way_260 : decode cX12_way 260 = .ok (.goto (-30), 3) := by decide +kernel
theorem dX12_way_263 : decode cX12_way 263 = .ok (.iload 9, 2) := by decide +kernel
theorem dX12_way_265 : decode cX12_way 265 = .ok (.istore 7, 2) := by decide +kernel
theorem dX12_way_267 : decode cX12_way 267 = .ok (.iinc 8 1, 3) := by decide +kernel
theorem dX12_way_270 : decode cX12_way 270 = .ok (.goto (-50), 3) := by decide +kernel
theorem dX12_way_273 : decode cX12_way 273 = .ok (.iload 7, 2) := by decide +kernel
theorem dX12_way_275 : decode cX12_way 275 = .ok (.ireturn, 1) := by decide +kernel
set_option maxRecDepth 20000 in
theorem s_X12_way {w : Wd} {d : Nat} {P : Int → IM → LM → Prop} {i : IM} {l : LM} (p0 : Int) (p1 : Int) (p2 : Int) (p3 : Int) (p4 : Int)  (hd : 2 ≤ d) (h : cI w d X_X12_isWay [vR (some 99), vI p0, vI p1, vI p2, vI p3] i l (fun r1 i1 l1 => ((¬ (r1 = 0) → rg p4) ∧ (((r1 = 0) ∨ (¬ (0 ≤ p4 ∧ p4 ≤ 119))) → P (-1) i1 l1) ∧ ((¬ ((r1 = 0) ∨ (¬ (0 ≤ p4 ∧ p4 ≤ 119)))) → cI w d X_X12_soonOf [vR (some 99), vI p0, vI p1, vI p2, vI p3] i1 l1 (fun r7 i7 l7 => ((¬ (r7 = (-1)) → rg p4) ∧ (¬ (r7 = (-1)) → rg p1) ∧ (((r7 = (-1)) ∨ (¬ (p1 ≤ p4 ∧ p4 ≤ r7))) → P (-1) i7 l7) ∧ ((¬ ((r7 = (-1)) ∨ (¬ (p1 ≤ p4 ∧ p4 ≤ r7)))) → gI w d X_X12_way P i7 l7 56 [(0, vR (some 99)), (2, vI p1), (3, vI p2), (4, vI p3), (5, vI p4), (6, vI r7), (7, vI r7)] []))))))) : gI w d X_X12_way P i l 0 [(0, vR (some 99)), (1, vI p0), (2, vI p1), (3, vI p2), (4, vI p3), (5, vI p4)] [] := by
  refine g_aload_n (pc' := 1) 0 dX12_way_0 rfl rfl ?_
  refine g_iload_n (pc' := 2) 1 dX12_way_1 rfl rfl ?_
  refine g_iload_n (pc' := 3) 2 dX12_way_2 rfl rfl ?_
  refine g_iload_n (pc' := 4) 3 dX12_way_3 rfl rfl ?_
  refine g_iload (pc' := 6) 4 dX12_way_4 rfl rfl ?_
  refine g_cVI (pc' := 9) (vs := [vI p0, vI p1, vI p2, vI p3]) (st := []) (c := 12) h mv_X12_isWay lk_X12_401 rfl rfl rfl rfl (Nat.le_of_ble_eq_true rfl) (Nat.le_of_ble_eq_true rfl) rfl dX12_way_6 rfl z2 (fun r1 i1 l1 rg1 h => ?_)
  obtain ⟨hob4, hk16, hk17⟩ := h
  have hk16g : ((r1 = 0) ∨ (¬ (0 ≤ p4 ∧ p4 ≤ 119))) → gI w d X_X12_way P i1 l1 20 [(0, vR (some 99)), (1, vI p0), (2, vI p1), (3, vI p2), (4, vI p3), (5, vI p4)] [] := by
    intro hp
    have h := hk16 hp
    refine g_iconst (pc' := 21) dX12_way_20 rfl ?_
    exact g_retI rfl (rg_lit rfl) dX12_way_21 h
  have hk17g : (¬ ((r1 = 0) ∨ (¬ (0 ≤ p4 ∧ p4 ≤ 119)))) → gI w d X_X12_way P i1 l1 22 [(0, vR (some 99)), (1, vI p0), (2, vI p1), (3, vI p2), (4, vI p3), (5, vI p4)] [] := by
    intro hp
    have h := hk17 hp
    refine g_aload_n (pc' := 23) 0 dX12_way_22 rfl rfl ?_
    refine g_iload_n (pc' := 24) 1 dX12_way_23 rfl rfl ?_
    refine g_iload_n (pc' := 25) 2 dX12_way_24 rfl rfl ?_
    refine g_iload_n (pc' := 26) 3 dX12_way_25 rfl rfl ?_
    refine g_iload (pc' := 28) 4 dX12_way_26 rfl rfl ?_
    refine g_cVI (pc' := 31) (vs := [vI p0, vI p1, vI p2, vI p3]) (st := []) (c := 12) h mv_X12_soonOf lk_X12_405 rfl rfl rfl rfl (Nat.le_of_ble_eq_true rfl) (Nat.le_of_ble_eq_true rfl) rfl dX12_way_28 rfl z2 (fun r7 i7 l7 rg7 h => ?_)
    refine g_istore (pc' := 33) (L' := [(6, vI r7), (0, vR (some 99)), (1, vI p0), (2, vI p1), (3, vI p2), (4, vI p3), (5, vI p4)]) dX12_way_31 rfl (Nat.le_of_ble_eq_true rfl) rfl ?_
    refine g_iload (pc' := 35) 0 dX12_way_33 rfl rfl ?_
    refine g_iconst (pc' := 36) dX12_way_35 rfl ?_
    obtain ⟨hob10, hob11, hk14, hk15⟩ := h
    have hk14g : ((r7 = (-1)) ∨ (¬ (p1 ≤ p4 ∧ p4 ≤ r7))) → gI w d X_X12_way P i7 l7 50 [(6, vI r7), (0, vR (some 99)), (1, vI p0), (2, vI p1), (3, vI p2), (4, vI p3), (5, vI p4)] [] := by
      intro hp
      have h := hk14 hp
      refine g_iconst (pc' := 51) dX12_way_50 rfl ?_
      exact g_retI rfl (rg_lit rfl) dX12_way_51 h
    have hk15g : (¬ ((r7 = (-1)) ∨ (¬ (p1 ≤ p4 ∧ p4 ≤ r7)))) → gI w d X_X12_way P i7 l7 52 [(6, vI r7), (0, vR (some 99)), (1, vI p0), (2, vI p1), (3, vI p2), (4, vI p3), (5, vI p4)] [] := by
      intro hp
      have h := hk15 hp
      refine g_iload (pc' := 54) 0 dX12_way_52 rfl rfl ?_
      refine g_istore (pc' := 56) (L' := [(7, vI r7), (6, vI r7), (0, vR (some 99)), (1, vI p0), (2, vI p1), (3, vI p2), (4, vI p3), (5, vI p4)]) dX12_way_54 rfl (Nat.le_of_ble_eq_true rfl) rfl ?_
      refine g_sub (L' := [(0, vR (some 99)), (2, vI p1), (3, vI p2), (4, vI p3), (5, vI p4), (6, vI r7), (7, vI r7)]) [2, 4, 5, 6, 7, 1, 0] rfl ?_
      exact h
    refine g_icmp_eq (tgt := 50) (pc' := 39) rg7 (rg_lit rfl) Iff.rfl dX12_way_36 rfl rfl (fun c9 => ?_) (fun c9 => ?_)
    · exact hk14g (Or.inl c9)
    · refine g_iload (pc' := 41) 6 dX12_way_39 rfl rfl ?_
      refine g_iload_n (pc' := 42) 3 dX12_way_41 rfl rfl ?_
      refine g_iload (pc' := 44) 0 dX12_way_42 rfl rfl ?_
      refine g_pSI (pc' := 47) (vs := [vI p4, vI p1, vI r7]) (st := []) (val := bI (p1 ≤ p4 ∧ p4 ≤ r7)) (sp_X12_lies (le_hd hd rfl) (hob10 c9) (hob11 c9) rg7) mk_X12_lies ms_X12_lies lk_X12_106 rfl (Nat.le_of_ble_eq_true rfl) (Nat.le_of_ble_eq_true rfl) rfl dX12_way_44 rfl z2 (fun rg12 => ?_)
      refine g_if_ne (tgt := 52) (pc' := 50) rg12 (bI_eq _) dX12_way_47 rfl rfl (fun c13n => ?_) (fun c13 => ?_)
      · have c13 := Decidable.of_not_not c13n
        exact hk15g (fun q => q.elim c9 (fun q => q c13))
      · exact hk14g (Or.inr c13)
  refine g_if_eq (tgt := 20) (pc' := 12) rg1 Iff.rfl dX12_way_9 rfl rfl (fun c3 => ?_) (fun c3 => ?_)
  · exact hk16g (Or.inl c3)
  · refine g_iload (pc' := 14) 5 dX12_way_12 rfl rfl ?_
    refine g_pSI (pc' := 17) (vs := [vI p4]) (st := []) (val := bI (0 ≤ p4 ∧ p4 ≤ 119)) (sp_X12_isMinute (le_hd hd rfl) (hob4 c3)) mk_X12_isMinute ms_X12_isMinute lk_X12_164 rfl (Nat.le_of_ble_eq_true rfl) (Nat.le_of_ble_eq_true rfl) rfl dX12_way_14 rfl z2 (fun rg5 => ?_)
    refine g_if_ne (tgt := 22) (pc' := 20) rg5 (bI_eq _) dX12_way_17 rfl rfl (fun c6n => ?_) (fun c6 => ?_)
    · have c6 := Decidable.of_not_not c6n
      exact hk17g (fun q => q.elim c3 (fun q => q c6))
    · exact hk16g (Or.inr c6)
theorem e_X12_way {w : Wd} {d : Nat} {P : Int → IM → LM → Prop} {i : IM} {l : LM} {p0 : Int} {p1 : Int} {p2 : Int} {p3 : Int} {p4 : Int}  (h : gI w d X_X12_way P i l 0 [(0, vR (some 99)), (1, vI p0), (2, vI p1), (3, vI p2), (4, vI p3), (5, vI p4)] []) : cI w (d + 1) X_X12_way [vR (some 99), vI p0, vI p1, vI p2, vI p3, vI p4] i l P := CI_of (by decide +kernel) (Nat.le_of_ble_eq_true rfl) h
set_option maxRecDepth 20000 in
theorem s_X12_way_56 {w : Wd} {d : Nat} {P : Int → IM → LM → Prop} {i : IM} {l : LM} (x2 : Int) (x3 : Int) (x4 : Int) (x5 : Int) (x6 : Int) (x7 : Int)  (h : ((rg x7) ∧ (rg x2) ∧ ((x7 < x2) → gI w d X_X12_way P i l 220 [(0, vR (some 99)), (5, vI x5), (7, vI x3), (8, vI (x2 + 1))] []) ∧ ((¬ (x7 < x2)) → gI w d X_X12_way P i l 65 [(0, vR (some 99)), (2, vI x2), (3, vI x3), (4, vI x4), (5, vI x5), (6, vI x6), (7, vI x7), (8, vI 0)] []))) : gI w d X_X12_way P i l 56 [(0, vR (some 99)), (2, vI x2), (3, vI x3), (4, vI x4), (5, vI x5), (6, vI x6), (7, vI x7)] [] := by
  refine g_iload (pc' := 58) 6 dX12_way_56 rfl rfl ?_
  refine g_iload_n (pc' := 59) 1 dX12_way_58 rfl rfl ?_
  obtain ⟨hob19, hob20, hk22, hk23⟩ := h
  refine g_icmp_lt (tgt := 212) (pc' := 62) (hob19) (hob20) Iff.rfl dX12_way_59 rfl rfl (fun c21 => ?_) (fun c21 => ?_)
  · have h := hk22 c21
    refine g_iload_n (pc' := 213) 2 dX12_way_212 rfl rfl ?_
    refine g_istore (pc' := 215) (L' := [(7, vI x3), (0, vR (some 99)), (2, vI x2), (3, vI x3), (4, vI x4), (5, vI x5), (6, vI x6)]) dX12_way_213 rfl (Nat.le_of_ble_eq_true rfl) rfl ?_
    refine g_iload_n (pc' := 216) 2 dX12_way_215 rfl rfl ?_
    refine g_iconst (pc' := 217) dX12_way_216 rfl ?_
    refine g_iadd (pc' := 218) dX12_way_217 rfl ?_
    refine g_istore (pc' := 220) (L' := [(8, vI (x2 + 1)), (7, vI x3), (0, vR (some 99)), (2, vI x2), (3, vI x3), (4, vI x4), (5, vI x5), (6, vI x6)]) dX12_way_218 rfl (Nat.le_of_ble_eq_true rfl) rfl ?_
    refine g_sub (L' := [(0, vR (some 99)), (5, vI x5), (7, vI x3), (8, vI (x2 + 1))]) [2, 6, 1, 0] rfl ?_
    exact h
  · have h := hk23 c21
    refine g_iconst (pc' := 63) dX12_way_62 rfl ?_
    refine g_istore (pc' := 65) (L' := [(8, vI 0), (0, vR (some 99)), (2, vI x2), (3, vI x3), (4, vI x4), (5, vI x5), (6, vI x6), (7, vI x7)]) dX12_way_63 rfl (Nat.le_of_ble_eq_true rfl) rfl ?_
    refine g_sub (L' := [(0, vR (some 99)), (2, vI x2), (3, vI x3), (4, vI x4), (5, vI x5), (6, vI x6), (7, vI x7), (8, vI 0)]) [1, 2, 3, 4, 5, 6, 7, 0] rfl ?_
    exact h
set_option maxRecDepth 20000 in
theorem s_X12_way_220 {w : Wd} {d : Nat} {P : Int → IM → LM → Prop} {i : IM} {l : LM} (x5 : Int) (x7 : Int) (x8 : Int)  (h : ((rg x8) ∧ (rg x5) ∧ ((x5 < x8) → ((rg x7) ∧ P x7 i l)) ∧ ((¬ (x5 < x8)) → gI w d X_X12_way P i l 230 [(0, vR (some 99)), (5, vI x5), (7, vI x7), (8, vI x8), (9, vI 0)] []))) : gI w d X_X12_way P i l 220 [(0, vR (some 99)), (5, vI x5), (7, vI x7), (8, vI x8)] [] := by
  refine g_iload (pc' := 222) 3 dX12_way_220 rfl rfl ?_
  refine g_iload (pc' := 224) 1 dX12_way_222 rfl rfl ?_
  obtain ⟨hob25, hob26, hk29, hk30⟩ := h
  refine g_icmp_gt (tgt := 273) (pc' := 227) (hob25) (hob26) Iff.rfl dX12_way_224 rfl rfl (fun c27 => ?_) (fun c27 => ?_)
  · have h := hk29 c27
    obtain ⟨ob28, h⟩ := h
    refine g_iload (pc' := 275) 2 dX12_way_273 rfl rfl ?_
    exact g_retI rfl ob28 dX12_way_275 h
  · have h := hk30 c27
    refine g_iconst (pc' := 228) dX12_way_227 rfl ?_
    refine g_istore (pc' := 230) (L' := [(9, vI 0), (0, vR (some 99)), (5, vI x5), (7, vI x7), (8, vI x8)]) dX12_way_228 rfl (Nat.le_of_ble_eq_true rfl) rfl ?_
    refine g_sub (L' := [(0, vR (some 99)), (5, vI x5), (7, vI x7), (8, vI x8), (9, vI 0)]) [1, 2, 3, 4, 0] rfl ?_
    exact h
set_option maxRecDepth 20000 in
theorem s_X12_way_65 {w : Wd} {d : Nat} {P : Int → IM → LM → Prop} {i : IM} {l : LM} (x2 : Int) (x3 : Int) (x4 : Int) (x5 : Int) (x6 : Int) (x7 : Int) (x8 : Int)  (h : ((rg x8) ∧ (¬ (10 ≤ x8) → rg x7) ∧ (¬ (10 ≤ x8) → rg x6) ∧ ((10 ≤ x8) → gI w d X_X12_way P i l 56 [(0, vR (some 99)), (2, vI x2), (3, vI x3), (4, vI x4), (5, vI x5), (6, vI x6), (7, vI (x7 + (-1)))] []) ∧ ((¬ (10 ≤ x8) ∧ (¬ (x7 = x6))) → gI w d X_X12_way P i l 100 [(0, vR (some 99)), (2, vI x2), (3, vI x3), (4, vI x4), (5, vI x5), (6, vI x6), (7, vI x7), (8, vI x8), (9, vI 0), (10, vI 0)] []) ∧ ((¬ (10 ≤ x8) ∧ (x7 = x6)) → ((rg x8) ∧ (rg x4) ∧ gI w d X_X12_way P i l 100 [(0, vR (some 99)), (2, vI x2), (3, vI x3), (4, vI x4), (5, vI x5), (6, vI x6), (7, vI x7), (8, vI x8), (9, vI (bI (x8 = x4))), (10, vI 0)] [])))) : gI w d X_X12_way P i l 65 [(0, vR (some 99)), (2, vI x2), (3, vI x3), (4, vI x4), (5, vI x5), (6, vI x6), (7, vI x7), (8, vI x8)] [] := by
  refine g_iload (pc' := 67) 7 dX12_way_65 rfl rfl ?_
  refine g_bipush (pc' := 69) dX12_way_67 rfl rfl ?_
  obtain ⟨hob53, hob55, hob56, hk62, hk63, hk64⟩ := h
  have hk62g : (10 ≤ x8) → gI w d X_X12_way P i l 206 [(0, vR (some 99)), (2, vI x2), (3, vI x3), (4, vI x4), (5, vI x5), (6, vI x6), (7, vI x7), (8, vI x8)] [] := by
    intro hp
    have h := hk62 hp
    refine g_iinc (pc' := 209) (L' := [(7, vI (x7 + (-1))), (0, vR (some 99)), (2, vI x2), (3, vI x3), (4, vI x4), (5, vI x5), (6, vI x6), (8, vI x8)]) 6 dX12_way_206 rfl (Nat.le_of_ble_eq_true rfl) rfl rfl ?_
    refine g_goto (tgt := 56) dX12_way_209 rfl ?_
    refine g_sub (L' := [(0, vR (some 99)), (2, vI x2), (3, vI x3), (4, vI x4), (5, vI x5), (6, vI x6), (7, vI (x7 + (-1)))]) [1, 2, 3, 4, 5, 6, 0] rfl ?_
    exact h
  have hk63g : (¬ (10 ≤ x8) ∧ (¬ (x7 = x6))) → gI w d X_X12_way P i l 95 [(0, vR (some 99)), (2, vI x2), (3, vI x3), (4, vI x4), (5, vI x5), (6, vI x6), (7, vI x7), (8, vI x8)] [vI 0] := by
    intro hp
    have h := hk63 hp
    refine g_istore (pc' := 97) (L' := [(9, vI 0), (0, vR (some 99)), (2, vI x2), (3, vI x3), (4, vI x4), (5, vI x5), (6, vI x6), (7, vI x7), (8, vI x8)]) dX12_way_95 rfl (Nat.le_of_ble_eq_true rfl) rfl ?_
    refine g_iconst (pc' := 98) dX12_way_97 rfl ?_
    refine g_istore (pc' := 100) (L' := [(10, vI 0), (9, vI 0), (0, vR (some 99)), (2, vI x2), (3, vI x3), (4, vI x4), (5, vI x5), (6, vI x6), (7, vI x7), (8, vI x8)]) dX12_way_98 rfl (Nat.le_of_ble_eq_true rfl) rfl ?_
    refine g_sub (L' := [(0, vR (some 99)), (2, vI x2), (3, vI x3), (4, vI x4), (5, vI x5), (6, vI x6), (7, vI x7), (8, vI x8), (9, vI 0), (10, vI 0)]) [2, 3, 4, 5, 6, 7, 8, 9, 1, 0] rfl ?_
    exact h
  have hk64g : (¬ (10 ≤ x8) ∧ (x7 = x6)) → gI w d X_X12_way P i l 79 [(0, vR (some 99)), (2, vI x2), (3, vI x3), (4, vI x4), (5, vI x5), (6, vI x6), (7, vI x7), (8, vI x8)] [] := by
    intro hp
    have h := hk64 hp
    refine g_iload (pc' := 81) 7 dX12_way_79 rfl rfl ?_
    refine g_iload (pc' := 83) 3 dX12_way_81 rfl rfl ?_
    obtain ⟨hob59, hob60, h⟩ := h
    have hJ : gI w d X_X12_way P i l 95 [(0, vR (some 99)), (2, vI x2), (3, vI x3), (4, vI x4), (5, vI x5), (6, vI x6), (7, vI x7), (8, vI x8)] [vI (bI (x8 = x4))] := by
      refine g_istore (pc' := 97) (L' := [(9, vI (bI (x8 = x4))), (0, vR (some 99)), (2, vI x2), (3, vI x3), (4, vI x4), (5, vI x5), (6, vI x6), (7, vI x7), (8, vI x8)]) dX12_way_95 rfl (Nat.le_of_ble_eq_true rfl) rfl ?_
      refine g_iconst (pc' := 98) dX12_way_97 rfl ?_
      refine g_istore (pc' := 100) (L' := [(10, vI 0), (9, vI (bI (x8 = x4))), (0, vR (some 99)), (2, vI x2), (3, vI x3), (4, vI x4), (5, vI x5), (6, vI x6), (7, vI x7), (8, vI x8)]) dX12_way_98 rfl (Nat.le_of_ble_eq_true rfl) rfl ?_
      refine g_sub (L' := [(0, vR (some 99)), (2, vI x2), (3, vI x3), (4, vI x4), (5, vI x5), (6, vI x6), (7, vI x7), (8, vI x8), (9, vI (bI (x8 = x4))), (10, vI 0)]) [2, 3, 4, 5, 6, 7, 8, 9, 1, 0] rfl ?_
      exact h
    refine g_icmp_ne (tgt := 90) (pc' := 86) (hob59) (hob60) Iff.rfl dX12_way_83 rfl rfl (fun c61 => ?_) (fun c61 => ?_)
    · refine g_iconst (pc' := 91) dX12_way_90 rfl ?_
      refine g_goto (tgt := 95) dX12_way_91 rfl ?_
      rw [bI_f (p := (x8 = x4)) c61] at hJ
      exact hJ
    · refine g_iconst (pc' := 87) dX12_way_86 rfl ?_
      refine g_goto (tgt := 95) dX12_way_87 rfl ?_
      rw [bI_t (p := (x8 = x4)) c61] at hJ
      exact hJ
  refine g_icmp_ge (tgt := 206) (pc' := 72) (hob53) (rg_lit rfl) Iff.rfl dX12_way_69 rfl rfl (fun c54 => ?_) (fun c54 => ?_)
  · exact hk62g c54
  · refine g_iload (pc' := 74) 6 dX12_way_72 rfl rfl ?_
    refine g_iload (pc' := 76) 5 dX12_way_74 rfl rfl ?_
    refine g_icmp_ne (tgt := 94) (pc' := 79) (hob55 c54) (hob56 c54) Iff.rfl dX12_way_76 rfl rfl (fun c57 => ?_) (fun c57 => ?_)
    · refine g_iconst (pc' := 95) dX12_way_94 rfl ?_
      exact hk63g ⟨c54, c57⟩
    · exact hk64g ⟨c54, c57⟩
set_option maxRecDepth 20000 in
theorem s_X12_way_230 {w : Wd} {d : Nat} {P : Int → IM → LM → Prop} {i : IM} {l : LM} (x5 : Int) (x7 : Int) (x8 : Int) (x9 : Int)  (hd : 2 ≤ d) (h : ((rg x7) ∧ (rg x9) ∧ (0 ≤ x7 ∧ x7 < 10) ∧ (((mStep i x7 x9 = true) → 0 ≤ (10 * x8) + x9 ∧ (10 * x8) + x9 < 1200) ∧ (((mStep i x7 x9 = true) ∧ (¬ (i 121 ((10 * x8) + x9) = 0))) → gI w d X_X12_way P i l 220 [(0, vR (some 99)), (5, vI x5), (7, vI x9), (8, vI (x8 + 1))] []) ∧ ((¬ ((mStep i x7 x9 = true) ∧ (¬ (i 121 ((10 * x8) + x9) = 0)))) → gI w d X_X12_way P i l 230 [(0, vR (some 99)), (5, vI x5), (7, vI x7), (8, vI x8), (9, vI (x9 + 1))] [])))) : gI w d X_X12_way P i l 230 [(0, vR (some 99)), (5, vI x5), (7, vI x7), (8, vI x8), (9, vI x9)] [] := by
  obtain ⟨ob65, ob66, ob67, h⟩ := h
  refine g_aload_n (pc' := 231) 0 dX12_way_230 rfl rfl ?_
  refine g_iload (pc' := 233) 2 dX12_way_231 rfl rfl ?_
  refine g_iload (pc' := 235) 4 dX12_way_233 rfl rfl ?_
  refine g_pVI (pc' := 238) (vs := [vI x7, vI x9]) (st := []) (val := bI (mStep i x7 x9 = true)) (c := 12) (sp_X12_isStep (le_hd hd rfl) ob65 ob66 ob67) mv_X12_isStep lk_X12_395 rfl rfl rfl rfl (Nat.le_of_ble_eq_true rfl) (Nat.le_of_ble_eq_true rfl) rfl dX12_way_235 rfl z2 (fun rg68 => ?_)
  obtain ⟨hob71, hk74, hk75⟩ := h
  have hk74g : ((mStep i x7 x9 = true) ∧ (¬ (i 121 ((10 * x8) + x9) = 0))) → gI w d X_X12_way P i l 263 [(0, vR (some 99)), (5, vI x5), (7, vI x7), (8, vI x8), (9, vI x9)] [] := by
    intro hp
    have h := hk74 hp
    refine g_iload (pc' := 265) 4 dX12_way_263 rfl rfl ?_
    refine g_istore (pc' := 267) (L' := [(7, vI x9), (0, vR (some 99)), (5, vI x5), (8, vI x8), (9, vI x9)]) dX12_way_265 rfl (Nat.le_of_ble_eq_true rfl) rfl ?_
    refine g_iinc (pc' := 270) (L' := [(8, vI (x8 + 1)), (7, vI x9), (0, vR (some 99)), (5, vI x5), (9, vI x9)]) 3 dX12_way_267 rfl (Nat.le_of_ble_eq_true rfl) rfl rfl ?_
    refine g_goto (tgt := 220) dX12_way_270 rfl ?_
    refine g_sub (L' := [(0, vR (some 99)), (5, vI x5), (7, vI x9), (8, vI (x8 + 1))]) [2, 3, 1, 0] rfl ?_
    exact h
  have hk75g : (¬ ((mStep i x7 x9 = true) ∧ (¬ (i 121 ((10 * x8) + x9) = 0)))) → gI w d X_X12_way P i l 257 [(0, vR (some 99)), (5, vI x5), (7, vI x7), (8, vI x8), (9, vI x9)] [] := by
    intro hp
    have h := hk75 hp
    refine g_iinc (pc' := 260) (L' := [(9, vI (x9 + 1)), (0, vR (some 99)), (5, vI x5), (7, vI x7), (8, vI x8)]) 4 dX12_way_257 rfl (Nat.le_of_ble_eq_true rfl) rfl rfl ?_
    refine g_goto (tgt := 230) dX12_way_260 rfl ?_
    refine g_sub (L' := [(0, vR (some 99)), (5, vI x5), (7, vI x7), (8, vI x8), (9, vI (x9 + 1))]) [1, 2, 3, 4, 0] rfl ?_
    exact h
  refine g_if_eq (tgt := 257) (pc' := 241) rg68 (bI_eq _) dX12_way_238 rfl rfl (fun c70 => ?_) (fun c70n => ?_)
  · exact hk75g (fun q => c70 q.1)
  · have c70 := Decidable.of_not_not c70n
    refine g_aload_n (pc' := 242) 0 dX12_way_241 rfl rfl ?_
    refine g_getR (pc' := 245) (o := some 121) fl_X12_91 rfl rfl rfl dX12_way_242 rfl ?_
    refine g_bipush (pc' := 247) dX12_way_245 rfl rfl ?_
    refine g_iload (pc' := 249) 3 dX12_way_247 rfl rfl ?_
    refine g_imul (pc' := 250) dX12_way_249 rfl ?_
    refine g_iload (pc' := 252) 4 dX12_way_250 rfl rfl ?_
    refine g_iadd (pc' := 253) dX12_way_252 rfl ?_
    refine g_zald (pc' := 254) (N := 1200) rfl rfl (Nat.lt_of_lt_of_le (Nat.lt_succ_self _) (Nat.le_of_ble_eq_true rfl)) (hob71 c70) dX12_way_253 rfl (fun rg72 => ?_)
    refine g_if_ne (tgt := 263) (pc' := 257) rg72 Iff.rfl dX12_way_254 rfl rfl (fun c73 => ?_) (fun c73 => ?_)
    · exact hk74g ⟨c70, c73⟩
    · exact hk75g (fun q => (fun q => q c73) q.2)
set_option maxRecDepth 20000 in
theorem s_X12_way_100 {w : Wd} {d : Nat} {P : Int → IM → LM → Prop} {i : IM} {l : LM} (x2 : Int) (x3 : Int) (x4 : Int) (x5 : Int) (x6 : Int) (x7 : Int) (x8 : Int) (x9 : Int) (x10 : Int)  (hd : 2 ≤ d) (h : ((rg x10) ∧ (¬ (10 ≤ x10) → rg x7) ∧ (¬ (10 ≤ x10) → rg x6) ∧ (¬ (10 ≤ x10) → ¬ (x6 ≤ x7) → rg x9) ∧ (((10 ≤ x10) ∨ (x6 ≤ x7)) → gI w d X_X12_way P i l 161 [(0, vR (some 99)), (2, vI x2), (3, vI x3), (4, vI x4), (5, vI x5), (6, vI x6), (7, vI x7), (8, vI x8), (9, vI x9)] []) ∧ ((¬ (10 ≤ x10) ∧ (¬ (x6 ≤ x7) ∧ (¬ (x9 = 0)))) → gI w d X_X12_way P i l 100 [(0, vR (some 99)), (2, vI x2), (3, vI x3), (4, vI x4), (5, vI x5), (6, vI x6), (7, vI x7), (8, vI x8), (9, vI 1), (10, vI (x10 + 1))] []) ∧ ((¬ (10 ≤ x10) ∧ (¬ (x6 ≤ x7) ∧ (x9 = 0))) → ((0 ≤ (10 * (x7 + 1)) + x10 ∧ (10 * (x7 + 1)) + x10 < 1200) ∧ ((¬ (i 121 ((10 * (x7 + 1)) + x10) = 0) → rg x8) ∧ (¬ (i 121 ((10 * (x7 + 1)) + x10) = 0) → rg x10) ∧ (¬ (i 121 ((10 * (x7 + 1)) + x10) = 0) → 0 ≤ x8 ∧ x8 < 10) ∧ gI w d X_X12_way P i l 100 [(0, vR (some 99)), (2, vI x2), (3, vI x3), (4, vI x4), (5, vI x5), (6, vI x6), (7, vI x7), (8, vI x8), (9, vI (bI (¬ (i 121 ((10 * (x7 + 1)) + x10) = 0) ∧ (mStep i x8 x10 = true)))), (10, vI (x10 + 1))] []))))) : gI w d X_X12_way P i l 100 [(0, vR (some 99)), (2, vI x2), (3, vI x3), (4, vI x4), (5, vI x5), (6, vI x6), (7, vI x7), (8, vI x8), (9, vI x9), (10, vI x10)] [] := by
  refine g_iload (pc' := 102) 9 dX12_way_100 rfl rfl ?_
  refine g_bipush (pc' := 104) dX12_way_102 rfl rfl ?_
  obtain ⟨hob104, hob106, hob107, hob109, hk122, hk123, hk124⟩ := h
  have hk122g : ((10 ≤ x10) ∨ (x6 ≤ x7)) → gI w d X_X12_way P i l 161 [(0, vR (some 99)), (2, vI x2), (3, vI x3), (4, vI x4), (5, vI x5), (6, vI x6), (7, vI x7), (8, vI x8), (9, vI x9), (10, vI x10)] [] := by
    intro hp
    have h := hk122 hp
    refine g_sub (L' := [(0, vR (some 99)), (2, vI x2), (3, vI x3), (4, vI x4), (5, vI x5), (6, vI x6), (7, vI x7), (8, vI x8), (9, vI x9)]) [0, 1, 2, 3, 4, 5, 6, 7, 8] rfl ?_
    exact h
  have hk123g : (¬ (10 ≤ x10) ∧ (¬ (x6 ≤ x7) ∧ (¬ (x9 = 0)))) → gI w d X_X12_way P i l 153 [(0, vR (some 99)), (2, vI x2), (3, vI x3), (4, vI x4), (5, vI x5), (6, vI x6), (7, vI x7), (8, vI x8), (9, vI x9), (10, vI x10)] [vI 1] := by
    intro hp
    have h := hk123 hp
    refine g_istore (pc' := 155) (L' := [(9, vI 1), (0, vR (some 99)), (2, vI x2), (3, vI x3), (4, vI x4), (5, vI x5), (6, vI x6), (7, vI x7), (8, vI x8), (10, vI x10)]) dX12_way_153 rfl (Nat.le_of_ble_eq_true rfl) rfl ?_
    refine g_iinc (pc' := 158) (L' := [(10, vI (x10 + 1)), (9, vI 1), (0, vR (some 99)), (2, vI x2), (3, vI x3), (4, vI x4), (5, vI x5), (6, vI x6), (7, vI x7), (8, vI x8)]) 9 dX12_way_155 rfl (Nat.le_of_ble_eq_true rfl) rfl rfl ?_
    refine g_goto (tgt := 100) dX12_way_158 rfl ?_
    refine g_sub (L' := [(0, vR (some 99)), (2, vI x2), (3, vI x3), (4, vI x4), (5, vI x5), (6, vI x6), (7, vI x7), (8, vI x8), (9, vI 1), (10, vI (x10 + 1))]) [2, 3, 4, 5, 6, 7, 8, 9, 1, 0] rfl ?_
    exact h
  have hk124g : (¬ (10 ≤ x10) ∧ (¬ (x6 ≤ x7) ∧ (x9 = 0))) → gI w d X_X12_way P i l 119 [(0, vR (some 99)), (2, vI x2), (3, vI x3), (4, vI x4), (5, vI x5), (6, vI x6), (7, vI x7), (8, vI x8), (9, vI x9), (10, vI x10)] [] := by
    intro hp
    have h := hk124 hp
    obtain ⟨ob113, h⟩ := h
    refine g_aload_n (pc' := 120) 0 dX12_way_119 rfl rfl ?_
    refine g_getR (pc' := 123) (o := some 121) fl_X12_91 rfl rfl rfl dX12_way_120 rfl ?_
    refine g_bipush (pc' := 125) dX12_way_123 rfl rfl ?_
    refine g_iload (pc' := 127) 6 dX12_way_125 rfl rfl ?_
    refine g_iconst (pc' := 128) dX12_way_127 rfl ?_
    refine g_iadd (pc' := 129) dX12_way_128 rfl ?_
    refine g_imul (pc' := 130) dX12_way_129 rfl ?_
    refine g_iload (pc' := 132) 9 dX12_way_130 rfl rfl ?_
    refine g_iadd (pc' := 133) dX12_way_132 rfl ?_
    refine g_zald (pc' := 134) (N := 1200) rfl rfl (Nat.lt_of_lt_of_le (Nat.lt_succ_self _) (Nat.le_of_ble_eq_true rfl)) ob113 dX12_way_133 rfl (fun rg114 => ?_)
    obtain ⟨hob117, hob118, hob119, h⟩ := h
    have hJ : gI w d X_X12_way P i l 153 [(0, vR (some 99)), (2, vI x2), (3, vI x3), (4, vI x4), (5, vI x5), (6, vI x6), (7, vI x7), (8, vI x8), (9, vI x9), (10, vI x10)] [vI (bI (¬ (i 121 ((10 * (x7 + 1)) + x10) = 0) ∧ (mStep i x8 x10 = true)))] := by
      refine g_istore (pc' := 155) (L' := [(9, vI (bI (¬ (i 121 ((10 * (x7 + 1)) + x10) = 0) ∧ (mStep i x8 x10 = true)))), (0, vR (some 99)), (2, vI x2), (3, vI x3), (4, vI x4), (5, vI x5), (6, vI x6), (7, vI x7), (8, vI x8), (10, vI x10)]) dX12_way_153 rfl (Nat.le_of_ble_eq_true rfl) rfl ?_
      refine g_iinc (pc' := 158) (L' := [(10, vI (x10 + 1)), (9, vI (bI (¬ (i 121 ((10 * (x7 + 1)) + x10) = 0) ∧ (mStep i x8 x10 = true)))), (0, vR (some 99)), (2, vI x2), (3, vI x3), (4, vI x4), (5, vI x5), (6, vI x6), (7, vI x7), (8, vI x8)]) 9 dX12_way_155 rfl (Nat.le_of_ble_eq_true rfl) rfl rfl ?_
      refine g_goto (tgt := 100) dX12_way_158 rfl ?_
      refine g_sub (L' := [(0, vR (some 99)), (2, vI x2), (3, vI x3), (4, vI x4), (5, vI x5), (6, vI x6), (7, vI x7), (8, vI x8), (9, vI (bI (¬ (i 121 ((10 * (x7 + 1)) + x10) = 0) ∧ (mStep i x8 x10 = true)))), (10, vI (x10 + 1))]) [2, 3, 4, 5, 6, 7, 8, 9, 1, 0] rfl ?_
      exact h
    refine g_if_eq (tgt := 152) (pc' := 137) rg114 Iff.rfl dX12_way_134 rfl rfl (fun c116 => ?_) (fun c116 => ?_)
    · refine g_iconst (pc' := 153) dX12_way_152 rfl ?_
      rw [bI_f (p := (¬ (i 121 ((10 * (x7 + 1)) + x10) = 0) ∧ (mStep i x8 x10 = true))) (fun q => q.1 c116)] at hJ
      exact hJ
    · refine g_aload_n (pc' := 138) 0 dX12_way_137 rfl rfl ?_
      refine g_iload (pc' := 140) 7 dX12_way_138 rfl rfl ?_
      refine g_iload (pc' := 142) 9 dX12_way_140 rfl rfl ?_
      refine g_pVI (pc' := 145) (vs := [vI x8, vI x10]) (st := []) (val := bI (mStep i x8 x10 = true)) (c := 12) (sp_X12_isStep (le_hd hd rfl) (hob117 c116) (hob118 c116) (hob119 c116)) mv_X12_isStep lk_X12_395 rfl rfl rfl rfl (Nat.le_of_ble_eq_true rfl) (Nat.le_of_ble_eq_true rfl) rfl dX12_way_142 rfl z2 (fun rg120 => ?_)
      refine g_if_eq (tgt := 152) (pc' := 148) rg120 (bI_eq _) dX12_way_145 rfl rfl (fun c121 => ?_) (fun c121n => ?_)
      · refine g_iconst (pc' := 153) dX12_way_152 rfl ?_
        rw [bI_f (p := (¬ (i 121 ((10 * (x7 + 1)) + x10) = 0) ∧ (mStep i x8 x10 = true))) (fun q => c121 q.2)] at hJ
        exact hJ
      · have c121 := Decidable.of_not_not c121n
        refine g_iconst (pc' := 149) dX12_way_148 rfl ?_
        refine g_goto (tgt := 153) dX12_way_149 rfl ?_
        rw [bI_t (p := (¬ (i 121 ((10 * (x7 + 1)) + x10) = 0) ∧ (mStep i x8 x10 = true))) ⟨c116, c121⟩] at hJ
        exact hJ
  refine g_icmp_ge (tgt := 161) (pc' := 107) (hob104) (rg_lit rfl) Iff.rfl dX12_way_104 rfl rfl (fun c105 => ?_) (fun c105 => ?_)
  · exact hk122g (Or.inl c105)
  · refine g_iload (pc' := 109) 6 dX12_way_107 rfl rfl ?_
    refine g_iload (pc' := 111) 5 dX12_way_109 rfl rfl ?_
    refine g_icmp_ge (tgt := 161) (pc' := 114) (hob106 c105) (hob107 c105) Iff.rfl dX12_way_111 rfl rfl (fun c108 => ?_) (fun c108 => ?_)
    · exact hk122g (Or.inr c108)
    · refine g_iload (pc' := 116) 8 dX12_way_114 rfl rfl ?_
      refine g_if_ne (tgt := 148) (pc' := 119) (hob109 c105 c108) Iff.rfl dX12_way_116 rfl rfl (fun c110 => ?_) (fun c110 => ?_)
      · refine g_iconst (pc' := 149) dX12_way_148 rfl ?_
        refine g_goto (tgt := 153) dX12_way_149 rfl ?_
        exact hk123g ⟨c105, ⟨c108, c110⟩⟩
      · exact hk124g ⟨c105, ⟨c108, c110⟩⟩
set_option maxRecDepth 20000 in
theorem s_X12_way_161 {w : Wd} {d : Nat} {P : Int → IM → LM → Prop} {i : IM} {l : LM} (x2 : Int) (x3 : Int) (x4 : Int) (x5 : Int) (x6 : Int) (x7 : Int) (x8 : Int) (x9 : Int)  (h : ((rg x9) ∧ (¬ (x9 = 0) → 0 ≤ (10 * x7) + x8 ∧ (10 * x7) + x8 < 1200) ∧ ((0 ≤ (10 * x7) + x8 ∧ (10 * x7) + x8 < 1200) ∧ gI w d X_X12_way P (u2 i 121 ((10 * x7) + x8) (bI (¬ (x9 = 0) ∧ (¬ (i 120 ((10 * x7) + x8) = 0))))) l 65 [(0, vR (some 99)), (2, vI x2), (3, vI x3), (4, vI x4), (5, vI x5), (6, vI x6), (7, vI x7), (8, vI (x8 + 1))] []))) : gI w d X_X12_way P i l 161 [(0, vR (some 99)), (2, vI x2), (3, vI x3), (4, vI x4), (5, vI x5), (6, vI x6), (7, vI x7), (8, vI x8), (9, vI x9)] [] := by
  refine g_aload_n (pc' := 162) 0 dX12_way_161 rfl rfl ?_
  refine g_getR (pc' := 165) (o := some 121) fl_X12_91 rfl rfl rfl dX12_way_162 rfl ?_
  refine g_bipush (pc' := 167) dX12_way_165 rfl rfl ?_
  refine g_iload (pc' := 169) 6 dX12_way_167 rfl rfl ?_
  refine g_imul (pc' := 170) dX12_way_169 rfl ?_
  refine g_iload (pc' := 172) 7 dX12_way_170 rfl rfl ?_
  refine g_iadd (pc' := 173) dX12_way_172 rfl ?_
  refine g_iload (pc' := 175) 8 dX12_way_173 rfl rfl ?_
  obtain ⟨hob126, hob128, h⟩ := h
  have hJ : gI w d X_X12_way P i l 199 [(0, vR (some 99)), (2, vI x2), (3, vI x3), (4, vI x4), (5, vI x5), (6, vI x6), (7, vI x7), (8, vI x8), (9, vI x9)] [vI (bI (¬ (x9 = 0) ∧ (¬ (i 120 ((10 * x7) + x8) = 0)))), vI ((10 * x7) + x8), vR (some 121)] := by
    obtain ⟨ob131, h⟩ := h
    refine g_zast (pc' := 200) (N := 1200) rfl rfl (Nat.lt_of_lt_of_le (Nat.lt_succ_self _) (Nat.le_of_ble_eq_true rfl)) ob131 (bI_01 _) dX12_way_199 rfl ?_
    refine g_iinc (pc' := 203) (L' := [(8, vI (x8 + 1)), (0, vR (some 99)), (2, vI x2), (3, vI x3), (4, vI x4), (5, vI x5), (6, vI x6), (7, vI x7), (9, vI x9)]) 7 dX12_way_200 rfl (Nat.le_of_ble_eq_true rfl) rfl rfl ?_
    refine g_goto (tgt := 65) dX12_way_203 rfl ?_
    refine g_sub (L' := [(0, vR (some 99)), (2, vI x2), (3, vI x3), (4, vI x4), (5, vI x5), (6, vI x6), (7, vI x7), (8, vI (x8 + 1))]) [1, 2, 3, 4, 5, 6, 7, 0] rfl ?_
    exact h
  refine g_if_eq (tgt := 198) (pc' := 178) (hob126) Iff.rfl dX12_way_175 rfl rfl (fun c127 => ?_) (fun c127 => ?_)
  · refine g_iconst (pc' := 199) dX12_way_198 rfl ?_
    rw [bI_f (p := (¬ (x9 = 0) ∧ (¬ (i 120 ((10 * x7) + x8) = 0)))) (fun q => q.1 c127)] at hJ
    exact hJ
  · refine g_aload_n (pc' := 179) 0 dX12_way_178 rfl rfl ?_
    refine g_getR (pc' := 182) (o := some 120) fl_X12_88 rfl rfl rfl dX12_way_179 rfl ?_
    refine g_bipush (pc' := 184) dX12_way_182 rfl rfl ?_
    refine g_iload (pc' := 186) 6 dX12_way_184 rfl rfl ?_
    refine g_imul (pc' := 187) dX12_way_186 rfl ?_
    refine g_iload (pc' := 189) 7 dX12_way_187 rfl rfl ?_
    refine g_iadd (pc' := 190) dX12_way_189 rfl ?_
    refine g_zald (pc' := 191) (N := 1200) rfl rfl (Nat.lt_of_lt_of_le (Nat.lt_succ_self _) (Nat.le_of_ble_eq_true rfl)) (hob128 c127) dX12_way_190 rfl (fun rg129 => ?_)
    refine g_if_eq (tgt := 198) (pc' := 194) rg129 Iff.rfl dX12_way_191 rfl rfl (fun c130 => ?_) (fun c130 => ?_)
    · refine g_iconst (pc' := 199) dX12_way_198 rfl ?_
      rw [bI_f (p := (¬ (x9 = 0) ∧ (¬ (i 120 ((10 * x7) + x8) = 0)))) (fun q => (fun q => q c130) q.2)] at hJ
      exact hJ
    · refine g_iconst (pc' := 195) dX12_way_194 rfl ?_
      refine g_goto (tgt := 199) dX12_way_195 rfl ?_
      rw [bI_t (p := (¬ (x9 = 0) ∧ (¬ (i 120 ((10 * x7) + x8) = 0)))) ⟨c127, c130⟩] at hJ
      exact hJ

theorem dX12_isFile_0 : decode cX12_isFile 0 = .ok (.aload_n 0, 1) := by decide +kernel
theorem dX12_isFile_1 : decode cX12_isFile 1 = .ok (.invokevirtual 124, 3) := by decide +kernel
theorem dX12_isFile_4 : decode cX12_isFile 4 = .ok (.istore_n 3, 1) := by decide +kernel
theorem dX12_isFile_5 : decode cX12_isFile 5 = .ok (.iload_n 1, 1) := by decide +kernel
theorem dX12_isFile_6 : decode cX12_isFile 6 = .ok (.iload_n 3, 1) := by decide +kernel
theorem dX12_isFile_7 : decode cX12_isFile 7 = .ok (.invokestatic 382, 3) := by decide +kernel
theorem dX12_isFile_10 : decode cX12_isFile 10 = .ok (.istore 4, 2) := by decide +kernel
theorem dX12_isFile_12 : decode cX12_isFile 12 = .ok (.iconst 0, 1) := by decide +kernel
theorem dX12_isFile_13 : decode cX12_isFile 13 = .ok (.istore 5, 2) := by decide +kernel
theorem dX12_isFile_15 : decode cX12_isFile 15 = .ok (.iload 5, 2) := by decide +kernel
theorem dX12_isFile_17 : decode cX12_isFile 17 = .ok (.iload 4, 2) := by decide +kernel
theorem dX12_isFile_19 : decode cX12_isFile 19 = .ok (.iadd, 1) := by decide +kernel
theorem dX12_isFile_20 : decode cX12_isFile 20 = .ok (.iload_n 3, 1) := by decide +kernel
theorem dX12_isFile_21 : decode cX12_isFile 21 = .ok (.if_icmp .gt 68, 3) := by decide +kernel
theorem dX12_isFile_24 : decode cX12_isFile 24 = .ok (.iconst 0, 1) := by decide +kernel
theorem dX12_isFile_25 : decode cX12_isFile 25 = .ok (.istore 6, 2) := by decide +kernel
theorem dX12_isFile_27 : decode cX12_isFile 27 = .ok (.iconst 0, 1) := by decide +kernel
theorem dX12_isFile_28 : decode cX12_isFile 28 = .ok (.istore 7, 2) := by decide +kernel
theorem dX12_isFile_30 : decode cX12_isFile 30 = .ok (.iload 7, 2) := by decide +kernel
theorem dX12_isFile_32 : decode cX12_isFile 32 = .ok (.iload 4, 2) := by decide +kernel
theorem dX12_isFile_34 : decode cX12_isFile 34 = .ok (.if_icmp .ge 38, 3) := by decide +kernel
theorem dX12_isFile_37 : decode cX12_isFile 37 = .ok (.iload 6, 2) := by decide +kernel
theorem dX12_isFile_39 : decode cX12_isFile 39 = .ok (.iconst 1, 1) := by decide +kernel
theorem dX12_isFile_40 : decode cX12_isFile 40 = .ok (.aload_n 0, 1) := by decide +kernel
theorem dX12_isFile_41 : decode cX12_isFile 41 = .ok (.aload_n 0, 1) := by decide +kernel
theorem dX12_isFile_42 : decode cX12_isFile 42 = .ok (.getfield 20, 3) := by decide +kernel
theorem dX12_isFile_45 : decode cX12_isFile 45 = .ok (.bipush 114, 2) := by decide +kernel
theorem dX12_isFile_47 : decode cX12_isFile 47 = .ok (.aload_n 0, 1) := by decide +kernel
theorem dX12_isFile_48 : decode cX12_isFile 48 = .ok (.getfield 94, 3) := by decide +kernel
theorem dX12_isFile_51 : decode cX12_isFile 51 = .ok (.iload 5, 2) := by decide +kernel
theorem dX12_isFile_53 : decode cX12_isFile 53 = .ok (.iload 7, 2) := by decide +kernel
theorem dX12_isFile_55 : decode cX12_isFile 55 = .ok (.iadd, 1) := by decide +kernel
theorem dX12_isFile_56 : decode cX12_isFile 56 = .ok (.iaload, 1) := by decide +kernel
theorem dX12_isFile_57 : decode cX12_isFile 57 = .ok (.iadd, 1) := by decide +kernel
theorem dX12_isFile_58 : decode cX12_isFile 58 = .ok (.iaload, 1) := by decide +kernel
theorem dX12_isFile_59 : decode cX12_isFile 59 = .ok (.invokevirtual 161, 3) := by decide +kernel
theorem dX12_isFile_62 : decode cX12_isFile 62 = .ok (.ishl, 1) := by decide +kernel
theorem dX12_isFile_63 : decode cX12_isFile 63 = .ok (.ior, 1) := by decide +kernel
theorem dX12_isFile_64 : decode cX12_isFile 64 = .ok (.istore 6, 2) := by decide +kernel
theorem dX12_isFile_66 : decode cX12_isFile 66 = .ok (.iinc 7 1, 3) := by decide +kernel
theorem dX12_isFile_69 : decode cX12_isFile 69 = .ok (.goto (-39), 3) := by decide +kernel
theorem dX12_isFile_72 : decode cX12_isFile 72 = .ok (.iload 6, 2) := by decide +kernel
theorem dX12_isFile_74 : decode cX12_isFile 74 = .ok (.invokestatic 327, 3) := by decide +kernel
theorem dX12_isFile_77 : decode cX12_isFile 77 = .ok (.iload_n 2, 1) := by decide +kernel
theorem dX12_isFile_78 : decode cX12_isFile 78 = .ok (.if_icmp .le 5, 3) := by decide +kernel
theorem dX12_isFile_81 : decode cX12_isFile 81 = .ok (.iconst 0, 1) := by decide +kernel
theorem dX12_isFile_82 : decode cX12_isFile 82 = .ok (.ireturn, 1) := by decide +kernel
theorem dX12_isFile_83 : decode cX12_isFile 83 = .ok (.iinc 5 1, 3) := by decide +kernel
theorem dX12_isFile_86 : decode cX12_isFile 86 = .ok (.goto (-71), 3) := by decide +kernel
theorem dX12_isFile_89 : decode cX12_isFile 89 = .ok (.iconst 1, 1) := by decide +kernel
theorem dX12_isFile_90 : decode cX12_isFile 90 = .ok (.ireturn, 1) := by decide +kernel
set_option maxRecDepth 20000 in
theorem s_X12_isFile {w : Wd} {d : Nat} {P : Int → IM → LM → Prop} {i : IM} {l : LM} (p0 : Int) (p1 : Int)  (hd : 1 ≤ d) (h : ((rg p0) ∧ gI w d X_X12_isFile P i l 15 [(0, vR (some 99)), (2, vI p1), (3, vI (i 101 309)), (4, vI (min p0 (i 101 309))), (5, vI 0)] [])) : gI w d X_X12_isFile P i l 0 [(0, vR (some 99)), (1, vI p0), (2, vI p1)] [] := by
  obtain ⟨ob2, h⟩ := h
  refine g_aload_n (pc' := 1) 0 dX12_isFile_0 rfl rfl ?_
  refine g_pVI (pc' := 4) (vs := []) (st := []) (val := i 101 309) (c := 12) (sp_X12_people (le_hd hd rfl) ) mv_X12_people lk_X12_124 rfl rfl rfl rfl (Nat.le_of_ble_eq_true rfl) (Nat.le_of_ble_eq_true rfl) rfl dX12_isFile_1 rfl z2 (fun rg1 => ?_)
  refine g_istore_n (pc' := 5) (L' := [(3, vI (i 101 309)), (0, vR (some 99)), (1, vI p0), (2, vI p1)]) dX12_isFile_4 rfl (Nat.le_of_ble_eq_true rfl) rfl ?_
  refine g_iload_n (pc' := 6) 2 dX12_isFile_5 rfl rfl ?_
  refine g_iload_n (pc' := 7) 0 dX12_isFile_6 rfl rfl ?_
  refine g_pSI (pc' := 10) (vs := [vI p0, vI (i 101 309)]) (st := []) (val := min p0 (i 101 309)) (sp_X12_lesser (le_hd hd rfl) ob2 rg1) mk_X12_lesser ms_X12_lesser lk_X12_382 rfl (Nat.le_of_ble_eq_true rfl) (Nat.le_of_ble_eq_true rfl) rfl dX12_isFile_7 rfl z2 (fun rg3 => ?_)
  refine g_istore (pc' := 12) (L' := [(4, vI (min p0 (i 101 309))), (3, vI (i 101 309)), (0, vR (some 99)), (1, vI p0), (2, vI p1)]) dX12_isFile_10 rfl (Nat.le_of_ble_eq_true rfl) rfl ?_
  refine g_iconst (pc' := 13) dX12_isFile_12 rfl ?_
  refine g_istore (pc' := 15) (L' := [(5, vI 0), (4, vI (min p0 (i 101 309))), (3, vI (i 101 309)), (0, vR (some 99)), (1, vI p0), (2, vI p1)]) dX12_isFile_13 rfl (Nat.le_of_ble_eq_true rfl) rfl ?_
  refine g_sub (L' := [(0, vR (some 99)), (2, vI p1), (3, vI (i 101 309)), (4, vI (min p0 (i 101 309))), (5, vI 0)]) [3, 5, 2, 1, 0] rfl ?_
  exact h
theorem e_X12_isFile {w : Wd} {d : Nat} {P : Int → IM → LM → Prop} {i : IM} {l : LM} {p0 : Int} {p1 : Int}  (h : gI w d X_X12_isFile P i l 0 [(0, vR (some 99)), (1, vI p0), (2, vI p1)] []) : cI w (d + 1) X_X12_isFile [vR (some 99), vI p0, vI p1] i l P := CI_of (by decide +kernel) (Nat.le_of_ble_eq_true rfl) h
set_option maxRecDepth 20000 in
theorem s_X12_isFile_15 {w : Wd} {d : Nat} {P : Int → IM → LM → Prop} {i : IM} {l : LM} (x2 : Int) (x3 : Int) (x4 : Int) (x5 : Int)  (h : ((rg (x5 + x4)) ∧ (rg x3) ∧ ((x3 < x5 + x4) → P 1 i l) ∧ ((¬ (x3 < x5 + x4)) → gI w d X_X12_isFile P i l 30 [(0, vR (some 99)), (2, vI x2), (3, vI x3), (4, vI x4), (5, vI x5), (6, vI 0), (7, vI 0)] []))) : gI w d X_X12_isFile P i l 15 [(0, vR (some 99)), (2, vI x2), (3, vI x3), (4, vI x4), (5, vI x5)] [] := by
  refine g_iload (pc' := 17) 4 dX12_isFile_15 rfl rfl ?_
  refine g_iload (pc' := 19) 3 dX12_isFile_17 rfl rfl ?_
  refine g_iadd (pc' := 20) dX12_isFile_19 rfl ?_
  refine g_iload_n (pc' := 21) 2 dX12_isFile_20 rfl rfl ?_
  obtain ⟨hob5, hob6, hk8, hk9⟩ := h
  refine g_icmp_gt (tgt := 89) (pc' := 24) (hob5) (hob6) Iff.rfl dX12_isFile_21 rfl rfl (fun c7 => ?_) (fun c7 => ?_)
  · have h := hk8 c7
    refine g_iconst (pc' := 90) dX12_isFile_89 rfl ?_
    exact g_retZ rfl (by decide) dX12_isFile_90 h
  · have h := hk9 c7
    refine g_iconst (pc' := 25) dX12_isFile_24 rfl ?_
    refine g_istore (pc' := 27) (L' := [(6, vI 0), (0, vR (some 99)), (2, vI x2), (3, vI x3), (4, vI x4), (5, vI x5)]) dX12_isFile_25 rfl (Nat.le_of_ble_eq_true rfl) rfl ?_
    refine g_iconst (pc' := 28) dX12_isFile_27 rfl ?_
    refine g_istore (pc' := 30) (L' := [(7, vI 0), (6, vI 0), (0, vR (some 99)), (2, vI x2), (3, vI x3), (4, vI x4), (5, vI x5)]) dX12_isFile_28 rfl (Nat.le_of_ble_eq_true rfl) rfl ?_
    refine g_sub (L' := [(0, vR (some 99)), (2, vI x2), (3, vI x3), (4, vI x4), (5, vI x5), (6, vI 0), (7, vI 0)]) [2, 3, 4, 5, 6, 1, 0] rfl ?_
    exact h
set_option maxRecDepth 20000 in
theorem s_X12_isFile_30 {w : Wd} {d : Nat} {P : Int → IM → LM → Prop} {i : IM} {l : LM} (x2 : Int) (x3 : Int) (x4 : Int) (x5 : Int) (x6 : Int) (x7 : Int)  (hd : 2 ≤ d) (h : ((rg x7) ∧ (rg x4) ∧ ((x4 ≤ x7) → 0 ≤ x6 ∧ x6 < 2147483648) ∧ ((x4 ≤ x7) → rg x2) ∧ (((x4 ≤ x7) ∧ (popI x6 ≤ x2)) → gI w d X_X12_isFile P i l 15 [(0, vR (some 99)), (2, vI x2), (3, vI x3), (4, vI x4), (5, vI (x5 + 1))] []) ∧ (((x4 ≤ x7) ∧ (¬ (popI x6 ≤ x2))) → P 0 i l) ∧ ((¬ (x4 ≤ x7)) → ((0 ≤ x5 + x7 ∧ x5 + x7 < 5) ∧ (0 ≤ 114 + (i 122 (x5 + x7)) ∧ 114 + (i 122 (x5 + x7)) < 5120) ∧ (0 ≤ i 101 (114 + (i 122 (x5 + x7))) ∧ i 101 (114 + (i 122 (x5 + x7))) < 8) ∧ (sameOK i) ∧ gI w d X_X12_isFile P i l 30 [(0, vR (some 99)), (2, vI x2), (3, vI x3), (4, vI x4), (5, vI x5), (6, vI (ior x6 (ishl 1 (mLow i (i 101 (114 + (i 122 (x5 + x7)))))))), (7, vI (x7 + 1))] [])))) : gI w d X_X12_isFile P i l 30 [(0, vR (some 99)), (2, vI x2), (3, vI x3), (4, vI x4), (5, vI x5), (6, vI x6), (7, vI x7)] [] := by
  refine g_iload (pc' := 32) 6 dX12_isFile_30 rfl rfl ?_
  refine g_iload (pc' := 34) 3 dX12_isFile_32 rfl rfl ?_
  obtain ⟨hob11, hob12, hob14, hob16, hk32, hk33, hk34⟩ := h
  have hk32g : ((x4 ≤ x7) ∧ (popI x6 ≤ x2)) → gI w d X_X12_isFile P i l 83 [(0, vR (some 99)), (2, vI x2), (3, vI x3), (4, vI x4), (5, vI x5), (6, vI x6), (7, vI x7)] [] := by
    intro hp
    have h := hk32 hp
    refine g_iinc (pc' := 86) (L' := [(5, vI (x5 + 1)), (0, vR (some 99)), (2, vI x2), (3, vI x3), (4, vI x4), (6, vI x6), (7, vI x7)]) 4 dX12_isFile_83 rfl (Nat.le_of_ble_eq_true rfl) rfl rfl ?_
    refine g_goto (tgt := 15) dX12_isFile_86 rfl ?_
    refine g_sub (L' := [(0, vR (some 99)), (2, vI x2), (3, vI x3), (4, vI x4), (5, vI (x5 + 1))]) [1, 2, 3, 4, 0] rfl ?_
    exact h
  have hk33g : ((x4 ≤ x7) ∧ (¬ (popI x6 ≤ x2))) → gI w d X_X12_isFile P i l 81 [(0, vR (some 99)), (2, vI x2), (3, vI x3), (4, vI x4), (5, vI x5), (6, vI x6), (7, vI x7)] [] := by
    intro hp
    have h := hk33 hp
    refine g_iconst (pc' := 82) dX12_isFile_81 rfl ?_
    exact g_retZ rfl (by decide) dX12_isFile_82 h
  have hk34g : (¬ (x4 ≤ x7)) → gI w d X_X12_isFile P i l 37 [(0, vR (some 99)), (2, vI x2), (3, vI x3), (4, vI x4), (5, vI x5), (6, vI x6), (7, vI x7)] [] := by
    intro hp
    have h := hk34 hp
    obtain ⟨ob25, ob27, ob29, ob30, h⟩ := h
    refine g_iload (pc' := 39) 5 dX12_isFile_37 rfl rfl ?_
    refine g_iconst (pc' := 40) dX12_isFile_39 rfl ?_
    refine g_aload_n (pc' := 41) 0 dX12_isFile_40 rfl rfl ?_
    refine g_aload_n (pc' := 42) 0 dX12_isFile_41 rfl rfl ?_
    refine g_getR (pc' := 45) (o := some 101) fl_X12_20 rfl rfl rfl dX12_isFile_42 rfl ?_
    refine g_bipush (pc' := 47) dX12_isFile_45 rfl rfl ?_
    refine g_aload_n (pc' := 48) 0 dX12_isFile_47 rfl rfl ?_
    refine g_getR (pc' := 51) (o := some 122) fl_X12_94 rfl rfl rfl dX12_isFile_48 rfl ?_
    refine g_iload (pc' := 53) 4 dX12_isFile_51 rfl rfl ?_
    refine g_iload (pc' := 55) 6 dX12_isFile_53 rfl rfl ?_
    refine g_iadd (pc' := 56) dX12_isFile_55 rfl ?_
    refine g_iald (pc' := 57) (N := 5) rfl rfl (Nat.lt_of_lt_of_le (Nat.lt_succ_self _) (Nat.le_of_ble_eq_true rfl)) ob25 dX12_isFile_56 rfl (fun rg26 => ?_)
    refine g_iadd (pc' := 58) dX12_isFile_57 rfl ?_
    refine g_iald (pc' := 59) (N := 5120) rfl rfl (Nat.lt_of_lt_of_le (Nat.lt_succ_self _) (Nat.le_of_ble_eq_true rfl)) ob27 dX12_isFile_58 rfl (fun rg28 => ?_)
    refine g_pVI (pc' := 62) (vs := [vI (i 101 (114 + (i 122 (x5 + x7))))]) (st := [vI 1, vI x6]) (val := mLow i (i 101 (114 + (i 122 (x5 + x7))))) (c := 12) (sp_X12_lowestOf (le_hd hd rfl) ob29 ob30) mv_X12_lowestOf lk_X12_161 rfl rfl rfl rfl (Nat.le_of_ble_eq_true rfl) (Nat.le_of_ble_eq_true rfl) rfl dX12_isFile_59 rfl z2 (fun rg31 => ?_)
    refine g_ishl (pc' := 63) dX12_isFile_62 rfl ?_
    refine g_ior (pc' := 64) dX12_isFile_63 rfl ?_
    refine g_istore (pc' := 66) (L' := [(6, vI (ior x6 (ishl 1 (mLow i (i 101 (114 + (i 122 (x5 + x7)))))))), (0, vR (some 99)), (2, vI x2), (3, vI x3), (4, vI x4), (5, vI x5), (7, vI x7)]) dX12_isFile_64 rfl (Nat.le_of_ble_eq_true rfl) rfl ?_
    refine g_iinc (pc' := 69) (L' := [(7, vI (x7 + 1)), (6, vI (ior x6 (ishl 1 (mLow i (i 101 (114 + (i 122 (x5 + x7)))))))), (0, vR (some 99)), (2, vI x2), (3, vI x3), (4, vI x4), (5, vI x5)]) 6 dX12_isFile_66 rfl (Nat.le_of_ble_eq_true rfl) rfl rfl ?_
    refine g_goto (tgt := 30) dX12_isFile_69 rfl ?_
    refine g_sub (L' := [(0, vR (some 99)), (2, vI x2), (3, vI x3), (4, vI x4), (5, vI x5), (6, vI (ior x6 (ishl 1 (mLow i (i 101 (114 + (i 122 (x5 + x7)))))))), (7, vI (x7 + 1))]) [2, 3, 4, 5, 6, 1, 0] rfl ?_
    exact h
  refine g_icmp_ge (tgt := 72) (pc' := 37) (hob11) (hob12) Iff.rfl dX12_isFile_34 rfl rfl (fun c13 => ?_) (fun c13 => ?_)
  · refine g_iload (pc' := 74) 5 dX12_isFile_72 rfl rfl ?_
    refine g_pSI (pc' := 77) (vs := [vI x6]) (st := []) (val := popI x6) (sp_X12_ones (le_hd hd rfl) (hob14 c13)) mk_X12_ones ms_X12_ones lk_X12_327 rfl (Nat.le_of_ble_eq_true rfl) (Nat.le_of_ble_eq_true rfl) rfl dX12_isFile_74 rfl z2 (fun rg15 => ?_)
    refine g_iload_n (pc' := 78) 1 dX12_isFile_77 rfl rfl ?_
    refine g_icmp_le (tgt := 83) (pc' := 81) rg15 (hob16 c13) Iff.rfl dX12_isFile_78 rfl rfl (fun c17 => ?_) (fun c17 => ?_)
    · exact hk32g ⟨c13, c17⟩
    · exact hk33g ⟨c13, c17⟩
  · exact hk34g c13

theorem dX12_files_0 : decode cX12_files 0 = .ok (.iload_n 1, 1) := by decide +kernel
theorem dX12_files_1 : decode cX12_files 1 = .ok (.aload_n 0, 1) := by decide +kernel
theorem dX12_files_2 : decode cX12_files 2 = .ok (.invokevirtual 124, 3) := by decide +kernel
theorem dX12_files_5 : decode cX12_files 5 = .ok (.if_icmp .ne 64, 3) := by decide +kernel
theorem dX12_files_8 : decode cX12_files 8 = .ok (.aload_n 0, 1) := by decide +kernel
theorem dX12_files_9 : decode cX12_files 9 = .ok (.iload_n 3, 1) := by decide +kernel
theorem dX12_files_10 : decode cX12_files 10 = .ok (.iload 4, 2) := by decide +kernel
theorem dX12_files_12 : decode cX12_files 12 = .ok (.invokevirtual 408, 3) := by decide +kernel
theorem dX12_files_15 : decode cX12_files 15 = .ok (.ifCond .ne 4, 3) := by decide +kernel
theorem dX12_files_18 : decode cX12_files 18 = .ok (.return_, 1) := by decide +kernel
theorem dX12_files_19 : decode cX12_files 19 = .ok (.aload_n 0, 1) := by decide +kernel
theorem dX12_files_20 : decode cX12_files 20 = .ok (.getfield 411, 3) := by decide +kernel
theorem dX12_files_23 : decode cX12_files 23 = .ok (.ifCond .ne 35, 3) := by decide +kernel
theorem dX12_files_26 : decode cX12_files 26 = .ok (.iconst 0, 1) := by decide +kernel
theorem dX12_files_27 : decode cX12_files 27 = .ok (.istore 5, 2) := by decide +kernel
theorem dX12_files_29 : decode cX12_files 29 = .ok (.iload 5, 2) := by decide +kernel
theorem dX12_files_31 : decode cX12_files 31 = .ok (.aload_n 0, 1) := by decide +kernel
theorem dX12_files_32 : decode cX12_files 32 = .ok (.invokevirtual 124, 3) := by decide +kernel
theorem dX12_files_35 : decode cX12_files 35 = .ok (.if_icmp .ge 23, 3) := by decide +kernel
theorem dX12_files_38 : decode cX12_files 38 = .ok (.aload_n 0, 1) := by decide +kernel
theorem dX12_files_39 : decode cX12_files 39 = .ok (.getfield 97, 3) := by decide +kernel
theorem dX12_files_42 : decode cX12_files 42 = .ok (.iload 5, 2) := by decide +kernel
theorem dX12_files_44 : decode cX12_files 44 = .ok (.aload_n 0, 1) := by decide +kernel
theorem dX12_files_45 : decode cX12_files 45 = .ok (.getfield 94, 3) := by decide +kernel
theorem dX12_files_48 : decode cX12_files 48 = .ok (.iload 5, 2) := by decide +kernel
theorem dX12_files_50 : decode cX12_files 50 = .ok (.iaload, 1) := by decide +kernel
theorem dX12_files_51 : decode cX12_files 51 = .ok (.iastore, 1) := by decide +kernel
theorem dX12_files_52 : decode cX12_files 52 = .ok (.iinc 5 1, 3) := by decide +kernel
theorem dX12_files_55 : decode cX12_files 55 = .ok (.goto (-26), 3) := by decide +kernel
theorem dX12_files_58 : decode cX12_files 58 = .ok (.aload_n 0, 1) := by decide +kernel
theorem dX12_files_59 : decode cX12_files 59 = .ok (.dup, 1) := by decide +kernel
theorem dX12_files_60 : decode cX12_files 60 = .ok (.getfield 411, 3) := by decide +kernel
theorem dX12_files_63 : decode cX12_files 63 = .ok (.iconst 1, 1) := by decide +kernel
theorem dX12_files_64 : decode cX12_files 64 = .ok (.iadd, 1) := by decide +kernel
theorem dX12_files_65 : decode cX12_files 65 = .ok (.putfield 411, 3) := by decide +kernel
theorem dX12_files_68 : decode cX12_files 68 = .ok (.return_, 1) := by decide +kernel
theorem dX12_files_69 : decode cX12_files 69 = .ok (.iconst 0, 1) := by decide +kernel
theorem dX12_files_70 : decode cX12_files 70 = .ok (.istore 5, 2) := by decide +kernel
theorem dX12_files_72 : decode cX12_files 72 = .ok (.iload 5, 2) := by decide +kernel
theorem dX12_files_74 : decode cX12_files 74 = .ok (.aload_n 0, 1) := by decide +kernel
theorem dX12_files_75 : decode cX12_files 75 = .ok (.invokevirtual 124, 3) := by decide +kernel
theorem dX12_files_78 : decode cX12_files 78 = .ok (.if_icmp .ge 45, 3) := by decide +kernel
theorem dX12_files_81 : decode cX12_files 81 = .ok (.iload_n 2, 1) := by decide +kernel
theorem dX12_files_82 : decode cX12_files 82 = .ok (.iload 5, 2) := by decide +kernel
theorem dX12_files_84 : decode cX12_files 84 = .ok (.invokestatic 147, 3) := by decide +kernel
theorem dX12_files_87 : decode cX12_files 87 = .ok (.ifCond .eq 6, 3) := by decide +kernel
theorem dX12_files_90 : decode cX12_files 90 = .ok (.goto 27, 3) := by decide +kernel
theorem dX12_files_93 : decode cX12_files 93 = .ok (.aload_n 0, 1) := by decide +kernel
theorem dX12_files_94 : decode cX12_files 94 = .ok (.getfield 94, 3) := by decide +kernel
theorem dX12_files_97 : decode cX12_files 97 = .ok (.iload_n 1, 1) := by decide +kernel
theorem dX12_files_98 : decode cX12_files 98 = .ok (.iload 5, 2) := by decide +kernel
theorem dX12_files_100 : decode cX12_files 100 = .ok (.iastore, 1) := by decide +kernel
theorem dX12_files_101 : decode cX12_files 101 = .ok (.aload_n 0, 1) := by decide +kernel
theorem dX12_files_102 : decode cX12_files 102 = .ok (.iload_n 1, 1) := by decide +kernel
theorem dX12_files_103 : decode cX12_files 103 = .ok (.iconst 1, 1) := by decide +kernel
theorem dX12_files_104 : decode cX12_files 104 = .ok (.iadd, 1) := by decide +kernel
theorem dX12_files_105 : decode cX12_files 105 = .ok (.iload_n 2, 1) := by decide +kernel
theorem dX12_files_106 : decode cX12_files 106 = .ok (.iconst 1, 1) := by decide +kernel
theorem dX12_files_107 : decode cX12_files 107 = .ok (.iload 5, 2) := by decide +kernel
theorem dX12_files_109 : decode cX12_files 109 = .ok (.ishl, 1) := by decide +kernel
theorem dX12_files_110 : decode cX12_files 110 = .ok (.ior, 1) := by decide +kernel
theorem dX12_files_111 : decode cX12_files 111 = .ok (.iload_n 3, 1) := by decide +kernel
theorem dX12_files_112 : decode cX12_files 112 = .ok (.iload 4, 2) := by decide +kernel
theorem dX12_files_114 : decode cX12_files 114 = .ok (.invokevirtual 414, 3) := by decide +kernel
theorem dX12_files_117 : decode cX12_files 117 = .ok (.iinc 5 1, 3) := by decide +kernel
theorem dX12_files_120 : decode cX12_files 120 = .ok (.goto (-48), 3) := by decide +kernel
theorem dX12_files_123 : decode cX12_files 123 = .ok (.return_, 1) := by decide +kernel
set_option maxRecDepth 20000 in
theorem s_X12_files {w : Wd} {d : Nat} {P : IM → LM → Prop} {i : IM} {l : LM} (p0 : Int) (p1 : Int) (p2 : Int) (p3 : Int)  (hd : 1 ≤ d) (h : ((rg p0) ∧ ((p0 = i 101 309) → cI w d X_X12_isFile [vR (some 99), vI p2, vI p3] i l (fun r5 i5 l5 => (((¬ (r5 = 0) ∧ (¬ (i5 99 48 = 0))) → ((rg ((i5 99 48) + 1)) ∧ P (u2 i5 99 48 ((i5 99 48) + 1)) l5)) ∧ ((¬ (r5 = 0) ∧ (i5 99 48 = 0)) → gV w d X_X12_files P i5 l5 29 [(0, vR (some 99)), (5, vI 0)] []) ∧ ((r5 = 0) → P i5 l5)))) ∧ ((¬ (p0 = i 101 309)) → gV w d X_X12_files P i l 72 [(0, vR (some 99)), (1, vI p0), (2, vI p1), (3, vI p2), (4, vI p3), (5, vI 0)] []))) : gV w d X_X12_files P i l 0 [(0, vR (some 99)), (1, vI p0), (2, vI p1), (3, vI p2), (4, vI p3)] [] := by
  refine g_iload_n (pc' := 1) 1 dX12_files_0 rfl rfl ?_
  refine g_aload_n (pc' := 2) 0 dX12_files_1 rfl rfl ?_
  refine g_pVI (pc' := 5) (vs := []) (st := [vI p0]) (val := i 101 309) (c := 12) (sp_X12_people (le_hd hd rfl) ) mv_X12_people lk_X12_124 rfl rfl rfl rfl (Nat.le_of_ble_eq_true rfl) (Nat.le_of_ble_eq_true rfl) rfl dX12_files_2 rfl z2 (fun rg1 => ?_)
  obtain ⟨hob3, hk16, hk17⟩ := h
  refine g_icmp_ne (tgt := 69) (pc' := 8) (hob3) rg1 Iff.rfl dX12_files_5 rfl rfl (fun c4 => ?_) (fun c4 => ?_)
  · have h := hk17 c4
    refine g_iconst (pc' := 70) dX12_files_69 rfl ?_
    refine g_istore (pc' := 72) (L' := [(5, vI 0), (0, vR (some 99)), (1, vI p0), (2, vI p1), (3, vI p2), (4, vI p3)]) dX12_files_70 rfl (Nat.le_of_ble_eq_true rfl) rfl ?_
    refine g_sub (L' := [(0, vR (some 99)), (1, vI p0), (2, vI p1), (3, vI p2), (4, vI p3), (5, vI 0)]) [1, 2, 3, 4, 5, 0] rfl ?_
    exact h
  · have h := hk16 c4
    refine g_aload_n (pc' := 9) 0 dX12_files_8 rfl rfl ?_
    refine g_iload_n (pc' := 10) 3 dX12_files_9 rfl rfl ?_
    refine g_iload (pc' := 12) 4 dX12_files_10 rfl rfl ?_
    refine g_cVI (pc' := 15) (vs := [vI p2, vI p3]) (st := []) (c := 12) h mv_X12_isFile lk_X12_408 rfl rfl rfl rfl (Nat.le_of_ble_eq_true rfl) (Nat.le_of_ble_eq_true rfl) rfl dX12_files_12 rfl z2 (fun r5 i5 l5 rg5 h => ?_)
    obtain ⟨hk13, hk14, hk15⟩ := h
    have hk13g : (¬ (r5 = 0) ∧ (¬ (i5 99 48 = 0))) → gV w d X_X12_files P i5 l5 58 [(0, vR (some 99)), (1, vI p0), (2, vI p1), (3, vI p2), (4, vI p3)] [] := by
      intro hp
      have h := hk13 hp
      obtain ⟨ob12, h⟩ := h
      refine g_aload_n (pc' := 59) 0 dX12_files_58 rfl rfl ?_
      refine g_dup (pc' := 60) dX12_files_59 rfl rfl ?_
      refine g_getI (pc' := 63) (z := 48) rfl fl_X12_411 rfl rfl dX12_files_60 rfl (fun rg11 => ?_)
      refine g_iconst (pc' := 64) dX12_files_63 rfl ?_
      refine g_iadd (pc' := 65) dX12_files_64 rfl ?_
      refine g_putI (pc' := 68) (z := 48) rfl fp_X12_411 rfl rfl ob12 dX12_files_65 rfl ?_
      exact g_retV rfl dX12_files_68 h
    have hk14g : (¬ (r5 = 0) ∧ (i5 99 48 = 0)) → gV w d X_X12_files P i5 l5 26 [(0, vR (some 99)), (1, vI p0), (2, vI p1), (3, vI p2), (4, vI p3)] [] := by
      intro hp
      have h := hk14 hp
      refine g_iconst (pc' := 27) dX12_files_26 rfl ?_
      refine g_istore (pc' := 29) (L' := [(5, vI 0), (0, vR (some 99)), (1, vI p0), (2, vI p1), (3, vI p2), (4, vI p3)]) dX12_files_27 rfl (Nat.le_of_ble_eq_true rfl) rfl ?_
      refine g_sub (L' := [(0, vR (some 99)), (5, vI 0)]) [1, 0] rfl ?_
      exact h
    have hk15g : (r5 = 0) → gV w d X_X12_files P i5 l5 18 [(0, vR (some 99)), (1, vI p0), (2, vI p1), (3, vI p2), (4, vI p3)] [] := by
      intro hp
      have h := hk15 hp
      exact g_retV rfl dX12_files_18 h
    refine g_if_ne (tgt := 19) (pc' := 18) rg5 Iff.rfl dX12_files_15 rfl rfl (fun c7 => ?_) (fun c7 => ?_)
    · refine g_aload_n (pc' := 20) 0 dX12_files_19 rfl rfl ?_
      refine g_getI (pc' := 23) (z := 48) rfl fl_X12_411 rfl rfl dX12_files_20 rfl (fun rg8 => ?_)
      refine g_if_ne (tgt := 58) (pc' := 26) rg8 Iff.rfl dX12_files_23 rfl rfl (fun c9 => ?_) (fun c9 => ?_)
      · exact hk13g ⟨c7, c9⟩
      · exact hk14g ⟨c7, c9⟩
    · exact hk15g c7
theorem e_X12_files {w : Wd} {d : Nat} {P : IM → LM → Prop} {i : IM} {l : LM} {p0 : Int} {p1 : Int} {p2 : Int} {p3 : Int}  (h : gV w d X_X12_files P i l 0 [(0, vR (some 99)), (1, vI p0), (2, vI p1), (3, vI p2), (4, vI p3)] []) : cVd w (d + 1) X_X12_files [vR (some 99), vI p0, vI p1, vI p2, vI p3] i l P := CV_of (by decide +kernel) (Nat.le_of_ble_eq_true rfl) h
set_option maxRecDepth 20000 in
theorem s_X12_files_72 {w : Wd} {d : Nat} {P : IM → LM → Prop} {i : IM} {l : LM} (x1 : Int) (x2 : Int) (x3 : Int) (x4 : Int) (x5 : Int)  (hd : 1 ≤ d) (h : ((rg x5) ∧ ((i 101 309 ≤ x5) → P i l) ∧ ((¬ (i 101 309 ≤ x5) ∧ (¬ (iand (ishr x2 x5) 1 = 1))) → ((0 ≤ x1 ∧ x1 < 5) ∧ (rg x5) ∧ cVd w d X_X12_files [vR (some 99), vI (x1 + 1), vI (ior x2 (ishl 1 x5)), vI x3, vI x4] (u2 i 122 x1 x5) l (fun i26 l26 => gV w d X_X12_files P i26 l26 72 [(0, vR (some 99)), (1, vI x1), (2, vI x2), (3, vI x3), (4, vI x4), (5, vI (x5 + 1))] []))) ∧ ((¬ (i 101 309 ≤ x5) ∧ (iand (ishr x2 x5) 1 = 1)) → gV w d X_X12_files P i l 72 [(0, vR (some 99)), (1, vI x1), (2, vI x2), (3, vI x3), (4, vI x4), (5, vI (x5 + 1))] []))) : gV w d X_X12_files P i l 72 [(0, vR (some 99)), (1, vI x1), (2, vI x2), (3, vI x3), (4, vI x4), (5, vI x5)] [] := by
  refine g_iload (pc' := 74) 5 dX12_files_72 rfl rfl ?_
  refine g_aload_n (pc' := 75) 0 dX12_files_74 rfl rfl ?_
  refine g_pVI (pc' := 78) (vs := []) (st := [vI x5]) (val := i 101 309) (c := 12) (sp_X12_people (le_hd hd rfl) ) mv_X12_people lk_X12_124 rfl rfl rfl rfl (Nat.le_of_ble_eq_true rfl) (Nat.le_of_ble_eq_true rfl) rfl dX12_files_75 rfl z2 (fun rg18 => ?_)
  obtain ⟨hob20, hk27, hk28, hk29⟩ := h
  have hk27g : (i 101 309 ≤ x5) → gV w d X_X12_files P i l 123 [(0, vR (some 99)), (1, vI x1), (2, vI x2), (3, vI x3), (4, vI x4), (5, vI x5)] [] := by
    intro hp
    have h := hk27 hp
    exact g_retV rfl dX12_files_123 h
  have hk28g : (¬ (i 101 309 ≤ x5) ∧ (¬ (iand (ishr x2 x5) 1 = 1))) → gV w d X_X12_files P i l 93 [(0, vR (some 99)), (1, vI x1), (2, vI x2), (3, vI x3), (4, vI x4), (5, vI x5)] [] := by
    intro hp
    have h := hk28 hp
    obtain ⟨ob24, ob25, h⟩ := h
    refine g_aload_n (pc' := 94) 0 dX12_files_93 rfl rfl ?_
    refine g_getR (pc' := 97) (o := some 122) fl_X12_94 rfl rfl rfl dX12_files_94 rfl ?_
    refine g_iload_n (pc' := 98) 1 dX12_files_97 rfl rfl ?_
    refine g_iload (pc' := 100) 5 dX12_files_98 rfl rfl ?_
    refine g_iast (pc' := 101) (N := 5) rfl rfl (Nat.lt_of_lt_of_le (Nat.lt_succ_self _) (Nat.le_of_ble_eq_true rfl)) ob24 ob25 dX12_files_100 rfl ?_
    refine g_aload_n (pc' := 102) 0 dX12_files_101 rfl rfl ?_
    refine g_iload_n (pc' := 103) 1 dX12_files_102 rfl rfl ?_
    refine g_iconst (pc' := 104) dX12_files_103 rfl ?_
    refine g_iadd (pc' := 105) dX12_files_104 rfl ?_
    refine g_iload_n (pc' := 106) 2 dX12_files_105 rfl rfl ?_
    refine g_iconst (pc' := 107) dX12_files_106 rfl ?_
    refine g_iload (pc' := 109) 5 dX12_files_107 rfl rfl ?_
    refine g_ishl (pc' := 110) dX12_files_109 rfl ?_
    refine g_ior (pc' := 111) dX12_files_110 rfl ?_
    refine g_iload_n (pc' := 112) 3 dX12_files_111 rfl rfl ?_
    refine g_iload (pc' := 114) 4 dX12_files_112 rfl rfl ?_
    refine g_cVV (pc' := 117) (vs := [vI (x1 + 1), vI (ior x2 (ishl 1 x5)), vI x3, vI x4]) (st := []) (c := 12) h mv_X12_files lk_X12_414 rfl rfl rfl rfl (Nat.le_of_ble_eq_true rfl) (Nat.le_of_ble_eq_true rfl) rfl dX12_files_114 rfl z2 (fun i26 l26 h => ?_)
    refine g_iinc (pc' := 120) (L' := [(5, vI (x5 + 1)), (0, vR (some 99)), (1, vI x1), (2, vI x2), (3, vI x3), (4, vI x4)]) 5 dX12_files_117 rfl (Nat.le_of_ble_eq_true rfl) rfl rfl ?_
    refine g_goto (tgt := 72) dX12_files_120 rfl ?_
    refine g_sub (L' := [(0, vR (some 99)), (1, vI x1), (2, vI x2), (3, vI x3), (4, vI x4), (5, vI (x5 + 1))]) [1, 2, 3, 4, 5, 0] rfl ?_
    exact h
  have hk29g : (¬ (i 101 309 ≤ x5) ∧ (iand (ishr x2 x5) 1 = 1)) → gV w d X_X12_files P i l 117 [(0, vR (some 99)), (1, vI x1), (2, vI x2), (3, vI x3), (4, vI x4), (5, vI x5)] [] := by
    intro hp
    have h := hk29 hp
    refine g_iinc (pc' := 120) (L' := [(5, vI (x5 + 1)), (0, vR (some 99)), (1, vI x1), (2, vI x2), (3, vI x3), (4, vI x4)]) 5 dX12_files_117 rfl (Nat.le_of_ble_eq_true rfl) rfl rfl ?_
    refine g_goto (tgt := 72) dX12_files_120 rfl ?_
    refine g_sub (L' := [(0, vR (some 99)), (1, vI x1), (2, vI x2), (3, vI x3), (4, vI x4), (5, vI (x5 + 1))]) [1, 2, 3, 4, 5, 0] rfl ?_
    exact h
  refine g_icmp_ge (tgt := 123) (pc' := 81) (hob20) rg18 Iff.rfl dX12_files_78 rfl rfl (fun c21 => ?_) (fun c21 => ?_)
  · exact hk27g c21
  · refine g_iload_n (pc' := 82) 2 dX12_files_81 rfl rfl ?_
    refine g_iload (pc' := 84) 5 dX12_files_82 rfl rfl ?_
    refine g_pSI (pc' := 87) (vs := [vI x2, vI x5]) (st := []) (val := bI (iand (ishr x2 x5) 1 = 1)) (sp_X12_isIn (le_hd hd rfl) ) mk_X12_isIn ms_X12_isIn lk_X12_147 rfl (Nat.le_of_ble_eq_true rfl) (Nat.le_of_ble_eq_true rfl) rfl dX12_files_84 rfl z2 (fun rg22 => ?_)
    refine g_if_eq (tgt := 93) (pc' := 90) rg22 (bI_eq _) dX12_files_87 rfl rfl (fun c23 => ?_) (fun c23n => ?_)
    · exact hk28g ⟨c21, c23⟩
    · have c23 := Decidable.of_not_not c23n
      refine g_goto (tgt := 117) dX12_files_90 rfl ?_
      exact hk29g ⟨c21, c23⟩
set_option maxRecDepth 20000 in
theorem s_X12_files_29 {w : Wd} {d : Nat} {P : IM → LM → Prop} {i : IM} {l : LM} (x5 : Int)  (hd : 1 ≤ d) (h : ((rg x5) ∧ ((i 101 309 ≤ x5) → ((rg ((i 99 48) + 1)) ∧ P (u2 i 99 48 ((i 99 48) + 1)) l)) ∧ ((¬ (i 101 309 ≤ x5)) → ((0 ≤ x5 ∧ x5 < 5) ∧ gV w d X_X12_files P (u2 i 123 x5 (i 122 x5)) l 29 [(0, vR (some 99)), (5, vI (x5 + 1))] [])))) : gV w d X_X12_files P i l 29 [(0, vR (some 99)), (5, vI x5)] [] := by
  refine g_iload (pc' := 31) 1 dX12_files_29 rfl rfl ?_
  refine g_aload_n (pc' := 32) 0 dX12_files_31 rfl rfl ?_
  refine g_pVI (pc' := 35) (vs := []) (st := [vI x5]) (val := i 101 309) (c := 12) (sp_X12_people (le_hd hd rfl) ) mv_X12_people lk_X12_124 rfl rfl rfl rfl (Nat.le_of_ble_eq_true rfl) (Nat.le_of_ble_eq_true rfl) rfl dX12_files_32 rfl z2 (fun rg30 => ?_)
  obtain ⟨hob32, hk41, hk42⟩ := h
  refine g_icmp_ge (tgt := 58) (pc' := 38) (hob32) rg30 Iff.rfl dX12_files_35 rfl rfl (fun c33 => ?_) (fun c33 => ?_)
  · have h := hk41 c33
    obtain ⟨ob38, h⟩ := h
    refine g_aload_n (pc' := 59) 0 dX12_files_58 rfl rfl ?_
    refine g_dup (pc' := 60) dX12_files_59 rfl rfl ?_
    refine g_getI (pc' := 63) (z := 48) rfl fl_X12_411 rfl rfl dX12_files_60 rfl (fun rg37 => ?_)
    refine g_iconst (pc' := 64) dX12_files_63 rfl ?_
    refine g_iadd (pc' := 65) dX12_files_64 rfl ?_
    refine g_putI (pc' := 68) (z := 48) rfl fp_X12_411 rfl rfl ob38 dX12_files_65 rfl ?_
    exact g_retV rfl dX12_files_68 h
  · have h := hk42 c33
    obtain ⟨ob39, h⟩ := h
    refine g_aload_n (pc' := 39) 0 dX12_files_38 rfl rfl ?_
    refine g_getR (pc' := 42) (o := some 123) fl_X12_97 rfl rfl rfl dX12_files_39 rfl ?_
    refine g_iload (pc' := 44) 1 dX12_files_42 rfl rfl ?_
    refine g_aload_n (pc' := 45) 0 dX12_files_44 rfl rfl ?_
    refine g_getR (pc' := 48) (o := some 122) fl_X12_94 rfl rfl rfl dX12_files_45 rfl ?_
    refine g_iload (pc' := 50) 1 dX12_files_48 rfl rfl ?_
    refine g_iald (pc' := 51) (N := 5) rfl rfl (Nat.lt_of_lt_of_le (Nat.lt_succ_self _) (Nat.le_of_ble_eq_true rfl)) ob39 dX12_files_50 rfl (fun rg40 => ?_)
    refine g_iast (pc' := 52) (N := 5) rfl rfl (Nat.lt_of_lt_of_le (Nat.lt_succ_self _) (Nat.le_of_ble_eq_true rfl)) ob39 rg40 dX12_files_51 rfl ?_
    refine g_iinc (pc' := 55) (L' := [(5, vI (x5 + 1)), (0, vR (some 99))]) 1 dX12_files_52 rfl (Nat.le_of_ble_eq_true rfl) rfl rfl ?_
    refine g_goto (tgt := 29) dX12_files_55 rfl ?_
    refine g_sub (L' := [(0, vR (some 99)), (5, vI (x5 + 1))]) [1, 0] rfl ?_
    exact h

theorem dX12_file_0 : decode cX12_file 0 = .ok (.iload_n 1, 1) := by decide +kernel
theorem dX12_file_1 : decode cX12_file 1 = .ok (.iconst 1, 1) := by decide +kernel
theorem dX12_file_2 : decode cX12_file 2 = .ok (.bipush 8, 2) := by decide +kernel
theorem dX12_file_4 : decode cX12_file 4 = .ok (.invokestatic 106, 3) := by decide +kernel
theorem dX12_file_7 : decode cX12_file 7 = .ok (.ifCond .eq 27, 3) := by decide +kernel
theorem dX12_file_10 : decode cX12_file 10 = .ok (.iload_n 2, 1) := by decide +kernel
theorem dX12_file_11 : decode cX12_file 11 = .ok (.iconst 1, 1) := by decide +kernel
theorem dX12_file_12 : decode cX12_file 12 = .ok (.bipush 8, 2) := by decide +kernel
theorem dX12_file_14 : decode cX12_file 14 = .ok (.invokestatic 106, 3) := by decide +kernel
theorem dX12_file_17 : decode cX12_file 17 = .ok (.ifCond .eq 17, 3) := by decide +kernel
theorem dX12_file_20 : decode cX12_file 20 = .ok (.iload_n 3, 1) := by decide +kernel
theorem dX12_file_21 : decode cX12_file 21 = .ok (.iconst (-1), 1) := by decide +kernel
theorem dX12_file_22 : decode cX12_file 22 = .ok (.aload_n 0, 1) := by decide +kernel
theorem dX12_file_23 : decode cX12_file 23 = .ok (.invokevirtual 124, 3) := by decide +kernel
theorem dX12_file_26 : decode cX12_file 26 = .ok (.iconst 1, 1) := by decide +kernel
theorem dX12_file_27 : decode cX12_file 27 = .ok (.isub, 1) := by decide +kernel
theorem dX12_file_28 : decode cX12_file 28 = .ok (.invokestatic 106, 3) := by decide +kernel
theorem dX12_file_31 : decode cX12_file 31 = .ok (.ifCond .ne 5, 3) := by decide +kernel
theorem dX12_file_34 : decode cX12_file 34 = .ok (.iconst (-1), 1) := by decide +kernel
theorem dX12_file_35 : decode cX12_file 35 = .ok (.ireturn, 1) := by decide +kernel
theorem dX12_file_36 : decode cX12_file 36 = .ok (.aload_n 0, 1) := by decide +kernel
theorem dX12_file_37 : decode cX12_file 37 = .ok (.iconst 0, 1) := by decide +kernel
theorem dX12_file_38 : decode cX12_file 38 = .ok (.putfield 411, 3) := by decide +kernel
theorem dX12_file_41 : decode cX12_file 41 = .ok (.aload_n 0, 1) := by decide +kernel
theorem dX12_file_42 : decode cX12_file 42 = .ok (.iconst 0, 1) := by decide +kernel
theorem dX12_file_43 : decode cX12_file 43 = .ok (.iconst 0, 1) := by decide +kernel
theorem dX12_file_44 : decode cX12_file 44 = .ok (.iload_n 1, 1) := by decide +kernel
theorem dX12_file_45 : decode cX12_file 45 = .ok (.iload_n 2, 1) := by decide +kernel
theorem dX12_file_46 : decode cX12_file 46 = .ok (.invokevirtual 414, 3) := by decide +kernel
theorem dX12_file_49 : decode cX12_file 49 = .ok (.iload_n 3, 1) := by decide +kernel
theorem dX12_file_50 : decode cX12_file 50 = .ok (.iconst (-1), 1) := by decide +kernel
theorem dX12_file_51 : decode cX12_file 51 = .ok (.if_icmp .ne 10, 3) := by decide +kernel
theorem dX12_file_54 : decode cX12_file 54 = .ok (.aload_n 0, 1) := by decide +kernel
theorem dX12_file_55 : decode cX12_file 55 = .ok (.getfield 411, 3) := by decide +kernel
theorem dX12_file_58 : decode cX12_file 58 = .ok (.goto 20, 3) := by decide +kernel
theorem dX12_file_61 : decode cX12_file 61 = .ok (.aload_n 0, 1) := by decide +kernel
theorem dX12_file_62 : decode cX12_file 62 = .ok (.getfield 411, 3) := by decide +kernel
theorem dX12_file_65 : decode cX12_file 65 = .ok (.ifCond .ne 7, 3) := by decide +kernel
theorem dX12_file_68 : decode cX12_file 68 = .ok (.iconst (-1), 1) := by decide +kernel
theorem dX12_file_69 : decode cX12_file 69 = .ok (.goto 9, 3) := by decide +kernel
theorem dX12_file_72 : decode cX12_file 72 = .ok (.aload_n 0, 1) := by decide +kernel
theorem dX12_file_73 : decode cX12_file 73 = .ok (.getfield 97, 3) := by decide +kernel
theorem dX12_file_76 : decode cX12_file 76 = .ok (.iload_n 3, 1) := by decide +kernel
theorem dX12_file_77 : decode cX12_file 77 = .ok (.iaload, 1) := by decide +kernel
theorem dX12_file_78 : decode cX12_file 78 = .ok (.ireturn, 1) := by decide +kernel
set_option maxRecDepth 20000 in
theorem s_X12_file {w : Wd} {d : Nat} {P : Int → IM → LM → Prop} {i : IM} {l : LM} (p0 : Int) (p1 : Int) (p2 : Int)  (hd : 1 ≤ d) (h : ((rg p0) ∧ (((1 ≤ p0 ∧ p0 ≤ 8) → rg p1) ∧ ((1 ≤ p0 ∧ p0 ≤ 8) → (1 ≤ p1 ∧ p1 ≤ 8) → rg p2) ∧ ((1 ≤ p0 ∧ p0 ≤ 8) → (1 ≤ p1 ∧ p1 ≤ 8) → rg ((i 101 309) - 1)) ∧ (((1 ≤ p0 ∧ p0 ≤ 8) ∧ ((1 ≤ p1 ∧ p1 ≤ 8) ∧ ((-1) ≤ p2 ∧ p2 ≤ (i 101 309) - 1))) → cVd w d X_X12_files [vR (some 99), vI 0, vI 0, vI p0, vI p1] (u2 i 99 48 0) l (fun i13 l13 => ((rg p2) ∧ (¬ (p2 = (-1)) → ¬ (i13 99 48 = 0) → 0 ≤ p2 ∧ p2 < 5) ∧ P (if (p2 = (-1)) then i13 99 48 else (if (i13 99 48 = 0) then (-1) else i13 123 p2)) i13 l13))) ∧ ((¬ ((1 ≤ p0 ∧ p0 ≤ 8) ∧ ((1 ≤ p1 ∧ p1 ≤ 8) ∧ ((-1) ≤ p2 ∧ p2 ≤ (i 101 309) - 1)))) → P (-1) i l)))) : gI w d X_X12_file P i l 0 [(0, vR (some 99)), (1, vI p0), (2, vI p1), (3, vI p2)] [] := by
  obtain ⟨ob1, h⟩ := h
  refine g_iload_n (pc' := 1) 1 dX12_file_0 rfl rfl ?_
  refine g_iconst (pc' := 2) dX12_file_1 rfl ?_
  refine g_bipush (pc' := 4) dX12_file_2 rfl rfl ?_
  refine g_pSI (pc' := 7) (vs := [vI p0, vI 1, vI 8]) (st := []) (val := bI (1 ≤ p0 ∧ p0 ≤ 8)) (sp_X12_lies (le_hd hd rfl) ob1 (rg_lit rfl) (rg_lit rfl)) mk_X12_lies ms_X12_lies lk_X12_106 rfl (Nat.le_of_ble_eq_true rfl) (Nat.le_of_ble_eq_true rfl) rfl dX12_file_4 rfl z2 (fun rg2 => ?_)
  obtain ⟨hob5, hob9, hob10, hk22, hk23⟩ := h
  have hk22g : ((1 ≤ p0 ∧ p0 ≤ 8) ∧ ((1 ≤ p1 ∧ p1 ≤ 8) ∧ ((-1) ≤ p2 ∧ p2 ≤ (i 101 309) - 1))) → gI w d X_X12_file P i l 36 [(0, vR (some 99)), (1, vI p0), (2, vI p1), (3, vI p2)] [] := by
    intro hp
    have h := hk22 hp
    refine g_aload_n (pc' := 37) 0 dX12_file_36 rfl rfl ?_
    refine g_iconst (pc' := 38) dX12_file_37 rfl ?_
    refine g_putI (pc' := 41) (z := 48) rfl fp_X12_411 rfl rfl (rg_lit rfl) dX12_file_38 rfl ?_
    refine g_aload_n (pc' := 42) 0 dX12_file_41 rfl rfl ?_
    refine g_iconst (pc' := 43) dX12_file_42 rfl ?_
    refine g_iconst (pc' := 44) dX12_file_43 rfl ?_
    refine g_iload_n (pc' := 45) 1 dX12_file_44 rfl rfl ?_
    refine g_iload_n (pc' := 46) 2 dX12_file_45 rfl rfl ?_
    refine g_cVV (pc' := 49) (vs := [vI 0, vI 0, vI p0, vI p1]) (st := []) (c := 12) h mv_X12_files lk_X12_414 rfl rfl rfl rfl (Nat.le_of_ble_eq_true rfl) (Nat.le_of_ble_eq_true rfl) rfl dX12_file_46 rfl z2 (fun i13 l13 h => ?_)
    refine g_iload_n (pc' := 50) 3 dX12_file_49 rfl rfl ?_
    refine g_iconst (pc' := 51) dX12_file_50 rfl ?_
    refine g_rg (fun hRG14 => ?_)
    obtain ⟨hob15, hob19, h⟩ := h
    have hJ : gI w d X_X12_file P i13 l13 78 [(0, vR (some 99)), (1, vI p0), (2, vI p1), (3, vI p2)] [vI (if (p2 = (-1)) then i13 99 48 else (if (i13 99 48 = 0) then (-1) else i13 123 p2))] := by
      exact g_retI rfl (rg_ite (hRG14 _ _) (rg_ite (rg_lit rfl) (hRG14 _ _))) dX12_file_78 h
    refine g_icmp_ne (tgt := 61) (pc' := 54) (hob15) (rg_lit rfl) Iff.rfl dX12_file_51 rfl rfl (fun c16 => ?_) (fun c16 => ?_)
    · refine g_aload_n (pc' := 62) 0 dX12_file_61 rfl rfl ?_
      refine g_getI (pc' := 65) (z := 48) rfl fl_X12_411 rfl rfl dX12_file_62 rfl (fun rg17 => ?_)
      refine g_if_ne (tgt := 72) (pc' := 68) rg17 Iff.rfl dX12_file_65 rfl rfl (fun c18 => ?_) (fun c18 => ?_)
      · refine g_aload_n (pc' := 73) 0 dX12_file_72 rfl rfl ?_
        refine g_getR (pc' := 76) (o := some 123) fl_X12_97 rfl rfl rfl dX12_file_73 rfl ?_
        refine g_iload_n (pc' := 77) 3 dX12_file_76 rfl rfl ?_
        refine g_iald (pc' := 78) (N := 5) rfl rfl (Nat.lt_of_lt_of_le (Nat.lt_succ_self _) (Nat.le_of_ble_eq_true rfl)) (hob19 c16 c18) dX12_file_77 rfl (fun rg20 => ?_)
        rw [if_neg c16 (α := Int) (t := i13 99 48) (e := (if (i13 99 48 = 0) then (-1) else i13 123 p2)), if_neg c18 (α := Int) (t := (-1)) (e := i13 123 p2)] at hJ
        exact hJ
      · refine g_iconst (pc' := 69) dX12_file_68 rfl ?_
        refine g_goto (tgt := 78) dX12_file_69 rfl ?_
        rw [if_neg c16 (α := Int) (t := i13 99 48) (e := (if (i13 99 48 = 0) then (-1) else i13 123 p2)), if_pos c18 (α := Int) (t := (-1)) (e := i13 123 p2)] at hJ
        exact hJ
    · refine g_aload_n (pc' := 55) 0 dX12_file_54 rfl rfl ?_
      refine g_getI (pc' := 58) (z := 48) rfl fl_X12_411 rfl rfl dX12_file_55 rfl (fun rg21 => ?_)
      refine g_goto (tgt := 78) dX12_file_58 rfl ?_
      rw [if_pos c16 (α := Int) (t := i13 99 48) (e := (if (i13 99 48 = 0) then (-1) else i13 123 p2))] at hJ
      exact hJ
  have hk23g : (¬ ((1 ≤ p0 ∧ p0 ≤ 8) ∧ ((1 ≤ p1 ∧ p1 ≤ 8) ∧ ((-1) ≤ p2 ∧ p2 ≤ (i 101 309) - 1)))) → gI w d X_X12_file P i l 34 [(0, vR (some 99)), (1, vI p0), (2, vI p1), (3, vI p2)] [] := by
    intro hp
    have h := hk23 hp
    refine g_iconst (pc' := 35) dX12_file_34 rfl ?_
    exact g_retI rfl (rg_lit rfl) dX12_file_35 h
  refine g_if_eq (tgt := 34) (pc' := 10) rg2 (bI_eq _) dX12_file_7 rfl rfl (fun c4 => ?_) (fun c4n => ?_)
  · exact hk23g (fun q => c4 q.1)
  · have c4 := Decidable.of_not_not c4n
    refine g_iload_n (pc' := 11) 2 dX12_file_10 rfl rfl ?_
    refine g_iconst (pc' := 12) dX12_file_11 rfl ?_
    refine g_bipush (pc' := 14) dX12_file_12 rfl rfl ?_
    refine g_pSI (pc' := 17) (vs := [vI p1, vI 1, vI 8]) (st := []) (val := bI (1 ≤ p1 ∧ p1 ≤ 8)) (sp_X12_lies (le_hd hd rfl) (hob5 c4) (rg_lit rfl) (rg_lit rfl)) mk_X12_lies ms_X12_lies lk_X12_106 rfl (Nat.le_of_ble_eq_true rfl) (Nat.le_of_ble_eq_true rfl) rfl dX12_file_14 rfl z2 (fun rg6 => ?_)
    refine g_if_eq (tgt := 34) (pc' := 20) rg6 (bI_eq _) dX12_file_17 rfl rfl (fun c7 => ?_) (fun c7n => ?_)
    · exact hk23g (fun q => (fun q => c7 q.1) q.2)
    · have c7 := Decidable.of_not_not c7n
      refine g_iload_n (pc' := 21) 3 dX12_file_20 rfl rfl ?_
      refine g_iconst (pc' := 22) dX12_file_21 rfl ?_
      refine g_aload_n (pc' := 23) 0 dX12_file_22 rfl rfl ?_
      refine g_pVI (pc' := 26) (vs := []) (st := [vI (-1), vI p2]) (val := i 101 309) (c := 12) (sp_X12_people (le_hd hd rfl) ) mv_X12_people lk_X12_124 rfl rfl rfl rfl (Nat.le_of_ble_eq_true rfl) (Nat.le_of_ble_eq_true rfl) rfl dX12_file_23 rfl z2 (fun rg8 => ?_)
      refine g_iconst (pc' := 27) dX12_file_26 rfl ?_
      refine g_isub (pc' := 28) dX12_file_27 rfl ?_
      refine g_pSI (pc' := 31) (vs := [vI p2, vI (-1), vI ((i 101 309) - 1)]) (st := []) (val := bI ((-1) ≤ p2 ∧ p2 ≤ (i 101 309) - 1)) (sp_X12_lies (le_hd hd rfl) (hob9 c4 c7) (rg_lit rfl) (hob10 c4 c7)) mk_X12_lies ms_X12_lies lk_X12_106 rfl (Nat.le_of_ble_eq_true rfl) (Nat.le_of_ble_eq_true rfl) rfl dX12_file_28 rfl z2 (fun rg11 => ?_)
      refine g_if_ne (tgt := 36) (pc' := 34) rg11 (bI_eq _) dX12_file_31 rfl rfl (fun c12n => ?_) (fun c12 => ?_)
      · have c12 := Decidable.of_not_not c12n
        exact hk22g ⟨c4, ⟨c7, c12⟩⟩
      · exact hk23g (fun q => (fun q => c12 q.2) q.2)
theorem e_X12_file {w : Wd} {d : Nat} {P : Int → IM → LM → Prop} {i : IM} {l : LM} {p0 : Int} {p1 : Int} {p2 : Int}  (h : gI w d X_X12_file P i l 0 [(0, vR (some 99)), (1, vI p0), (2, vI p1), (3, vI p2)] []) : cI w (d + 1) X_X12_file [vR (some 99), vI p0, vI p1, vI p2] i l P := CI_of (by decide +kernel) (Nat.le_of_ble_eq_true rfl) h

theorem dX12_draws_0 : decode cX12_draws 0 = .ok (.aload_n 0, 1) := by decide +kernel
theorem dX12_draws_1 : decode cX12_draws 1 = .ok (.ldc2_w 417, 3) := by decide +kernel
theorem dX12_draws_4 : decode cX12_draws 4 = .ok (.aload_n 0, 1) := by decide +kernel
theorem dX12_draws_5 : decode cX12_draws 5 = .ok (.getfield 419, 3) := by decide +kernel
theorem dX12_draws_8 : decode cX12_draws 8 = .ok (.i2l, 1) := by decide +kernel
theorem dX12_draws_9 : decode cX12_draws 9 = .ok (.lmul, 1) := by decide +kernel
theorem dX12_draws_10 : decode cX12_draws 10 = .ok (.ldc2_w 422, 3) := by decide +kernel
theorem dX12_draws_13 : decode cX12_draws 13 = .ok (.ladd, 1) := by decide +kernel
theorem dX12_draws_14 : decode cX12_draws 14 = .ok (.ldc2_w 424, 3) := by decide +kernel
theorem dX12_draws_17 : decode cX12_draws 17 = .ok (.lrem, 1) := by decide +kernel
theorem dX12_draws_18 : decode cX12_draws 18 = .ok (.l2i, 1) := by decide +kernel
theorem dX12_draws_19 : decode cX12_draws 19 = .ok (.putfield 419, 3) := by decide +kernel
theorem dX12_draws_22 : decode cX12_draws 22 = .ok (.aload_n 0, 1) := by decide +kernel
theorem dX12_draws_23 : decode cX12_draws 23 = .ok (.getfield 419, 3) := by decide +kernel
theorem dX12_draws_26 : decode cX12_draws 26 = .ok (.iload_n 1, 1) := by decide +kernel
theorem dX12_draws_27 : decode cX12_draws 27 = .ok (.irem, 1) := by decide +kernel
theorem dX12_draws_28 : decode cX12_draws 28 = .ok (.ireturn, 1) := by decide +kernel
set_option maxRecDepth 20000 in
theorem s_X12_draws {w : Wd} {d : Nat} {P : Int → IM → LM → Prop} {i : IM} {l : LM} (p0 : Int)  (h : ((rg p0) ∧ (¬ p0 = 0) ∧ (rg (Int.tmod ((u2 i 99 51 (l2i (((1103 * (i2l (i 99 51))) + 12345) - ((1103 * (i2l (i 99 51))) + 12345) / 1000003 * 1000003))) 99 51) p0)) ∧ P (Int.tmod ((u2 i 99 51 (l2i (((1103 * (i2l (i 99 51))) + 12345) - ((1103 * (i2l (i 99 51))) + 12345) / 1000003 * 1000003))) 99 51) p0) (u2 i 99 51 (l2i (((1103 * (i2l (i 99 51))) + 12345) - ((1103 * (i2l (i 99 51))) + 12345) / 1000003 * 1000003))) l)) : gI w d X_X12_draws P i l 0 [(0, vR (some 99)), (1, vI p0)] [] := by
  obtain ⟨ob3, ob4, ob5, h⟩ := h
  refine g_aload_n (pc' := 1) 0 dX12_draws_0 rfl rfl ?_
  refine g_ldc2 (pc' := 4) dX12_draws_1 rfl kl_X12_417 ?_
  refine g_aload_n (pc' := 5) 0 dX12_draws_4 rfl rfl ?_
  refine g_getI (pc' := 8) (z := 51) rfl fl_X12_419 rfl rfl dX12_draws_5 rfl (fun rg1 => ?_)
  refine g_i2l (pc' := 9) dX12_draws_8 rfl ?_
  refine g_lmul (pc' := 10) dX12_draws_9 rfl ?_
  refine g_ldc2 (pc' := 13) dX12_draws_10 rfl kl_X12_422 ?_
  refine g_ladd (pc' := 14) dX12_draws_13 rfl ?_
  refine g_ldc2 (pc' := 17) dX12_draws_14 rfl kl_X12_424 ?_
  refine g_lrem (pc' := 18) dX12_draws_17 rfl (by decide) ?_
  refine g_l2i (pc' := 19) dX12_draws_18 rfl ?_
  refine g_putI (pc' := 22) (z := 51) rfl fp_X12_419 rfl rfl (rg_l2i _) dX12_draws_19 rfl ?_
  refine g_aload_n (pc' := 23) 0 dX12_draws_22 rfl rfl ?_
  refine g_getI (pc' := 26) (z := 51) rfl fl_X12_419 rfl rfl dX12_draws_23 rfl (fun rg2 => ?_)
  refine g_iload_n (pc' := 27) 1 dX12_draws_26 rfl rfl ?_
  refine g_irem (pc' := 28) dX12_draws_27 rfl rg2 ob3 ob4 ?_
  exact g_retI rfl ob5 dX12_draws_28 h
theorem e_X12_draws {w : Wd} {d : Nat} {P : Int → IM → LM → Prop} {i : IM} {l : LM} {p0 : Int}  (h : gI w d X_X12_draws P i l 0 [(0, vR (some 99)), (1, vI p0)] []) : cI w (d + 1) X_X12_draws [vR (some 99), vI p0] i l P := CI_of (by decide +kernel) (Nat.le_of_ble_eq_true rfl) h

theorem dX12_goes_0 : decode cX12_goes 0 = .ok (.aload_n 0, 1) := by decide +kernel
theorem dX12_goes_1 : decode cX12_goes 1 = .ok (.aload_n 0, 1) := by decide +kernel
theorem dX12_goes_2 : decode cX12_goes 2 = .ok (.getfield 20, 3) := by decide +kernel
theorem dX12_goes_5 : decode cX12_goes 5 = .ok (.bipush 104, 2) := by decide +kernel
theorem dX12_goes_7 : decode cX12_goes 7 = .ok (.iload_n 1, 1) := by decide +kernel
theorem dX12_goes_8 : decode cX12_goes 8 = .ok (.iadd, 1) := by decide +kernel
theorem dX12_goes_9 : decode cX12_goes 9 = .ok (.iaload, 1) := by decide +kernel
theorem dX12_goes_10 : decode cX12_goes 10 = .ok (.invokestatic 327, 3) := by decide +kernel
theorem dX12_goes_13 : decode cX12_goes 13 = .ok (.iconst 1, 1) := by decide +kernel
theorem dX12_goes_14 : decode cX12_goes 14 = .ok (.iadd, 1) := by decide +kernel
theorem dX12_goes_15 : decode cX12_goes 15 = .ok (.invokevirtual 426, 3) := by decide +kernel
theorem dX12_goes_18 : decode cX12_goes 18 = .ok (.istore_n 2, 1) := by decide +kernel
theorem dX12_goes_19 : decode cX12_goes 19 = .ok (.iload_n 1, 1) := by decide +kernel
theorem dX12_goes_20 : decode cX12_goes 20 = .ok (.istore_n 3, 1) := by decide +kernel
theorem dX12_goes_21 : decode cX12_goes 21 = .ok (.iconst 0, 1) := by decide +kernel
theorem dX12_goes_22 : decode cX12_goes 22 = .ok (.istore 4, 2) := by decide +kernel
theorem dX12_goes_24 : decode cX12_goes 24 = .ok (.iload 4, 2) := by decide +kernel
theorem dX12_goes_26 : decode cX12_goes 26 = .ok (.bipush 10, 2) := by decide +kernel
theorem dX12_goes_28 : decode cX12_goes 28 = .ok (.if_icmp .ge 39, 3) := by decide +kernel
theorem dX12_goes_31 : decode cX12_goes 31 = .ok (.iload_n 2, 1) := by decide +kernel
theorem dX12_goes_32 : decode cX12_goes 32 = .ok (.ifCond .le 35, 3) := by decide +kernel
theorem dX12_goes_35 : decode cX12_goes 35 = .ok (.aload_n 0, 1) := by decide +kernel
theorem dX12_goes_36 : decode cX12_goes 36 = .ok (.getfield 20, 3) := by decide +kernel
theorem dX12_goes_39 : decode cX12_goes 39 = .ok (.bipush 104, 2) := by decide +kernel
theorem dX12_goes_41 : decode cX12_goes 41 = .ok (.iload_n 1, 1) := by decide +kernel
theorem dX12_goes_42 : decode cX12_goes 42 = .ok (.iadd, 1) := by decide +kernel
theorem dX12_goes_43 : decode cX12_goes 43 = .ok (.iaload, 1) := by decide +kernel
theorem dX12_goes_44 : decode cX12_goes 44 = .ok (.iload 4, 2) := by decide +kernel
theorem dX12_goes_46 : decode cX12_goes 46 = .ok (.invokestatic 147, 3) := by decide +kernel
theorem dX12_goes_49 : decode cX12_goes 49 = .ok (.ifCond .ne 6, 3) := by decide +kernel
theorem dX12_goes_52 : decode cX12_goes 52 = .ok (.goto 9, 3) := by decide +kernel
theorem dX12_goes_55 : decode cX12_goes 55 = .ok (.iinc 2 (-1), 3) := by decide +kernel
theorem dX12_goes_58 : decode cX12_goes 58 = .ok (.iload 4, 2) := by decide +kernel
theorem dX12_goes_60 : decode cX12_goes 60 = .ok (.istore_n 3, 1) := by decide +kernel
theorem dX12_goes_61 : decode cX12_goes 61 = .ok (.iinc 4 1, 3) := by decide +kernel
theorem dX12_goes_64 : decode cX12_goes 64 = .ok (.goto (-40), 3) := by decide +kernel
theorem dX12_goes_67 : decode cX12_goes 67 = .ok (.iload_n 3, 1) := by decide +kernel
theorem dX12_goes_68 : decode cX12_goes 68 = .ok (.ireturn, 1) := by decide +kernel
set_option maxRecDepth 20000 in
theorem s_X12_goes {w : Wd} {d : Nat} {P : Int → IM → LM → Prop} {i : IM} {l : LM} (p0 : Int)  (hd : 1 ≤ d) (h : ((0 ≤ 104 + p0 ∧ 104 + p0 < 5120) ∧ (0 ≤ i 101 (104 + p0) ∧ i 101 (104 + p0) < 2147483648) ∧ cI w d X_X12_draws [vR (some 99), vI ((popI (i 101 (104 + p0))) + 1)] i l (fun r5 i5 l5 => gI w d X_X12_goes P i5 l5 24 [(0, vR (some 99)), (1, vI p0), (2, vI r5), (3, vI p0), (4, vI 0)] []))) : gI w d X_X12_goes P i l 0 [(0, vR (some 99)), (1, vI p0)] [] := by
  obtain ⟨ob1, ob3, h⟩ := h
  refine g_aload_n (pc' := 1) 0 dX12_goes_0 rfl rfl ?_
  refine g_aload_n (pc' := 2) 0 dX12_goes_1 rfl rfl ?_
  refine g_getR (pc' := 5) (o := some 101) fl_X12_20 rfl rfl rfl dX12_goes_2 rfl ?_
  refine g_bipush (pc' := 7) dX12_goes_5 rfl rfl ?_
  refine g_iload_n (pc' := 8) 1 dX12_goes_7 rfl rfl ?_
  refine g_iadd (pc' := 9) dX12_goes_8 rfl ?_
  refine g_iald (pc' := 10) (N := 5120) rfl rfl (Nat.lt_of_lt_of_le (Nat.lt_succ_self _) (Nat.le_of_ble_eq_true rfl)) ob1 dX12_goes_9 rfl (fun rg2 => ?_)
  refine g_pSI (pc' := 13) (vs := [vI (i 101 (104 + p0))]) (st := [vR (some 99)]) (val := popI (i 101 (104 + p0))) (sp_X12_ones (le_hd hd rfl) ob3) mk_X12_ones ms_X12_ones lk_X12_327 rfl (Nat.le_of_ble_eq_true rfl) (Nat.le_of_ble_eq_true rfl) rfl dX12_goes_10 rfl z2 (fun rg4 => ?_)
  refine g_iconst (pc' := 14) dX12_goes_13 rfl ?_
  refine g_iadd (pc' := 15) dX12_goes_14 rfl ?_
  refine g_cVI (pc' := 18) (vs := [vI ((popI (i 101 (104 + p0))) + 1)]) (st := []) (c := 12) h mv_X12_draws lk_X12_426 rfl rfl rfl rfl (Nat.le_of_ble_eq_true rfl) (Nat.le_of_ble_eq_true rfl) rfl dX12_goes_15 rfl z2 (fun r5 i5 l5 rg5 h => ?_)
  refine g_istore_n (pc' := 19) (L' := [(2, vI r5), (0, vR (some 99)), (1, vI p0)]) dX12_goes_18 rfl (Nat.le_of_ble_eq_true rfl) rfl ?_
  refine g_iload_n (pc' := 20) 2 dX12_goes_19 rfl rfl ?_
  refine g_istore_n (pc' := 21) (L' := [(3, vI p0), (2, vI r5), (0, vR (some 99)), (1, vI p0)]) dX12_goes_20 rfl (Nat.le_of_ble_eq_true rfl) rfl ?_
  refine g_iconst (pc' := 22) dX12_goes_21 rfl ?_
  refine g_istore (pc' := 24) (L' := [(4, vI 0), (3, vI p0), (2, vI r5), (0, vR (some 99)), (1, vI p0)]) dX12_goes_22 rfl (Nat.le_of_ble_eq_true rfl) rfl ?_
  refine g_sub (L' := [(0, vR (some 99)), (1, vI p0), (2, vI r5), (3, vI p0), (4, vI 0)]) [3, 4, 2, 1, 0] rfl ?_
  exact h
theorem e_X12_goes {w : Wd} {d : Nat} {P : Int → IM → LM → Prop} {i : IM} {l : LM} {p0 : Int}  (h : gI w d X_X12_goes P i l 0 [(0, vR (some 99)), (1, vI p0)] []) : cI w (d + 1) X_X12_goes [vR (some 99), vI p0] i l P := CI_of (by decide +kernel) (Nat.le_of_ble_eq_true rfl) h
set_option maxRecDepth 20000 in
theorem s_X12_goes_24 {w : Wd} {d : Nat} {P : Int → IM → LM → Prop} {i : IM} {l : LM} (x1 : Int) (x2 : Int) (x3 : Int) (x4 : Int)  (hd : 1 ≤ d) (h : ((rg x4) ∧ (¬ (10 ≤ x4) → rg x2) ∧ (¬ (10 ≤ x4) → ¬ (x2 ≤ 0) → 0 ≤ 104 + x1 ∧ 104 + x1 < 5120) ∧ (((10 ≤ x4) ∨ (x2 ≤ 0)) → ((rg x3) ∧ P x3 i l)) ∧ ((¬ (10 ≤ x4) ∧ (¬ (x2 ≤ 0) ∧ (iand (ishr (i 101 (104 + x1)) x4) 1 = 1))) → gI w d X_X12_goes P i l 24 [(0, vR (some 99)), (1, vI x1), (2, vI (x2 + (-1))), (3, vI x4), (4, vI (x4 + 1))] []) ∧ ((¬ (10 ≤ x4) ∧ (¬ (x2 ≤ 0) ∧ (¬ (iand (ishr (i 101 (104 + x1)) x4) 1 = 1)))) → gI w d X_X12_goes P i l 24 [(0, vR (some 99)), (1, vI x1), (2, vI x2), (3, vI x3), (4, vI (x4 + 1))] []))) : gI w d X_X12_goes P i l 24 [(0, vR (some 99)), (1, vI x1), (2, vI x2), (3, vI x3), (4, vI x4)] [] := by
  refine g_iload (pc' := 26) 4 dX12_goes_24 rfl rfl ?_
  refine g_bipush (pc' := 28) dX12_goes_26 rfl rfl ?_
  obtain ⟨hob7, hob9, hob11, hk16, hk17, hk18⟩ := h
  have hk16g : ((10 ≤ x4) ∨ (x2 ≤ 0)) → gI w d X_X12_goes P i l 67 [(0, vR (some 99)), (1, vI x1), (2, vI x2), (3, vI x3), (4, vI x4)] [] := by
    intro hp
    have h := hk16 hp
    obtain ⟨ob15, h⟩ := h
    refine g_iload_n (pc' := 68) 3 dX12_goes_67 rfl rfl ?_
    exact g_retI rfl ob15 dX12_goes_68 h
  have hk17g : (¬ (10 ≤ x4) ∧ (¬ (x2 ≤ 0) ∧ (iand (ishr (i 101 (104 + x1)) x4) 1 = 1))) → gI w d X_X12_goes P i l 55 [(0, vR (some 99)), (1, vI x1), (2, vI x2), (3, vI x3), (4, vI x4)] [] := by
    intro hp
    have h := hk17 hp
    refine g_iinc (pc' := 58) (L' := [(2, vI (x2 + (-1))), (0, vR (some 99)), (1, vI x1), (3, vI x3), (4, vI x4)]) 2 dX12_goes_55 rfl (Nat.le_of_ble_eq_true rfl) rfl rfl ?_
    refine g_iload (pc' := 60) 4 dX12_goes_58 rfl rfl ?_
    refine g_istore_n (pc' := 61) (L' := [(3, vI x4), (2, vI (x2 + (-1))), (0, vR (some 99)), (1, vI x1), (4, vI x4)]) dX12_goes_60 rfl (Nat.le_of_ble_eq_true rfl) rfl ?_
    refine g_iinc (pc' := 64) (L' := [(4, vI (x4 + 1)), (3, vI x4), (2, vI (x2 + (-1))), (0, vR (some 99)), (1, vI x1)]) 4 dX12_goes_61 rfl (Nat.le_of_ble_eq_true rfl) rfl rfl ?_
    refine g_goto (tgt := 24) dX12_goes_64 rfl ?_
    refine g_sub (L' := [(0, vR (some 99)), (1, vI x1), (2, vI (x2 + (-1))), (3, vI x4), (4, vI (x4 + 1))]) [3, 4, 2, 1, 0] rfl ?_
    exact h
  have hk18g : (¬ (10 ≤ x4) ∧ (¬ (x2 ≤ 0) ∧ (¬ (iand (ishr (i 101 (104 + x1)) x4) 1 = 1)))) → gI w d X_X12_goes P i l 61 [(0, vR (some 99)), (1, vI x1), (2, vI x2), (3, vI x3), (4, vI x4)] [] := by
    intro hp
    have h := hk18 hp
    refine g_iinc (pc' := 64) (L' := [(4, vI (x4 + 1)), (0, vR (some 99)), (1, vI x1), (2, vI x2), (3, vI x3)]) 4 dX12_goes_61 rfl (Nat.le_of_ble_eq_true rfl) rfl rfl ?_
    refine g_goto (tgt := 24) dX12_goes_64 rfl ?_
    refine g_sub (L' := [(0, vR (some 99)), (1, vI x1), (2, vI x2), (3, vI x3), (4, vI (x4 + 1))]) [1, 2, 3, 4, 0] rfl ?_
    exact h
  refine g_icmp_ge (tgt := 67) (pc' := 31) (hob7) (rg_lit rfl) Iff.rfl dX12_goes_28 rfl rfl (fun c8 => ?_) (fun c8 => ?_)
  · exact hk16g (Or.inl c8)
  · refine g_iload_n (pc' := 32) 2 dX12_goes_31 rfl rfl ?_
    refine g_if_le (tgt := 67) (pc' := 35) (hob9 c8) Iff.rfl dX12_goes_32 rfl rfl (fun c10 => ?_) (fun c10 => ?_)
    · exact hk16g (Or.inr c10)
    · refine g_aload_n (pc' := 36) 0 dX12_goes_35 rfl rfl ?_
      refine g_getR (pc' := 39) (o := some 101) fl_X12_20 rfl rfl rfl dX12_goes_36 rfl ?_
      refine g_bipush (pc' := 41) dX12_goes_39 rfl rfl ?_
      refine g_iload_n (pc' := 42) 1 dX12_goes_41 rfl rfl ?_
      refine g_iadd (pc' := 43) dX12_goes_42 rfl ?_
      refine g_iald (pc' := 44) (N := 5120) rfl rfl (Nat.lt_of_lt_of_le (Nat.lt_succ_self _) (Nat.le_of_ble_eq_true rfl)) (hob11 c8 c10) dX12_goes_43 rfl (fun rg12 => ?_)
      refine g_iload (pc' := 46) 4 dX12_goes_44 rfl rfl ?_
      refine g_pSI (pc' := 49) (vs := [vI (i 101 (104 + x1)), vI x4]) (st := []) (val := bI (iand (ishr (i 101 (104 + x1)) x4) 1 = 1)) (sp_X12_isIn (le_hd hd rfl) ) mk_X12_isIn ms_X12_isIn lk_X12_147 rfl (Nat.le_of_ble_eq_true rfl) (Nat.le_of_ble_eq_true rfl) rfl dX12_goes_46 rfl z2 (fun rg13 => ?_)
      refine g_if_ne (tgt := 55) (pc' := 52) rg13 (bI_eq _) dX12_goes_49 rfl rfl (fun c14n => ?_) (fun c14 => ?_)
      · have c14 := Decidable.of_not_not c14n
        exact hk17g ⟨c8, ⟨c10, c14⟩⟩
      · refine g_goto (tgt := 61) dX12_goes_52 rfl ?_
        exact hk18g ⟨c8, ⟨c10, c14⟩⟩

theorem dX12_day_0 : decode cX12_day 0 = .ok (.iload_n 1, 1) := by decide +kernel
theorem dX12_day_1 : decode cX12_day 1 = .ok (.iconst 0, 1) := by decide +kernel
theorem dX12_day_2 : decode cX12_day 2 = .ok (.ldc 192, 2) := by decide +kernel
theorem dX12_day_4 : decode cX12_day 4 = .ok (.invokestatic 106, 3) := by decide +kernel
theorem dX12_day_7 : decode cX12_day 7 = .ok (.ifCond .ne 9, 3) := by decide +kernel
theorem dX12_day_10 : decode cX12_day 10 = .ok (.aload_n 0, 1) := by decide +kernel
theorem dX12_day_11 : decode cX12_day 11 = .ok (.iconst (-1), 1) := by decide +kernel
theorem dX12_day_12 : decode cX12_day 12 = .ok (.invokevirtual 110, 3) := by decide +kernel
theorem dX12_day_15 : decode cX12_day 15 = .ok (.ireturn, 1) := by decide +kernel
theorem dX12_day_16 : decode cX12_day 16 = .ok (.aload_n 0, 1) := by decide +kernel
theorem dX12_day_17 : decode cX12_day 17 = .ok (.iload_n 1, 1) := by decide +kernel
theorem dX12_day_18 : decode cX12_day 18 = .ok (.putfield 419, 3) := by decide +kernel
theorem dX12_day_21 : decode cX12_day 21 = .ok (.aload_n 0, 1) := by decide +kernel
theorem dX12_day_22 : decode cX12_day 22 = .ok (.aload_n 0, 1) := by decide +kernel
theorem dX12_day_23 : decode cX12_day 23 = .ok (.invokevirtual 124, 3) := by decide +kernel
theorem dX12_day_26 : decode cX12_day 26 = .ok (.putfield 103, 3) := by decide +kernel
theorem dX12_day_29 : decode cX12_day 29 = .ok (.iconst 0, 1) := by decide +kernel
theorem dX12_day_30 : decode cX12_day 30 = .ok (.istore_n 2, 1) := by decide +kernel
theorem dX12_day_31 : decode cX12_day 31 = .ok (.iconst 0, 1) := by decide +kernel
theorem dX12_day_32 : decode cX12_day 32 = .ok (.istore_n 3, 1) := by decide +kernel
theorem dX12_day_33 : decode cX12_day 33 = .ok (.iload_n 3, 1) := by decide +kernel
theorem dX12_day_34 : decode cX12_day 34 = .ok (.bipush 120, 2) := by decide +kernel
theorem dX12_day_36 : decode cX12_day 36 = .ok (.if_icmp .ge 185, 3) := by decide +kernel
theorem dX12_day_39 : decode cX12_day 39 = .ok (.iconst 0, 1) := by decide +kernel
theorem dX12_day_40 : decode cX12_day 40 = .ok (.istore 4, 2) := by decide +kernel
theorem dX12_day_42 : decode cX12_day 42 = .ok (.iload 4, 2) := by decide +kernel
theorem dX12_day_44 : decode cX12_day 44 = .ok (.aload_n 0, 1) := by decide +kernel
theorem dX12_day_45 : decode cX12_day 45 = .ok (.getfield 103, 3) := by decide +kernel
theorem dX12_day_48 : decode cX12_day 48 = .ok (.if_icmp .ge 50, 3) := by decide +kernel
theorem dX12_day_51 : decode cX12_day 51 = .ok (.aload_n 0, 1) := by decide +kernel
theorem dX12_day_52 : decode cX12_day 52 = .ok (.getfield 100, 3) := by decide +kernel
theorem dX12_day_55 : decode cX12_day 55 = .ok (.iconst 5, 1) := by decide +kernel
theorem dX12_day_56 : decode cX12_day 56 = .ok (.iload_n 3, 1) := by decide +kernel
theorem dX12_day_57 : decode cX12_day 57 = .ok (.imul, 1) := by decide +kernel
theorem dX12_day_58 : decode cX12_day 58 = .ok (.iload 4, 2) := by decide +kernel
theorem dX12_day_60 : decode cX12_day 60 = .ok (.iadd, 1) := by decide +kernel
theorem dX12_day_61 : decode cX12_day 61 = .ok (.iload_n 3, 1) := by decide +kernel
theorem dX12_day_62 : decode cX12_day 62 = .ok (.ifCond .ne 12, 3) := by decide +kernel
theorem dX12_day_65 : decode cX12_day 65 = .ok (.aload_n 0, 1) := by decide +kernel
theorem dX12_day_66 : decode cX12_day 66 = .ok (.bipush 10, 2) := by decide +kernel
theorem dX12_day_68 : decode cX12_day 68 = .ok (.invokevirtual 426, 3) := by decide +kernel
theorem dX12_day_71 : decode cX12_day 71 = .ok (.goto 20, 3) := by decide +kernel
theorem dX12_day_74 : decode cX12_day 74 = .ok (.aload_n 0, 1) := by decide +kernel
theorem dX12_day_75 : decode cX12_day 75 = .ok (.aload_n 0, 1) := by decide +kernel
theorem dX12_day_76 : decode cX12_day 76 = .ok (.getfield 100, 3) := by decide +kernel
theorem dX12_day_79 : decode cX12_day 79 = .ok (.iconst 5, 1) := by decide +kernel
theorem dX12_day_80 : decode cX12_day 80 = .ok (.iload_n 3, 1) := by decide +kernel
theorem dX12_day_81 : decode cX12_day 81 = .ok (.iconst 1, 1) := by decide +kernel
theorem dX12_day_82 : decode cX12_day 82 = .ok (.isub, 1) := by decide +kernel
theorem dX12_day_83 : decode cX12_day 83 = .ok (.imul, 1) := by decide +kernel
theorem dX12_day_84 : decode cX12_day 84 = .ok (.iload 4, 2) := by decide +kernel
theorem dX12_day_86 : decode cX12_day 86 = .ok (.iadd, 1) := by decide +kernel
theorem dX12_day_87 : decode cX12_day 87 = .ok (.iaload, 1) := by decide +kernel
theorem dX12_day_88 : decode cX12_day 88 = .ok (.invokevirtual 429, 3) := by decide +kernel
theorem dX12_day_91 : decode cX12_day 91 = .ok (.iastore, 1) := by decide +kernel
theorem dX12_day_92 : decode cX12_day 92 = .ok (.iinc 4 1, 3) := by decide +kernel
theorem dX12_day_95 : decode cX12_day 95 = .ok (.goto (-53), 3) := by decide +kernel
theorem dX12_day_98 : decode cX12_day 98 = .ok (.iconst 0, 1) := by decide +kernel
theorem dX12_day_99 : decode cX12_day 99 = .ok (.istore 4, 2) := by decide +kernel
theorem dX12_day_101 : decode cX12_day 101 = .ok (.iload 4, 2) := by decide +kernel
theorem dX12_day_103 : decode cX12_day 103 = .ok (.aload_n 0, 1) := by decide +kernel
theorem dX12_day_104 : decode cX12_day 104 = .ok (.invokevirtual 121, 3) := by decide +kernel
theorem dX12_day_107 : decode cX12_day 107 = .ok (.if_icmp .ge 108, 3) := by decide +kernel
theorem dX12_day_110 : decode cX12_day 110 = .ok (.aload_n 0, 1) := by decide +kernel
theorem dX12_day_111 : decode cX12_day 111 = .ok (.iload 4, 2) := by decide +kernel
theorem dX12_day_113 : decode cX12_day 113 = .ok (.aload_n 0, 1) := by decide +kernel
theorem dX12_day_114 : decode cX12_day 114 = .ok (.getfield 20, 3) := by decide +kernel
theorem dX12_day_117 : decode cX12_day 117 = .ok (.sipush 313, 3) := by decide +kernel
theorem dX12_day_120 : decode cX12_day 120 = .ok (.iaload, 1) := by decide +kernel
theorem dX12_day_121 : decode cX12_day 121 = .ok (.iload_n 3, 1) := by decide +kernel
theorem dX12_day_122 : decode cX12_day 122 = .ok (.invokevirtual 318, 3) := by decide +kernel
theorem dX12_day_125 : decode cX12_day 125 = .ok (.istore 5, 2) := by decide +kernel
theorem dX12_day_127 : decode cX12_day 127 = .ok (.iconst 0, 1) := by decide +kernel
theorem dX12_day_128 : decode cX12_day 128 = .ok (.istore 6, 2) := by decide +kernel
theorem dX12_day_130 : decode cX12_day 130 = .ok (.iload 6, 2) := by decide +kernel
theorem dX12_day_132 : decode cX12_day 132 = .ok (.aload_n 0, 1) := by decide +kernel
theorem dX12_day_133 : decode cX12_day 133 = .ok (.getfield 103, 3) := by decide +kernel
theorem dX12_day_136 : decode cX12_day 136 = .ok (.if_icmp .ge 42, 3) := by decide +kernel
theorem dX12_day_139 : decode cX12_day 139 = .ok (.iload 5, 2) := by decide +kernel
theorem dX12_day_141 : decode cX12_day 141 = .ok (.aload_n 0, 1) := by decide +kernel
theorem dX12_day_142 : decode cX12_day 142 = .ok (.iload 4, 2) := by decide +kernel
theorem dX12_day_144 : decode cX12_day 144 = .ok (.iload 6, 2) := by decide +kernel
theorem dX12_day_146 : decode cX12_day 146 = .ok (.aload_n 0, 1) := by decide +kernel
theorem dX12_day_147 : decode cX12_day 147 = .ok (.getfield 100, 3) := by decide +kernel
theorem dX12_day_150 : decode cX12_day 150 = .ok (.iconst 5, 1) := by decide +kernel
theorem dX12_day_151 : decode cX12_day 151 = .ok (.iload_n 3, 1) := by decide +kernel
theorem dX12_day_152 : decode cX12_day 152 = .ok (.imul, 1) := by decide +kernel
theorem dX12_day_153 : decode cX12_day 153 = .ok (.iload 6, 2) := by decide +kernel
theorem dX12_day_155 : decode cX12_day 155 = .ok (.iadd, 1) := by decide +kernel
theorem dX12_day_156 : decode cX12_day 156 = .ok (.iaload, 1) := by decide +kernel
theorem dX12_day_157 : decode cX12_day 157 = .ok (.aload_n 0, 1) := by decide +kernel
theorem dX12_day_158 : decode cX12_day 158 = .ok (.getfield 20, 3) := by decide +kernel
theorem dX12_day_161 : decode cX12_day 161 = .ok (.sipush 313, 3) := by decide +kernel
theorem dX12_day_164 : decode cX12_day 164 = .ok (.iaload, 1) := by decide +kernel
theorem dX12_day_165 : decode cX12_day 165 = .ok (.iload_n 3, 1) := by decide +kernel
theorem dX12_day_166 : decode cX12_day 166 = .ok (.invokevirtual 321, 3) := by decide +kernel
theorem dX12_day_169 : decode cX12_day 169 = .ok (.ior, 1) := by decide +kernel
theorem dX12_day_170 : decode cX12_day 170 = .ok (.istore 5, 2) := by decide +kernel
theorem dX12_day_172 : decode cX12_day 172 = .ok (.iinc 6 1, 3) := by decide +kernel
theorem dX12_day_175 : decode cX12_day 175 = .ok (.goto (-45), 3) := by decide +kernel
theorem dX12_day_178 : decode cX12_day 178 = .ok (.iload_n 2, 1) := by decide +kernel
theorem dX12_day_179 : decode cX12_day 179 = .ok (.iload 5, 2) := by decide +kernel
theorem dX12_day_181 : decode cX12_day 181 = .ok (.invokestatic 327, 3) := by decide +kernel
theorem dX12_day_184 : decode cX12_day 184 = .ok (.aload_n 0, 1) := by decide +kernel
theorem dX12_day_185 : decode cX12_day 185 = .ok (.iload 4, 2) := by decide +kernel
theorem dX12_day_187 : decode cX12_day 187 = .ok (.aload_n 0, 1) := by decide +kernel
theorem dX12_day_188 : decode cX12_day 188 = .ok (.getfield 20, 3) := by decide +kernel
theorem dX12_day_191 : decode cX12_day 191 = .ok (.sipush 313, 3) := by decide +kernel
theorem dX12_day_194 : decode cX12_day 194 = .ok (.iaload, 1) := by decide +kernel
theorem dX12_day_195 : decode cX12_day 195 = .ok (.iload_n 3, 1) := by decide +kernel
theorem dX12_day_196 : decode cX12_day 196 = .ok (.invokevirtual 330, 3) := by decide +kernel
theorem dX12_day_199 : decode cX12_day 199 = .ok (.if_icmp .gt 7, 3) := by decide +kernel
theorem dX12_day_202 : decode cX12_day 202 = .ok (.iconst 0, 1) := by decide +kernel
theorem dX12_day_203 : decode cX12_day 203 = .ok (.goto 4, 3) := by decide +kernel
theorem dX12_day_206 : decode cX12_day 206 = .ok (.iconst 1, 1) := by decide +kernel
theorem dX12_day_207 : decode cX12_day 207 = .ok (.iadd, 1) := by decide +kernel
theorem dX12_day_208 : decode cX12_day 208 = .ok (.istore_n 2, 1) := by decide +kernel
theorem dX12_day_209 : decode cX12_day 209 = .ok (.iinc 4 1, 3) := by decide +kernel
theorem dX12_day_212 : decode cX12_day 212 = .ok (.goto (-111), 3) := by decide +kernel
theorem dX12_day_215 : decode cX12_day 215 = .ok (.iinc 3 1, 3) := by decide +kernel
theorem dX12_day_218 : decode cX12_day 218 = .ok (.goto (-185), 3) := by decide +kernel
theorem dX12_day_221 : decode cX12_day 221 = .ok (.aload_n 0, 1) := by decide +kernel
theorem dX12_day_222 : decode cX12_day 222 = .ok (.iload_n 2, 1) := by decide +kernel
theorem dX12_day_223 : decode cX12_day 223 = .ok (.invokevirtual 114, 3) := by decide +kernel
theorem dX12_day_226 : decode cX12_day 226 = .ok (.ireturn, 1) := by decide +kernel
set_option maxRecDepth 20000 in
theorem s_X12_day {w : Wd} {d : Nat} {P : Int → IM → LM → Prop} {i : IM} {l : LM} (p0 : Int)  (hd : 1 ≤ d) (h : ((rg p0) ∧ (((0 ≤ p0 ∧ p0 ≤ 1000000) → gI w d X_X12_day P (u2 (u2 i 99 51 p0) 99 50 ((u2 i 99 51 p0) 101 309)) l 33 [(0, vR (some 99)), (2, vI 0), (3, vI 0)] []) ∧ ((¬ (0 ≤ p0 ∧ p0 ≤ 1000000)) → cI w d X_X12_refuses [vR (some 99), vI (-1)] i l (fun r6 i6 l6 => P r6 i6 l6))))) : gI w d X_X12_day P i l 0 [(0, vR (some 99)), (1, vI p0)] [] := by
  obtain ⟨ob1, h⟩ := h
  refine g_iload_n (pc' := 1) 1 dX12_day_0 rfl rfl ?_
  refine g_iconst (pc' := 2) dX12_day_1 rfl ?_
  refine g_ldc (pc' := 4) dX12_day_2 rfl kc_X12_192 ?_
  refine g_pSI (pc' := 7) (vs := [vI p0, vI 0, vI 1000000]) (st := []) (val := bI (0 ≤ p0 ∧ p0 ≤ 1000000)) (sp_X12_lies (le_hd hd rfl) ob1 (rg_lit rfl) (rg_lit rfl)) mk_X12_lies ms_X12_lies lk_X12_106 rfl (Nat.le_of_ble_eq_true rfl) (Nat.le_of_ble_eq_true rfl) rfl dX12_day_4 rfl z2 (fun rg2 => ?_)
  obtain ⟨hk7, hk8⟩ := h
  have hk7g : (0 ≤ p0 ∧ p0 ≤ 1000000) → gI w d X_X12_day P i l 16 [(0, vR (some 99)), (1, vI p0)] [] := by
    intro hp
    have h := hk7 hp
    refine g_aload_n (pc' := 17) 0 dX12_day_16 rfl rfl ?_
    refine g_iload_n (pc' := 18) 1 dX12_day_17 rfl rfl ?_
    refine g_putI (pc' := 21) (z := 51) rfl fp_X12_419 rfl rfl ob1 dX12_day_18 rfl ?_
    refine g_aload_n (pc' := 22) 0 dX12_day_21 rfl rfl ?_
    refine g_aload_n (pc' := 23) 0 dX12_day_22 rfl rfl ?_
    refine g_pVI (pc' := 26) (vs := []) (st := [vR (some 99)]) (val := (u2 i 99 51 p0) 101 309) (c := 12) (sp_X12_people (le_hd hd rfl) ) mv_X12_people lk_X12_124 rfl rfl rfl rfl (Nat.le_of_ble_eq_true rfl) (Nat.le_of_ble_eq_true rfl) rfl dX12_day_23 rfl z2 (fun rg5 => ?_)
    refine g_putI (pc' := 29) (z := 50) rfl fp_X12_103 rfl rfl rg5 dX12_day_26 rfl ?_
    refine g_iconst (pc' := 30) dX12_day_29 rfl ?_
    refine g_istore_n (pc' := 31) (L' := [(2, vI 0), (0, vR (some 99)), (1, vI p0)]) dX12_day_30 rfl (Nat.le_of_ble_eq_true rfl) rfl ?_
    refine g_iconst (pc' := 32) dX12_day_31 rfl ?_
    refine g_istore_n (pc' := 33) (L' := [(3, vI 0), (2, vI 0), (0, vR (some 99)), (1, vI p0)]) dX12_day_32 rfl (Nat.le_of_ble_eq_true rfl) rfl ?_
    refine g_sub (L' := [(0, vR (some 99)), (2, vI 0), (3, vI 0)]) [2, 1, 0] rfl ?_
    exact h
  have hk8g : (¬ (0 ≤ p0 ∧ p0 ≤ 1000000)) → gI w d X_X12_day P i l 10 [(0, vR (some 99)), (1, vI p0)] [] := by
    intro hp
    have h := hk8 hp
    refine g_aload_n (pc' := 11) 0 dX12_day_10 rfl rfl ?_
    refine g_iconst (pc' := 12) dX12_day_11 rfl ?_
    refine g_cVI (pc' := 15) (vs := [vI (-1)]) (st := []) (c := 12) h mv_X12_refuses lk_X12_110 rfl rfl rfl rfl (Nat.le_of_ble_eq_true rfl) (Nat.le_of_ble_eq_true rfl) rfl dX12_day_12 rfl z2 (fun r6 i6 l6 rg6 h => ?_)
    exact g_retI rfl rg6 dX12_day_15 h
  refine g_if_ne (tgt := 16) (pc' := 10) rg2 (bI_eq _) dX12_day_7 rfl rfl (fun c4n => ?_) (fun c4 => ?_)
  · have c4 := Decidable.of_not_not c4n
    exact hk7g c4
  · exact hk8g c4
theorem e_X12_day {w : Wd} {d : Nat} {P : Int → IM → LM → Prop} {i : IM} {l : LM} {p0 : Int}  (h : gI w d X_X12_day P i l 0 [(0, vR (some 99)), (1, vI p0)] []) : cI w (d + 1) X_X12_day [vR (some 99), vI p0] i l P := CI_of (by decide +kernel) (Nat.le_of_ble_eq_true rfl) h
set_option maxRecDepth 20000 in
theorem s_X12_day_33 {w : Wd} {d : Nat} {P : Int → IM → LM → Prop} {i : IM} {l : LM} (x2 : Int) (x3 : Int)  (h : ((rg x3) ∧ ((120 ≤ x3) → cI w d X_X12_good [vR (some 99), vI x2] i l (fun r12 i12 l12 => P r12 i12 l12)) ∧ ((¬ (120 ≤ x3)) → gI w d X_X12_day P i l 42 [(0, vR (some 99)), (2, vI x2), (3, vI x3), (4, vI 0)] []))) : gI w d X_X12_day P i l 33 [(0, vR (some 99)), (2, vI x2), (3, vI x3)] [] := by
  refine g_iload_n (pc' := 34) 2 dX12_day_33 rfl rfl ?_
  refine g_bipush (pc' := 36) dX12_day_34 rfl rfl ?_
  obtain ⟨hob10, hk13, hk14⟩ := h
  refine g_icmp_ge (tgt := 221) (pc' := 39) (hob10) (rg_lit rfl) Iff.rfl dX12_day_36 rfl rfl (fun c11 => ?_) (fun c11 => ?_)
  · have h := hk13 c11
    refine g_aload_n (pc' := 222) 0 dX12_day_221 rfl rfl ?_
    refine g_iload_n (pc' := 223) 1 dX12_day_222 rfl rfl ?_
    refine g_cVI (pc' := 226) (vs := [vI x2]) (st := []) (c := 12) h mv_X12_good lk_X12_114 rfl rfl rfl rfl (Nat.le_of_ble_eq_true rfl) (Nat.le_of_ble_eq_true rfl) rfl dX12_day_223 rfl z2 (fun r12 i12 l12 rg12 h => ?_)
    exact g_retI rfl rg12 dX12_day_226 h
  · have h := hk14 c11
    refine g_iconst (pc' := 40) dX12_day_39 rfl ?_
    refine g_istore (pc' := 42) (L' := [(4, vI 0), (0, vR (some 99)), (2, vI x2), (3, vI x3)]) dX12_day_40 rfl (Nat.le_of_ble_eq_true rfl) rfl ?_
    refine g_sub (L' := [(0, vR (some 99)), (2, vI x2), (3, vI x3), (4, vI 0)]) [1, 2, 3, 0] rfl ?_
    exact h
set_option maxRecDepth 20000 in
theorem s_X12_day_42 {w : Wd} {d : Nat} {P : Int → IM → LM → Prop} {i : IM} {l : LM} (x2 : Int) (x3 : Int) (x4 : Int)  (h : ((rg x4) ∧ (¬ (i 99 50 ≤ x4) → rg x3) ∧ ((i 99 50 ≤ x4) → gI w d X_X12_day P i l 101 [(0, vR (some 99)), (2, vI x2), (3, vI x3), (4, vI 0)] []) ∧ ((¬ (i 99 50 ≤ x4) ∧ (¬ (x3 = 0))) → ((0 ≤ (5 * (x3 - 1)) + x4 ∧ (5 * (x3 - 1)) + x4 < 600) ∧ cI w d X_X12_goes [vR (some 99), vI (i 124 ((5 * (x3 - 1)) + x4))] i l (fun r25 i25 l25 => ((0 ≤ (5 * x3) + x4 ∧ (5 * x3) + x4 < 600) ∧ gI w d X_X12_day P (u2 i25 124 ((5 * x3) + x4) r25) l25 42 [(0, vR (some 99)), (2, vI x2), (3, vI x3), (4, vI (x4 + 1))] [])))) ∧ ((¬ (i 99 50 ≤ x4) ∧ (x3 = 0)) → cI w d X_X12_draws [vR (some 99), vI 10] i l (fun r27 i27 l27 => ((0 ≤ (5 * x3) + x4 ∧ (5 * x3) + x4 < 600) ∧ gI w d X_X12_day P (u2 i27 124 ((5 * x3) + x4) r27) l27 42 [(0, vR (some 99)), (2, vI x2), (3, vI x3), (4, vI (x4 + 1))] []))))) : gI w d X_X12_day P i l 42 [(0, vR (some 99)), (2, vI x2), (3, vI x3), (4, vI x4)] [] := by
  refine g_iload (pc' := 44) 3 dX12_day_42 rfl rfl ?_
  refine g_aload_n (pc' := 45) 0 dX12_day_44 rfl rfl ?_
  refine g_getI (pc' := 48) (z := 50) rfl fl_X12_103 rfl rfl dX12_day_45 rfl (fun rg15 => ?_)
  obtain ⟨hob17, hob19, hk29, hk30, hk31⟩ := h
  have hk29g : (i 99 50 ≤ x4) → gI w d X_X12_day P i l 98 [(0, vR (some 99)), (2, vI x2), (3, vI x3), (4, vI x4)] [] := by
    intro hp
    have h := hk29 hp
    refine g_iconst (pc' := 99) dX12_day_98 rfl ?_
    refine g_istore (pc' := 101) (L' := [(4, vI 0), (0, vR (some 99)), (2, vI x2), (3, vI x3)]) dX12_day_99 rfl (Nat.le_of_ble_eq_true rfl) rfl ?_
    refine g_sub (L' := [(0, vR (some 99)), (2, vI x2), (3, vI x3), (4, vI 0)]) [1, 2, 3, 0] rfl ?_
    exact h
  have hk30g : (¬ (i 99 50 ≤ x4) ∧ (¬ (x3 = 0))) → gI w d X_X12_day P i l 74 [(0, vR (some 99)), (2, vI x2), (3, vI x3), (4, vI x4)] [vI ((5 * x3) + x4), vR (some 124)] := by
    intro hp
    have h := hk30 hp
    obtain ⟨ob23, h⟩ := h
    refine g_aload_n (pc' := 75) 0 dX12_day_74 rfl rfl ?_
    refine g_aload_n (pc' := 76) 0 dX12_day_75 rfl rfl ?_
    refine g_getR (pc' := 79) (o := some 124) fl_X12_100 rfl rfl rfl dX12_day_76 rfl ?_
    refine g_iconst (pc' := 80) dX12_day_79 rfl ?_
    refine g_iload_n (pc' := 81) 2 dX12_day_80 rfl rfl ?_
    refine g_iconst (pc' := 82) dX12_day_81 rfl ?_
    refine g_isub (pc' := 83) dX12_day_82 rfl ?_
    refine g_imul (pc' := 84) dX12_day_83 rfl ?_
    refine g_iload (pc' := 86) 3 dX12_day_84 rfl rfl ?_
    refine g_iadd (pc' := 87) dX12_day_86 rfl ?_
    refine g_iald (pc' := 88) (N := 600) rfl rfl (Nat.lt_of_lt_of_le (Nat.lt_succ_self _) (Nat.le_of_ble_eq_true rfl)) ob23 dX12_day_87 rfl (fun rg24 => ?_)
    refine g_cVI (pc' := 91) (vs := [vI (i 124 ((5 * (x3 - 1)) + x4))]) (st := [vI ((5 * x3) + x4), vR (some 124)]) (c := 12) h mv_X12_goes lk_X12_429 rfl rfl rfl rfl (Nat.le_of_ble_eq_true rfl) (Nat.le_of_ble_eq_true rfl) rfl dX12_day_88 rfl z2 (fun r25 i25 l25 rg25 h => ?_)
    obtain ⟨ob26, h⟩ := h
    refine g_iast (pc' := 92) (N := 600) rfl rfl (Nat.lt_of_lt_of_le (Nat.lt_succ_self _) (Nat.le_of_ble_eq_true rfl)) ob26 rg25 dX12_day_91 rfl ?_
    refine g_iinc (pc' := 95) (L' := [(4, vI (x4 + 1)), (0, vR (some 99)), (2, vI x2), (3, vI x3)]) 3 dX12_day_92 rfl (Nat.le_of_ble_eq_true rfl) rfl rfl ?_
    refine g_goto (tgt := 42) dX12_day_95 rfl ?_
    refine g_sub (L' := [(0, vR (some 99)), (2, vI x2), (3, vI x3), (4, vI (x4 + 1))]) [1, 2, 3, 0] rfl ?_
    exact h
  have hk31g : (¬ (i 99 50 ≤ x4) ∧ (x3 = 0)) → gI w d X_X12_day P i l 65 [(0, vR (some 99)), (2, vI x2), (3, vI x3), (4, vI x4)] [vI ((5 * x3) + x4), vR (some 124)] := by
    intro hp
    have h := hk31 hp
    refine g_aload_n (pc' := 66) 0 dX12_day_65 rfl rfl ?_
    refine g_bipush (pc' := 68) dX12_day_66 rfl rfl ?_
    refine g_cVI (pc' := 71) (vs := [vI 10]) (st := [vI ((5 * x3) + x4), vR (some 124)]) (c := 12) h mv_X12_draws lk_X12_426 rfl rfl rfl rfl (Nat.le_of_ble_eq_true rfl) (Nat.le_of_ble_eq_true rfl) rfl dX12_day_68 rfl z2 (fun r27 i27 l27 rg27 h => ?_)
    obtain ⟨ob28, h⟩ := h
    refine g_goto (tgt := 91) dX12_day_71 rfl ?_
    refine g_iast (pc' := 92) (N := 600) rfl rfl (Nat.lt_of_lt_of_le (Nat.lt_succ_self _) (Nat.le_of_ble_eq_true rfl)) ob28 rg27 dX12_day_91 rfl ?_
    refine g_iinc (pc' := 95) (L' := [(4, vI (x4 + 1)), (0, vR (some 99)), (2, vI x2), (3, vI x3)]) 3 dX12_day_92 rfl (Nat.le_of_ble_eq_true rfl) rfl rfl ?_
    refine g_goto (tgt := 42) dX12_day_95 rfl ?_
    refine g_sub (L' := [(0, vR (some 99)), (2, vI x2), (3, vI x3), (4, vI (x4 + 1))]) [1, 2, 3, 0] rfl ?_
    exact h
  refine g_icmp_ge (tgt := 98) (pc' := 51) (hob17) rg15 Iff.rfl dX12_day_48 rfl rfl (fun c18 => ?_) (fun c18 => ?_)
  · exact hk29g c18
  · refine g_aload_n (pc' := 52) 0 dX12_day_51 rfl rfl ?_
    refine g_getR (pc' := 55) (o := some 124) fl_X12_100 rfl rfl rfl dX12_day_52 rfl ?_
    refine g_iconst (pc' := 56) dX12_day_55 rfl ?_
    refine g_iload_n (pc' := 57) 2 dX12_day_56 rfl rfl ?_
    refine g_imul (pc' := 58) dX12_day_57 rfl ?_
    refine g_iload (pc' := 60) 3 dX12_day_58 rfl rfl ?_
    refine g_iadd (pc' := 61) dX12_day_60 rfl ?_
    refine g_iload_n (pc' := 62) 2 dX12_day_61 rfl rfl ?_
    refine g_if_ne (tgt := 74) (pc' := 65) (hob19 c18) Iff.rfl dX12_day_62 rfl rfl (fun c20 => ?_) (fun c20 => ?_)
    · exact hk30g ⟨c18, c20⟩
    · exact hk31g ⟨c18, c20⟩
set_option maxRecDepth 20000 in
theorem s_X12_day_101 {w : Wd} {d : Nat} {P : Int → IM → LM → Prop} {i : IM} {l : LM} (x2 : Int) (x3 : Int) (x4 : Int)  (hd : 1 ≤ d) (h : ((rg x4) ∧ ((i 101 308 ≤ x4) → gI w d X_X12_day P i l 33 [(0, vR (some 99)), (2, vI x2), (3, vI (x3 + 1))] []) ∧ ((¬ (i 101 308 ≤ x4)) → cI w d X_X12_thingsSeen [vR (some 99), vI x4, vI (i 101 313), vI x3] i l (fun r38 i38 l38 => gI w d X_X12_day P i38 l38 130 [(0, vR (some 99)), (2, vI x2), (3, vI x3), (4, vI x4), (5, vI r38), (6, vI 0)] [])))) : gI w d X_X12_day P i l 101 [(0, vR (some 99)), (2, vI x2), (3, vI x3), (4, vI x4)] [] := by
  refine g_iload (pc' := 103) 3 dX12_day_101 rfl rfl ?_
  refine g_aload_n (pc' := 104) 0 dX12_day_103 rfl rfl ?_
  refine g_pVI (pc' := 107) (vs := []) (st := [vI x4]) (val := i 101 308) (c := 12) (sp_X12_windows (le_hd hd rfl) ) mv_X12_windows lk_X12_121 rfl rfl rfl rfl (Nat.le_of_ble_eq_true rfl) (Nat.le_of_ble_eq_true rfl) rfl dX12_day_104 rfl z2 (fun rg32 => ?_)
  obtain ⟨hob34, hk39, hk40⟩ := h
  refine g_icmp_ge (tgt := 215) (pc' := 110) (hob34) rg32 Iff.rfl dX12_day_107 rfl rfl (fun c35 => ?_) (fun c35 => ?_)
  · have h := hk39 c35
    refine g_iinc (pc' := 218) (L' := [(3, vI (x3 + 1)), (0, vR (some 99)), (2, vI x2), (4, vI x4)]) 2 dX12_day_215 rfl (Nat.le_of_ble_eq_true rfl) rfl rfl ?_
    refine g_goto (tgt := 33) dX12_day_218 rfl ?_
    refine g_sub (L' := [(0, vR (some 99)), (2, vI x2), (3, vI (x3 + 1))]) [1, 2, 0] rfl ?_
    exact h
  · have h := hk40 c35
    refine g_aload_n (pc' := 111) 0 dX12_day_110 rfl rfl ?_
    refine g_iload (pc' := 113) 3 dX12_day_111 rfl rfl ?_
    refine g_aload_n (pc' := 114) 0 dX12_day_113 rfl rfl ?_
    refine g_getR (pc' := 117) (o := some 101) fl_X12_20 rfl rfl rfl dX12_day_114 rfl ?_
    refine g_sipush (pc' := 120) dX12_day_117 rfl rfl ?_
    refine g_iald (pc' := 121) (N := 5120) rfl rfl (Nat.lt_of_lt_of_le (Nat.lt_succ_self _) (Nat.le_of_ble_eq_true rfl)) (by decide) dX12_day_120 rfl (fun rg37 => ?_)
    refine g_iload_n (pc' := 122) 2 dX12_day_121 rfl rfl ?_
    refine g_cVI (pc' := 125) (vs := [vI x4, vI (i 101 313), vI x3]) (st := []) (c := 12) h mv_X12_thingsSeen lk_X12_318 rfl rfl rfl rfl (Nat.le_of_ble_eq_true rfl) (Nat.le_of_ble_eq_true rfl) rfl dX12_day_122 rfl z2 (fun r38 i38 l38 rg38 h => ?_)
    refine g_istore (pc' := 127) (L' := [(5, vI r38), (0, vR (some 99)), (2, vI x2), (3, vI x3), (4, vI x4)]) dX12_day_125 rfl (Nat.le_of_ble_eq_true rfl) rfl ?_
    refine g_iconst (pc' := 128) dX12_day_127 rfl ?_
    refine g_istore (pc' := 130) (L' := [(6, vI 0), (5, vI r38), (0, vR (some 99)), (2, vI x2), (3, vI x3), (4, vI x4)]) dX12_day_128 rfl (Nat.le_of_ble_eq_true rfl) rfl ?_
    refine g_sub (L' := [(0, vR (some 99)), (2, vI x2), (3, vI x3), (4, vI x4), (5, vI r38), (6, vI 0)]) [2, 3, 4, 5, 1, 0] rfl ?_
    exact h
set_option maxRecDepth 20000 in
theorem s_X12_day_130 {w : Wd} {d : Nat} {P : Int → IM → LM → Prop} {i : IM} {l : LM} (x2 : Int) (x3 : Int) (x4 : Int) (x5 : Int) (x6 : Int)  (hd : 1 ≤ d) (h : ((rg x6) ∧ ((i 99 50 ≤ x6) → ((0 ≤ x5 ∧ x5 < 2147483648) ∧ cI w d X_X12_limitOf [vR (some 99), vI x4, vI (i 101 313), vI x3] i l (fun r54 i54 l54 => gI w d X_X12_day P i54 l54 101 [(0, vR (some 99)), (2, vI (x2 + (bI (r54 < popI x5)))), (3, vI x3), (4, vI (x4 + 1))] []))) ∧ ((¬ (i 99 50 ≤ x6)) → ((0 ≤ (5 * x3) + x6 ∧ (5 * x3) + x6 < 600) ∧ cI w d X_X12_coatBit [vR (some 99), vI x4, vI x6, vI (i 124 ((5 * x3) + x6)), vI (i 101 313), vI x3] i l (fun r60 i60 l60 => gI w d X_X12_day P i60 l60 130 [(0, vR (some 99)), (2, vI x2), (3, vI x3), (4, vI x4), (5, vI (ior x5 r60)), (6, vI (x6 + 1))] []))))) : gI w d X_X12_day P i l 130 [(0, vR (some 99)), (2, vI x2), (3, vI x3), (4, vI x4), (5, vI x5), (6, vI x6)] [] := by
  refine g_iload (pc' := 132) 5 dX12_day_130 rfl rfl ?_
  refine g_aload_n (pc' := 133) 0 dX12_day_132 rfl rfl ?_
  refine g_getI (pc' := 136) (z := 50) rfl fl_X12_103 rfl rfl dX12_day_133 rfl (fun rg41 => ?_)
  obtain ⟨hob43, hk61, hk62⟩ := h
  refine g_icmp_ge (tgt := 178) (pc' := 139) (hob43) rg41 Iff.rfl dX12_day_136 rfl rfl (fun c44 => ?_) (fun c44 => ?_)
  · have h := hk61 c44
    obtain ⟨ob51, h⟩ := h
    refine g_iload_n (pc' := 179) 1 dX12_day_178 rfl rfl ?_
    refine g_iload (pc' := 181) 4 dX12_day_179 rfl rfl ?_
    refine g_pSI (pc' := 184) (vs := [vI x5]) (st := [vI x2]) (val := popI x5) (sp_X12_ones (le_hd hd rfl) ob51) mk_X12_ones ms_X12_ones lk_X12_327 rfl (Nat.le_of_ble_eq_true rfl) (Nat.le_of_ble_eq_true rfl) rfl dX12_day_181 rfl z2 (fun rg52 => ?_)
    refine g_aload_n (pc' := 185) 0 dX12_day_184 rfl rfl ?_
    refine g_iload (pc' := 187) 3 dX12_day_185 rfl rfl ?_
    refine g_aload_n (pc' := 188) 0 dX12_day_187 rfl rfl ?_
    refine g_getR (pc' := 191) (o := some 101) fl_X12_20 rfl rfl rfl dX12_day_188 rfl ?_
    refine g_sipush (pc' := 194) dX12_day_191 rfl rfl ?_
    refine g_iald (pc' := 195) (N := 5120) rfl rfl (Nat.lt_of_lt_of_le (Nat.lt_succ_self _) (Nat.le_of_ble_eq_true rfl)) (by decide) dX12_day_194 rfl (fun rg53 => ?_)
    refine g_iload_n (pc' := 196) 2 dX12_day_195 rfl rfl ?_
    refine g_cVI (pc' := 199) (vs := [vI x4, vI (i 101 313), vI x3]) (st := [vI (popI x5), vI x2]) (c := 12) h mv_X12_limitOf lk_X12_330 rfl rfl rfl rfl (Nat.le_of_ble_eq_true rfl) (Nat.le_of_ble_eq_true rfl) rfl dX12_day_196 rfl z2 (fun r54 i54 l54 rg54 h => ?_)
    have hJ : gI w d X_X12_day P i54 l54 207 [(0, vR (some 99)), (2, vI x2), (3, vI x3), (4, vI x4), (5, vI x5), (6, vI x6)] [vI (bI (r54 < popI x5)), vI x2] := by
      refine g_iadd (pc' := 208) dX12_day_207 rfl ?_
      refine g_istore_n (pc' := 209) (L' := [(2, vI (x2 + (bI (r54 < popI x5)))), (0, vR (some 99)), (3, vI x3), (4, vI x4), (5, vI x5), (6, vI x6)]) dX12_day_208 rfl (Nat.le_of_ble_eq_true rfl) rfl ?_
      refine g_iinc (pc' := 212) (L' := [(4, vI (x4 + 1)), (2, vI (x2 + (bI (r54 < popI x5)))), (0, vR (some 99)), (3, vI x3), (5, vI x5), (6, vI x6)]) 3 dX12_day_209 rfl (Nat.le_of_ble_eq_true rfl) rfl rfl ?_
      refine g_goto (tgt := 101) dX12_day_212 rfl ?_
      refine g_sub (L' := [(0, vR (some 99)), (2, vI (x2 + (bI (r54 < popI x5)))), (3, vI x3), (4, vI (x4 + 1))]) [2, 1, 3, 0] rfl ?_
      exact h
    refine g_icmp_gt (tgt := 206) (pc' := 202) rg52 rg54 Iff.rfl dX12_day_199 rfl rfl (fun c56 => ?_) (fun c56 => ?_)
    · refine g_iconst (pc' := 207) dX12_day_206 rfl ?_
      rw [bI_t (p := (r54 < popI x5)) c56] at hJ
      exact hJ
    · refine g_iconst (pc' := 203) dX12_day_202 rfl ?_
      refine g_goto (tgt := 207) dX12_day_203 rfl ?_
      rw [bI_f (p := (r54 < popI x5)) c56] at hJ
      exact hJ
  · have h := hk62 c44
    obtain ⟨ob57, h⟩ := h
    refine g_iload (pc' := 141) 4 dX12_day_139 rfl rfl ?_
    refine g_aload_n (pc' := 142) 0 dX12_day_141 rfl rfl ?_
    refine g_iload (pc' := 144) 3 dX12_day_142 rfl rfl ?_
    refine g_iload (pc' := 146) 5 dX12_day_144 rfl rfl ?_
    refine g_aload_n (pc' := 147) 0 dX12_day_146 rfl rfl ?_
    refine g_getR (pc' := 150) (o := some 124) fl_X12_100 rfl rfl rfl dX12_day_147 rfl ?_
    refine g_iconst (pc' := 151) dX12_day_150 rfl ?_
    refine g_iload_n (pc' := 152) 2 dX12_day_151 rfl rfl ?_
    refine g_imul (pc' := 153) dX12_day_152 rfl ?_
    refine g_iload (pc' := 155) 5 dX12_day_153 rfl rfl ?_
    refine g_iadd (pc' := 156) dX12_day_155 rfl ?_
    refine g_iald (pc' := 157) (N := 600) rfl rfl (Nat.lt_of_lt_of_le (Nat.lt_succ_self _) (Nat.le_of_ble_eq_true rfl)) ob57 dX12_day_156 rfl (fun rg58 => ?_)
    refine g_aload_n (pc' := 158) 0 dX12_day_157 rfl rfl ?_
    refine g_getR (pc' := 161) (o := some 101) fl_X12_20 rfl rfl rfl dX12_day_158 rfl ?_
    refine g_sipush (pc' := 164) dX12_day_161 rfl rfl ?_
    refine g_iald (pc' := 165) (N := 5120) rfl rfl (Nat.lt_of_lt_of_le (Nat.lt_succ_self _) (Nat.le_of_ble_eq_true rfl)) (by decide) dX12_day_164 rfl (fun rg59 => ?_)
    refine g_iload_n (pc' := 166) 2 dX12_day_165 rfl rfl ?_
    refine g_cVI (pc' := 169) (vs := [vI x4, vI x6, vI (i 124 ((5 * x3) + x6)), vI (i 101 313), vI x3]) (st := [vI x5]) (c := 12) h mv_X12_coatBit lk_X12_321 rfl rfl rfl rfl (Nat.le_of_ble_eq_true rfl) (Nat.le_of_ble_eq_true rfl) rfl dX12_day_166 rfl z2 (fun r60 i60 l60 rg60 h => ?_)
    refine g_ior (pc' := 170) dX12_day_169 rfl ?_
    refine g_istore (pc' := 172) (L' := [(5, vI (ior x5 r60)), (0, vR (some 99)), (2, vI x2), (3, vI x3), (4, vI x4), (6, vI x6)]) dX12_day_170 rfl (Nat.le_of_ble_eq_true rfl) rfl ?_
    refine g_iinc (pc' := 175) (L' := [(6, vI (x6 + 1)), (5, vI (ior x5 r60)), (0, vR (some 99)), (2, vI x2), (3, vI x3), (4, vI x4)]) 5 dX12_day_172 rfl (Nat.le_of_ble_eq_true rfl) rfl rfl ?_
    refine g_goto (tgt := 130) dX12_day_175 rfl ?_
    refine g_sub (L' := [(0, vR (some 99)), (2, vI x2), (3, vI x3), (4, vI x4), (5, vI (ior x5 r60)), (6, vI (x6 + 1))]) [2, 3, 4, 5, 1, 0] rfl ?_
    exact h

theorem dX12_drawn_0 : decode cX12_drawn 0 = .ok (.iload_n 1, 1) := by decide +kernel
theorem dX12_drawn_1 : decode cX12_drawn 1 = .ok (.iconst 0, 1) := by decide +kernel
theorem dX12_drawn_2 : decode cX12_drawn 2 = .ok (.aload_n 0, 1) := by decide +kernel
theorem dX12_drawn_3 : decode cX12_drawn 3 = .ok (.getfield 103, 3) := by decide +kernel
theorem dX12_drawn_6 : decode cX12_drawn 6 = .ok (.iconst 1, 1) := by decide +kernel
theorem dX12_drawn_7 : decode cX12_drawn 7 = .ok (.isub, 1) := by decide +kernel
theorem dX12_drawn_8 : decode cX12_drawn 8 = .ok (.invokestatic 106, 3) := by decide +kernel
theorem dX12_drawn_11 : decode cX12_drawn 11 = .ok (.ifCond .eq 23, 3) := by decide +kernel
theorem dX12_drawn_14 : decode cX12_drawn 14 = .ok (.iload_n 2, 1) := by decide +kernel
theorem dX12_drawn_15 : decode cX12_drawn 15 = .ok (.invokestatic 164, 3) := by decide +kernel
theorem dX12_drawn_18 : decode cX12_drawn 18 = .ok (.ifCond .eq 16, 3) := by decide +kernel
theorem dX12_drawn_21 : decode cX12_drawn 21 = .ok (.aload_n 0, 1) := by decide +kernel
theorem dX12_drawn_22 : decode cX12_drawn 22 = .ok (.getfield 100, 3) := by decide +kernel
theorem dX12_drawn_25 : decode cX12_drawn 25 = .ok (.iconst 5, 1) := by decide +kernel
theorem dX12_drawn_26 : decode cX12_drawn 26 = .ok (.iload_n 2, 1) := by decide +kernel
theorem dX12_drawn_27 : decode cX12_drawn 27 = .ok (.imul, 1) := by decide +kernel
theorem dX12_drawn_28 : decode cX12_drawn 28 = .ok (.iload_n 1, 1) := by decide +kernel
theorem dX12_drawn_29 : decode cX12_drawn 29 = .ok (.iadd, 1) := by decide +kernel
theorem dX12_drawn_30 : decode cX12_drawn 30 = .ok (.iaload, 1) := by decide +kernel
theorem dX12_drawn_31 : decode cX12_drawn 31 = .ok (.goto 4, 3) := by decide +kernel
theorem dX12_drawn_34 : decode cX12_drawn 34 = .ok (.iconst (-1), 1) := by decide +kernel
theorem dX12_drawn_35 : decode cX12_drawn 35 = .ok (.ireturn, 1) := by decide +kernel
set_option maxRecDepth 20000 in
theorem s_X12_drawn {w : Wd} {d : Nat} {P : Int → IM → LM → Prop} {i : IM} {l : LM} (p0 : Int) (p1 : Int)  (hd : 2 ≤ d) (h : ((rg p0) ∧ (rg ((i 99 50) - 1)) ∧ (((0 ≤ p0 ∧ p0 ≤ (i 99 50) - 1) → rg p1) ∧ ((0 ≤ p0 ∧ p0 ≤ (i 99 50) - 1) → (0 ≤ p1 ∧ p1 ≤ 119) → 0 ≤ (5 * p1) + p0 ∧ (5 * p1) + p0 < 600) ∧ P (if (0 ≤ p0 ∧ p0 ≤ (i 99 50) - 1) then (if (0 ≤ p1 ∧ p1 ≤ 119) then i 124 ((5 * p1) + p0) else (-1)) else (-1)) i l))) : gI w d X_X12_drawn P i l 0 [(0, vR (some 99)), (1, vI p0), (2, vI p1)] [] := by
  obtain ⟨ob2, ob3, h⟩ := h
  refine g_iload_n (pc' := 1) 1 dX12_drawn_0 rfl rfl ?_
  refine g_iconst (pc' := 2) dX12_drawn_1 rfl ?_
  refine g_aload_n (pc' := 3) 0 dX12_drawn_2 rfl rfl ?_
  refine g_getI (pc' := 6) (z := 50) rfl fl_X12_103 rfl rfl dX12_drawn_3 rfl (fun rg1 => ?_)
  refine g_iconst (pc' := 7) dX12_drawn_6 rfl ?_
  refine g_isub (pc' := 8) dX12_drawn_7 rfl ?_
  refine g_pSI (pc' := 11) (vs := [vI p0, vI 0, vI ((i 99 50) - 1)]) (st := []) (val := bI (0 ≤ p0 ∧ p0 ≤ (i 99 50) - 1)) (sp_X12_lies (le_hd hd rfl) ob2 (rg_lit rfl) ob3) mk_X12_lies ms_X12_lies lk_X12_106 rfl (Nat.le_of_ble_eq_true rfl) (Nat.le_of_ble_eq_true rfl) rfl dX12_drawn_8 rfl z2 (fun rg4 => ?_)
  refine g_rg (fun hRG5 => ?_)
  obtain ⟨hob7, hob10, h⟩ := h
  have hJ : gI w d X_X12_drawn P i l 35 [(0, vR (some 99)), (1, vI p0), (2, vI p1)] [vI (if (0 ≤ p0 ∧ p0 ≤ (i 99 50) - 1) then (if (0 ≤ p1 ∧ p1 ≤ 119) then i 124 ((5 * p1) + p0) else (-1)) else (-1))] := by
    exact g_retI rfl (rg_ite (rg_ite (hRG5 _ _) (rg_lit rfl)) (rg_lit rfl)) dX12_drawn_35 h
  refine g_if_eq (tgt := 34) (pc' := 14) rg4 (bI_eq _) dX12_drawn_11 rfl rfl (fun c6 => ?_) (fun c6n => ?_)
  · refine g_iconst (pc' := 35) dX12_drawn_34 rfl ?_
    rw [if_neg c6 (α := Int) (t := (if (0 ≤ p1 ∧ p1 ≤ 119) then i 124 ((5 * p1) + p0) else (-1))) (e := (-1))] at hJ
    exact hJ
  · have c6 := Decidable.of_not_not c6n
    refine g_iload_n (pc' := 15) 2 dX12_drawn_14 rfl rfl ?_
    refine g_pSI (pc' := 18) (vs := [vI p1]) (st := []) (val := bI (0 ≤ p1 ∧ p1 ≤ 119)) (sp_X12_isMinute (le_hd hd rfl) (hob7 c6)) mk_X12_isMinute ms_X12_isMinute lk_X12_164 rfl (Nat.le_of_ble_eq_true rfl) (Nat.le_of_ble_eq_true rfl) rfl dX12_drawn_15 rfl z2 (fun rg8 => ?_)
    refine g_if_eq (tgt := 34) (pc' := 21) rg8 (bI_eq _) dX12_drawn_18 rfl rfl (fun c9 => ?_) (fun c9n => ?_)
    · refine g_iconst (pc' := 35) dX12_drawn_34 rfl ?_
      rw [if_pos c6 (α := Int) (t := (if (0 ≤ p1 ∧ p1 ≤ 119) then i 124 ((5 * p1) + p0) else (-1))) (e := (-1)), if_neg c9 (α := Int) (t := i 124 ((5 * p1) + p0)) (e := (-1))] at hJ
      exact hJ
    · have c9 := Decidable.of_not_not c9n
      refine g_aload_n (pc' := 22) 0 dX12_drawn_21 rfl rfl ?_
      refine g_getR (pc' := 25) (o := some 124) fl_X12_100 rfl rfl rfl dX12_drawn_22 rfl ?_
      refine g_iconst (pc' := 26) dX12_drawn_25 rfl ?_
      refine g_iload_n (pc' := 27) 2 dX12_drawn_26 rfl rfl ?_
      refine g_imul (pc' := 28) dX12_drawn_27 rfl ?_
      refine g_iload_n (pc' := 29) 1 dX12_drawn_28 rfl rfl ?_
      refine g_iadd (pc' := 30) dX12_drawn_29 rfl ?_
      refine g_iald (pc' := 31) (N := 600) rfl rfl (Nat.lt_of_lt_of_le (Nat.lt_succ_self _) (Nat.le_of_ble_eq_true rfl)) (hob10 c6 c9) dX12_drawn_30 rfl (fun rg11 => ?_)
      refine g_goto (tgt := 35) dX12_drawn_31 rfl ?_
      rw [if_pos c6 (α := Int) (t := (if (0 ≤ p1 ∧ p1 ≤ 119) then i 124 ((5 * p1) + p0) else (-1))) (e := (-1)), if_pos c9 (α := Int) (t := i 124 ((5 * p1) + p0)) (e := (-1))] at hJ
      exact hJ
theorem e_X12_drawn {w : Wd} {d : Nat} {P : Int → IM → LM → Prop} {i : IM} {l : LM} {p0 : Int} {p1 : Int}  (h : gI w d X_X12_drawn P i l 0 [(0, vR (some 99)), (1, vI p0), (2, vI p1)] []) : cI w (d + 1) X_X12_drawn [vR (some 99), vI p0, vI p1] i l P := CI_of (by decide +kernel) (Nat.le_of_ble_eq_true rfl) h

theorem dX12_count_0 : decode cX12_count 0 = .ok (.iload_n 1, 1) := by decide +kernel
theorem dX12_count_1 : decode cX12_count 1 = .ok (.tableswitch 147 0 12 #[67, 72, 77, 82, 91, 100, 105, 105, 105, 114, 121, 129, 138], 67) := by decide +kernel
theorem dX12_count_68 : decode cX12_count 68 = .ok (.aload_n 0, 1) := by decide +kernel
theorem dX12_count_69 : decode cX12_count 69 = .ok (.invokevirtual 117, 3) := by decide +kernel
theorem dX12_count_72 : decode cX12_count 72 = .ok (.ireturn, 1) := by decide +kernel
theorem dX12_count_73 : decode cX12_count 73 = .ok (.aload_n 0, 1) := by decide +kernel
theorem dX12_count_74 : decode cX12_count 74 = .ok (.invokevirtual 121, 3) := by decide +kernel
theorem dX12_count_77 : decode cX12_count 77 = .ok (.ireturn, 1) := by decide +kernel
theorem dX12_count_78 : decode cX12_count 78 = .ok (.aload_n 0, 1) := by decide +kernel
theorem dX12_count_79 : decode cX12_count 79 = .ok (.invokevirtual 124, 3) := by decide +kernel
theorem dX12_count_82 : decode cX12_count 82 = .ok (.ireturn, 1) := by decide +kernel
theorem dX12_count_83 : decode cX12_count 83 = .ok (.aload_n 0, 1) := by decide +kernel
theorem dX12_count_84 : decode cX12_count 84 = .ok (.getfield 20, 3) := by decide +kernel
theorem dX12_count_87 : decode cX12_count 87 = .ok (.sipush 311, 3) := by decide +kernel
theorem dX12_count_90 : decode cX12_count 90 = .ok (.iaload, 1) := by decide +kernel
theorem dX12_count_91 : decode cX12_count 91 = .ok (.ireturn, 1) := by decide +kernel
theorem dX12_count_92 : decode cX12_count 92 = .ok (.aload_n 0, 1) := by decide +kernel
theorem dX12_count_93 : decode cX12_count 93 = .ok (.getfield 20, 3) := by decide +kernel
theorem dX12_count_96 : decode cX12_count 96 = .ok (.sipush 310, 3) := by decide +kernel
theorem dX12_count_99 : decode cX12_count 99 = .ok (.iaload, 1) := by decide +kernel
theorem dX12_count_100 : decode cX12_count 100 = .ok (.ireturn, 1) := by decide +kernel
theorem dX12_count_101 : decode cX12_count 101 = .ok (.aload_n 0, 1) := by decide +kernel
theorem dX12_count_102 : decode cX12_count 102 = .ok (.getfield 174, 3) := by decide +kernel
theorem dX12_count_105 : decode cX12_count 105 = .ok (.ireturn, 1) := by decide +kernel
theorem dX12_count_106 : decode cX12_count 106 = .ok (.aload_n 0, 1) := by decide +kernel
theorem dX12_count_107 : decode cX12_count 107 = .ok (.getfield 7, 3) := by decide +kernel
theorem dX12_count_110 : decode cX12_count 110 = .ok (.iload_n 1, 1) := by decide +kernel
theorem dX12_count_111 : decode cX12_count 111 = .ok (.iconst 5, 1) := by decide +kernel
theorem dX12_count_112 : decode cX12_count 112 = .ok (.isub, 1) := by decide +kernel
theorem dX12_count_113 : decode cX12_count 113 = .ok (.iaload, 1) := by decide +kernel
theorem dX12_count_114 : decode cX12_count 114 = .ok (.ireturn, 1) := by decide +kernel
theorem dX12_count_115 : decode cX12_count 115 = .ok (.aload_n 0, 1) := by decide +kernel
theorem dX12_count_116 : decode cX12_count 116 = .ok (.getfield 7, 3) := by decide +kernel
theorem dX12_count_119 : decode cX12_count 119 = .ok (.iconst 5, 1) := by decide +kernel
theorem dX12_count_120 : decode cX12_count 120 = .ok (.iaload, 1) := by decide +kernel
theorem dX12_count_121 : decode cX12_count 121 = .ok (.ireturn, 1) := by decide +kernel
theorem dX12_count_122 : decode cX12_count 122 = .ok (.aload_n 0, 1) := by decide +kernel
theorem dX12_count_123 : decode cX12_count 123 = .ok (.getfield 7, 3) := by decide +kernel
theorem dX12_count_126 : decode cX12_count 126 = .ok (.bipush 6, 2) := by decide +kernel
theorem dX12_count_128 : decode cX12_count 128 = .ok (.iaload, 1) := by decide +kernel
theorem dX12_count_129 : decode cX12_count 129 = .ok (.ireturn, 1) := by decide +kernel
theorem dX12_count_130 : decode cX12_count 130 = .ok (.aload_n 0, 1) := by decide +kernel
theorem dX12_count_131 : decode cX12_count 131 = .ok (.getfield 20, 3) := by decide +kernel
theorem dX12_count_134 : decode cX12_count 134 = .ok (.sipush 312, 3) := by decide +kernel
theorem dX12_count_137 : decode cX12_count 137 = .ok (.iaload, 1) := by decide +kernel
theorem dX12_count_138 : decode cX12_count 138 = .ok (.ireturn, 1) := by decide +kernel
theorem dX12_count_139 : decode cX12_count 139 = .ok (.aload_n 0, 1) := by decide +kernel
theorem dX12_count_140 : decode cX12_count 140 = .ok (.getfield 20, 3) := by decide +kernel
theorem dX12_count_143 : decode cX12_count 143 = .ok (.sipush 313, 3) := by decide +kernel
theorem dX12_count_146 : decode cX12_count 146 = .ok (.iaload, 1) := by decide +kernel
theorem dX12_count_147 : decode cX12_count 147 = .ok (.ireturn, 1) := by decide +kernel
theorem dX12_count_148 : decode cX12_count 148 = .ok (.iconst (-1), 1) := by decide +kernel
theorem dX12_count_149 : decode cX12_count 149 = .ok (.ireturn, 1) := by decide +kernel
set_option maxRecDepth 20000 in
theorem s_X12_count {w : Wd} {d : Nat} {P : Int → IM → LM → Prop} {i : IM} {l : LM} (p0 : Int)  (hd : 1 ≤ d) (h : ((rg p0) ∧ ((p0 < 0 ∨ 12 < p0 → P (-1) i l) ∧ (p0 = 0 → P (i 101 307) i l) ∧ (p0 = 1 → P (i 101 308) i l) ∧ (p0 = 2 → P (i 101 309) i l) ∧ (p0 = 3 → P (i 101 311) i l) ∧ (p0 = 4 → P (i 101 310) i l) ∧ (p0 = 5 → P (i 99 10) i l) ∧ (p0 = 6 → ((0 ≤ p0 - 5 ∧ p0 - 5 < 7) ∧ P (i 100 (p0 - 5)) i l)) ∧ (p0 = 7 → ((0 ≤ p0 - 5 ∧ p0 - 5 < 7) ∧ P (i 100 (p0 - 5)) i l)) ∧ (p0 = 8 → ((0 ≤ p0 - 5 ∧ p0 - 5 < 7) ∧ P (i 100 (p0 - 5)) i l)) ∧ (p0 = 9 → P (i 100 5) i l) ∧ (p0 = 10 → P (i 100 6) i l) ∧ (p0 = 11 → P (i 101 312) i l) ∧ (p0 = 12 → P (i 101 313) i l)))) : gI w d X_X12_count P i l 0 [(0, vR (some 99)), (1, vI p0)] [] := by
  obtain ⟨ob1, h⟩ := h
  refine g_iload_n (pc' := 1) 1 dX12_count_0 rfl rfl ?_
  obtain ⟨hs2, hs4, hs6, hs8, hs10, hs12, hs14, hs17, hs20, hs23, hs25, hs27, hs29, hs31⟩ := h
  rcases sw_cases p0 0 12 with c32 | c32
  · have h := hs2 c32
    refine g_tabOut (tgt := 148) ob1 dX12_count_1 c32 rfl ?_
    refine g_iconst (pc' := 149) dX12_count_148 rfl ?_
    exact g_retI rfl (rg_lit rfl) dX12_count_149 h
  · have c32z : p0 = 0 ∨ p0 = 1 ∨ p0 = 2 ∨ p0 = 3 ∨ p0 = 4 ∨ p0 = 5 ∨ p0 = 6 ∨ p0 = 7 ∨ p0 = 8 ∨ p0 = 9 ∨ p0 = 10 ∨ p0 = 11 ∨ p0 = 12 := by omega
    rcases c32z with c32 | c32 | c32 | c32 | c32 | c32 | c32 | c32 | c32 | c32 | c32 | c32 | c32
    · have h := hs4 c32
      refine g_tabIn (off := 67) (tgt := 68) ob1 dX12_count_1 (by omega) (by omega) (by rw [c32]; rfl) rfl ?_
      refine g_aload_n (pc' := 69) 0 dX12_count_68 rfl rfl ?_
      refine g_pVI (pc' := 72) (vs := []) (st := []) (val := i 101 307) (c := 12) (sp_X12_things (le_hd hd rfl) ) mv_X12_things lk_X12_117 rfl rfl rfl rfl (Nat.le_of_ble_eq_true rfl) (Nat.le_of_ble_eq_true rfl) rfl dX12_count_69 rfl z2 (fun rg3 => ?_)
      exact g_retI rfl rg3 dX12_count_72 h
    · have h := hs6 c32
      refine g_tabIn (off := 72) (tgt := 73) ob1 dX12_count_1 (by omega) (by omega) (by rw [c32]; rfl) rfl ?_
      refine g_aload_n (pc' := 74) 0 dX12_count_73 rfl rfl ?_
      refine g_pVI (pc' := 77) (vs := []) (st := []) (val := i 101 308) (c := 12) (sp_X12_windows (le_hd hd rfl) ) mv_X12_windows lk_X12_121 rfl rfl rfl rfl (Nat.le_of_ble_eq_true rfl) (Nat.le_of_ble_eq_true rfl) rfl dX12_count_74 rfl z2 (fun rg5 => ?_)
      exact g_retI rfl rg5 dX12_count_77 h
    · have h := hs8 c32
      refine g_tabIn (off := 77) (tgt := 78) ob1 dX12_count_1 (by omega) (by omega) (by rw [c32]; rfl) rfl ?_
      refine g_aload_n (pc' := 79) 0 dX12_count_78 rfl rfl ?_
      refine g_pVI (pc' := 82) (vs := []) (st := []) (val := i 101 309) (c := 12) (sp_X12_people (le_hd hd rfl) ) mv_X12_people lk_X12_124 rfl rfl rfl rfl (Nat.le_of_ble_eq_true rfl) (Nat.le_of_ble_eq_true rfl) rfl dX12_count_79 rfl z2 (fun rg7 => ?_)
      exact g_retI rfl rg7 dX12_count_82 h
    · have h := hs10 c32
      refine g_tabIn (off := 82) (tgt := 83) ob1 dX12_count_1 (by omega) (by omega) (by rw [c32]; rfl) rfl ?_
      refine g_aload_n (pc' := 84) 0 dX12_count_83 rfl rfl ?_
      refine g_getR (pc' := 87) (o := some 101) fl_X12_20 rfl rfl rfl dX12_count_84 rfl ?_
      refine g_sipush (pc' := 90) dX12_count_87 rfl rfl ?_
      refine g_iald (pc' := 91) (N := 5120) rfl rfl (Nat.lt_of_lt_of_le (Nat.lt_succ_self _) (Nat.le_of_ble_eq_true rfl)) (by decide) dX12_count_90 rfl (fun rg9 => ?_)
      exact g_retI rfl rg9 dX12_count_91 h
    · have h := hs12 c32
      refine g_tabIn (off := 91) (tgt := 92) ob1 dX12_count_1 (by omega) (by omega) (by rw [c32]; rfl) rfl ?_
      refine g_aload_n (pc' := 93) 0 dX12_count_92 rfl rfl ?_
      refine g_getR (pc' := 96) (o := some 101) fl_X12_20 rfl rfl rfl dX12_count_93 rfl ?_
      refine g_sipush (pc' := 99) dX12_count_96 rfl rfl ?_
      refine g_iald (pc' := 100) (N := 5120) rfl rfl (Nat.lt_of_lt_of_le (Nat.lt_succ_self _) (Nat.le_of_ble_eq_true rfl)) (by decide) dX12_count_99 rfl (fun rg11 => ?_)
      exact g_retI rfl rg11 dX12_count_100 h
    · have h := hs14 c32
      refine g_tabIn (off := 100) (tgt := 101) ob1 dX12_count_1 (by omega) (by omega) (by rw [c32]; rfl) rfl ?_
      refine g_aload_n (pc' := 102) 0 dX12_count_101 rfl rfl ?_
      refine g_getI (pc' := 105) (z := 10) rfl fl_X12_174 rfl rfl dX12_count_102 rfl (fun rg13 => ?_)
      exact g_retI rfl rg13 dX12_count_105 h
    · have h := hs17 c32
      refine g_tabIn (off := 105) (tgt := 106) ob1 dX12_count_1 (by omega) (by omega) (by rw [c32]; rfl) rfl ?_
      obtain ⟨ob15, h⟩ := h
      refine g_aload_n (pc' := 107) 0 dX12_count_106 rfl rfl ?_
      refine g_getR (pc' := 110) (o := some 100) fl_X12_7 rfl rfl rfl dX12_count_107 rfl ?_
      refine g_iload_n (pc' := 111) 1 dX12_count_110 rfl rfl ?_
      refine g_iconst (pc' := 112) dX12_count_111 rfl ?_
      refine g_isub (pc' := 113) dX12_count_112 rfl ?_
      refine g_iald (pc' := 114) (N := 7) rfl rfl (Nat.lt_of_lt_of_le (Nat.lt_succ_self _) (Nat.le_of_ble_eq_true rfl)) ob15 dX12_count_113 rfl (fun rg16 => ?_)
      exact g_retI rfl rg16 dX12_count_114 h
    · have h := hs20 c32
      refine g_tabIn (off := 105) (tgt := 106) ob1 dX12_count_1 (by omega) (by omega) (by rw [c32]; rfl) rfl ?_
      obtain ⟨ob18, h⟩ := h
      refine g_aload_n (pc' := 107) 0 dX12_count_106 rfl rfl ?_
      refine g_getR (pc' := 110) (o := some 100) fl_X12_7 rfl rfl rfl dX12_count_107 rfl ?_
      refine g_iload_n (pc' := 111) 1 dX12_count_110 rfl rfl ?_
      refine g_iconst (pc' := 112) dX12_count_111 rfl ?_
      refine g_isub (pc' := 113) dX12_count_112 rfl ?_
      refine g_iald (pc' := 114) (N := 7) rfl rfl (Nat.lt_of_lt_of_le (Nat.lt_succ_self _) (Nat.le_of_ble_eq_true rfl)) ob18 dX12_count_113 rfl (fun rg19 => ?_)
      exact g_retI rfl rg19 dX12_count_114 h
    · have h := hs23 c32
      refine g_tabIn (off := 105) (tgt := 106) ob1 dX12_count_1 (by omega) (by omega) (by rw [c32]; rfl) rfl ?_
      obtain ⟨ob21, h⟩ := h
      refine g_aload_n (pc' := 107) 0 dX12_count_106 rfl rfl ?_
      refine g_getR (pc' := 110) (o := some 100) fl_X12_7 rfl rfl rfl dX12_count_107 rfl ?_
      refine g_iload_n (pc' := 111) 1 dX12_count_110 rfl rfl ?_
      refine g_iconst (pc' := 112) dX12_count_111 rfl ?_
      refine g_isub (pc' := 113) dX12_count_112 rfl ?_
      refine g_iald (pc' := 114) (N := 7) rfl rfl (Nat.lt_of_lt_of_le (Nat.lt_succ_self _) (Nat.le_of_ble_eq_true rfl)) ob21 dX12_count_113 rfl (fun rg22 => ?_)
      exact g_retI rfl rg22 dX12_count_114 h
    · have h := hs25 c32
      refine g_tabIn (off := 114) (tgt := 115) ob1 dX12_count_1 (by omega) (by omega) (by rw [c32]; rfl) rfl ?_
      refine g_aload_n (pc' := 116) 0 dX12_count_115 rfl rfl ?_
      refine g_getR (pc' := 119) (o := some 100) fl_X12_7 rfl rfl rfl dX12_count_116 rfl ?_
      refine g_iconst (pc' := 120) dX12_count_119 rfl ?_
      refine g_iald (pc' := 121) (N := 7) rfl rfl (Nat.lt_of_lt_of_le (Nat.lt_succ_self _) (Nat.le_of_ble_eq_true rfl)) (by decide) dX12_count_120 rfl (fun rg24 => ?_)
      exact g_retI rfl rg24 dX12_count_121 h
    · have h := hs27 c32
      refine g_tabIn (off := 121) (tgt := 122) ob1 dX12_count_1 (by omega) (by omega) (by rw [c32]; rfl) rfl ?_
      refine g_aload_n (pc' := 123) 0 dX12_count_122 rfl rfl ?_
      refine g_getR (pc' := 126) (o := some 100) fl_X12_7 rfl rfl rfl dX12_count_123 rfl ?_
      refine g_bipush (pc' := 128) dX12_count_126 rfl rfl ?_
      refine g_iald (pc' := 129) (N := 7) rfl rfl (Nat.lt_of_lt_of_le (Nat.lt_succ_self _) (Nat.le_of_ble_eq_true rfl)) (by decide) dX12_count_128 rfl (fun rg26 => ?_)
      exact g_retI rfl rg26 dX12_count_129 h
    · have h := hs29 c32
      refine g_tabIn (off := 129) (tgt := 130) ob1 dX12_count_1 (by omega) (by omega) (by rw [c32]; rfl) rfl ?_
      refine g_aload_n (pc' := 131) 0 dX12_count_130 rfl rfl ?_
      refine g_getR (pc' := 134) (o := some 101) fl_X12_20 rfl rfl rfl dX12_count_131 rfl ?_
      refine g_sipush (pc' := 137) dX12_count_134 rfl rfl ?_
      refine g_iald (pc' := 138) (N := 5120) rfl rfl (Nat.lt_of_lt_of_le (Nat.lt_succ_self _) (Nat.le_of_ble_eq_true rfl)) (by decide) dX12_count_137 rfl (fun rg28 => ?_)
      exact g_retI rfl rg28 dX12_count_138 h
    · have h := hs31 c32
      refine g_tabIn (off := 138) (tgt := 139) ob1 dX12_count_1 (by omega) (by omega) (by rw [c32]; rfl) rfl ?_
      refine g_aload_n (pc' := 140) 0 dX12_count_139 rfl rfl ?_
      refine g_getR (pc' := 143) (o := some 101) fl_X12_20 rfl rfl rfl dX12_count_140 rfl ?_
      refine g_sipush (pc' := 146) dX12_count_143 rfl rfl ?_
      refine g_iald (pc' := 147) (N := 5120) rfl rfl (Nat.lt_of_lt_of_le (Nat.lt_succ_self _) (Nat.le_of_ble_eq_true rfl)) (by decide) dX12_count_146 rfl (fun rg30 => ?_)
      exact g_retI rfl rg30 dX12_count_147 h
theorem e_X12_count {w : Wd} {d : Nat} {P : Int → IM → LM → Prop} {i : IM} {l : LM} {p0 : Int}  (h : gI w d X_X12_count P i l 0 [(0, vR (some 99)), (1, vI p0)] []) : cI w (d + 1) X_X12_count [vR (some 99), vI p0] i l P := CI_of (by decide +kernel) (Nat.le_of_ble_eq_true rfl) h

theorem dX12_status_0 : decode cX12_status 0 = .ok (.aload_n 0, 1) := by decide +kernel
theorem dX12_status_1 : decode cX12_status 1 = .ok (.getfield 3, 3) := by decide +kernel
theorem dX12_status_4 : decode cX12_status 4 = .ok (.ireturn, 1) := by decide +kernel
set_option maxRecDepth 20000 in
theorem s_X12_status {w : Wd} {d : Nat} {P : Int → IM → LM → Prop} {i : IM} {l : LM}   (h : P (i 99 0) i l) : gI w d X_X12_status P i l 0 [(0, vR (some 99))] [] := by
  refine g_aload_n (pc' := 1) 0 dX12_status_0 rfl rfl ?_
  refine g_getI (pc' := 4) (z := 0) rfl fl_X12_3 rfl rfl dX12_status_1 rfl (fun rg1 => ?_)
  exact g_retI rfl rg1 dX12_status_4 h
theorem e_X12_status {w : Wd} {d : Nat} {P : Int → IM → LM → Prop} {i : IM} {l : LM}   (h : gI w d X_X12_status P i l 0 [(0, vR (some 99))] []) : cI w (d + 1) X_X12_status [vR (some 99)] i l P := CI_of (by decide +kernel) (Nat.le_of_ble_eq_true rfl) h
