theorem dX8_refresh_0 : decode cX8_refresh 0 = .ok (.aload_n 0, 1) := by decide +kernel
theorem dX8_refresh_1 : decode cX8_refresh 1 = .ok (.getfield 30, 3) := by decide +kernel
theorem dX8_refresh_4 : decode cX8_refresh 4 = .ok (.aload_n 0, 1) := by decide +kernel
theorem dX8_refresh_5 : decode cX8_refresh 5 = .ok (.getfield 34, 3) := by decide +kernel
theorem dX8_refresh_8 : decode cX8_refresh 8 = .ok (.getfield 42, 3) := by decide +kernel
theorem dX8_refresh_11 : decode cX8_refresh 11 = .ok (.if_icmp .ne 4, 3) := by decide +kernel
theorem dX8_refresh_14 : decode cX8_refresh 14 = .ok (.return_, 1) := by decide +kernel
theorem dX8_refresh_15 : decode cX8_refresh 15 = .ok (.aload_n 0, 1) := by decide +kernel
theorem dX8_refresh_16 : decode cX8_refresh 16 = .ok (.aload_n 0, 1) := by decide +kernel
theorem dX8_refresh_17 : decode cX8_refresh 17 = .ok (.getfield 34, 3) := by decide +kernel
theorem dX8_refresh_20 : decode cX8_refresh 20 = .ok (.getfield 42, 3) := by decide +kernel
theorem dX8_refresh_23 : decode cX8_refresh 23 = .ok (.putfield 30, 3) := by decide +kernel
theorem dX8_refresh_26 : decode cX8_refresh 26 = .ok (.aload_n 0, 1) := by decide +kernel
theorem dX8_refresh_27 : decode cX8_refresh 27 = .ok (.iconst 0, 1) := by decide +kernel
theorem dX8_refresh_28 : decode cX8_refresh 28 = .ok (.putfield 45, 3) := by decide +kernel
theorem dX8_refresh_31 : decode cX8_refresh 31 = .ok (.aload_n 0, 1) := by decide +kernel
theorem dX8_refresh_32 : decode cX8_refresh 32 = .ok (.getfield 15, 3) := by decide +kernel
theorem dX8_refresh_35 : decode cX8_refresh 35 = .ok (.iconst (-1), 1) := by decide +kernel
theorem dX8_refresh_36 : decode cX8_refresh 36 = .ok (.invokestatic 49, 3) := by decide +kernel
theorem dX8_refresh_39 : decode cX8_refresh 39 = .ok (.aload_n 0, 1) := by decide +kernel
theorem dX8_refresh_40 : decode cX8_refresh 40 = .ok (.getfield 18, 3) := by decide +kernel
theorem dX8_refresh_43 : decode cX8_refresh 43 = .ok (.iconst (-1), 1) := by decide +kernel
theorem dX8_refresh_44 : decode cX8_refresh 44 = .ok (.invokestatic 49, 3) := by decide +kernel
theorem dX8_refresh_47 : decode cX8_refresh 47 = .ok (.aload_n 0, 1) := by decide +kernel
theorem dX8_refresh_48 : decode cX8_refresh 48 = .ok (.getfield 21, 3) := by decide +kernel
theorem dX8_refresh_51 : decode cX8_refresh 51 = .ok (.iconst (-1), 1) := by decide +kernel
theorem dX8_refresh_52 : decode cX8_refresh 52 = .ok (.invokestatic 49, 3) := by decide +kernel
theorem dX8_refresh_55 : decode cX8_refresh 55 = .ok (.aload_n 0, 1) := by decide +kernel
theorem dX8_refresh_56 : decode cX8_refresh 56 = .ok (.getfield 34, 3) := by decide +kernel
theorem dX8_refresh_59 : decode cX8_refresh 59 = .ok (.invokevirtual 55, 3) := by decide +kernel
theorem dX8_refresh_62 : decode cX8_refresh 62 = .ok (.astore_n 1, 1) := by decide +kernel
theorem dX8_refresh_63 : decode cX8_refresh 63 = .ok (.aload_n 0, 1) := by decide +kernel
theorem dX8_refresh_64 : decode cX8_refresh 64 = .ok (.aload_n 1, 1) := by decide +kernel
theorem dX8_refresh_65 : decode cX8_refresh 65 = .ok (.ifnull 27, 3) := by decide +kernel
theorem dX8_refresh_68 : decode cX8_refresh 68 = .ok (.aload_n 1, 1) := by decide +kernel
theorem dX8_refresh_69 : decode cX8_refresh 69 = .ok (.iconst 3, 1) := by decide +kernel
theorem dX8_refresh_70 : decode cX8_refresh 70 = .ok (.bipush 6, 2) := by decide +kernel
theorem dX8_refresh_72 : decode cX8_refresh 72 = .ok (.invokevirtual 59, 3) := by decide +kernel
theorem dX8_refresh_75 : decode cX8_refresh 75 = .ok (.ifCond .ne 13, 3) := by decide +kernel
theorem dX8_refresh_78 : decode cX8_refresh 78 = .ok (.aload_n 1, 1) := by decide +kernel
theorem dX8_refresh_79 : decode cX8_refresh 79 = .ok (.iconst 2, 1) := by decide +kernel
theorem dX8_refresh_80 : decode cX8_refresh 80 = .ok (.bipush 6, 2) := by decide +kernel
theorem dX8_refresh_82 : decode cX8_refresh 82 = .ok (.invokevirtual 59, 3) := by decide +kernel
theorem dX8_refresh_85 : decode cX8_refresh 85 = .ok (.ifCond .eq 7, 3) := by decide +kernel
theorem dX8_refresh_88 : decode cX8_refresh 88 = .ok (.iconst 1, 1) := by decide +kernel
theorem dX8_refresh_89 : decode cX8_refresh 89 = .ok (.goto 4, 3) := by decide +kernel
theorem dX8_refresh_92 : decode cX8_refresh 92 = .ok (.iconst 0, 1) := by decide +kernel
theorem dX8_refresh_93 : decode cX8_refresh 93 = .ok (.putfield 65, 3) := by decide +kernel
theorem dX8_refresh_96 : decode cX8_refresh 96 = .ok (.aload_n 0, 1) := by decide +kernel
theorem dX8_refresh_97 : decode cX8_refresh 97 = .ok (.aload_n 1, 1) := by decide +kernel
theorem dX8_refresh_98 : decode cX8_refresh 98 = .ok (.ifnull 17, 3) := by decide +kernel
theorem dX8_refresh_101 : decode cX8_refresh 101 = .ok (.aload_n 1, 1) := by decide +kernel
theorem dX8_refresh_102 : decode cX8_refresh 102 = .ok (.iconst 0, 1) := by decide +kernel
theorem dX8_refresh_103 : decode cX8_refresh 103 = .ok (.bipush 6, 2) := by decide +kernel
theorem dX8_refresh_105 : decode cX8_refresh 105 = .ok (.invokevirtual 59, 3) := by decide +kernel
theorem dX8_refresh_108 : decode cX8_refresh 108 = .ok (.ifCond .eq 7, 3) := by decide +kernel
theorem dX8_refresh_111 : decode cX8_refresh 111 = .ok (.iconst 1, 1) := by decide +kernel
theorem dX8_refresh_112 : decode cX8_refresh 112 = .ok (.goto 4, 3) := by decide +kernel
theorem dX8_refresh_115 : decode cX8_refresh 115 = .ok (.iconst 0, 1) := by decide +kernel
theorem dX8_refresh_116 : decode cX8_refresh 116 = .ok (.putfield 68, 3) := by decide +kernel
theorem dX8_refresh_119 : decode cX8_refresh 119 = .ok (.aload_n 0, 1) := by decide +kernel
theorem dX8_refresh_120 : decode cX8_refresh 120 = .ok (.invokevirtual 71, 3) := by decide +kernel
theorem dX8_refresh_123 : decode cX8_refresh 123 = .ok (.return_, 1) := by decide +kernel
set_option maxRecDepth 20000 in
theorem s_X8_refresh {w : Wd} {d : Nat} {P : IM → LM → Prop} {i : IM} {l : LM}   (hd : 1 ≤ d) (h : (((i 44 14 = i 7 15) → P i l) ∧ ((¬ (i 44 14 = i 7 15)) → ((0 ≤ (fillA (fillA (fillA (u2 (u2 i 44 14 (i 7 15)) 44 11 0) 46 960 (-1)) 47 960 (-1)) 48 400 (-1)) 7 14 ∧ (fillA (fillA (fillA (u2 (u2 i 44 14 (i 7 15)) 44 11 0) 46 960 (-1)) 47 960 (-1)) 48 400 (-1)) 7 14 < (fillA (fillA (fillA (u2 (u2 i 44 14 (i 7 15)) 44 11 0) 46 960 (-1)) 47 960 (-1)) 48 400 (-1)) 7 12 → (fillA (fillA (fillA (u2 (u2 i 44 14 (i 7 15)) 44 11 0) 46 960 (-1)) 47 960 (-1)) 48 400 (-1)) 7 14 < 6) ∧ ((rul w (fillA (fillA (fillA (u2 (u2 i 44 14 (i 7 15)) 44 11 0) 46 960 (-1)) 47 960 (-1)) 48 400 (-1)) = none → cVd w d X_X8_layStays [vR (some 44)] (u2 (u2 (fillA (fillA (fillA (u2 (u2 i 44 14 (i 7 15)) 44 11 0) 46 960 (-1)) 47 960 (-1)) 48 400 (-1)) 44 12 0) 44 13 0) l (fun i9 l9 => P i9 l9)) ∧ (∀ lw : Nat, rul w (fillA (fillA (fillA (u2 (u2 i 44 14 (i 7 15)) 44 11 0) 46 960 (-1)) 47 960 (-1)) 48 400 (-1)) = some lw → (LawAt w lw ∧ cVd w d X_X8_layStays [vR (some 44)] (u2 (u2 (fillA (fillA (fillA (u2 (u2 i 44 14 (i 7 15)) 44 11 0) 46 960 (-1)) 47 960 (-1)) 48 400 (-1)) 44 12 (bI ((menI (fillA (fillA (fillA (u2 (u2 i 44 14 (i 7 15)) 44 11 0) 46 960 (-1)) 47 960 (-1)) 48 400 (-1)) lw 3 6) ∨ (menI (fillA (fillA (fillA (u2 (u2 i 44 14 (i 7 15)) 44 11 0) 46 960 (-1)) 47 960 (-1)) 48 400 (-1)) lw 2 6)))) 44 13 (bI (menI (u2 (fillA (fillA (fillA (u2 (u2 i 44 14 (i 7 15)) 44 11 0) 46 960 (-1)) 47 960 (-1)) 48 400 (-1)) 44 12 (bI ((menI (fillA (fillA (fillA (u2 (u2 i 44 14 (i 7 15)) 44 11 0) 46 960 (-1)) 47 960 (-1)) 48 400 (-1)) lw 3 6) ∨ (menI (fillA (fillA (fillA (u2 (u2 i 44 14 (i 7 15)) 44 11 0) 46 960 (-1)) 47 960 (-1)) 48 400 (-1)) lw 2 6)))) lw 0 6))) l (fun i18 l18 => P i18 l18)))))))) : gV w d X_X8_refresh P i l 0 [(0, vR (some 44))] [] := by
  refine g_aload_n (pc' := 1) 0 dX8_refresh_0 rfl rfl ?_
  refine g_getI (pc' := 4) (z := 14) rfl fl_X8_30 rfl rfl dX8_refresh_1 rfl (fun rg1 => ?_)
  refine g_aload_n (pc' := 5) 0 dX8_refresh_4 rfl rfl ?_
  refine g_getR (pc' := 8) (o := some 7) fl_X8_34 rfl rfl rfl dX8_refresh_5 rfl ?_
  refine g_getI (pc' := 11) (z := 15) rfl fl_X8_42 rfl rfl dX8_refresh_8 rfl (fun rg2 => ?_)
  obtain ⟨hk19, hk20⟩ := h
  refine g_icmp_ne (tgt := 15) (pc' := 14) rg1 rg2 Iff.rfl dX8_refresh_11 rfl rfl (fun c4 => ?_) (fun c4 => ?_)
  · have h := hk20 c4
    obtain ⟨ob7, h⟩ := h
    refine g_aload_n (pc' := 16) 0 dX8_refresh_15 rfl rfl ?_
    refine g_aload_n (pc' := 17) 0 dX8_refresh_16 rfl rfl ?_
    refine g_getR (pc' := 20) (o := some 7) fl_X8_34 rfl rfl rfl dX8_refresh_17 rfl ?_
    refine g_getI (pc' := 23) (z := 15) rfl fl_X8_42 rfl rfl dX8_refresh_20 rfl (fun rg6 => ?_)
    refine g_putI (pc' := 26) (z := 14) rfl fp_X8_30 rfl rfl rg6 dX8_refresh_23 rfl ?_
    refine g_aload_n (pc' := 27) 0 dX8_refresh_26 rfl rfl ?_
    refine g_iconst (pc' := 28) dX8_refresh_27 rfl ?_
    refine g_putZ (pc' := 31) (z := 11) rfl fp_X8_45 rfl rfl (by decide) dX8_refresh_28 rfl ?_
    refine g_aload_n (pc' := 32) 0 dX8_refresh_31 rfl rfl ?_
    refine g_getR (pc' := 35) (o := some 46) fl_X8_15 rfl rfl rfl dX8_refresh_32 rfl ?_
    refine g_iconst (pc' := 36) dX8_refresh_35 rfl ?_
    refine g_fill (pc' := 39) (st := []) (le_hd hd rfl) rfl (Nat.le_of_ble_eq_true rfl) (rg_lit rfl) lk_X8_49 (Nat.le_of_ble_eq_true rfl) dX8_refresh_36 rfl ?_
    refine g_aload_n (pc' := 40) 0 dX8_refresh_39 rfl rfl ?_
    refine g_getR (pc' := 43) (o := some 47) fl_X8_18 rfl rfl rfl dX8_refresh_40 rfl ?_
    refine g_iconst (pc' := 44) dX8_refresh_43 rfl ?_
    refine g_fill (pc' := 47) (st := []) (le_hd hd rfl) rfl (Nat.le_of_ble_eq_true rfl) (rg_lit rfl) lk_X8_49 (Nat.le_of_ble_eq_true rfl) dX8_refresh_44 rfl ?_
    refine g_aload_n (pc' := 48) 0 dX8_refresh_47 rfl rfl ?_
    refine g_getR (pc' := 51) (o := some 48) fl_X8_21 rfl rfl rfl dX8_refresh_48 rfl ?_
    refine g_iconst (pc' := 52) dX8_refresh_51 rfl ?_
    refine g_fill (pc' := 55) (st := []) (le_hd hd rfl) rfl (Nat.le_of_ble_eq_true rfl) (rg_lit rfl) lk_X8_49 (Nat.le_of_ble_eq_true rfl) dX8_refresh_52 rfl ?_
    refine g_aload_n (pc' := 56) 0 dX8_refresh_55 rfl rfl ?_
    refine g_getR (pc' := 59) (o := some 7) fl_X8_34 rfl rfl rfl dX8_refresh_56 rfl ?_
    refine g_pVR (pc' := 62) (vs := []) (st := []) (val := rul w (fillA (fillA (fillA (u2 (u2 i 44 14 (i 7 15)) 44 11 0) 46 960 (-1)) 47 960 (-1)) 48 400 (-1))) (c := 9) (sp_X9_ruling (le_hd hd rfl) ob7) mv_X9_ruling lk_X8_55 rfl rfl rfl rfl (Nat.le_of_ble_eq_true rfl) (Nat.le_of_ble_eq_true rfl) rfl dX8_refresh_59 rfl z2 ?_
    refine g_astore_no (pc' := 63) (o := rul w (fillA (fillA (fillA (u2 (u2 i 44 14 (i 7 15)) 44 11 0) 46 960 (-1)) 47 960 (-1)) 48 400 (-1))) (L' := [(1, vR (rul w (fillA (fillA (fillA (u2 (u2 i 44 14 (i 7 15)) 44 11 0) 46 960 (-1)) 47 960 (-1)) 48 400 (-1)))), (0, vR (some 44))]) dX8_refresh_62 rfl (Nat.le_of_ble_eq_true rfl) rfl ?_
    refine g_aload_n (pc' := 64) 1 dX8_refresh_63 rfl rfl ?_
    refine g_aload_no (pc' := 65) (o := rul w (fillA (fillA (fillA (u2 (u2 i 44 14 (i 7 15)) 44 11 0) 46 960 (-1)) 47 960 (-1)) 48 400 (-1))) 0 dX8_refresh_64 rfl rfl ?_
    rcases ho : rul w (fillA (fillA (fillA (u2 (u2 i 44 14 (i 7 15)) 44 11 0) 46 960 (-1)) 47 960 (-1)) 48 400 (-1)) with _ | lw
    · have h := h.1 ho
      refine g_ifnull_n (tgt := 92) dX8_refresh_65 rfl ?_
      refine g_iconst (pc' := 93) dX8_refresh_92 rfl ?_
      refine g_putZ (pc' := 96) (z := 12) rfl fp_X8_65 rfl rfl (by decide) dX8_refresh_93 rfl ?_
      refine g_aload_n (pc' := 97) 1 dX8_refresh_96 rfl rfl ?_
      refine g_aload_no (pc' := 98) (o := none) 0 dX8_refresh_97 rfl rfl ?_
      refine g_ifnull_n (tgt := 115) dX8_refresh_98 rfl ?_
      refine g_iconst (pc' := 116) dX8_refresh_115 rfl ?_
      refine g_putZ (pc' := 119) (z := 13) rfl fp_X8_68 rfl rfl (by decide) dX8_refresh_116 rfl ?_
      refine g_aload_n (pc' := 120) 1 dX8_refresh_119 rfl rfl ?_
      refine g_cVV (pc' := 123) (vs := []) (st := []) (c := 8) h mv_X8_layStays lk_X8_71 rfl rfl rfl rfl (Nat.le_of_ble_eq_true rfl) (Nat.le_of_ble_eq_true rfl) rfl dX8_refresh_120 rfl z2 (fun i9 l9 h => ?_)
      exact g_retV rfl dX8_refresh_123 h
    · obtain ⟨hL, h⟩ := h.2 lw ho
      refine g_ifnull_s (pc' := 68) dX8_refresh_65 rfl ?_
      refine g_aload_n (pc' := 69) 0 dX8_refresh_68 rfl rfl ?_
      refine g_iconst (pc' := 70) dX8_refresh_69 rfl ?_
      refine g_bipush (pc' := 72) dX8_refresh_70 rfl rfl ?_
      refine g_pVI (pc' := 75) (vs := [vI 3, vI 6]) (st := [vR (some 44)]) (val := bI (menI (fillA (fillA (fillA (u2 (u2 i 44 14 (i 7 15)) 44 11 0) 46 960 (-1)) 47 960 (-1)) 48 400 (-1)) lw 3 6)) (c := 2) (sp_X2_mentions hL (le_hd hd rfl) (by decide)) mv_X2_mentions lk_X8_59 rfl rfl (sh_law hL) rfl (Nat.le_of_ble_eq_true rfl) (Nat.le_of_ble_eq_true rfl) rfl dX8_refresh_72 rfl z2 (fun rg10 => ?_)
      have hJ : gV w d X_X8_refresh P (fillA (fillA (fillA (u2 (u2 i 44 14 (i 7 15)) 44 11 0) 46 960 (-1)) 47 960 (-1)) 48 400 (-1)) l 93 [(1, vR (some lw)), (0, vR (some 44))] [vI (bI ((menI (fillA (fillA (fillA (u2 (u2 i 44 14 (i 7 15)) 44 11 0) 46 960 (-1)) 47 960 (-1)) 48 400 (-1)) lw 3 6) ∨ (menI (fillA (fillA (fillA (u2 (u2 i 44 14 (i 7 15)) 44 11 0) 46 960 (-1)) 47 960 (-1)) 48 400 (-1)) lw 2 6))), vR (some 44)] := by
        refine g_putZ (pc' := 96) (z := 12) rfl fp_X8_65 rfl rfl (bI_01 _) dX8_refresh_93 rfl ?_
        refine g_aload_n (pc' := 97) 1 dX8_refresh_96 rfl rfl ?_
        refine g_aload_n (pc' := 98) 0 dX8_refresh_97 rfl rfl ?_
        refine g_ifnull_s (pc' := 101) dX8_refresh_98 rfl ?_
        refine g_aload_n (pc' := 102) 0 dX8_refresh_101 rfl rfl ?_
        refine g_iconst (pc' := 103) dX8_refresh_102 rfl ?_
        refine g_bipush (pc' := 105) dX8_refresh_103 rfl rfl ?_
        refine g_pVI (pc' := 108) (vs := [vI 0, vI 6]) (st := [vR (some 44)]) (val := bI (menI (u2 (fillA (fillA (fillA (u2 (u2 i 44 14 (i 7 15)) 44 11 0) 46 960 (-1)) 47 960 (-1)) 48 400 (-1)) 44 12 (bI ((menI (fillA (fillA (fillA (u2 (u2 i 44 14 (i 7 15)) 44 11 0) 46 960 (-1)) 47 960 (-1)) 48 400 (-1)) lw 3 6) ∨ (menI (fillA (fillA (fillA (u2 (u2 i 44 14 (i 7 15)) 44 11 0) 46 960 (-1)) 47 960 (-1)) 48 400 (-1)) lw 2 6)))) lw 0 6)) (c := 2) (sp_X2_mentions hL (le_hd hd rfl) (by decide)) mv_X2_mentions lk_X8_59 rfl rfl (sh_law hL) rfl (Nat.le_of_ble_eq_true rfl) (Nat.le_of_ble_eq_true rfl) rfl dX8_refresh_105 rfl z2 (fun rg15 => ?_)
        have hJ : gV w d X_X8_refresh P (u2 (fillA (fillA (fillA (u2 (u2 i 44 14 (i 7 15)) 44 11 0) 46 960 (-1)) 47 960 (-1)) 48 400 (-1)) 44 12 (bI ((menI (fillA (fillA (fillA (u2 (u2 i 44 14 (i 7 15)) 44 11 0) 46 960 (-1)) 47 960 (-1)) 48 400 (-1)) lw 3 6) ∨ (menI (fillA (fillA (fillA (u2 (u2 i 44 14 (i 7 15)) 44 11 0) 46 960 (-1)) 47 960 (-1)) 48 400 (-1)) lw 2 6)))) l 116 [(1, vR (some lw)), (0, vR (some 44))] [vI (bI (menI (u2 (fillA (fillA (fillA (u2 (u2 i 44 14 (i 7 15)) 44 11 0) 46 960 (-1)) 47 960 (-1)) 48 400 (-1)) 44 12 (bI ((menI (fillA (fillA (fillA (u2 (u2 i 44 14 (i 7 15)) 44 11 0) 46 960 (-1)) 47 960 (-1)) 48 400 (-1)) lw 3 6) ∨ (menI (fillA (fillA (fillA (u2 (u2 i 44 14 (i 7 15)) 44 11 0) 46 960 (-1)) 47 960 (-1)) 48 400 (-1)) lw 2 6)))) lw 0 6)), vR (some 44)] := by
          refine g_putZ (pc' := 119) (z := 13) rfl fp_X8_68 rfl rfl (bI_01 _) dX8_refresh_116 rfl ?_
          refine g_aload_n (pc' := 120) 1 dX8_refresh_119 rfl rfl ?_
          refine g_cVV (pc' := 123) (vs := []) (st := []) (c := 8) h mv_X8_layStays lk_X8_71 rfl rfl rfl rfl (Nat.le_of_ble_eq_true rfl) (Nat.le_of_ble_eq_true rfl) rfl dX8_refresh_120 rfl z2 (fun i18 l18 h => ?_)
          exact g_retV rfl dX8_refresh_123 h
        refine g_if_eq (tgt := 115) (pc' := 111) rg15 (bI_eq _) dX8_refresh_108 rfl rfl (fun c17 => ?_) (fun c17n => ?_)
        · refine g_iconst (pc' := 116) dX8_refresh_115 rfl ?_
          rw [bI_f (p := (menI (u2 (fillA (fillA (fillA (u2 (u2 i 44 14 (i 7 15)) 44 11 0) 46 960 (-1)) 47 960 (-1)) 48 400 (-1)) 44 12 (bI ((menI (fillA (fillA (fillA (u2 (u2 i 44 14 (i 7 15)) 44 11 0) 46 960 (-1)) 47 960 (-1)) 48 400 (-1)) lw 3 6) ∨ (menI (fillA (fillA (fillA (u2 (u2 i 44 14 (i 7 15)) 44 11 0) 46 960 (-1)) 47 960 (-1)) 48 400 (-1)) lw 2 6)))) lw 0 6)) c17] at hJ
          exact hJ
        · have c17 := Decidable.of_not_not c17n
          refine g_iconst (pc' := 112) dX8_refresh_111 rfl ?_
          refine g_goto (tgt := 116) dX8_refresh_112 rfl ?_
          rw [bI_t (p := (menI (u2 (fillA (fillA (fillA (u2 (u2 i 44 14 (i 7 15)) 44 11 0) 46 960 (-1)) 47 960 (-1)) 48 400 (-1)) 44 12 (bI ((menI (fillA (fillA (fillA (u2 (u2 i 44 14 (i 7 15)) 44 11 0) 46 960 (-1)) 47 960 (-1)) 48 400 (-1)) lw 3 6) ∨ (menI (fillA (fillA (fillA (u2 (u2 i 44 14 (i 7 15)) 44 11 0) 46 960 (-1)) 47 960 (-1)) 48 400 (-1)) lw 2 6)))) lw 0 6)) c17] at hJ
          exact hJ
      refine g_if_ne (tgt := 88) (pc' := 78) rg10 (bI_eq _) dX8_refresh_75 rfl rfl (fun c12n => ?_) (fun c12 => ?_)
      · have c12 := Decidable.of_not_not c12n
        refine g_iconst (pc' := 89) dX8_refresh_88 rfl ?_
        refine g_goto (tgt := 93) dX8_refresh_89 rfl ?_
        rw [bI_t (p := ((menI (fillA (fillA (fillA (u2 (u2 i 44 14 (i 7 15)) 44 11 0) 46 960 (-1)) 47 960 (-1)) 48 400 (-1)) lw 3 6) ∨ (menI (fillA (fillA (fillA (u2 (u2 i 44 14 (i 7 15)) 44 11 0) 46 960 (-1)) 47 960 (-1)) 48 400 (-1)) lw 2 6))) (Or.inl c12)] at hJ
        exact hJ
      · refine g_aload_n (pc' := 79) 0 dX8_refresh_78 rfl rfl ?_
        refine g_iconst (pc' := 80) dX8_refresh_79 rfl ?_
        refine g_bipush (pc' := 82) dX8_refresh_80 rfl rfl ?_
        refine g_pVI (pc' := 85) (vs := [vI 2, vI 6]) (st := [vR (some 44)]) (val := bI (menI (fillA (fillA (fillA (u2 (u2 i 44 14 (i 7 15)) 44 11 0) 46 960 (-1)) 47 960 (-1)) 48 400 (-1)) lw 2 6)) (c := 2) (sp_X2_mentions hL (le_hd hd rfl) (by decide)) mv_X2_mentions lk_X8_59 rfl rfl (sh_law hL) rfl (Nat.le_of_ble_eq_true rfl) (Nat.le_of_ble_eq_true rfl) rfl dX8_refresh_82 rfl z2 (fun rg13 => ?_)
        refine g_if_eq (tgt := 92) (pc' := 88) rg13 (bI_eq _) dX8_refresh_85 rfl rfl (fun c14 => ?_) (fun c14n => ?_)
        · refine g_iconst (pc' := 93) dX8_refresh_92 rfl ?_
          rw [bI_f (p := ((menI (fillA (fillA (fillA (u2 (u2 i 44 14 (i 7 15)) 44 11 0) 46 960 (-1)) 47 960 (-1)) 48 400 (-1)) lw 3 6) ∨ (menI (fillA (fillA (fillA (u2 (u2 i 44 14 (i 7 15)) 44 11 0) 46 960 (-1)) 47 960 (-1)) 48 400 (-1)) lw 2 6))) (fun q => q.elim c12 c14)] at hJ
          exact hJ
        · have c14 := Decidable.of_not_not c14n
          refine g_iconst (pc' := 89) dX8_refresh_88 rfl ?_
          refine g_goto (tgt := 93) dX8_refresh_89 rfl ?_
          rw [bI_t (p := ((menI (fillA (fillA (fillA (u2 (u2 i 44 14 (i 7 15)) 44 11 0) 46 960 (-1)) 47 960 (-1)) 48 400 (-1)) lw 3 6) ∨ (menI (fillA (fillA (fillA (u2 (u2 i 44 14 (i 7 15)) 44 11 0) 46 960 (-1)) 47 960 (-1)) 48 400 (-1)) lw 2 6))) (Or.inr c14)] at hJ
          exact hJ
  · have h := hk19 c4
    exact g_retV rfl dX8_refresh_14 h
theorem e_X8_refresh {w : Wd} {d : Nat} {P : IM → LM → Prop} {i : IM} {l : LM}   (h : gV w d X_X8_refresh P i l 0 [(0, vR (some 44))] []) : cVd w (d + 1) X_X8_refresh [vR (some 44)] i l P := CV_of (by decide +kernel) (Nat.le_of_ble_eq_true rfl) h

theorem dX8_layStays_0 : decode cX8_layStays 0 = .ok (.aload_n 0, 1) := by decide +kernel
theorem dX8_layStays_1 : decode cX8_layStays 1 = .ok (.getfield 9, 3) := by decide +kernel
theorem dX8_layStays_4 : decode cX8_layStays 4 = .ok (.bipush (-2), 2) := by decide +kernel
theorem dX8_layStays_6 : decode cX8_layStays 6 = .ok (.invokestatic 49, 3) := by decide +kernel
theorem dX8_layStays_9 : decode cX8_layStays 9 = .ok (.iconst 0, 1) := by decide +kernel
theorem dX8_layStays_10 : decode cX8_layStays 10 = .ok (.istore_n 1, 1) := by decide +kernel
theorem dX8_layStays_11 : decode cX8_layStays 11 = .ok (.iload_n 1, 1) := by decide +kernel
theorem dX8_layStays_12 : decode cX8_layStays 12 = .ok (.aload_n 0, 1) := by decide +kernel
theorem dX8_layStays_13 : decode cX8_layStays 13 = .ok (.getfield 34, 3) := by decide +kernel
theorem dX8_layStays_16 : decode cX8_layStays 16 = .ok (.getfield 74, 3) := by decide +kernel
theorem dX8_layStays_19 : decode cX8_layStays 19 = .ok (.iconst 3, 1) := by decide +kernel
theorem dX8_layStays_20 : decode cX8_layStays 20 = .ok (.imul, 1) := by decide +kernel
theorem dX8_layStays_21 : decode cX8_layStays 21 = .ok (.if_icmp .ge 49, 3) := by decide +kernel
theorem dX8_layStays_24 : decode cX8_layStays 24 = .ok (.aload_n 0, 1) := by decide +kernel
theorem dX8_layStays_25 : decode cX8_layStays 25 = .ok (.getfield 9, 3) := by decide +kernel
theorem dX8_layStays_28 : decode cX8_layStays 28 = .ok (.aload_n 0, 1) := by decide +kernel
theorem dX8_layStays_29 : decode cX8_layStays 29 = .ok (.getfield 34, 3) := by decide +kernel
theorem dX8_layStays_32 : decode cX8_layStays 32 = .ok (.getfield 77, 3) := by decide +kernel
theorem dX8_layStays_35 : decode cX8_layStays 35 = .ok (.iload_n 1, 1) := by decide +kernel
theorem dX8_layStays_36 : decode cX8_layStays 36 = .ok (.iaload, 1) := by decide +kernel
theorem dX8_layStays_37 : decode cX8_layStays 37 = .ok (.bipush 120, 2) := by decide +kernel
theorem dX8_layStays_39 : decode cX8_layStays 39 = .ok (.imul, 1) := by decide +kernel
theorem dX8_layStays_40 : decode cX8_layStays 40 = .ok (.aload_n 0, 1) := by decide +kernel
theorem dX8_layStays_41 : decode cX8_layStays 41 = .ok (.getfield 34, 3) := by decide +kernel
theorem dX8_layStays_44 : decode cX8_layStays 44 = .ok (.getfield 77, 3) := by decide +kernel
theorem dX8_layStays_47 : decode cX8_layStays 47 = .ok (.iload_n 1, 1) := by decide +kernel
theorem dX8_layStays_48 : decode cX8_layStays 48 = .ok (.iconst 1, 1) := by decide +kernel
theorem dX8_layStays_49 : decode cX8_layStays 49 = .ok (.iadd, 1) := by decide +kernel
theorem dX8_layStays_50 : decode cX8_layStays 50 = .ok (.iaload, 1) := by decide +kernel
theorem dX8_layStays_51 : decode cX8_layStays 51 = .ok (.iadd, 1) := by decide +kernel
theorem dX8_layStays_52 : decode cX8_layStays 52 = .ok (.aload_n 0, 1) := by decide +kernel
theorem dX8_layStays_53 : decode cX8_layStays 53 = .ok (.getfield 34, 3) := by decide +kernel
theorem dX8_layStays_56 : decode cX8_layStays 56 = .ok (.getfield 77, 3) := by decide +kernel
theorem dX8_layStays_59 : decode cX8_layStays 59 = .ok (.iload_n 1, 1) := by decide +kernel
theorem dX8_layStays_60 : decode cX8_layStays 60 = .ok (.iconst 2, 1) := by decide +kernel
theorem dX8_layStays_61 : decode cX8_layStays 61 = .ok (.iadd, 1) := by decide +kernel
theorem dX8_layStays_62 : decode cX8_layStays 62 = .ok (.iaload, 1) := by decide +kernel
theorem dX8_layStays_63 : decode cX8_layStays 63 = .ok (.iastore, 1) := by decide +kernel
theorem dX8_layStays_64 : decode cX8_layStays 64 = .ok (.iinc 1 3, 3) := by decide +kernel
theorem dX8_layStays_67 : decode cX8_layStays 67 = .ok (.goto (-56), 3) := by decide +kernel
theorem dX8_layStays_70 : decode cX8_layStays 70 = .ok (.iconst 0, 1) := by decide +kernel
theorem dX8_layStays_71 : decode cX8_layStays 71 = .ok (.istore_n 1, 1) := by decide +kernel
theorem dX8_layStays_72 : decode cX8_layStays 72 = .ok (.iload_n 1, 1) := by decide +kernel
theorem dX8_layStays_73 : decode cX8_layStays 73 = .ok (.iconst 5, 1) := by decide +kernel
theorem dX8_layStays_74 : decode cX8_layStays 74 = .ok (.if_icmp .ge 57, 3) := by decide +kernel
theorem dX8_layStays_77 : decode cX8_layStays 77 = .ok (.iconst (-1), 1) := by decide +kernel
theorem dX8_layStays_78 : decode cX8_layStays 78 = .ok (.istore_n 2, 1) := by decide +kernel
theorem dX8_layStays_79 : decode cX8_layStays 79 = .ok (.iload_n 1, 1) := by decide +kernel
theorem dX8_layStays_80 : decode cX8_layStays 80 = .ok (.bipush 120, 2) := by decide +kernel
theorem dX8_layStays_82 : decode cX8_layStays 82 = .ok (.imul, 1) := by decide +kernel
theorem dX8_layStays_83 : decode cX8_layStays 83 = .ok (.istore_n 3, 1) := by decide +kernel
theorem dX8_layStays_84 : decode cX8_layStays 84 = .ok (.iload_n 3, 1) := by decide +kernel
theorem dX8_layStays_85 : decode cX8_layStays 85 = .ok (.iload_n 1, 1) := by decide +kernel
theorem dX8_layStays_86 : decode cX8_layStays 86 = .ok (.iconst 1, 1) := by decide +kernel
theorem dX8_layStays_87 : decode cX8_layStays 87 = .ok (.iadd, 1) := by decide +kernel
theorem dX8_layStays_88 : decode cX8_layStays 88 = .ok (.bipush 120, 2) := by decide +kernel
theorem dX8_layStays_90 : decode cX8_layStays 90 = .ok (.imul, 1) := by decide +kernel
theorem dX8_layStays_91 : decode cX8_layStays 91 = .ok (.if_icmp .ge 34, 3) := by decide +kernel
theorem dX8_layStays_94 : decode cX8_layStays 94 = .ok (.aload_n 0, 1) := by decide +kernel
theorem dX8_layStays_95 : decode cX8_layStays 95 = .ok (.getfield 9, 3) := by decide +kernel
theorem dX8_layStays_98 : decode cX8_layStays 98 = .ok (.iload_n 3, 1) := by decide +kernel
theorem dX8_layStays_99 : decode cX8_layStays 99 = .ok (.iaload, 1) := by decide +kernel
theorem dX8_layStays_100 : decode cX8_layStays 100 = .ok (.bipush (-2), 2) := by decide +kernel
theorem dX8_layStays_102 : decode cX8_layStays 102 = .ok (.if_icmp .ne 10, 3) := by decide +kernel
theorem dX8_layStays_105 : decode cX8_layStays 105 = .ok (.aload_n 0, 1) := by decide +kernel
theorem dX8_layStays_106 : decode cX8_layStays 106 = .ok (.getfield 9, 3) := by decide +kernel
theorem dX8_layStays_109 : decode cX8_layStays 109 = .ok (.iload_n 3, 1) := by decide +kernel
theorem dX8_layStays_110 : decode cX8_layStays 110 = .ok (.iload_n 2, 1) := by decide +kernel
theorem dX8_layStays_111 : decode cX8_layStays 111 = .ok (.iastore, 1) := by decide +kernel
theorem dX8_layStays_112 : decode cX8_layStays 112 = .ok (.aload_n 0, 1) := by decide +kernel
theorem dX8_layStays_113 : decode cX8_layStays 113 = .ok (.getfield 9, 3) := by decide +kernel
theorem dX8_layStays_116 : decode cX8_layStays 116 = .ok (.iload_n 3, 1) := by decide +kernel
theorem dX8_layStays_117 : decode cX8_layStays 117 = .ok (.iaload, 1) := by decide +kernel
theorem dX8_layStays_118 : decode cX8_layStays 118 = .ok (.istore_n 2, 1) := by decide +kernel
theorem dX8_layStays_119 : decode cX8_layStays 119 = .ok (.iinc 3 1, 3) := by decide +kernel
theorem dX8_layStays_122 : decode cX8_layStays 122 = .ok (.goto (-38), 3) := by decide +kernel
theorem dX8_layStays_125 : decode cX8_layStays 125 = .ok (.iinc 1 1, 3) := by decide +kernel
theorem dX8_layStays_128 : decode cX8_layStays 128 = .ok (.goto (-56), 3) := by decide +kernel
theorem dX8_layStays_131 : decode cX8_layStays 131 = .ok (.return_, 1) := by decide +kernel
set_option maxRecDepth 20000 in
theorem s_X8_layStays {w : Wd} {d : Nat} {P : IM → LM → Prop} {i : IM} {l : LM}   (hd : 1 ≤ d) (h : gV w d X_X8_layStays P (fillA i 45 600 (-2)) l 11 [(0, vR (some 44)), (1, vI 0)] []) : gV w d X_X8_layStays P i l 0 [(0, vR (some 44))] [] := by
  refine g_aload_n (pc' := 1) 0 dX8_layStays_0 rfl rfl ?_
  refine g_getR (pc' := 4) (o := some 45) fl_X8_9 rfl rfl rfl dX8_layStays_1 rfl ?_
  refine g_bipush (pc' := 6) dX8_layStays_4 rfl rfl ?_
  refine g_fill (pc' := 9) (st := []) (le_hd hd rfl) rfl (Nat.le_of_ble_eq_true rfl) (rg_lit rfl) lk_X8_49 (Nat.le_of_ble_eq_true rfl) dX8_layStays_6 rfl ?_
  refine g_iconst (pc' := 10) dX8_layStays_9 rfl ?_
  refine g_istore_n (pc' := 11) (L' := [(1, vI 0), (0, vR (some 44))]) dX8_layStays_10 rfl (Nat.le_of_ble_eq_true rfl) rfl ?_
  refine g_sub (L' := [(0, vR (some 44)), (1, vI 0)]) [1, 0] rfl ?_
  exact h
theorem e_X8_layStays {w : Wd} {d : Nat} {P : IM → LM → Prop} {i : IM} {l : LM}   (h : gV w d X_X8_layStays P i l 0 [(0, vR (some 44))] []) : cVd w (d + 1) X_X8_layStays [vR (some 44)] i l P := CV_of (by decide +kernel) (Nat.le_of_ble_eq_true rfl) h
set_option maxRecDepth 20000 in
theorem s_X8_layStays_11 {w : Wd} {d : Nat} {P : IM → LM → Prop} {i : IM} {l : LM} (x1 : Int)  (h : ((rg x1) ∧ (rg ((i 7 11) * 3)) ∧ (((i 7 11) * 3 ≤ x1) → gV w d X_X8_layStays P i l 72 [(0, vR (some 44)), (1, vI 0)] []) ∧ ((¬ ((i 7 11) * 3 ≤ x1)) → ((0 ≤ x1 ∧ x1 < 180) ∧ (0 ≤ x1 + 1 ∧ x1 + 1 < 180) ∧ (0 ≤ x1 + 2 ∧ x1 + 2 < 180) ∧ (0 ≤ ((i 14 x1) * 120) + (i 14 (x1 + 1)) ∧ ((i 14 x1) * 120) + (i 14 (x1 + 1)) < 600) ∧ gV w d X_X8_layStays P (u2 i 45 (((i 14 x1) * 120) + (i 14 (x1 + 1))) (i 14 (x1 + 2))) l 11 [(0, vR (some 44)), (1, vI (x1 + 3))] [])))) : gV w d X_X8_layStays P i l 11 [(0, vR (some 44)), (1, vI x1)] [] := by
  refine g_iload_n (pc' := 12) 1 dX8_layStays_11 rfl rfl ?_
  refine g_aload_n (pc' := 13) 0 dX8_layStays_12 rfl rfl ?_
  refine g_getR (pc' := 16) (o := some 7) fl_X8_34 rfl rfl rfl dX8_layStays_13 rfl ?_
  refine g_getI (pc' := 19) (z := 11) rfl fl_X8_74 rfl rfl dX8_layStays_16 rfl (fun rg1 => ?_)
  refine g_iconst (pc' := 20) dX8_layStays_19 rfl ?_
  refine g_imul (pc' := 21) dX8_layStays_20 rfl ?_
  obtain ⟨hob3, hob4, hk19, hk20⟩ := h
  refine g_icmp_ge (tgt := 70) (pc' := 24) (hob3) (hob4) Iff.rfl dX8_layStays_21 rfl rfl (fun c5 => ?_) (fun c5 => ?_)
  · have h := hk19 c5
    refine g_iconst (pc' := 71) dX8_layStays_70 rfl ?_
    refine g_istore_n (pc' := 72) (L' := [(1, vI 0), (0, vR (some 44))]) dX8_layStays_71 rfl (Nat.le_of_ble_eq_true rfl) rfl ?_
    refine g_sub (L' := [(0, vR (some 44)), (1, vI 0)]) [1, 0] rfl ?_
    exact h
  · have h := hk20 c5
    obtain ⟨ob12, ob14, ob16, ob18, h⟩ := h
    refine g_aload_n (pc' := 25) 0 dX8_layStays_24 rfl rfl ?_
    refine g_getR (pc' := 28) (o := some 45) fl_X8_9 rfl rfl rfl dX8_layStays_25 rfl ?_
    refine g_aload_n (pc' := 29) 0 dX8_layStays_28 rfl rfl ?_
    refine g_getR (pc' := 32) (o := some 7) fl_X8_34 rfl rfl rfl dX8_layStays_29 rfl ?_
    refine g_getR (pc' := 35) (o := some 14) fl_X8_77 rfl rfl rfl dX8_layStays_32 rfl ?_
    refine g_iload_n (pc' := 36) 1 dX8_layStays_35 rfl rfl ?_
    refine g_iald (pc' := 37) (N := 180) rfl rfl (Nat.lt_of_lt_of_le (Nat.lt_succ_self _) (Nat.le_of_ble_eq_true rfl)) ob12 dX8_layStays_36 rfl (fun rg13 => ?_)
    refine g_bipush (pc' := 39) dX8_layStays_37 rfl rfl ?_
    refine g_imul (pc' := 40) dX8_layStays_39 rfl ?_
    refine g_aload_n (pc' := 41) 0 dX8_layStays_40 rfl rfl ?_
    refine g_getR (pc' := 44) (o := some 7) fl_X8_34 rfl rfl rfl dX8_layStays_41 rfl ?_
    refine g_getR (pc' := 47) (o := some 14) fl_X8_77 rfl rfl rfl dX8_layStays_44 rfl ?_
    refine g_iload_n (pc' := 48) 1 dX8_layStays_47 rfl rfl ?_
    refine g_iconst (pc' := 49) dX8_layStays_48 rfl ?_
    refine g_iadd (pc' := 50) dX8_layStays_49 rfl ?_
    refine g_iald (pc' := 51) (N := 180) rfl rfl (Nat.lt_of_lt_of_le (Nat.lt_succ_self _) (Nat.le_of_ble_eq_true rfl)) ob14 dX8_layStays_50 rfl (fun rg15 => ?_)
    refine g_iadd (pc' := 52) dX8_layStays_51 rfl ?_
    refine g_aload_n (pc' := 53) 0 dX8_layStays_52 rfl rfl ?_
    refine g_getR (pc' := 56) (o := some 7) fl_X8_34 rfl rfl rfl dX8_layStays_53 rfl ?_
    refine g_getR (pc' := 59) (o := some 14) fl_X8_77 rfl rfl rfl dX8_layStays_56 rfl ?_
    refine g_iload_n (pc' := 60) 1 dX8_layStays_59 rfl rfl ?_
    refine g_iconst (pc' := 61) dX8_layStays_60 rfl ?_
    refine g_iadd (pc' := 62) dX8_layStays_61 rfl ?_
    refine g_iald (pc' := 63) (N := 180) rfl rfl (Nat.lt_of_lt_of_le (Nat.lt_succ_self _) (Nat.le_of_ble_eq_true rfl)) ob16 dX8_layStays_62 rfl (fun rg17 => ?_)
    refine g_iast (pc' := 64) (N := 600) rfl rfl (Nat.lt_of_lt_of_le (Nat.lt_succ_self _) (Nat.le_of_ble_eq_true rfl)) ob18 rg17 dX8_layStays_63 rfl ?_
    refine g_iinc (pc' := 67) (L' := [(1, vI (x1 + 3)), (0, vR (some 44))]) 1 dX8_layStays_64 rfl (Nat.le_of_ble_eq_true rfl) rfl rfl ?_
    refine g_goto (tgt := 11) dX8_layStays_67 rfl ?_
    refine g_sub (L' := [(0, vR (some 44)), (1, vI (x1 + 3))]) [1, 0] rfl ?_
    exact h
set_option maxRecDepth 20000 in
theorem s_X8_layStays_72 {w : Wd} {d : Nat} {P : IM → LM → Prop} {i : IM} {l : LM} (x1 : Int)  (h : ((rg x1) ∧ ((5 ≤ x1) → P i l) ∧ ((¬ (5 ≤ x1)) → gV w d X_X8_layStays P i l 84 [(0, vR (some 44)), (1, vI x1), (2, vI (-1)), (3, vI (x1 * 120))] []))) : gV w d X_X8_layStays P i l 72 [(0, vR (some 44)), (1, vI x1)] [] := by
  refine g_iload_n (pc' := 73) 1 dX8_layStays_72 rfl rfl ?_
  refine g_iconst (pc' := 74) dX8_layStays_73 rfl ?_
  obtain ⟨hob22, hk24, hk25⟩ := h
  refine g_icmp_ge (tgt := 131) (pc' := 77) (hob22) (rg_lit rfl) Iff.rfl dX8_layStays_74 rfl rfl (fun c23 => ?_) (fun c23 => ?_)
  · have h := hk24 c23
    exact g_retV rfl dX8_layStays_131 h
  · have h := hk25 c23
    refine g_iconst (pc' := 78) dX8_layStays_77 rfl ?_
    refine g_istore_n (pc' := 79) (L' := [(2, vI (-1)), (0, vR (some 44)), (1, vI x1)]) dX8_layStays_78 rfl (Nat.le_of_ble_eq_true rfl) rfl ?_
    refine g_iload_n (pc' := 80) 2 dX8_layStays_79 rfl rfl ?_
    refine g_bipush (pc' := 82) dX8_layStays_80 rfl rfl ?_
    refine g_imul (pc' := 83) dX8_layStays_82 rfl ?_
    refine g_istore_n (pc' := 84) (L' := [(3, vI (x1 * 120)), (2, vI (-1)), (0, vR (some 44)), (1, vI x1)]) dX8_layStays_83 rfl (Nat.le_of_ble_eq_true rfl) rfl ?_
    refine g_sub (L' := [(0, vR (some 44)), (1, vI x1), (2, vI (-1)), (3, vI (x1 * 120))]) [2, 3, 1, 0] rfl ?_
    exact h
set_option maxRecDepth 20000 in
theorem s_X8_layStays_84 {w : Wd} {d : Nat} {P : IM → LM → Prop} {i : IM} {l : LM} (x1 : Int) (x2 : Int) (x3 : Int)  (h : ((rg x3) ∧ (rg ((x1 + 1) * 120)) ∧ (¬ ((x1 + 1) * 120 ≤ x3) → 0 ≤ x3 ∧ x3 < 600) ∧ (((x1 + 1) * 120 ≤ x3) → gV w d X_X8_layStays P i l 72 [(0, vR (some 44)), (1, vI (x1 + 1))] []) ∧ ((¬ ((x1 + 1) * 120 ≤ x3) ∧ (¬ (i 45 x3 = (-2)))) → ((0 ≤ x3 ∧ x3 < 600) ∧ gV w d X_X8_layStays P i l 84 [(0, vR (some 44)), (1, vI x1), (2, vI (i 45 x3)), (3, vI (x3 + 1))] [])) ∧ ((¬ ((x1 + 1) * 120 ≤ x3) ∧ (i 45 x3 = (-2))) → ((0 ≤ x3 ∧ x3 < 600) ∧ (rg x2) ∧ gV w d X_X8_layStays P (u2 i 45 x3 x2) l 84 [(0, vR (some 44)), (1, vI x1), (2, vI ((u2 i 45 x3 x2) 45 x3)), (3, vI (x3 + 1))] [])))) : gV w d X_X8_layStays P i l 84 [(0, vR (some 44)), (1, vI x1), (2, vI x2), (3, vI x3)] [] := by
  refine g_iload_n (pc' := 85) 3 dX8_layStays_84 rfl rfl ?_
  refine g_iload_n (pc' := 86) 1 dX8_layStays_85 rfl rfl ?_
  refine g_iconst (pc' := 87) dX8_layStays_86 rfl ?_
  refine g_iadd (pc' := 88) dX8_layStays_87 rfl ?_
  refine g_bipush (pc' := 90) dX8_layStays_88 rfl rfl ?_
  refine g_imul (pc' := 91) dX8_layStays_90 rfl ?_
  obtain ⟨hob27, hob28, hob30, hk38, hk39, hk40⟩ := h
  have hk38g : ((x1 + 1) * 120 ≤ x3) → gV w d X_X8_layStays P i l 125 [(0, vR (some 44)), (1, vI x1), (2, vI x2), (3, vI x3)] [] := by
    intro hp
    have h := hk38 hp
    refine g_iinc (pc' := 128) (L' := [(1, vI (x1 + 1)), (0, vR (some 44)), (2, vI x2), (3, vI x3)]) 1 dX8_layStays_125 rfl (Nat.le_of_ble_eq_true rfl) rfl rfl ?_
    refine g_goto (tgt := 72) dX8_layStays_128 rfl ?_
    refine g_sub (L' := [(0, vR (some 44)), (1, vI (x1 + 1))]) [1, 0] rfl ?_
    exact h
  have hk39g : (¬ ((x1 + 1) * 120 ≤ x3) ∧ (¬ (i 45 x3 = (-2)))) → gV w d X_X8_layStays P i l 112 [(0, vR (some 44)), (1, vI x1), (2, vI x2), (3, vI x3)] [] := by
    intro hp
    have h := hk39 hp
    obtain ⟨ob33, h⟩ := h
    refine g_aload_n (pc' := 113) 0 dX8_layStays_112 rfl rfl ?_
    refine g_getR (pc' := 116) (o := some 45) fl_X8_9 rfl rfl rfl dX8_layStays_113 rfl ?_
    refine g_iload_n (pc' := 117) 3 dX8_layStays_116 rfl rfl ?_
    refine g_iald (pc' := 118) (N := 600) rfl rfl (Nat.lt_of_lt_of_le (Nat.lt_succ_self _) (Nat.le_of_ble_eq_true rfl)) ob33 dX8_layStays_117 rfl (fun rg34 => ?_)
    refine g_istore_n (pc' := 119) (L' := [(2, vI (i 45 x3)), (0, vR (some 44)), (1, vI x1), (3, vI x3)]) dX8_layStays_118 rfl (Nat.le_of_ble_eq_true rfl) rfl ?_
    refine g_iinc (pc' := 122) (L' := [(3, vI (x3 + 1)), (2, vI (i 45 x3)), (0, vR (some 44)), (1, vI x1)]) 3 dX8_layStays_119 rfl (Nat.le_of_ble_eq_true rfl) rfl rfl ?_
    refine g_goto (tgt := 84) dX8_layStays_122 rfl ?_
    refine g_sub (L' := [(0, vR (some 44)), (1, vI x1), (2, vI (i 45 x3)), (3, vI (x3 + 1))]) [2, 3, 1, 0] rfl ?_
    exact h
  have hk40g : (¬ ((x1 + 1) * 120 ≤ x3) ∧ (i 45 x3 = (-2))) → gV w d X_X8_layStays P i l 105 [(0, vR (some 44)), (1, vI x1), (2, vI x2), (3, vI x3)] [] := by
    intro hp
    have h := hk40 hp
    obtain ⟨ob35, ob36, h⟩ := h
    refine g_aload_n (pc' := 106) 0 dX8_layStays_105 rfl rfl ?_
    refine g_getR (pc' := 109) (o := some 45) fl_X8_9 rfl rfl rfl dX8_layStays_106 rfl ?_
    refine g_iload_n (pc' := 110) 3 dX8_layStays_109 rfl rfl ?_
    refine g_iload_n (pc' := 111) 2 dX8_layStays_110 rfl rfl ?_
    refine g_iast (pc' := 112) (N := 600) rfl rfl (Nat.lt_of_lt_of_le (Nat.lt_succ_self _) (Nat.le_of_ble_eq_true rfl)) ob35 ob36 dX8_layStays_111 rfl ?_
    refine g_aload_n (pc' := 113) 0 dX8_layStays_112 rfl rfl ?_
    refine g_getR (pc' := 116) (o := some 45) fl_X8_9 rfl rfl rfl dX8_layStays_113 rfl ?_
    refine g_iload_n (pc' := 117) 3 dX8_layStays_116 rfl rfl ?_
    refine g_iald (pc' := 118) (N := 600) rfl rfl (Nat.lt_of_lt_of_le (Nat.lt_succ_self _) (Nat.le_of_ble_eq_true rfl)) ob35 dX8_layStays_117 rfl (fun rg37 => ?_)
    refine g_istore_n (pc' := 119) (L' := [(2, vI ((u2 i 45 x3 x2) 45 x3)), (0, vR (some 44)), (1, vI x1), (3, vI x3)]) dX8_layStays_118 rfl (Nat.le_of_ble_eq_true rfl) rfl ?_
    refine g_iinc (pc' := 122) (L' := [(3, vI (x3 + 1)), (2, vI ((u2 i 45 x3 x2) 45 x3)), (0, vR (some 44)), (1, vI x1)]) 3 dX8_layStays_119 rfl (Nat.le_of_ble_eq_true rfl) rfl rfl ?_
    refine g_goto (tgt := 84) dX8_layStays_122 rfl ?_
    refine g_sub (L' := [(0, vR (some 44)), (1, vI x1), (2, vI ((u2 i 45 x3 x2) 45 x3)), (3, vI (x3 + 1))]) [2, 3, 1, 0] rfl ?_
    exact h
  refine g_icmp_ge (tgt := 125) (pc' := 94) (hob27) (hob28) Iff.rfl dX8_layStays_91 rfl rfl (fun c29 => ?_) (fun c29 => ?_)
  · exact hk38g c29
  · refine g_aload_n (pc' := 95) 0 dX8_layStays_94 rfl rfl ?_
    refine g_getR (pc' := 98) (o := some 45) fl_X8_9 rfl rfl rfl dX8_layStays_95 rfl ?_
    refine g_iload_n (pc' := 99) 3 dX8_layStays_98 rfl rfl ?_
    refine g_iald (pc' := 100) (N := 600) rfl rfl (Nat.lt_of_lt_of_le (Nat.lt_succ_self _) (Nat.le_of_ble_eq_true rfl)) (hob30 c29) dX8_layStays_99 rfl (fun rg31 => ?_)
    refine g_bipush (pc' := 102) dX8_layStays_100 rfl rfl ?_
    refine g_icmp_ne (tgt := 112) (pc' := 105) rg31 (rg_lit rfl) Iff.rfl dX8_layStays_102 rfl rfl (fun c32 => ?_) (fun c32 => ?_)
    · exact hk39g ⟨c29, c32⟩
    · exact hk40g ⟨c29, c32⟩

theorem dX8_letOut_0 : decode cX8_letOut 0 = .ok (.iconst 0, 1) := by decide +kernel
theorem dX8_letOut_1 : decode cX8_letOut 1 = .ok (.istore_n 3, 1) := by decide +kernel
theorem dX8_letOut_2 : decode cX8_letOut 2 = .ok (.iload_n 3, 1) := by decide +kernel
theorem dX8_letOut_3 : decode cX8_letOut 3 = .ok (.iconst 5, 1) := by decide +kernel
theorem dX8_letOut_4 : decode cX8_letOut 4 = .ok (.if_icmp .ge 35, 3) := by decide +kernel
theorem dX8_letOut_7 : decode cX8_letOut 7 = .ok (.aload_n 0, 1) := by decide +kernel
theorem dX8_letOut_8 : decode cX8_letOut 8 = .ok (.getfield 24, 3) := by decide +kernel
theorem dX8_letOut_11 : decode cX8_letOut 11 = .ok (.iload_n 3, 1) := by decide +kernel
theorem dX8_letOut_12 : decode cX8_letOut 12 = .ok (.iload_n 3, 1) := by decide +kernel
theorem dX8_letOut_13 : decode cX8_letOut 13 = .ok (.iload_n 2, 1) := by decide +kernel
theorem dX8_letOut_14 : decode cX8_letOut 14 = .ok (.if_icmp .ne 7, 3) := by decide +kernel
theorem dX8_letOut_17 : decode cX8_letOut 17 = .ok (.iconst (-1), 1) := by decide +kernel
theorem dX8_letOut_18 : decode cX8_letOut 18 = .ok (.goto 14, 3) := by decide +kernel
theorem dX8_letOut_21 : decode cX8_letOut 21 = .ok (.aload_n 0, 1) := by decide +kernel
theorem dX8_letOut_22 : decode cX8_letOut 22 = .ok (.getfield 9, 3) := by decide +kernel
theorem dX8_letOut_25 : decode cX8_letOut 25 = .ok (.iload_n 3, 1) := by decide +kernel
theorem dX8_letOut_26 : decode cX8_letOut 26 = .ok (.bipush 120, 2) := by decide +kernel
theorem dX8_letOut_28 : decode cX8_letOut 28 = .ok (.imul, 1) := by decide +kernel
theorem dX8_letOut_29 : decode cX8_letOut 29 = .ok (.iload_n 1, 1) := by decide +kernel
theorem dX8_letOut_30 : decode cX8_letOut 30 = .ok (.iadd, 1) := by decide +kernel
theorem dX8_letOut_31 : decode cX8_letOut 31 = .ok (.iaload, 1) := by decide +kernel
theorem dX8_letOut_32 : decode cX8_letOut 32 = .ok (.iastore, 1) := by decide +kernel
theorem dX8_letOut_33 : decode cX8_letOut 33 = .ok (.iinc 3 1, 3) := by decide +kernel
theorem dX8_letOut_36 : decode cX8_letOut 36 = .ok (.goto (-34), 3) := by decide +kernel
theorem dX8_letOut_39 : decode cX8_letOut 39 = .ok (.return_, 1) := by decide +kernel
set_option maxRecDepth 20000 in
theorem s_X8_letOut {w : Wd} {d : Nat} {P : IM → LM → Prop} {i : IM} {l : LM} (p0 : Int) (p1 : Int)  (h : gV w d X_X8_letOut P i l 2 [(0, vR (some 44)), (1, vI p0), (2, vI p1), (3, vI 0)] []) : gV w d X_X8_letOut P i l 0 [(0, vR (some 44)), (1, vI p0), (2, vI p1)] [] := by
  refine g_iconst (pc' := 1) dX8_letOut_0 rfl ?_
  refine g_istore_n (pc' := 2) (L' := [(3, vI 0), (0, vR (some 44)), (1, vI p0), (2, vI p1)]) dX8_letOut_1 rfl (Nat.le_of_ble_eq_true rfl) rfl ?_
  refine g_sub (L' := [(0, vR (some 44)), (1, vI p0), (2, vI p1), (3, vI 0)]) [1, 2, 3, 0] rfl ?_
  exact h
theorem e_X8_letOut {w : Wd} {d : Nat} {P : IM → LM → Prop} {i : IM} {l : LM} {p0 : Int} {p1 : Int}  (h : gV w d X_X8_letOut P i l 0 [(0, vR (some 44)), (1, vI p0), (2, vI p1)] []) : cVd w (d + 1) X_X8_letOut [vR (some 44), vI p0, vI p1] i l P := CV_of (by decide +kernel) (Nat.le_of_ble_eq_true rfl) h
set_option maxRecDepth 20000 in
theorem s_X8_letOut_2 {w : Wd} {d : Nat} {P : IM → LM → Prop} {i : IM} {l : LM} (x1 : Int) (x2 : Int) (x3 : Int)  (h : ((rg x3) ∧ ((5 ≤ x3) → P i l) ∧ ((¬ (5 ≤ x3)) → ((rg x3) ∧ (rg x2) ∧ (¬ (x3 = x2) → 0 ≤ (x3 * 120) + x1 ∧ (x3 * 120) + x1 < 600) ∧ ((0 ≤ x3 ∧ x3 < 5) ∧ gV w d X_X8_letOut P (u2 i 49 x3 (if (x3 = x2) then (-1) else i 45 ((x3 * 120) + x1))) l 2 [(0, vR (some 44)), (1, vI x1), (2, vI x2), (3, vI (x3 + 1))] []))))) : gV w d X_X8_letOut P i l 2 [(0, vR (some 44)), (1, vI x1), (2, vI x2), (3, vI x3)] [] := by
  refine g_iload_n (pc' := 3) 3 dX8_letOut_2 rfl rfl ?_
  refine g_iconst (pc' := 4) dX8_letOut_3 rfl ?_
  obtain ⟨hob26, hk35, hk36⟩ := h
  refine g_icmp_ge (tgt := 39) (pc' := 7) (hob26) (rg_lit rfl) Iff.rfl dX8_letOut_4 rfl rfl (fun c27 => ?_) (fun c27 => ?_)
  · have h := hk35 c27
    exact g_retV rfl dX8_letOut_39 h
  · have h := hk36 c27
    refine g_aload_n (pc' := 8) 0 dX8_letOut_7 rfl rfl ?_
    refine g_getR (pc' := 11) (o := some 49) fl_X8_24 rfl rfl rfl dX8_letOut_8 rfl ?_
    refine g_iload_n (pc' := 12) 3 dX8_letOut_11 rfl rfl ?_
    refine g_iload_n (pc' := 13) 3 dX8_letOut_12 rfl rfl ?_
    refine g_iload_n (pc' := 14) 2 dX8_letOut_13 rfl rfl ?_
    refine g_rg (fun hRG28 => ?_)
    obtain ⟨hob29, hob30, hob32, h⟩ := h
    have hJ : gV w d X_X8_letOut P i l 32 [(0, vR (some 44)), (1, vI x1), (2, vI x2), (3, vI x3)] [vI (if (x3 = x2) then (-1) else i 45 ((x3 * 120) + x1)), vI x3, vR (some 49)] := by
      obtain ⟨ob34, h⟩ := h
      refine g_iast (pc' := 33) (N := 5) rfl rfl (Nat.lt_of_lt_of_le (Nat.lt_succ_self _) (Nat.le_of_ble_eq_true rfl)) ob34 (rg_ite (rg_lit rfl) (hRG28 _ _)) dX8_letOut_32 rfl ?_
      refine g_iinc (pc' := 36) (L' := [(3, vI (x3 + 1)), (0, vR (some 44)), (1, vI x1), (2, vI x2)]) 3 dX8_letOut_33 rfl (Nat.le_of_ble_eq_true rfl) rfl rfl ?_
      refine g_goto (tgt := 2) dX8_letOut_36 rfl ?_
      refine g_sub (L' := [(0, vR (some 44)), (1, vI x1), (2, vI x2), (3, vI (x3 + 1))]) [1, 2, 3, 0] rfl ?_
      exact h
    refine g_icmp_ne (tgt := 21) (pc' := 17) (hob29) (hob30) Iff.rfl dX8_letOut_14 rfl rfl (fun c31 => ?_) (fun c31 => ?_)
    · refine g_aload_n (pc' := 22) 0 dX8_letOut_21 rfl rfl ?_
      refine g_getR (pc' := 25) (o := some 45) fl_X8_9 rfl rfl rfl dX8_letOut_22 rfl ?_
      refine g_iload_n (pc' := 26) 3 dX8_letOut_25 rfl rfl ?_
      refine g_bipush (pc' := 28) dX8_letOut_26 rfl rfl ?_
      refine g_imul (pc' := 29) dX8_letOut_28 rfl ?_
      refine g_iload_n (pc' := 30) 1 dX8_letOut_29 rfl rfl ?_
      refine g_iadd (pc' := 31) dX8_letOut_30 rfl ?_
      refine g_iald (pc' := 32) (N := 600) rfl rfl (Nat.lt_of_lt_of_le (Nat.lt_succ_self _) (Nat.le_of_ble_eq_true rfl)) (hob32 c31) dX8_letOut_31 rfl (fun rg33 => ?_)
      rw [if_neg c31 (α := Int) (t := (-1)) (e := i 45 ((x3 * 120) + x1))] at hJ
      exact hJ
    · refine g_iconst (pc' := 18) dX8_letOut_17 rfl ?_
      refine g_goto (tgt := 32) dX8_letOut_18 rfl ?_
      rw [if_pos c31 (α := Int) (t := (-1)) (e := i 45 ((x3 * 120) + x1))] at hJ
      exact hJ

theorem dX8_limitAt_0 : decode cX8_limitAt 0 = .ok (.iload_n 1, 1) := by decide +kernel
theorem dX8_limitAt_1 : decode cX8_limitAt 1 = .ok (.bipush 120, 2) := by decide +kernel
theorem dX8_limitAt_3 : decode cX8_limitAt 3 = .ok (.imul, 1) := by decide +kernel
theorem dX8_limitAt_4 : decode cX8_limitAt 4 = .ok (.aload_n 0, 1) := by decide +kernel
theorem dX8_limitAt_5 : decode cX8_limitAt 5 = .ok (.getfield 68, 3) := by decide +kernel
theorem dX8_limitAt_8 : decode cX8_limitAt 8 = .ok (.ifCond .eq 7, 3) := by decide +kernel
theorem dX8_limitAt_11 : decode cX8_limitAt 11 = .ok (.iload_n 2, 1) := by decide +kernel
theorem dX8_limitAt_12 : decode cX8_limitAt 12 = .ok (.goto 4, 3) := by decide +kernel
theorem dX8_limitAt_15 : decode cX8_limitAt 15 = .ok (.iconst 0, 1) := by decide +kernel
theorem dX8_limitAt_16 : decode cX8_limitAt 16 = .ok (.iadd, 1) := by decide +kernel
theorem dX8_limitAt_17 : decode cX8_limitAt 17 = .ok (.istore_n 3, 1) := by decide +kernel
theorem dX8_limitAt_18 : decode cX8_limitAt 18 = .ok (.aload_n 0, 1) := by decide +kernel
theorem dX8_limitAt_19 : decode cX8_limitAt 19 = .ok (.getfield 18, 3) := by decide +kernel
theorem dX8_limitAt_22 : decode cX8_limitAt 22 = .ok (.iload_n 3, 1) := by decide +kernel
theorem dX8_limitAt_23 : decode cX8_limitAt 23 = .ok (.iaload, 1) := by decide +kernel
theorem dX8_limitAt_24 : decode cX8_limitAt 24 = .ok (.iconst (-1), 1) := by decide +kernel
theorem dX8_limitAt_25 : decode cX8_limitAt 25 = .ok (.if_icmp .ne 25, 3) := by decide +kernel
theorem dX8_limitAt_28 : decode cX8_limitAt 28 = .ok (.aload_n 0, 1) := by decide +kernel
theorem dX8_limitAt_29 : decode cX8_limitAt 29 = .ok (.getfield 18, 3) := by decide +kernel
theorem dX8_limitAt_32 : decode cX8_limitAt 32 = .ok (.iload_n 3, 1) := by decide +kernel
theorem dX8_limitAt_33 : decode cX8_limitAt 33 = .ok (.aload_n 0, 1) := by decide +kernel
theorem dX8_limitAt_34 : decode cX8_limitAt 34 = .ok (.getfield 38, 3) := by decide +kernel
theorem dX8_limitAt_37 : decode cX8_limitAt 37 = .ok (.iload_n 1, 1) := by decide +kernel
theorem dX8_limitAt_38 : decode cX8_limitAt 38 = .ok (.aload_n 0, 1) := by decide +kernel
theorem dX8_limitAt_39 : decode cX8_limitAt 39 = .ok (.getfield 34, 3) := by decide +kernel
theorem dX8_limitAt_42 : decode cX8_limitAt 42 = .ok (.getfield 80, 3) := by decide +kernel
theorem dX8_limitAt_45 : decode cX8_limitAt 45 = .ok (.iload_n 2, 1) := by decide +kernel
theorem dX8_limitAt_46 : decode cX8_limitAt 46 = .ok (.invokevirtual 83, 3) := by decide +kernel
theorem dX8_limitAt_49 : decode cX8_limitAt 49 = .ok (.iastore, 1) := by decide +kernel
theorem dX8_limitAt_50 : decode cX8_limitAt 50 = .ok (.aload_n 0, 1) := by decide +kernel
theorem dX8_limitAt_51 : decode cX8_limitAt 51 = .ok (.getfield 18, 3) := by decide +kernel
theorem dX8_limitAt_54 : decode cX8_limitAt 54 = .ok (.iload_n 3, 1) := by decide +kernel
theorem dX8_limitAt_55 : decode cX8_limitAt 55 = .ok (.iaload, 1) := by decide +kernel
theorem dX8_limitAt_56 : decode cX8_limitAt 56 = .ok (.ireturn, 1) := by decide +kernel
set_option maxRecDepth 20000 in
theorem s_X8_limitAt {w : Wd} {d : Nat} {P : Int → IM → LM → Prop} {i : IM} {l : LM} (p0 : Int) (p1 : Int)  (h : ((0 ≤ (p0 * 120) + (if (i 44 13 = 0) then 0 else p1) ∧ (p0 * 120) + (if (i 44 13 = 0) then 0 else p1) < 960) ∧ (((i 47 ((p0 * 120) + (if (i 44 13 = 0) then 0 else p1)) = (-1)) → cI w d X_X0_limitOf [vR (some 41), vI p0, vI (i 7 13), vI p1] i l (fun r12 i12 l12 => ((0 ≤ (p0 * 120) + (if (i 44 13 = 0) then 0 else p1) ∧ (p0 * 120) + (if (i 44 13 = 0) then 0 else p1) < 960) ∧ P ((u2 i12 47 ((p0 * 120) + (if (i 44 13 = 0) then 0 else p1)) r12) 47 ((p0 * 120) + (if (i 44 13 = 0) then 0 else p1))) (u2 i12 47 ((p0 * 120) + (if (i 44 13 = 0) then 0 else p1)) r12) l12))) ∧ ((¬ (i 47 ((p0 * 120) + (if (i 44 13 = 0) then 0 else p1)) = (-1))) → ((0 ≤ (p0 * 120) + (if (i 44 13 = 0) then 0 else p1) ∧ (p0 * 120) + (if (i 44 13 = 0) then 0 else p1) < 960) ∧ P (i 47 ((p0 * 120) + (if (i 44 13 = 0) then 0 else p1))) i l))))) : gI w d X_X8_limitAt P i l 0 [(0, vR (some 44)), (1, vI p0), (2, vI p1)] [] := by
  refine g_iload_n (pc' := 1) 1 dX8_limitAt_0 rfl rfl ?_
  refine g_bipush (pc' := 3) dX8_limitAt_1 rfl rfl ?_
  refine g_imul (pc' := 4) dX8_limitAt_3 rfl ?_
  refine g_aload_n (pc' := 5) 0 dX8_limitAt_4 rfl rfl ?_
  refine g_getI (pc' := 8) (z := 13) rfl fl_X8_68 rfl rfl dX8_limitAt_5 rfl (fun rg1 => ?_)
  have hJ : gI w d X_X8_limitAt P i l 16 [(0, vR (some 44)), (1, vI p0), (2, vI p1)] [vI (if (i 44 13 = 0) then 0 else p1), vI (p0 * 120)] := by
    obtain ⟨ob4, h⟩ := h
    refine g_iadd (pc' := 17) dX8_limitAt_16 rfl ?_
    refine g_istore_n (pc' := 18) (L' := [(3, vI ((p0 * 120) + (if (i 44 13 = 0) then 0 else p1))), (0, vR (some 44)), (1, vI p0), (2, vI p1)]) dX8_limitAt_17 rfl (Nat.le_of_ble_eq_true rfl) rfl ?_
    refine g_aload_n (pc' := 19) 1 dX8_limitAt_18 rfl rfl ?_
    refine g_getR (pc' := 22) (o := some 47) fl_X8_18 rfl rfl rfl dX8_limitAt_19 rfl ?_
    refine g_iload_n (pc' := 23) 0 dX8_limitAt_22 rfl rfl ?_
    refine g_iald (pc' := 24) (N := 960) rfl rfl (Nat.lt_of_lt_of_le (Nat.lt_succ_self _) (Nat.le_of_ble_eq_true rfl)) ob4 dX8_limitAt_23 rfl (fun rg5 => ?_)
    refine g_iconst (pc' := 25) dX8_limitAt_24 rfl ?_
    obtain ⟨hk15, hk16⟩ := h
    refine g_icmp_ne (tgt := 50) (pc' := 28) rg5 (rg_lit rfl) Iff.rfl dX8_limitAt_25 rfl rfl (fun c7 => ?_) (fun c7 => ?_)
    · have h := hk16 c7
      obtain ⟨ob9, h⟩ := h
      refine g_aload_n (pc' := 51) 1 dX8_limitAt_50 rfl rfl ?_
      refine g_getR (pc' := 54) (o := some 47) fl_X8_18 rfl rfl rfl dX8_limitAt_51 rfl ?_
      refine g_iload_n (pc' := 55) 0 dX8_limitAt_54 rfl rfl ?_
      refine g_iald (pc' := 56) (N := 960) rfl rfl (Nat.lt_of_lt_of_le (Nat.lt_succ_self _) (Nat.le_of_ble_eq_true rfl)) ob9 dX8_limitAt_55 rfl (fun rg10 => ?_)
      exact g_retI rfl rg10 dX8_limitAt_56 h
    · have h := hk15 c7
      refine g_aload_n (pc' := 29) 1 dX8_limitAt_28 rfl rfl ?_
      refine g_getR (pc' := 32) (o := some 47) fl_X8_18 rfl rfl rfl dX8_limitAt_29 rfl ?_
      refine g_iload_n (pc' := 33) 0 dX8_limitAt_32 rfl rfl ?_
      refine g_aload_n (pc' := 34) 1 dX8_limitAt_33 rfl rfl ?_
      refine g_getR (pc' := 37) (o := some 41) fl_X8_38 rfl rfl rfl dX8_limitAt_34 rfl ?_
      refine g_iload_n (pc' := 38) 2 dX8_limitAt_37 rfl rfl ?_
      refine g_aload_n (pc' := 39) 1 dX8_limitAt_38 rfl rfl ?_
      refine g_getR (pc' := 42) (o := some 7) fl_X8_34 rfl rfl rfl dX8_limitAt_39 rfl ?_
      refine g_getI (pc' := 45) (z := 13) rfl fl_X8_80 rfl rfl dX8_limitAt_42 rfl (fun rg11 => ?_)
      refine g_iload_n (pc' := 46) 3 dX8_limitAt_45 rfl rfl ?_
      refine g_cVI (pc' := 49) (vs := [vI p0, vI (i 7 13), vI p1]) (st := [vI ((p0 * 120) + (if (i 44 13 = 0) then 0 else p1)), vR (some 47)]) (c := 0) h mv_X0_limitOf lk_X8_83 rfl rfl rfl rfl (Nat.le_of_ble_eq_true rfl) (Nat.le_of_ble_eq_true rfl) rfl dX8_limitAt_46 rfl z2 (fun r12 i12 l12 rg12 h => ?_)
      obtain ⟨ob13, h⟩ := h
      refine g_iast (pc' := 50) (N := 960) rfl rfl (Nat.lt_of_lt_of_le (Nat.lt_succ_self _) (Nat.le_of_ble_eq_true rfl)) ob13 rg12 dX8_limitAt_49 rfl ?_
      refine g_aload_n (pc' := 51) 1 dX8_limitAt_50 rfl rfl ?_
      refine g_getR (pc' := 54) (o := some 47) fl_X8_18 rfl rfl rfl dX8_limitAt_51 rfl ?_
      refine g_iload_n (pc' := 55) 0 dX8_limitAt_54 rfl rfl ?_
      refine g_iald (pc' := 56) (N := 960) rfl rfl (Nat.lt_of_lt_of_le (Nat.lt_succ_self _) (Nat.le_of_ble_eq_true rfl)) ob13 dX8_limitAt_55 rfl (fun rg14 => ?_)
      exact g_retI rfl rg14 dX8_limitAt_56 h
  refine g_if_eq (tgt := 15) (pc' := 11) rg1 Iff.rfl dX8_limitAt_8 rfl rfl (fun c3 => ?_) (fun c3 => ?_)
  · refine g_iconst (pc' := 16) dX8_limitAt_15 rfl ?_
    rw [if_pos c3 (α := Int) (t := 0) (e := p1)] at hJ
    exact hJ
  · refine g_iload_n (pc' := 12) 2 dX8_limitAt_11 rfl rfl ?_
    refine g_goto (tgt := 16) dX8_limitAt_12 rfl ?_
    rw [if_neg c3 (α := Int) (t := 0) (e := p1)] at hJ
    exact hJ
theorem e_X8_limitAt {w : Wd} {d : Nat} {P : Int → IM → LM → Prop} {i : IM} {l : LM} {p0 : Int} {p1 : Int}  (h : gI w d X_X8_limitAt P i l 0 [(0, vR (some 44)), (1, vI p0), (2, vI p1)] []) : cI w (d + 1) X_X8_limitAt [vR (some 44), vI p0, vI p1] i l P := CI_of (by decide +kernel) (Nat.le_of_ble_eq_true rfl) h

theorem dX8_thingsFrom_0 : decode cX8_thingsFrom 0 = .ok (.iload_n 1, 1) := by decide +kernel
theorem dX8_thingsFrom_1 : decode cX8_thingsFrom 1 = .ok (.bipush 120, 2) := by decide +kernel
theorem dX8_thingsFrom_3 : decode cX8_thingsFrom 3 = .ok (.imul, 1) := by decide +kernel
theorem dX8_thingsFrom_4 : decode cX8_thingsFrom 4 = .ok (.aload_n 0, 1) := by decide +kernel
theorem dX8_thingsFrom_5 : decode cX8_thingsFrom 5 = .ok (.getfield 65, 3) := by decide +kernel
theorem dX8_thingsFrom_8 : decode cX8_thingsFrom 8 = .ok (.ifCond .eq 7, 3) := by decide +kernel
theorem dX8_thingsFrom_11 : decode cX8_thingsFrom 11 = .ok (.iload_n 2, 1) := by decide +kernel
theorem dX8_thingsFrom_12 : decode cX8_thingsFrom 12 = .ok (.goto 4, 3) := by decide +kernel
theorem dX8_thingsFrom_15 : decode cX8_thingsFrom 15 = .ok (.iconst 0, 1) := by decide +kernel
theorem dX8_thingsFrom_16 : decode cX8_thingsFrom 16 = .ok (.iadd, 1) := by decide +kernel
theorem dX8_thingsFrom_17 : decode cX8_thingsFrom 17 = .ok (.istore_n 3, 1) := by decide +kernel
theorem dX8_thingsFrom_18 : decode cX8_thingsFrom 18 = .ok (.aload_n 0, 1) := by decide +kernel
theorem dX8_thingsFrom_19 : decode cX8_thingsFrom 19 = .ok (.getfield 15, 3) := by decide +kernel
theorem dX8_thingsFrom_22 : decode cX8_thingsFrom 22 = .ok (.iload_n 3, 1) := by decide +kernel
theorem dX8_thingsFrom_23 : decode cX8_thingsFrom 23 = .ok (.iaload, 1) := by decide +kernel
theorem dX8_thingsFrom_24 : decode cX8_thingsFrom 24 = .ok (.iconst (-1), 1) := by decide +kernel
theorem dX8_thingsFrom_25 : decode cX8_thingsFrom 25 = .ok (.if_icmp .eq 10, 3) := by decide +kernel
theorem dX8_thingsFrom_28 : decode cX8_thingsFrom 28 = .ok (.aload_n 0, 1) := by decide +kernel
theorem dX8_thingsFrom_29 : decode cX8_thingsFrom 29 = .ok (.getfield 15, 3) := by decide +kernel
theorem dX8_thingsFrom_32 : decode cX8_thingsFrom 32 = .ok (.iload_n 3, 1) := by decide +kernel
theorem dX8_thingsFrom_33 : decode cX8_thingsFrom 33 = .ok (.iaload, 1) := by decide +kernel
theorem dX8_thingsFrom_34 : decode cX8_thingsFrom 34 = .ok (.ireturn, 1) := by decide +kernel
theorem dX8_thingsFrom_35 : decode cX8_thingsFrom 35 = .ok (.iconst 0, 1) := by decide +kernel
theorem dX8_thingsFrom_36 : decode cX8_thingsFrom 36 = .ok (.istore 4, 2) := by decide +kernel
theorem dX8_thingsFrom_38 : decode cX8_thingsFrom 38 = .ok (.aload_n 0, 1) := by decide +kernel
theorem dX8_thingsFrom_39 : decode cX8_thingsFrom 39 = .ok (.getfield 34, 3) := by decide +kernel
theorem dX8_thingsFrom_42 : decode cX8_thingsFrom 42 = .ok (.iload_n 1, 1) := by decide +kernel
theorem dX8_thingsFrom_43 : decode cX8_thingsFrom 43 = .ok (.iconst 0, 1) := by decide +kernel
theorem dX8_thingsFrom_44 : decode cX8_thingsFrom 44 = .ok (.invokevirtual 89, 3) := by decide +kernel
theorem dX8_thingsFrom_47 : decode cX8_thingsFrom 47 = .ok (.istore 5, 2) := by decide +kernel
theorem dX8_thingsFrom_49 : decode cX8_thingsFrom 49 = .ok (.iconst 0, 1) := by decide +kernel
theorem dX8_thingsFrom_50 : decode cX8_thingsFrom 50 = .ok (.istore 6, 2) := by decide +kernel
theorem dX8_thingsFrom_52 : decode cX8_thingsFrom 52 = .ok (.iload 6, 2) := by decide +kernel
theorem dX8_thingsFrom_54 : decode cX8_thingsFrom 54 = .ok (.aload_n 0, 1) := by decide +kernel
theorem dX8_thingsFrom_55 : decode cX8_thingsFrom 55 = .ok (.getfield 34, 3) := by decide +kernel
theorem dX8_thingsFrom_58 : decode cX8_thingsFrom 58 = .ok (.getfield 93, 3) := by decide +kernel
theorem dX8_thingsFrom_61 : decode cX8_thingsFrom 61 = .ok (.if_icmp .ge 100, 3) := by decide +kernel
theorem dX8_thingsFrom_64 : decode cX8_thingsFrom 64 = .ok (.iload 5, 2) := by decide +kernel
theorem dX8_thingsFrom_66 : decode cX8_thingsFrom 66 = .ok (.iload 6, 2) := by decide +kernel
theorem dX8_thingsFrom_68 : decode cX8_thingsFrom 68 = .ok (.ishr, 1) := by decide +kernel
theorem dX8_thingsFrom_69 : decode cX8_thingsFrom 69 = .ok (.iconst 1, 1) := by decide +kernel
theorem dX8_thingsFrom_70 : decode cX8_thingsFrom 70 = .ok (.iand, 1) := by decide +kernel
theorem dX8_thingsFrom_71 : decode cX8_thingsFrom 71 = .ok (.iconst 1, 1) := by decide +kernel
theorem dX8_thingsFrom_72 : decode cX8_thingsFrom 72 = .ok (.if_icmp .ne 83, 3) := by decide +kernel
theorem dX8_thingsFrom_75 : decode cX8_thingsFrom 75 = .ok (.aload_n 0, 1) := by decide +kernel
theorem dX8_thingsFrom_76 : decode cX8_thingsFrom 76 = .ok (.getfield 34, 3) := by decide +kernel
theorem dX8_thingsFrom_79 : decode cX8_thingsFrom 79 = .ok (.iload 6, 2) := by decide +kernel
theorem dX8_thingsFrom_81 : decode cX8_thingsFrom 81 = .ok (.aload_n 0, 1) := by decide +kernel
theorem dX8_thingsFrom_82 : decode cX8_thingsFrom 82 = .ok (.getfield 34, 3) := by decide +kernel
theorem dX8_thingsFrom_85 : decode cX8_thingsFrom 85 = .ok (.iload 6, 2) := by decide +kernel
theorem dX8_thingsFrom_87 : decode cX8_thingsFrom 87 = .ok (.iconst 1, 1) := by decide +kernel
theorem dX8_thingsFrom_88 : decode cX8_thingsFrom 88 = .ok (.invokevirtual 96, 3) := by decide +kernel
theorem dX8_thingsFrom_91 : decode cX8_thingsFrom 91 = .ok (.aload_n 0, 1) := by decide +kernel
theorem dX8_thingsFrom_92 : decode cX8_thingsFrom 92 = .ok (.getfield 34, 3) := by decide +kernel
theorem dX8_thingsFrom_95 : decode cX8_thingsFrom 95 = .ok (.getfield 80, 3) := by decide +kernel
theorem dX8_thingsFrom_98 : decode cX8_thingsFrom 98 = .ok (.invokevirtual 99, 3) := by decide +kernel
theorem dX8_thingsFrom_101 : decode cX8_thingsFrom 101 = .ok (.istore 7, 2) := by decide +kernel
theorem dX8_thingsFrom_103 : decode cX8_thingsFrom 103 = .ok (.iconst 1, 1) := by decide +kernel
theorem dX8_thingsFrom_104 : decode cX8_thingsFrom 104 = .ok (.aload_n 0, 1) := by decide +kernel
theorem dX8_thingsFrom_105 : decode cX8_thingsFrom 105 = .ok (.getfield 34, 3) := by decide +kernel
theorem dX8_thingsFrom_108 : decode cX8_thingsFrom 108 = .ok (.getfield 102, 3) := by decide +kernel
theorem dX8_thingsFrom_111 : decode cX8_thingsFrom 111 = .ok (.iload 7, 2) := by decide +kernel
theorem dX8_thingsFrom_113 : decode cX8_thingsFrom 113 = .ok (.iaload, 1) := by decide +kernel
theorem dX8_thingsFrom_114 : decode cX8_thingsFrom 114 = .ok (.ishl, 1) := by decide +kernel
theorem dX8_thingsFrom_115 : decode cX8_thingsFrom 115 = .ok (.istore 8, 2) := by decide +kernel
theorem dX8_thingsFrom_117 : decode cX8_thingsFrom 117 = .ok (.iload 4, 2) := by decide +kernel
theorem dX8_thingsFrom_119 : decode cX8_thingsFrom 119 = .ok (.iload 8, 2) := by decide +kernel
theorem dX8_thingsFrom_121 : decode cX8_thingsFrom 121 = .ok (.iand, 1) := by decide +kernel
theorem dX8_thingsFrom_122 : decode cX8_thingsFrom 122 = .ok (.ifCond .ne 33, 3) := by decide +kernel
theorem dX8_thingsFrom_125 : decode cX8_thingsFrom 125 = .ok (.aload_n 0, 1) := by decide +kernel
theorem dX8_thingsFrom_126 : decode cX8_thingsFrom 126 = .ok (.getfield 38, 3) := by decide +kernel
theorem dX8_thingsFrom_129 : decode cX8_thingsFrom 129 = .ok (.iload_n 1, 1) := by decide +kernel
theorem dX8_thingsFrom_130 : decode cX8_thingsFrom 130 = .ok (.iload 6, 2) := by decide +kernel
theorem dX8_thingsFrom_132 : decode cX8_thingsFrom 132 = .ok (.iload 7, 2) := by decide +kernel
theorem dX8_thingsFrom_134 : decode cX8_thingsFrom 134 = .ok (.aload_n 0, 1) := by decide +kernel
theorem dX8_thingsFrom_135 : decode cX8_thingsFrom 135 = .ok (.getfield 34, 3) := by decide +kernel
theorem dX8_thingsFrom_138 : decode cX8_thingsFrom 138 = .ok (.getfield 80, 3) := by decide +kernel
theorem dX8_thingsFrom_141 : decode cX8_thingsFrom 141 = .ok (.iload_n 2, 1) := by decide +kernel
theorem dX8_thingsFrom_142 : decode cX8_thingsFrom 142 = .ok (.invokevirtual 105, 3) := by decide +kernel
theorem dX8_thingsFrom_145 : decode cX8_thingsFrom 145 = .ok (.ifCond .eq 10, 3) := by decide +kernel
theorem dX8_thingsFrom_148 : decode cX8_thingsFrom 148 = .ok (.iload 4, 2) := by decide +kernel
theorem dX8_thingsFrom_150 : decode cX8_thingsFrom 150 = .ok (.iload 8, 2) := by decide +kernel
theorem dX8_thingsFrom_152 : decode cX8_thingsFrom 152 = .ok (.ior, 1) := by decide +kernel
theorem dX8_thingsFrom_153 : decode cX8_thingsFrom 153 = .ok (.istore 4, 2) := by decide +kernel
theorem dX8_thingsFrom_155 : decode cX8_thingsFrom 155 = .ok (.iinc 6 1, 3) := by decide +kernel
theorem dX8_thingsFrom_158 : decode cX8_thingsFrom 158 = .ok (.goto (-106), 3) := by decide +kernel
theorem dX8_thingsFrom_161 : decode cX8_thingsFrom 161 = .ok (.aload_n 0, 1) := by decide +kernel
theorem dX8_thingsFrom_162 : decode cX8_thingsFrom 162 = .ok (.getfield 15, 3) := by decide +kernel
theorem dX8_thingsFrom_165 : decode cX8_thingsFrom 165 = .ok (.iload_n 3, 1) := by decide +kernel
theorem dX8_thingsFrom_166 : decode cX8_thingsFrom 166 = .ok (.iload 4, 2) := by decide +kernel
theorem dX8_thingsFrom_168 : decode cX8_thingsFrom 168 = .ok (.iastore, 1) := by decide +kernel
theorem dX8_thingsFrom_169 : decode cX8_thingsFrom 169 = .ok (.iload 4, 2) := by decide +kernel
theorem dX8_thingsFrom_171 : decode cX8_thingsFrom 171 = .ok (.ireturn, 1) := by decide +kernel
set_option maxRecDepth 20000 in
theorem s_X8_thingsFrom {w : Wd} {d : Nat} {P : Int → IM → LM → Prop} {i : IM} {l : LM} (p0 : Int) (p1 : Int)  (hd : 1 ≤ d) (h : ((0 ≤ (p0 * 120) + (if (i 44 12 = 0) then 0 else p1) ∧ (p0 * 120) + (if (i 44 12 = 0) then 0 else p1) < 960) ∧ (((i 46 ((p0 * 120) + (if (i 44 12 = 0) then 0 else p1)) = (-1)) → ((0 ≤ p0 * 3 + 0 ∧ p0 * 3 + 0 < 24) ∧ gI w d X_X8_thingsFrom P i l 52 [(0, vR (some 44)), (1, vI p0), (2, vI p1), (3, vI ((p0 * 120) + (if (i 44 12 = 0) then 0 else p1))), (4, vI 0), (5, vI (i 9 (p0 * 3 + 0))), (6, vI 0)] [])) ∧ ((¬ (i 46 ((p0 * 120) + (if (i 44 12 = 0) then 0 else p1)) = (-1))) → ((0 ≤ (p0 * 120) + (if (i 44 12 = 0) then 0 else p1) ∧ (p0 * 120) + (if (i 44 12 = 0) then 0 else p1) < 960) ∧ P (i 46 ((p0 * 120) + (if (i 44 12 = 0) then 0 else p1))) i l))))) : gI w d X_X8_thingsFrom P i l 0 [(0, vR (some 44)), (1, vI p0), (2, vI p1)] [] := by
  refine g_iload_n (pc' := 1) 1 dX8_thingsFrom_0 rfl rfl ?_
  refine g_bipush (pc' := 3) dX8_thingsFrom_1 rfl rfl ?_
  refine g_imul (pc' := 4) dX8_thingsFrom_3 rfl ?_
  refine g_aload_n (pc' := 5) 0 dX8_thingsFrom_4 rfl rfl ?_
  refine g_getI (pc' := 8) (z := 12) rfl fl_X8_65 rfl rfl dX8_thingsFrom_5 rfl (fun rg1 => ?_)
  have hJ : gI w d X_X8_thingsFrom P i l 16 [(0, vR (some 44)), (1, vI p0), (2, vI p1)] [vI (if (i 44 12 = 0) then 0 else p1), vI (p0 * 120)] := by
    obtain ⟨ob4, h⟩ := h
    refine g_iadd (pc' := 17) dX8_thingsFrom_16 rfl ?_
    refine g_istore_n (pc' := 18) (L' := [(3, vI ((p0 * 120) + (if (i 44 12 = 0) then 0 else p1))), (0, vR (some 44)), (1, vI p0), (2, vI p1)]) dX8_thingsFrom_17 rfl (Nat.le_of_ble_eq_true rfl) rfl ?_
    refine g_aload_n (pc' := 19) 1 dX8_thingsFrom_18 rfl rfl ?_
    refine g_getR (pc' := 22) (o := some 46) fl_X8_15 rfl rfl rfl dX8_thingsFrom_19 rfl ?_
    refine g_iload_n (pc' := 23) 0 dX8_thingsFrom_22 rfl rfl ?_
    refine g_iald (pc' := 24) (N := 960) rfl rfl (Nat.lt_of_lt_of_le (Nat.lt_succ_self _) (Nat.le_of_ble_eq_true rfl)) ob4 dX8_thingsFrom_23 rfl (fun rg5 => ?_)
    refine g_iconst (pc' := 25) dX8_thingsFrom_24 rfl ?_
    obtain ⟨hk14, hk15⟩ := h
    refine g_icmp_eq (tgt := 35) (pc' := 28) rg5 (rg_lit rfl) Iff.rfl dX8_thingsFrom_25 rfl rfl (fun c7 => ?_) (fun c7 => ?_)
    · have h := hk14 c7
      obtain ⟨ob10, h⟩ := h
      refine g_iconst (pc' := 36) dX8_thingsFrom_35 rfl ?_
      refine g_istore (pc' := 38) (L' := [(4, vI 0), (3, vI ((p0 * 120) + (if (i 44 12 = 0) then 0 else p1))), (0, vR (some 44)), (1, vI p0), (2, vI p1)]) dX8_thingsFrom_36 rfl (Nat.le_of_ble_eq_true rfl) rfl ?_
      refine g_aload_n (pc' := 39) 2 dX8_thingsFrom_38 rfl rfl ?_
      refine g_getR (pc' := 42) (o := some 7) fl_X8_34 rfl rfl rfl dX8_thingsFrom_39 rfl ?_
      refine g_iload_n (pc' := 43) 3 dX8_thingsFrom_42 rfl rfl ?_
      refine g_iconst (pc' := 44) dX8_thingsFrom_43 rfl ?_
      refine g_pVI (pc' := 47) (vs := [vI p0, vI 0]) (st := []) (val := i 9 (p0 * 3 + 0)) (c := 9) (sp_X9_view (le_hd hd rfl) ob10) mv_X9_view lk_X8_89 rfl rfl rfl rfl (Nat.le_of_ble_eq_true rfl) (Nat.le_of_ble_eq_true rfl) rfl dX8_thingsFrom_44 rfl z2 (fun rg11 => ?_)
      refine g_istore (pc' := 49) (L' := [(5, vI (i 9 (p0 * 3 + 0))), (4, vI 0), (3, vI ((p0 * 120) + (if (i 44 12 = 0) then 0 else p1))), (0, vR (some 44)), (1, vI p0), (2, vI p1)]) dX8_thingsFrom_47 rfl (Nat.le_of_ble_eq_true rfl) rfl ?_
      refine g_iconst (pc' := 50) dX8_thingsFrom_49 rfl ?_
      refine g_istore (pc' := 52) (L' := [(6, vI 0), (5, vI (i 9 (p0 * 3 + 0))), (4, vI 0), (3, vI ((p0 * 120) + (if (i 44 12 = 0) then 0 else p1))), (0, vR (some 44)), (1, vI p0), (2, vI p1)]) dX8_thingsFrom_50 rfl (Nat.le_of_ble_eq_true rfl) rfl ?_
      refine g_sub (L' := [(0, vR (some 44)), (1, vI p0), (2, vI p1), (3, vI ((p0 * 120) + (if (i 44 12 = 0) then 0 else p1))), (4, vI 0), (5, vI (i 9 (p0 * 3 + 0))), (6, vI 0)]) [4, 5, 6, 3, 2, 1, 0] rfl ?_
      exact h
    · have h := hk15 c7
      obtain ⟨ob12, h⟩ := h
      refine g_aload_n (pc' := 29) 1 dX8_thingsFrom_28 rfl rfl ?_
      refine g_getR (pc' := 32) (o := some 46) fl_X8_15 rfl rfl rfl dX8_thingsFrom_29 rfl ?_
      refine g_iload_n (pc' := 33) 0 dX8_thingsFrom_32 rfl rfl ?_
      refine g_iald (pc' := 34) (N := 960) rfl rfl (Nat.lt_of_lt_of_le (Nat.lt_succ_self _) (Nat.le_of_ble_eq_true rfl)) ob12 dX8_thingsFrom_33 rfl (fun rg13 => ?_)
      exact g_retI rfl rg13 dX8_thingsFrom_34 h
  refine g_if_eq (tgt := 15) (pc' := 11) rg1 Iff.rfl dX8_thingsFrom_8 rfl rfl (fun c3 => ?_) (fun c3 => ?_)
  · refine g_iconst (pc' := 16) dX8_thingsFrom_15 rfl ?_
    rw [if_pos c3 (α := Int) (t := 0) (e := p1)] at hJ
    exact hJ
  · refine g_iload_n (pc' := 12) 2 dX8_thingsFrom_11 rfl rfl ?_
    refine g_goto (tgt := 16) dX8_thingsFrom_12 rfl ?_
    rw [if_neg c3 (α := Int) (t := 0) (e := p1)] at hJ
    exact hJ
theorem e_X8_thingsFrom {w : Wd} {d : Nat} {P : Int → IM → LM → Prop} {i : IM} {l : LM} {p0 : Int} {p1 : Int}  (h : gI w d X_X8_thingsFrom P i l 0 [(0, vR (some 44)), (1, vI p0), (2, vI p1)] []) : cI w (d + 1) X_X8_thingsFrom [vR (some 44), vI p0, vI p1] i l P := CI_of (by decide +kernel) (Nat.le_of_ble_eq_true rfl) h
set_option maxRecDepth 20000 in
theorem s_X8_thingsFrom_52 {w : Wd} {d : Nat} {P : Int → IM → LM → Prop} {i : IM} {l : LM} (x1 : Int) (x2 : Int) (x3 : Int) (x4 : Int) (x5 : Int) (x6 : Int)  (hd : 2 ≤ d) (h : ((rg x6) ∧ ((i 7 8 ≤ x6) → ((0 ≤ x3 ∧ x3 < 960) ∧ (rg x4) ∧ P x4 (u2 i 46 x3 x4) l)) ∧ ((¬ (i 7 8 ≤ x6) ∧ (¬ (iand (ishr x5 x6) 1 = 1))) → gI w d X_X8_thingsFrom P i l 52 [(0, vR (some 44)), (1, vI x1), (2, vI x2), (3, vI x3), (4, vI x4), (5, vI x5), (6, vI (x6 + 1))] []) ∧ ((¬ (i 7 8 ≤ x6) ∧ (iand (ishr x5 x6) 1 = 1)) → ((0 ≤ x6 * 8 + 1 ∧ x6 * 8 + 1 < 80) ∧ (0 ≤ x6 ∧ x6 < 10) ∧ (0 ≤ cShown i x6 (i 8 (x6 * 8 + 1)) (i 7 13) ∧ cShown i x6 (i 8 (x6 * 8 + 1)) (i 7 13) < 8) ∧ (((iand x4 (ishl 1 (i 13 (cShown i x6 (i 8 (x6 * 8 + 1)) (i 7 13)))) = 0) → cI w d X_X0_showsThing [vR (some 41), vI x1, vI x6, vI (cShown i x6 (i 8 (x6 * 8 + 1)) (i 7 13)), vI (i 7 13), vI x2] i l (fun r39 i39 l39 => (((r39 = 0) → gI w d X_X8_thingsFrom P i39 l39 52 [(0, vR (some 44)), (1, vI x1), (2, vI x2), (3, vI x3), (4, vI x4), (5, vI x5), (6, vI (x6 + 1))] []) ∧ ((¬ (r39 = 0)) → gI w d X_X8_thingsFrom P i39 l39 52 [(0, vR (some 44)), (1, vI x1), (2, vI x2), (3, vI x3), (4, vI (ior x4 (ishl 1 (i 13 (cShown i x6 (i 8 (x6 * 8 + 1)) (i 7 13)))))), (5, vI x5), (6, vI (x6 + 1))] [])))) ∧ ((¬ (iand x4 (ishl 1 (i 13 (cShown i x6 (i 8 (x6 * 8 + 1)) (i 7 13)))) = 0)) → gI w d X_X8_thingsFrom P i l 52 [(0, vR (some 44)), (1, vI x1), (2, vI x2), (3, vI x3), (4, vI x4), (5, vI x5), (6, vI (x6 + 1))] [])))))) : gI w d X_X8_thingsFrom P i l 52 [(0, vR (some 44)), (1, vI x1), (2, vI x2), (3, vI x3), (4, vI x4), (5, vI x5), (6, vI x6)] [] := by
  refine g_iload (pc' := 54) 6 dX8_thingsFrom_52 rfl rfl ?_
  refine g_aload_n (pc' := 55) 0 dX8_thingsFrom_54 rfl rfl ?_
  refine g_getR (pc' := 58) (o := some 7) fl_X8_34 rfl rfl rfl dX8_thingsFrom_55 rfl ?_
  refine g_getI (pc' := 61) (z := 8) rfl fl_X8_93 rfl rfl dX8_thingsFrom_58 rfl (fun rg16 => ?_)
  obtain ⟨hob18, hk46, hk47, hk48⟩ := h
  have hk46g : (i 7 8 ≤ x6) → gI w d X_X8_thingsFrom P i l 161 [(0, vR (some 44)), (1, vI x1), (2, vI x2), (3, vI x3), (4, vI x4), (5, vI x5), (6, vI x6)] [] := by
    intro hp
    have h := hk46 hp
    obtain ⟨ob26, ob27, h⟩ := h
    refine g_aload_n (pc' := 162) 0 dX8_thingsFrom_161 rfl rfl ?_
    refine g_getR (pc' := 165) (o := some 46) fl_X8_15 rfl rfl rfl dX8_thingsFrom_162 rfl ?_
    refine g_iload_n (pc' := 166) 3 dX8_thingsFrom_165 rfl rfl ?_
    refine g_iload (pc' := 168) 4 dX8_thingsFrom_166 rfl rfl ?_
    refine g_iast (pc' := 169) (N := 960) rfl rfl (Nat.lt_of_lt_of_le (Nat.lt_succ_self _) (Nat.le_of_ble_eq_true rfl)) ob26 ob27 dX8_thingsFrom_168 rfl ?_
    refine g_iload (pc' := 171) 4 dX8_thingsFrom_169 rfl rfl ?_
    exact g_retI rfl ob27 dX8_thingsFrom_171 h
  have hk47g : (¬ (i 7 8 ≤ x6) ∧ (¬ (iand (ishr x5 x6) 1 = 1))) → gI w d X_X8_thingsFrom P i l 155 [(0, vR (some 44)), (1, vI x1), (2, vI x2), (3, vI x3), (4, vI x4), (5, vI x5), (6, vI x6)] [] := by
    intro hp
    have h := hk47 hp
    refine g_iinc (pc' := 158) (L' := [(6, vI (x6 + 1)), (0, vR (some 44)), (1, vI x1), (2, vI x2), (3, vI x3), (4, vI x4), (5, vI x5)]) 6 dX8_thingsFrom_155 rfl (Nat.le_of_ble_eq_true rfl) rfl rfl ?_
    refine g_goto (tgt := 52) dX8_thingsFrom_158 rfl ?_
    refine g_sub (L' := [(0, vR (some 44)), (1, vI x1), (2, vI x2), (3, vI x3), (4, vI x4), (5, vI x5), (6, vI (x6 + 1))]) [1, 2, 3, 4, 5, 6, 0] rfl ?_
    exact h
  have hk48g : (¬ (i 7 8 ≤ x6) ∧ (iand (ishr x5 x6) 1 = 1)) → gI w d X_X8_thingsFrom P i l 75 [(0, vR (some 44)), (1, vI x1), (2, vI x2), (3, vI x3), (4, vI x4), (5, vI x5), (6, vI x6)] [] := by
    intro hp
    have h := hk48 hp
    obtain ⟨ob28, ob31, ob33, h⟩ := h
    refine g_aload_n (pc' := 76) 0 dX8_thingsFrom_75 rfl rfl ?_
    refine g_getR (pc' := 79) (o := some 7) fl_X8_34 rfl rfl rfl dX8_thingsFrom_76 rfl ?_
    refine g_iload (pc' := 81) 6 dX8_thingsFrom_79 rfl rfl ?_
    refine g_aload_n (pc' := 82) 0 dX8_thingsFrom_81 rfl rfl ?_
    refine g_getR (pc' := 85) (o := some 7) fl_X8_34 rfl rfl rfl dX8_thingsFrom_82 rfl ?_
    refine g_iload (pc' := 87) 6 dX8_thingsFrom_85 rfl rfl ?_
    refine g_iconst (pc' := 88) dX8_thingsFrom_87 rfl ?_
    refine g_pVI (pc' := 91) (vs := [vI x6, vI 1]) (st := [vI x6, vR (some 7)]) (val := i 8 (x6 * 8 + 1)) (c := 9) (sp_X9_trait (le_hd hd rfl) ob28) mv_X9_trait lk_X8_96 rfl rfl rfl rfl (Nat.le_of_ble_eq_true rfl) (Nat.le_of_ble_eq_true rfl) rfl dX8_thingsFrom_88 rfl z2 (fun rg29 => ?_)
    refine g_aload_n (pc' := 92) 0 dX8_thingsFrom_91 rfl rfl ?_
    refine g_getR (pc' := 95) (o := some 7) fl_X8_34 rfl rfl rfl dX8_thingsFrom_92 rfl ?_
    refine g_getI (pc' := 98) (z := 13) rfl fl_X8_80 rfl rfl dX8_thingsFrom_95 rfl (fun rg30 => ?_)
    refine g_pVI (pc' := 101) (vs := [vI x6, vI (i 8 (x6 * 8 + 1)), vI (i 7 13)]) (st := []) (val := cShown i x6 (i 8 (x6 * 8 + 1)) (i 7 13)) (c := 9) (sp_X9_shownIn (le_hd hd rfl) rg29 ob31) mv_X9_shownIn lk_X8_99 rfl rfl rfl rfl (Nat.le_of_ble_eq_true rfl) (Nat.le_of_ble_eq_true rfl) rfl dX8_thingsFrom_98 rfl z2 (fun rg32 => ?_)
    refine g_istore (pc' := 103) (L' := [(7, vI (cShown i x6 (i 8 (x6 * 8 + 1)) (i 7 13))), (0, vR (some 44)), (1, vI x1), (2, vI x2), (3, vI x3), (4, vI x4), (5, vI x5), (6, vI x6)]) dX8_thingsFrom_101 rfl (Nat.le_of_ble_eq_true rfl) rfl ?_
    refine g_iconst (pc' := 104) dX8_thingsFrom_103 rfl ?_
    refine g_aload_n (pc' := 105) 1 dX8_thingsFrom_104 rfl rfl ?_
    refine g_getR (pc' := 108) (o := some 7) fl_X8_34 rfl rfl rfl dX8_thingsFrom_105 rfl ?_
    refine g_getR (pc' := 111) (o := some 13) fl_X8_102 rfl rfl rfl dX8_thingsFrom_108 rfl ?_
    refine g_iload (pc' := 113) 0 dX8_thingsFrom_111 rfl rfl ?_
    refine g_iald (pc' := 114) (N := 8) rfl rfl (Nat.lt_of_lt_of_le (Nat.lt_succ_self _) (Nat.le_of_ble_eq_true rfl)) ob33 dX8_thingsFrom_113 rfl (fun rg34 => ?_)
    refine g_ishl (pc' := 115) dX8_thingsFrom_114 rfl ?_
    refine g_istore (pc' := 117) (L' := [(8, vI (ishl 1 (i 13 (cShown i x6 (i 8 (x6 * 8 + 1)) (i 7 13))))), (7, vI (cShown i x6 (i 8 (x6 * 8 + 1)) (i 7 13))), (0, vR (some 44)), (1, vI x1), (2, vI x2), (3, vI x3), (4, vI x4), (5, vI x5), (6, vI x6)]) dX8_thingsFrom_115 rfl (Nat.le_of_ble_eq_true rfl) rfl ?_
    refine g_iload (pc' := 119) 6 dX8_thingsFrom_117 rfl rfl ?_
    refine g_iload (pc' := 121) 0 dX8_thingsFrom_119 rfl rfl ?_
    refine g_iand (pc' := 122) dX8_thingsFrom_121 rfl ?_
    obtain ⟨hk44, hk45⟩ := h
    refine g_if_ne (tgt := 155) (pc' := 125) (rg_iand _ _) Iff.rfl dX8_thingsFrom_122 rfl rfl (fun c36 => ?_) (fun c36 => ?_)
    · have h := hk45 c36
      refine g_iinc (pc' := 158) (L' := [(6, vI (x6 + 1)), (8, vI (ishl 1 (i 13 (cShown i x6 (i 8 (x6 * 8 + 1)) (i 7 13))))), (7, vI (cShown i x6 (i 8 (x6 * 8 + 1)) (i 7 13))), (0, vR (some 44)), (1, vI x1), (2, vI x2), (3, vI x3), (4, vI x4), (5, vI x5)]) 8 dX8_thingsFrom_155 rfl (Nat.le_of_ble_eq_true rfl) rfl rfl ?_
      refine g_goto (tgt := 52) dX8_thingsFrom_158 rfl ?_
      refine g_sub (L' := [(0, vR (some 44)), (1, vI x1), (2, vI x2), (3, vI x3), (4, vI x4), (5, vI x5), (6, vI (x6 + 1))]) [3, 4, 5, 6, 7, 8, 0] rfl ?_
      exact h
    · have h := hk44 c36
      refine g_aload_n (pc' := 126) 2 dX8_thingsFrom_125 rfl rfl ?_
      refine g_getR (pc' := 129) (o := some 41) fl_X8_38 rfl rfl rfl dX8_thingsFrom_126 rfl ?_
      refine g_iload_n (pc' := 130) 3 dX8_thingsFrom_129 rfl rfl ?_
      refine g_iload (pc' := 132) 8 dX8_thingsFrom_130 rfl rfl ?_
      refine g_iload (pc' := 134) 1 dX8_thingsFrom_132 rfl rfl ?_
      refine g_aload_n (pc' := 135) 2 dX8_thingsFrom_134 rfl rfl ?_
      refine g_getR (pc' := 138) (o := some 7) fl_X8_34 rfl rfl rfl dX8_thingsFrom_135 rfl ?_
      refine g_getI (pc' := 141) (z := 13) rfl fl_X8_80 rfl rfl dX8_thingsFrom_138 rfl (fun rg38 => ?_)
      refine g_iload_n (pc' := 142) 4 dX8_thingsFrom_141 rfl rfl ?_
      refine g_cVI (pc' := 145) (vs := [vI x1, vI x6, vI (cShown i x6 (i 8 (x6 * 8 + 1)) (i 7 13)), vI (i 7 13), vI x2]) (st := []) (c := 0) h mv_X0_showsThing lk_X8_105 rfl rfl rfl rfl (Nat.le_of_ble_eq_true rfl) (Nat.le_of_ble_eq_true rfl) rfl dX8_thingsFrom_142 rfl z2 (fun r39 i39 l39 rg39 h => ?_)
      obtain ⟨hk42, hk43⟩ := h
      refine g_if_eq (tgt := 155) (pc' := 148) rg39 Iff.rfl dX8_thingsFrom_145 rfl rfl (fun c41 => ?_) (fun c41 => ?_)
      · have h := hk42 c41
        refine g_iinc (pc' := 158) (L' := [(6, vI (x6 + 1)), (8, vI (ishl 1 (i 13 (cShown i x6 (i 8 (x6 * 8 + 1)) (i 7 13))))), (7, vI (cShown i x6 (i 8 (x6 * 8 + 1)) (i 7 13))), (0, vR (some 44)), (1, vI x1), (2, vI x2), (3, vI x3), (4, vI x4), (5, vI x5)]) 8 dX8_thingsFrom_155 rfl (Nat.le_of_ble_eq_true rfl) rfl rfl ?_
        refine g_goto (tgt := 52) dX8_thingsFrom_158 rfl ?_
        refine g_sub (L' := [(0, vR (some 44)), (1, vI x1), (2, vI x2), (3, vI x3), (4, vI x4), (5, vI x5), (6, vI (x6 + 1))]) [3, 4, 5, 6, 7, 8, 0] rfl ?_
        exact h
      · have h := hk43 c41
        refine g_iload (pc' := 150) 6 dX8_thingsFrom_148 rfl rfl ?_
        refine g_iload (pc' := 152) 0 dX8_thingsFrom_150 rfl rfl ?_
        refine g_ior (pc' := 153) dX8_thingsFrom_152 rfl ?_
        refine g_istore (pc' := 155) (L' := [(4, vI (ior x4 (ishl 1 (i 13 (cShown i x6 (i 8 (x6 * 8 + 1)) (i 7 13)))))), (8, vI (ishl 1 (i 13 (cShown i x6 (i 8 (x6 * 8 + 1)) (i 7 13))))), (7, vI (cShown i x6 (i 8 (x6 * 8 + 1)) (i 7 13))), (0, vR (some 44)), (1, vI x1), (2, vI x2), (3, vI x3), (5, vI x5), (6, vI x6)]) dX8_thingsFrom_153 rfl (Nat.le_of_ble_eq_true rfl) rfl ?_
        refine g_iinc (pc' := 158) (L' := [(6, vI (x6 + 1)), (4, vI (ior x4 (ishl 1 (i 13 (cShown i x6 (i 8 (x6 * 8 + 1)) (i 7 13)))))), (8, vI (ishl 1 (i 13 (cShown i x6 (i 8 (x6 * 8 + 1)) (i 7 13))))), (7, vI (cShown i x6 (i 8 (x6 * 8 + 1)) (i 7 13))), (0, vR (some 44)), (1, vI x1), (2, vI x2), (3, vI x3), (5, vI x5)]) 8 dX8_thingsFrom_155 rfl (Nat.le_of_ble_eq_true rfl) rfl rfl ?_
        refine g_goto (tgt := 52) dX8_thingsFrom_158 rfl ?_
        refine g_sub (L' := [(0, vR (some 44)), (1, vI x1), (2, vI x2), (3, vI x3), (4, vI (ior x4 (ishl 1 (i 13 (cShown i x6 (i 8 (x6 * 8 + 1)) (i 7 13)))))), (5, vI x5), (6, vI (x6 + 1))]) [4, 5, 6, 7, 1, 8, 0] rfl ?_
        exact h
  refine g_icmp_ge (tgt := 161) (pc' := 64) (hob18) rg16 Iff.rfl dX8_thingsFrom_61 rfl rfl (fun c19 => ?_) (fun c19 => ?_)
  · exact hk46g c19
  · refine g_iload (pc' := 66) 5 dX8_thingsFrom_64 rfl rfl ?_
    refine g_iload (pc' := 68) 6 dX8_thingsFrom_66 rfl rfl ?_
    refine g_ishr (pc' := 69) dX8_thingsFrom_68 rfl ?_
    refine g_iconst (pc' := 70) dX8_thingsFrom_69 rfl ?_
    refine g_iand (pc' := 71) dX8_thingsFrom_70 rfl ?_
    refine g_iconst (pc' := 72) dX8_thingsFrom_71 rfl ?_
    refine g_icmp_ne (tgt := 155) (pc' := 75) (rg_iand _ _) (rg_lit rfl) Iff.rfl dX8_thingsFrom_72 rfl rfl (fun c20 => ?_) (fun c20 => ?_)
    · exact hk47g ⟨c19, c20⟩
    · exact hk48g ⟨c19, c20⟩

theorem dX8_oneFrom_0 : decode cX8_oneFrom 0 = .ok (.iload_n 3, 1) := by decide +kernel
theorem dX8_oneFrom_1 : decode cX8_oneFrom 1 = .ok (.iconst (-1), 1) := by decide +kernel
theorem dX8_oneFrom_2 : decode cX8_oneFrom 2 = .ok (.if_icmp .eq 19, 3) := by decide +kernel
theorem dX8_oneFrom_5 : decode cX8_oneFrom 5 = .ok (.aload_n 0, 1) := by decide +kernel
theorem dX8_oneFrom_6 : decode cX8_oneFrom 6 = .ok (.getfield 34, 3) := by decide +kernel
theorem dX8_oneFrom_9 : decode cX8_oneFrom 9 = .ok (.iload_n 1, 1) := by decide +kernel
theorem dX8_oneFrom_10 : decode cX8_oneFrom 10 = .ok (.iconst 1, 1) := by decide +kernel
theorem dX8_oneFrom_11 : decode cX8_oneFrom 11 = .ok (.invokevirtual 89, 3) := by decide +kernel
theorem dX8_oneFrom_14 : decode cX8_oneFrom 14 = .ok (.iload_n 3, 1) := by decide +kernel
theorem dX8_oneFrom_15 : decode cX8_oneFrom 15 = .ok (.ishr, 1) := by decide +kernel
theorem dX8_oneFrom_16 : decode cX8_oneFrom 16 = .ok (.iconst 1, 1) := by decide +kernel
theorem dX8_oneFrom_17 : decode cX8_oneFrom 17 = .ok (.iand, 1) := by decide +kernel
theorem dX8_oneFrom_18 : decode cX8_oneFrom 18 = .ok (.ifCond .ne 5, 3) := by decide +kernel
theorem dX8_oneFrom_21 : decode cX8_oneFrom 21 = .ok (.iconst 0, 1) := by decide +kernel
theorem dX8_oneFrom_22 : decode cX8_oneFrom 22 = .ok (.ireturn, 1) := by decide +kernel
theorem dX8_oneFrom_23 : decode cX8_oneFrom 23 = .ok (.iload_n 1, 1) := by decide +kernel
theorem dX8_oneFrom_24 : decode cX8_oneFrom 24 = .ok (.iconst 5, 1) := by decide +kernel
theorem dX8_oneFrom_25 : decode cX8_oneFrom 25 = .ok (.imul, 1) := by decide +kernel
theorem dX8_oneFrom_26 : decode cX8_oneFrom 26 = .ok (.iload_n 2, 1) := by decide +kernel
theorem dX8_oneFrom_27 : decode cX8_oneFrom 27 = .ok (.iadd, 1) := by decide +kernel
theorem dX8_oneFrom_28 : decode cX8_oneFrom 28 = .ok (.bipush 10, 2) := by decide +kernel
theorem dX8_oneFrom_30 : decode cX8_oneFrom 30 = .ok (.imul, 1) := by decide +kernel
theorem dX8_oneFrom_31 : decode cX8_oneFrom 31 = .ok (.iload_n 3, 1) := by decide +kernel
theorem dX8_oneFrom_32 : decode cX8_oneFrom 32 = .ok (.iadd, 1) := by decide +kernel
theorem dX8_oneFrom_33 : decode cX8_oneFrom 33 = .ok (.istore 5, 2) := by decide +kernel
theorem dX8_oneFrom_35 : decode cX8_oneFrom 35 = .ok (.aload_n 0, 1) := by decide +kernel
theorem dX8_oneFrom_36 : decode cX8_oneFrom 36 = .ok (.getfield 65, 3) := by decide +kernel
theorem dX8_oneFrom_39 : decode cX8_oneFrom 39 = .ok (.ifCond .ne 22, 3) := by decide +kernel
theorem dX8_oneFrom_42 : decode cX8_oneFrom 42 = .ok (.aload_n 0, 1) := by decide +kernel
theorem dX8_oneFrom_43 : decode cX8_oneFrom 43 = .ok (.getfield 21, 3) := by decide +kernel
theorem dX8_oneFrom_46 : decode cX8_oneFrom 46 = .ok (.iload 5, 2) := by decide +kernel
theorem dX8_oneFrom_48 : decode cX8_oneFrom 48 = .ok (.iaload, 1) := by decide +kernel
theorem dX8_oneFrom_49 : decode cX8_oneFrom 49 = .ok (.iconst (-1), 1) := by decide +kernel
theorem dX8_oneFrom_50 : decode cX8_oneFrom 50 = .ok (.if_icmp .eq 11, 3) := by decide +kernel
theorem dX8_oneFrom_53 : decode cX8_oneFrom 53 = .ok (.aload_n 0, 1) := by decide +kernel
theorem dX8_oneFrom_54 : decode cX8_oneFrom 54 = .ok (.getfield 21, 3) := by decide +kernel
theorem dX8_oneFrom_57 : decode cX8_oneFrom 57 = .ok (.iload 5, 2) := by decide +kernel
theorem dX8_oneFrom_59 : decode cX8_oneFrom 59 = .ok (.iaload, 1) := by decide +kernel
theorem dX8_oneFrom_60 : decode cX8_oneFrom 60 = .ok (.ireturn, 1) := by decide +kernel
theorem dX8_oneFrom_61 : decode cX8_oneFrom 61 = .ok (.aload_n 0, 1) := by decide +kernel
theorem dX8_oneFrom_62 : decode cX8_oneFrom 62 = .ok (.getfield 38, 3) := by decide +kernel
theorem dX8_oneFrom_65 : decode cX8_oneFrom 65 = .ok (.iload_n 1, 1) := by decide +kernel
theorem dX8_oneFrom_66 : decode cX8_oneFrom 66 = .ok (.iload_n 2, 1) := by decide +kernel
theorem dX8_oneFrom_67 : decode cX8_oneFrom 67 = .ok (.iload_n 3, 1) := by decide +kernel
theorem dX8_oneFrom_68 : decode cX8_oneFrom 68 = .ok (.aload_n 0, 1) := by decide +kernel
theorem dX8_oneFrom_69 : decode cX8_oneFrom 69 = .ok (.getfield 34, 3) := by decide +kernel
theorem dX8_oneFrom_72 : decode cX8_oneFrom 72 = .ok (.getfield 80, 3) := by decide +kernel
theorem dX8_oneFrom_75 : decode cX8_oneFrom 75 = .ok (.iload 4, 2) := by decide +kernel
theorem dX8_oneFrom_77 : decode cX8_oneFrom 77 = .ok (.invokevirtual 109, 3) := by decide +kernel
theorem dX8_oneFrom_80 : decode cX8_oneFrom 80 = .ok (.istore 6, 2) := by decide +kernel
theorem dX8_oneFrom_82 : decode cX8_oneFrom 82 = .ok (.aload_n 0, 1) := by decide +kernel
theorem dX8_oneFrom_83 : decode cX8_oneFrom 83 = .ok (.getfield 21, 3) := by decide +kernel
theorem dX8_oneFrom_86 : decode cX8_oneFrom 86 = .ok (.iload 5, 2) := by decide +kernel
theorem dX8_oneFrom_88 : decode cX8_oneFrom 88 = .ok (.iload 6, 2) := by decide +kernel
theorem dX8_oneFrom_90 : decode cX8_oneFrom 90 = .ok (.ifCond .eq 25, 3) := by decide +kernel
theorem dX8_oneFrom_93 : decode cX8_oneFrom 93 = .ok (.iconst 1, 1) := by decide +kernel
theorem dX8_oneFrom_94 : decode cX8_oneFrom 94 = .ok (.aload_n 0, 1) := by decide +kernel
theorem dX8_oneFrom_95 : decode cX8_oneFrom 95 = .ok (.getfield 34, 3) := by decide +kernel
theorem dX8_oneFrom_98 : decode cX8_oneFrom 98 = .ok (.getfield 102, 3) := by decide +kernel
theorem dX8_oneFrom_101 : decode cX8_oneFrom 101 = .ok (.aload_n 0, 1) := by decide +kernel
theorem dX8_oneFrom_102 : decode cX8_oneFrom 102 = .ok (.getfield 34, 3) := by decide +kernel
theorem dX8_oneFrom_105 : decode cX8_oneFrom 105 = .ok (.getfield 112, 3) := by decide +kernel
theorem dX8_oneFrom_108 : decode cX8_oneFrom 108 = .ok (.iload_n 2, 1) := by decide +kernel
theorem dX8_oneFrom_109 : decode cX8_oneFrom 109 = .ok (.iaload, 1) := by decide +kernel
theorem dX8_oneFrom_110 : decode cX8_oneFrom 110 = .ok (.iaload, 1) := by decide +kernel
theorem dX8_oneFrom_111 : decode cX8_oneFrom 111 = .ok (.ishl, 1) := by decide +kernel
theorem dX8_oneFrom_112 : decode cX8_oneFrom 112 = .ok (.goto 4, 3) := by decide +kernel
theorem dX8_oneFrom_115 : decode cX8_oneFrom 115 = .ok (.iconst 0, 1) := by decide +kernel
theorem dX8_oneFrom_116 : decode cX8_oneFrom 116 = .ok (.iastore, 1) := by decide +kernel
theorem dX8_oneFrom_117 : decode cX8_oneFrom 117 = .ok (.aload_n 0, 1) := by decide +kernel
theorem dX8_oneFrom_118 : decode cX8_oneFrom 118 = .ok (.getfield 21, 3) := by decide +kernel
theorem dX8_oneFrom_121 : decode cX8_oneFrom 121 = .ok (.iload 5, 2) := by decide +kernel
theorem dX8_oneFrom_123 : decode cX8_oneFrom 123 = .ok (.iaload, 1) := by decide +kernel
theorem dX8_oneFrom_124 : decode cX8_oneFrom 124 = .ok (.ireturn, 1) := by decide +kernel
set_option maxRecDepth 20000 in
theorem s_X8_oneFrom {w : Wd} {d : Nat} {P : Int → IM → LM → Prop} {i : IM} {l : LM} (p0 : Int) (p1 : Int) (p2 : Int) (p3 : Int)  (hd : 1 ≤ d) (h : ((rg p2) ∧ (¬ (p2 = (-1)) → 0 ≤ p0 * 3 + 1 ∧ p0 * 3 + 1 < 24) ∧ (((p2 = (-1)) ∨ (iand (ishr (i 9 (p0 * 3 + 1)) p2) 1 = 0)) → P 0 i l) ∧ ((¬ ((p2 = (-1)) ∨ (iand (ishr (i 9 (p0 * 3 + 1)) p2) 1 = 0))) → (((i 44 12 = 0) → 0 ≤ (((p0 * 5) + p1) * 10) + p2 ∧ (((p0 * 5) + p1) * 10) + p2 < 400) ∧ (((i 44 12 = 0) ∧ (¬ (i 48 ((((p0 * 5) + p1) * 10) + p2) = (-1)))) → ((0 ≤ (((p0 * 5) + p1) * 10) + p2 ∧ (((p0 * 5) + p1) * 10) + p2 < 400) ∧ P (i 48 ((((p0 * 5) + p1) * 10) + p2)) i l)) ∧ ((¬ ((i 44 12 = 0) ∧ (¬ (i 48 ((((p0 * 5) + p1) * 10) + p2) = (-1))))) → gI w d X_X8_oneFrom P i l 61 [(0, vR (some 44)), (1, vI p0), (2, vI p1), (3, vI p2), (4, vI p3), (5, vI ((((p0 * 5) + p1) * 10) + p2))] []))))) : gI w d X_X8_oneFrom P i l 0 [(0, vR (some 44)), (1, vI p0), (2, vI p1), (3, vI p2), (4, vI p3)] [] := by
  refine g_iload_n (pc' := 1) 3 dX8_oneFrom_0 rfl rfl ?_
  refine g_iconst (pc' := 2) dX8_oneFrom_1 rfl ?_
  obtain ⟨hob2, hob4, hk18, hk19⟩ := h
  have hk18g : ((p2 = (-1)) ∨ (iand (ishr (i 9 (p0 * 3 + 1)) p2) 1 = 0)) → gI w d X_X8_oneFrom P i l 21 [(0, vR (some 44)), (1, vI p0), (2, vI p1), (3, vI p2), (4, vI p3)] [] := by
    intro hp
    have h := hk18 hp
    refine g_iconst (pc' := 22) dX8_oneFrom_21 rfl ?_
    exact g_retI rfl (rg_lit rfl) dX8_oneFrom_22 h
  have hk19g : (¬ ((p2 = (-1)) ∨ (iand (ishr (i 9 (p0 * 3 + 1)) p2) 1 = 0))) → gI w d X_X8_oneFrom P i l 23 [(0, vR (some 44)), (1, vI p0), (2, vI p1), (3, vI p2), (4, vI p3)] [] := by
    intro hp
    have h := hk19 hp
    refine g_iload_n (pc' := 24) 1 dX8_oneFrom_23 rfl rfl ?_
    refine g_iconst (pc' := 25) dX8_oneFrom_24 rfl ?_
    refine g_imul (pc' := 26) dX8_oneFrom_25 rfl ?_
    refine g_iload_n (pc' := 27) 2 dX8_oneFrom_26 rfl rfl ?_
    refine g_iadd (pc' := 28) dX8_oneFrom_27 rfl ?_
    refine g_bipush (pc' := 30) dX8_oneFrom_28 rfl rfl ?_
    refine g_imul (pc' := 31) dX8_oneFrom_30 rfl ?_
    refine g_iload_n (pc' := 32) 3 dX8_oneFrom_31 rfl rfl ?_
    refine g_iadd (pc' := 33) dX8_oneFrom_32 rfl ?_
    refine g_istore (pc' := 35) (L' := [(5, vI ((((p0 * 5) + p1) * 10) + p2)), (0, vR (some 44)), (1, vI p0), (2, vI p1), (3, vI p2), (4, vI p3)]) dX8_oneFrom_33 rfl (Nat.le_of_ble_eq_true rfl) rfl ?_
    refine g_aload_n (pc' := 36) 1 dX8_oneFrom_35 rfl rfl ?_
    refine g_getI (pc' := 39) (z := 12) rfl fl_X8_65 rfl rfl dX8_oneFrom_36 rfl (fun rg7 => ?_)
    obtain ⟨hob10, hk16, hk17⟩ := h
    have hk16g : ((i 44 12 = 0) ∧ (¬ (i 48 ((((p0 * 5) + p1) * 10) + p2) = (-1)))) → gI w d X_X8_oneFrom P i l 53 [(5, vI ((((p0 * 5) + p1) * 10) + p2)), (0, vR (some 44)), (1, vI p0), (2, vI p1), (3, vI p2), (4, vI p3)] [] := by
      intro hp
      have h := hk16 hp
      obtain ⟨ob14, h⟩ := h
      refine g_aload_n (pc' := 54) 1 dX8_oneFrom_53 rfl rfl ?_
      refine g_getR (pc' := 57) (o := some 48) fl_X8_21 rfl rfl rfl dX8_oneFrom_54 rfl ?_
      refine g_iload (pc' := 59) 0 dX8_oneFrom_57 rfl rfl ?_
      refine g_iald (pc' := 60) (N := 400) rfl rfl (Nat.lt_of_lt_of_le (Nat.lt_succ_self _) (Nat.le_of_ble_eq_true rfl)) ob14 dX8_oneFrom_59 rfl (fun rg15 => ?_)
      exact g_retI rfl rg15 dX8_oneFrom_60 h
    have hk17g : (¬ ((i 44 12 = 0) ∧ (¬ (i 48 ((((p0 * 5) + p1) * 10) + p2) = (-1))))) → gI w d X_X8_oneFrom P i l 61 [(5, vI ((((p0 * 5) + p1) * 10) + p2)), (0, vR (some 44)), (1, vI p0), (2, vI p1), (3, vI p2), (4, vI p3)] [] := by
      intro hp
      have h := hk17 hp
      refine g_sub (L' := [(0, vR (some 44)), (1, vI p0), (2, vI p1), (3, vI p2), (4, vI p3), (5, vI ((((p0 * 5) + p1) * 10) + p2))]) [1, 2, 3, 4, 5, 0] rfl ?_
      exact h
    refine g_if_ne (tgt := 61) (pc' := 42) rg7 Iff.rfl dX8_oneFrom_39 rfl rfl (fun c9 => ?_) (fun c9 => ?_)
    · exact hk17g (fun q => c9 q.1)
    · refine g_aload_n (pc' := 43) 1 dX8_oneFrom_42 rfl rfl ?_
      refine g_getR (pc' := 46) (o := some 48) fl_X8_21 rfl rfl rfl dX8_oneFrom_43 rfl ?_
      refine g_iload (pc' := 48) 0 dX8_oneFrom_46 rfl rfl ?_
      refine g_iald (pc' := 49) (N := 400) rfl rfl (Nat.lt_of_lt_of_le (Nat.lt_succ_self _) (Nat.le_of_ble_eq_true rfl)) (hob10 c9) dX8_oneFrom_48 rfl (fun rg11 => ?_)
      refine g_iconst (pc' := 50) dX8_oneFrom_49 rfl ?_
      refine g_icmp_eq (tgt := 61) (pc' := 53) rg11 (rg_lit rfl) Iff.rfl dX8_oneFrom_50 rfl rfl (fun c12 => ?_) (fun c12 => ?_)
      · exact hk17g (fun q => (fun q => q c12) q.2)
      · exact hk16g ⟨c9, c12⟩
  refine g_icmp_eq (tgt := 21) (pc' := 5) (hob2) (rg_lit rfl) Iff.rfl dX8_oneFrom_2 rfl rfl (fun c3 => ?_) (fun c3 => ?_)
  · exact hk18g (Or.inl c3)
  · refine g_aload_n (pc' := 6) 0 dX8_oneFrom_5 rfl rfl ?_
    refine g_getR (pc' := 9) (o := some 7) fl_X8_34 rfl rfl rfl dX8_oneFrom_6 rfl ?_
    refine g_iload_n (pc' := 10) 1 dX8_oneFrom_9 rfl rfl ?_
    refine g_iconst (pc' := 11) dX8_oneFrom_10 rfl ?_
    refine g_pVI (pc' := 14) (vs := [vI p0, vI 1]) (st := []) (val := i 9 (p0 * 3 + 1)) (c := 9) (sp_X9_view (le_hd hd rfl) (hob4 c3)) mv_X9_view lk_X8_89 rfl rfl rfl rfl (Nat.le_of_ble_eq_true rfl) (Nat.le_of_ble_eq_true rfl) rfl dX8_oneFrom_11 rfl z2 (fun rg5 => ?_)
    refine g_iload_n (pc' := 15) 3 dX8_oneFrom_14 rfl rfl ?_
    refine g_ishr (pc' := 16) dX8_oneFrom_15 rfl ?_
    refine g_iconst (pc' := 17) dX8_oneFrom_16 rfl ?_
    refine g_iand (pc' := 18) dX8_oneFrom_17 rfl ?_
    refine g_if_ne (tgt := 23) (pc' := 21) (rg_iand _ _) Iff.rfl dX8_oneFrom_18 rfl rfl (fun c6 => ?_) (fun c6 => ?_)
    · exact hk19g (fun q => q.elim c3 c6)
    · exact hk18g (Or.inr c6)
theorem e_X8_oneFrom {w : Wd} {d : Nat} {P : Int → IM → LM → Prop} {i : IM} {l : LM} {p0 : Int} {p1 : Int} {p2 : Int} {p3 : Int}  (h : gI w d X_X8_oneFrom P i l 0 [(0, vR (some 44)), (1, vI p0), (2, vI p1), (3, vI p2), (4, vI p3)] []) : cI w (d + 1) X_X8_oneFrom [vR (some 44), vI p0, vI p1, vI p2, vI p3] i l P := CI_of (by decide +kernel) (Nat.le_of_ble_eq_true rfl) h
set_option maxRecDepth 20000 in
theorem s_X8_oneFrom_61 {w : Wd} {d : Nat} {P : Int → IM → LM → Prop} {i : IM} {l : LM} (x1 : Int) (x2 : Int) (x3 : Int) (x4 : Int) (x5 : Int)  (h : cI w d X_X0_showsOne [vR (some 41), vI x1, vI x2, vI x3, vI (i 7 13), vI x4] i l (fun r21 i21 l21 => ((¬ (r21 = 0) → 0 ≤ x2 ∧ x2 < 5) ∧ (¬ (r21 = 0) → 0 ≤ i21 10 x2 ∧ i21 10 x2 < 8) ∧ ((0 ≤ x5 ∧ x5 < 400) ∧ P ((u2 i21 48 x5 (if (r21 = 0) then 0 else ishl 1 (i21 13 (i21 10 x2)))) 48 x5) (u2 i21 48 x5 (if (r21 = 0) then 0 else ishl 1 (i21 13 (i21 10 x2)))) l21)))) : gI w d X_X8_oneFrom P i l 61 [(0, vR (some 44)), (1, vI x1), (2, vI x2), (3, vI x3), (4, vI x4), (5, vI x5)] [] := by
  refine g_aload_n (pc' := 62) 0 dX8_oneFrom_61 rfl rfl ?_
  refine g_getR (pc' := 65) (o := some 41) fl_X8_38 rfl rfl rfl dX8_oneFrom_62 rfl ?_
  refine g_iload_n (pc' := 66) 1 dX8_oneFrom_65 rfl rfl ?_
  refine g_iload_n (pc' := 67) 2 dX8_oneFrom_66 rfl rfl ?_
  refine g_iload_n (pc' := 68) 3 dX8_oneFrom_67 rfl rfl ?_
  refine g_aload_n (pc' := 69) 0 dX8_oneFrom_68 rfl rfl ?_
  refine g_getR (pc' := 72) (o := some 7) fl_X8_34 rfl rfl rfl dX8_oneFrom_69 rfl ?_
  refine g_getI (pc' := 75) (z := 13) rfl fl_X8_80 rfl rfl dX8_oneFrom_72 rfl (fun rg20 => ?_)
  refine g_iload (pc' := 77) 4 dX8_oneFrom_75 rfl rfl ?_
  refine g_cVI (pc' := 80) (vs := [vI x1, vI x2, vI x3, vI (i 7 13), vI x4]) (st := []) (c := 0) h mv_X0_showsOne lk_X8_109 rfl rfl rfl rfl (Nat.le_of_ble_eq_true rfl) (Nat.le_of_ble_eq_true rfl) rfl dX8_oneFrom_77 rfl z2 (fun r21 i21 l21 rg21 h => ?_)
  refine g_istore (pc' := 82) (L' := [(6, vI r21), (0, vR (some 44)), (1, vI x1), (2, vI x2), (3, vI x3), (4, vI x4), (5, vI x5)]) dX8_oneFrom_80 rfl (Nat.le_of_ble_eq_true rfl) rfl ?_
  refine g_aload_n (pc' := 83) 1 dX8_oneFrom_82 rfl rfl ?_
  refine g_getR (pc' := 86) (o := some 48) fl_X8_21 rfl rfl rfl dX8_oneFrom_83 rfl ?_
  refine g_iload (pc' := 88) 6 dX8_oneFrom_86 rfl rfl ?_
  refine g_iload (pc' := 90) 0 dX8_oneFrom_88 rfl rfl ?_
  obtain ⟨hob24, hob26, h⟩ := h
  have hJ : gI w d X_X8_oneFrom P i21 l21 116 [(6, vI r21), (0, vR (some 44)), (1, vI x1), (2, vI x2), (3, vI x3), (4, vI x4), (5, vI x5)] [vI (if (r21 = 0) then 0 else ishl 1 (i21 13 (i21 10 x2))), vI x5, vR (some 48)] := by
    obtain ⟨ob28, h⟩ := h
    refine g_iast (pc' := 117) (N := 400) rfl rfl (Nat.lt_of_lt_of_le (Nat.lt_succ_self _) (Nat.le_of_ble_eq_true rfl)) ob28 (rg_ite (rg_lit rfl) (rg_ishl _ _)) dX8_oneFrom_116 rfl ?_
    refine g_aload_n (pc' := 118) 1 dX8_oneFrom_117 rfl rfl ?_
    refine g_getR (pc' := 121) (o := some 48) fl_X8_21 rfl rfl rfl dX8_oneFrom_118 rfl ?_
    refine g_iload (pc' := 123) 6 dX8_oneFrom_121 rfl rfl ?_
    refine g_iald (pc' := 124) (N := 400) rfl rfl (Nat.lt_of_lt_of_le (Nat.lt_succ_self _) (Nat.le_of_ble_eq_true rfl)) ob28 dX8_oneFrom_123 rfl (fun rg29 => ?_)
    exact g_retI rfl rg29 dX8_oneFrom_124 h
  refine g_if_eq (tgt := 115) (pc' := 93) rg21 Iff.rfl dX8_oneFrom_90 rfl rfl (fun c23 => ?_) (fun c23 => ?_)
  · refine g_iconst (pc' := 116) dX8_oneFrom_115 rfl ?_
    rw [if_pos c23 (α := Int) (t := 0) (e := ishl 1 (i21 13 (i21 10 x2)))] at hJ
    exact hJ
  · refine g_iconst (pc' := 94) dX8_oneFrom_93 rfl ?_
    refine g_aload_n (pc' := 95) 1 dX8_oneFrom_94 rfl rfl ?_
    refine g_getR (pc' := 98) (o := some 7) fl_X8_34 rfl rfl rfl dX8_oneFrom_95 rfl ?_
    refine g_getR (pc' := 101) (o := some 13) fl_X8_102 rfl rfl rfl dX8_oneFrom_98 rfl ?_
    refine g_aload_n (pc' := 102) 1 dX8_oneFrom_101 rfl rfl ?_
    refine g_getR (pc' := 105) (o := some 7) fl_X8_34 rfl rfl rfl dX8_oneFrom_102 rfl ?_
    refine g_getR (pc' := 108) (o := some 10) fl_X8_112 rfl rfl rfl dX8_oneFrom_105 rfl ?_
    refine g_iload_n (pc' := 109) 3 dX8_oneFrom_108 rfl rfl ?_
    refine g_iald (pc' := 110) (N := 5) rfl rfl (Nat.lt_of_lt_of_le (Nat.lt_succ_self _) (Nat.le_of_ble_eq_true rfl)) (hob24 c23) dX8_oneFrom_109 rfl (fun rg25 => ?_)
    refine g_iald (pc' := 111) (N := 8) rfl rfl (Nat.lt_of_lt_of_le (Nat.lt_succ_self _) (Nat.le_of_ble_eq_true rfl)) (hob26 c23) dX8_oneFrom_110 rfl (fun rg27 => ?_)
    refine g_ishl (pc' := 112) dX8_oneFrom_111 rfl ?_
    refine g_goto (tgt := 116) dX8_oneFrom_112 rfl ?_
    rw [if_neg c23 (α := Int) (t := 0) (e := ishl 1 (i21 13 (i21 10 x2)))] at hJ
    exact hJ

theorem dX8_seenFrom_0 : decode cX8_seenFrom 0 = .ok (.aload_n 0, 1) := by decide +kernel
theorem dX8_seenFrom_1 : decode cX8_seenFrom 1 = .ok (.iload_n 1, 1) := by decide +kernel
theorem dX8_seenFrom_2 : decode cX8_seenFrom 2 = .ok (.iload_n 2, 1) := by decide +kernel
theorem dX8_seenFrom_3 : decode cX8_seenFrom 3 = .ok (.invokevirtual 115, 3) := by decide +kernel
theorem dX8_seenFrom_6 : decode cX8_seenFrom 6 = .ok (.istore_n 3, 1) := by decide +kernel
theorem dX8_seenFrom_7 : decode cX8_seenFrom 7 = .ok (.iconst 0, 1) := by decide +kernel
theorem dX8_seenFrom_8 : decode cX8_seenFrom 8 = .ok (.istore 4, 2) := by decide +kernel
theorem dX8_seenFrom_10 : decode cX8_seenFrom 10 = .ok (.iload 4, 2) := by decide +kernel
theorem dX8_seenFrom_12 : decode cX8_seenFrom 12 = .ok (.aload_n 0, 1) := by decide +kernel
theorem dX8_seenFrom_13 : decode cX8_seenFrom 13 = .ok (.getfield 34, 3) := by decide +kernel
theorem dX8_seenFrom_16 : decode cX8_seenFrom 16 = .ok (.getfield 118, 3) := by decide +kernel
theorem dX8_seenFrom_19 : decode cX8_seenFrom 19 = .ok (.if_icmp .ge 27, 3) := by decide +kernel
theorem dX8_seenFrom_22 : decode cX8_seenFrom 22 = .ok (.iload_n 3, 1) := by decide +kernel
theorem dX8_seenFrom_23 : decode cX8_seenFrom 23 = .ok (.aload_n 0, 1) := by decide +kernel
theorem dX8_seenFrom_24 : decode cX8_seenFrom 24 = .ok (.iload_n 1, 1) := by decide +kernel
theorem dX8_seenFrom_25 : decode cX8_seenFrom 25 = .ok (.iload 4, 2) := by decide +kernel
theorem dX8_seenFrom_27 : decode cX8_seenFrom 27 = .ok (.aload_n 0, 1) := by decide +kernel
theorem dX8_seenFrom_28 : decode cX8_seenFrom 28 = .ok (.getfield 24, 3) := by decide +kernel
theorem dX8_seenFrom_31 : decode cX8_seenFrom 31 = .ok (.iload 4, 2) := by decide +kernel
theorem dX8_seenFrom_33 : decode cX8_seenFrom 33 = .ok (.iaload, 1) := by decide +kernel
theorem dX8_seenFrom_34 : decode cX8_seenFrom 34 = .ok (.iload_n 2, 1) := by decide +kernel
theorem dX8_seenFrom_35 : decode cX8_seenFrom 35 = .ok (.invokevirtual 121, 3) := by decide +kernel
theorem dX8_seenFrom_38 : decode cX8_seenFrom 38 = .ok (.ior, 1) := by decide +kernel
theorem dX8_seenFrom_39 : decode cX8_seenFrom 39 = .ok (.istore_n 3, 1) := by decide +kernel
theorem dX8_seenFrom_40 : decode cX8_seenFrom 40 = .ok (.iinc 4 1, 3) := by decide +kernel
theorem dX8_seenFrom_43 : decode cX8_seenFrom 43 = .ok (.goto (-33), 3) := by decide +kernel
theorem dX8_seenFrom_46 : decode cX8_seenFrom 46 = .ok (.iload_n 3, 1) := by decide +kernel
theorem dX8_seenFrom_47 : decode cX8_seenFrom 47 = .ok (.ireturn, 1) := by decide +kernel
set_option maxRecDepth 20000 in
theorem s_X8_seenFrom {w : Wd} {d : Nat} {P : Int → IM → LM → Prop} {i : IM} {l : LM} (p0 : Int) (p1 : Int)  (h : cI w d X_X8_thingsFrom [vR (some 44), vI p0, vI p1] i l (fun r1 i1 l1 => gI w d X_X8_seenFrom P i1 l1 10 [(0, vR (some 44)), (1, vI p0), (2, vI p1), (3, vI r1), (4, vI 0)] [])) : gI w d X_X8_seenFrom P i l 0 [(0, vR (some 44)), (1, vI p0), (2, vI p1)] [] := by
  refine g_aload_n (pc' := 1) 0 dX8_seenFrom_0 rfl rfl ?_
  refine g_iload_n (pc' := 2) 1 dX8_seenFrom_1 rfl rfl ?_
  refine g_iload_n (pc' := 3) 2 dX8_seenFrom_2 rfl rfl ?_
  refine g_cVI (pc' := 6) (vs := [vI p0, vI p1]) (st := []) (c := 8) h mv_X8_thingsFrom lk_X8_115 rfl rfl rfl rfl (Nat.le_of_ble_eq_true rfl) (Nat.le_of_ble_eq_true rfl) rfl dX8_seenFrom_3 rfl z2 (fun r1 i1 l1 rg1 h => ?_)
  refine g_istore_n (pc' := 7) (L' := [(3, vI r1), (0, vR (some 44)), (1, vI p0), (2, vI p1)]) dX8_seenFrom_6 rfl (Nat.le_of_ble_eq_true rfl) rfl ?_
  refine g_iconst (pc' := 8) dX8_seenFrom_7 rfl ?_
  refine g_istore (pc' := 10) (L' := [(4, vI 0), (3, vI r1), (0, vR (some 44)), (1, vI p0), (2, vI p1)]) dX8_seenFrom_8 rfl (Nat.le_of_ble_eq_true rfl) rfl ?_
  refine g_sub (L' := [(0, vR (some 44)), (1, vI p0), (2, vI p1), (3, vI r1), (4, vI 0)]) [2, 3, 4, 1, 0] rfl ?_
  exact h
theorem e_X8_seenFrom {w : Wd} {d : Nat} {P : Int → IM → LM → Prop} {i : IM} {l : LM} {p0 : Int} {p1 : Int}  (h : gI w d X_X8_seenFrom P i l 0 [(0, vR (some 44)), (1, vI p0), (2, vI p1)] []) : cI w (d + 1) X_X8_seenFrom [vR (some 44), vI p0, vI p1] i l P := CI_of (by decide +kernel) (Nat.le_of_ble_eq_true rfl) h
set_option maxRecDepth 20000 in
theorem s_X8_seenFrom_10 {w : Wd} {d : Nat} {P : Int → IM → LM → Prop} {i : IM} {l : LM} (x1 : Int) (x2 : Int) (x3 : Int) (x4 : Int)  (h : ((rg x4) ∧ ((i 7 10 ≤ x4) → ((rg x3) ∧ P x3 i l)) ∧ ((¬ (i 7 10 ≤ x4)) → ((0 ≤ x4 ∧ x4 < 5) ∧ cI w d X_X8_oneFrom [vR (some 44), vI x1, vI x4, vI (i 49 x4), vI x2] i l (fun r11 i11 l11 => gI w d X_X8_seenFrom P i11 l11 10 [(0, vR (some 44)), (1, vI x1), (2, vI x2), (3, vI (ior x3 r11)), (4, vI (x4 + 1))] []))))) : gI w d X_X8_seenFrom P i l 10 [(0, vR (some 44)), (1, vI x1), (2, vI x2), (3, vI x3), (4, vI x4)] [] := by
  refine g_iload (pc' := 12) 4 dX8_seenFrom_10 rfl rfl ?_
  refine g_aload_n (pc' := 13) 0 dX8_seenFrom_12 rfl rfl ?_
  refine g_getR (pc' := 16) (o := some 7) fl_X8_34 rfl rfl rfl dX8_seenFrom_13 rfl ?_
  refine g_getI (pc' := 19) (z := 10) rfl fl_X8_118 rfl rfl dX8_seenFrom_16 rfl (fun rg2 => ?_)
  obtain ⟨hob4, hk12, hk13⟩ := h
  refine g_icmp_ge (tgt := 46) (pc' := 22) (hob4) rg2 Iff.rfl dX8_seenFrom_19 rfl rfl (fun c5 => ?_) (fun c5 => ?_)
  · have h := hk12 c5
    obtain ⟨ob8, h⟩ := h
    refine g_iload_n (pc' := 47) 3 dX8_seenFrom_46 rfl rfl ?_
    exact g_retI rfl ob8 dX8_seenFrom_47 h
  · have h := hk13 c5
    obtain ⟨ob9, h⟩ := h
    refine g_iload_n (pc' := 23) 3 dX8_seenFrom_22 rfl rfl ?_
    refine g_aload_n (pc' := 24) 0 dX8_seenFrom_23 rfl rfl ?_
    refine g_iload_n (pc' := 25) 1 dX8_seenFrom_24 rfl rfl ?_
    refine g_iload (pc' := 27) 4 dX8_seenFrom_25 rfl rfl ?_
    refine g_aload_n (pc' := 28) 0 dX8_seenFrom_27 rfl rfl ?_
    refine g_getR (pc' := 31) (o := some 49) fl_X8_24 rfl rfl rfl dX8_seenFrom_28 rfl ?_
    refine g_iload (pc' := 33) 4 dX8_seenFrom_31 rfl rfl ?_
    refine g_iald (pc' := 34) (N := 5) rfl rfl (Nat.lt_of_lt_of_le (Nat.lt_succ_self _) (Nat.le_of_ble_eq_true rfl)) ob9 dX8_seenFrom_33 rfl (fun rg10 => ?_)
    refine g_iload_n (pc' := 35) 2 dX8_seenFrom_34 rfl rfl ?_
    refine g_cVI (pc' := 38) (vs := [vI x1, vI x4, vI (i 49 x4), vI x2]) (st := [vI x3]) (c := 8) h mv_X8_oneFrom lk_X8_121 rfl rfl rfl rfl (Nat.le_of_ble_eq_true rfl) (Nat.le_of_ble_eq_true rfl) rfl dX8_seenFrom_35 rfl z2 (fun r11 i11 l11 rg11 h => ?_)
    refine g_ior (pc' := 39) dX8_seenFrom_38 rfl ?_
    refine g_istore_n (pc' := 40) (L' := [(3, vI (ior x3 r11)), (0, vR (some 44)), (1, vI x1), (2, vI x2), (4, vI x4)]) dX8_seenFrom_39 rfl (Nat.le_of_ble_eq_true rfl) rfl ?_
    refine g_iinc (pc' := 43) (L' := [(4, vI (x4 + 1)), (3, vI (ior x3 r11)), (0, vR (some 44)), (1, vI x1), (2, vI x2)]) 4 dX8_seenFrom_40 rfl (Nat.le_of_ble_eq_true rfl) rfl rfl ?_
    refine g_goto (tgt := 10) dX8_seenFrom_43 rfl ?_
    refine g_sub (L' := [(0, vR (some 44)), (1, vI x1), (2, vI x2), (3, vI (ior x3 r11)), (4, vI (x4 + 1))]) [2, 3, 4, 1, 0] rfl ?_
    exact h

theorem dX8_failing_0 : decode cX8_failing 0 = .ok (.iconst 0, 1) := by decide +kernel
theorem dX8_failing_1 : decode cX8_failing 1 = .ok (.istore_n 2, 1) := by decide +kernel
theorem dX8_failing_2 : decode cX8_failing 2 = .ok (.iconst 0, 1) := by decide +kernel
theorem dX8_failing_3 : decode cX8_failing 3 = .ok (.istore_n 3, 1) := by decide +kernel
theorem dX8_failing_4 : decode cX8_failing 4 = .ok (.iload_n 3, 1) := by decide +kernel
theorem dX8_failing_5 : decode cX8_failing 5 = .ok (.aload_n 0, 1) := by decide +kernel
theorem dX8_failing_6 : decode cX8_failing 6 = .ok (.getfield 34, 3) := by decide +kernel
theorem dX8_failing_9 : decode cX8_failing 9 = .ok (.getfield 125, 3) := by decide +kernel
theorem dX8_failing_12 : decode cX8_failing 12 = .ok (.if_icmp .ge 33, 3) := by decide +kernel
theorem dX8_failing_15 : decode cX8_failing 15 = .ok (.aload_n 0, 1) := by decide +kernel
theorem dX8_failing_16 : decode cX8_failing 16 = .ok (.iload_n 3, 1) := by decide +kernel
theorem dX8_failing_17 : decode cX8_failing 17 = .ok (.iload_n 1, 1) := by decide +kernel
theorem dX8_failing_18 : decode cX8_failing 18 = .ok (.invokevirtual 128, 3) := by decide +kernel
theorem dX8_failing_21 : decode cX8_failing 21 = .ok (.invokestatic 131, 3) := by decide +kernel
theorem dX8_failing_24 : decode cX8_failing 24 = .ok (.aload_n 0, 1) := by decide +kernel
theorem dX8_failing_25 : decode cX8_failing 25 = .ok (.iload_n 3, 1) := by decide +kernel
theorem dX8_failing_26 : decode cX8_failing 26 = .ok (.iload_n 1, 1) := by decide +kernel
theorem dX8_failing_27 : decode cX8_failing 27 = .ok (.invokevirtual 137, 3) := by decide +kernel
theorem dX8_failing_30 : decode cX8_failing 30 = .ok (.if_icmp .le 9, 3) := by decide +kernel
theorem dX8_failing_33 : decode cX8_failing 33 = .ok (.iload_n 2, 1) := by decide +kernel
theorem dX8_failing_34 : decode cX8_failing 34 = .ok (.iconst 1, 1) := by decide +kernel
theorem dX8_failing_35 : decode cX8_failing 35 = .ok (.iload_n 3, 1) := by decide +kernel
theorem dX8_failing_36 : decode cX8_failing 36 = .ok (.ishl, 1) := by decide +kernel
theorem dX8_failing_37 : decode cX8_failing 37 = .ok (.ior, 1) := by decide +kernel
theorem dX8_failing_38 : decode cX8_failing 38 = .ok (.istore_n 2, 1) := by decide +kernel
theorem dX8_failing_39 : decode cX8_failing 39 = .ok (.iinc 3 1, 3) := by decide +kernel
theorem dX8_failing_42 : decode cX8_failing 42 = .ok (.goto (-38), 3) := by decide +kernel
theorem dX8_failing_45 : decode cX8_failing 45 = .ok (.iload_n 2, 1) := by decide +kernel
theorem dX8_failing_46 : decode cX8_failing 46 = .ok (.ireturn, 1) := by decide +kernel
set_option maxRecDepth 20000 in
theorem s_X8_failing {w : Wd} {d : Nat} {P : Int → IM → LM → Prop} {i : IM} {l : LM} (p0 : Int)  (h : gI w d X_X8_failing P i l 4 [(0, vR (some 44)), (1, vI p0), (2, vI 0), (3, vI 0)] []) : gI w d X_X8_failing P i l 0 [(0, vR (some 44)), (1, vI p0)] [] := by
  refine g_iconst (pc' := 1) dX8_failing_0 rfl ?_
  refine g_istore_n (pc' := 2) (L' := [(2, vI 0), (0, vR (some 44)), (1, vI p0)]) dX8_failing_1 rfl (Nat.le_of_ble_eq_true rfl) rfl ?_
  refine g_iconst (pc' := 3) dX8_failing_2 rfl ?_
  refine g_istore_n (pc' := 4) (L' := [(3, vI 0), (2, vI 0), (0, vR (some 44)), (1, vI p0)]) dX8_failing_3 rfl (Nat.le_of_ble_eq_true rfl) rfl ?_
  refine g_sub (L' := [(0, vR (some 44)), (1, vI p0), (2, vI 0), (3, vI 0)]) [2, 3, 1, 0] rfl ?_
  exact h
theorem e_X8_failing {w : Wd} {d : Nat} {P : Int → IM → LM → Prop} {i : IM} {l : LM} {p0 : Int}  (h : gI w d X_X8_failing P i l 0 [(0, vR (some 44)), (1, vI p0)] []) : cI w (d + 1) X_X8_failing [vR (some 44), vI p0] i l P := CI_of (by decide +kernel) (Nat.le_of_ble_eq_true rfl) h
set_option maxRecDepth 20000 in
theorem s_X8_failing_4 {w : Wd} {d : Nat} {P : Int → IM → LM → Prop} {i : IM} {l : LM} (x1 : Int) (x2 : Int) (x3 : Int)  (hd : 1 ≤ d) (h : ((rg x3) ∧ ((i 7 9 ≤ x3) → ((rg x2) ∧ P x2 i l)) ∧ ((¬ (i 7 9 ≤ x3)) → cI w d X_X8_seenFrom [vR (some 44), vI x3, vI x1] i l (fun r6 i6 l6 => ((0 ≤ r6 ∧ r6 < 1024) ∧ cI w d X_X8_limitAt [vR (some 44), vI x3, vI x1] i6 l6 (fun r9 i9 l9 => (((popI r6 ≤ r9) → gI w d X_X8_failing P i9 l9 4 [(0, vR (some 44)), (1, vI x1), (2, vI x2), (3, vI (x3 + 1))] []) ∧ ((¬ (popI r6 ≤ r9)) → gI w d X_X8_failing P i9 l9 4 [(0, vR (some 44)), (1, vI x1), (2, vI (ior x2 (ishl 1 x3))), (3, vI (x3 + 1))] [])))))))) : gI w d X_X8_failing P i l 4 [(0, vR (some 44)), (1, vI x1), (2, vI x2), (3, vI x3)] [] := by
  refine g_iload_n (pc' := 5) 3 dX8_failing_4 rfl rfl ?_
  refine g_aload_n (pc' := 6) 0 dX8_failing_5 rfl rfl ?_
  refine g_getR (pc' := 9) (o := some 7) fl_X8_34 rfl rfl rfl dX8_failing_6 rfl ?_
  refine g_getI (pc' := 12) (z := 9) rfl fl_X8_125 rfl rfl dX8_failing_9 rfl (fun rg1 => ?_)
  obtain ⟨hob3, hk14, hk15⟩ := h
  refine g_icmp_ge (tgt := 45) (pc' := 15) (hob3) rg1 Iff.rfl dX8_failing_12 rfl rfl (fun c4 => ?_) (fun c4 => ?_)
  · have h := hk14 c4
    obtain ⟨ob5, h⟩ := h
    refine g_iload_n (pc' := 46) 2 dX8_failing_45 rfl rfl ?_
    exact g_retI rfl ob5 dX8_failing_46 h
  · have h := hk15 c4
    refine g_aload_n (pc' := 16) 0 dX8_failing_15 rfl rfl ?_
    refine g_iload_n (pc' := 17) 3 dX8_failing_16 rfl rfl ?_
    refine g_iload_n (pc' := 18) 1 dX8_failing_17 rfl rfl ?_
    refine g_cVI (pc' := 21) (vs := [vI x3, vI x1]) (st := []) (c := 8) h mv_X8_seenFrom lk_X8_128 rfl rfl rfl rfl (Nat.le_of_ble_eq_true rfl) (Nat.le_of_ble_eq_true rfl) rfl dX8_failing_18 rfl z2 (fun r6 i6 l6 rg6 h => ?_)
    obtain ⟨ob7, h⟩ := h
    refine g_pSI (pc' := 24) (vs := [vI r6]) (st := []) (val := popI r6) (sp_bitCount (le_hd hd rfl) ob7) mk_J6_bitCount_0f7a4 ms_J6_bitCount_0f7a4 lk_X8_131 rfl (Nat.le_of_ble_eq_true rfl) (Nat.le_of_ble_eq_true rfl) rfl dX8_failing_21 rfl z2 (fun rg8 => ?_)
    refine g_aload_n (pc' := 25) 0 dX8_failing_24 rfl rfl ?_
    refine g_iload_n (pc' := 26) 3 dX8_failing_25 rfl rfl ?_
    refine g_iload_n (pc' := 27) 1 dX8_failing_26 rfl rfl ?_
    refine g_cVI (pc' := 30) (vs := [vI x3, vI x1]) (st := [vI (popI r6)]) (c := 8) h mv_X8_limitAt lk_X8_137 rfl rfl rfl rfl (Nat.le_of_ble_eq_true rfl) (Nat.le_of_ble_eq_true rfl) rfl dX8_failing_27 rfl z2 (fun r9 i9 l9 rg9 h => ?_)
    obtain ⟨hk12, hk13⟩ := h
    refine g_icmp_le (tgt := 39) (pc' := 33) rg8 rg9 Iff.rfl dX8_failing_30 rfl rfl (fun c11 => ?_) (fun c11 => ?_)
    · have h := hk12 c11
      refine g_iinc (pc' := 42) (L' := [(3, vI (x3 + 1)), (0, vR (some 44)), (1, vI x1), (2, vI x2)]) 3 dX8_failing_39 rfl (Nat.le_of_ble_eq_true rfl) rfl rfl ?_
      refine g_goto (tgt := 4) dX8_failing_42 rfl ?_
      refine g_sub (L' := [(0, vR (some 44)), (1, vI x1), (2, vI x2), (3, vI (x3 + 1))]) [1, 2, 3, 0] rfl ?_
      exact h
    · have h := hk13 c11
      refine g_iload_n (pc' := 34) 2 dX8_failing_33 rfl rfl ?_
      refine g_iconst (pc' := 35) dX8_failing_34 rfl ?_
      refine g_iload_n (pc' := 36) 3 dX8_failing_35 rfl rfl ?_
      refine g_ishl (pc' := 37) dX8_failing_36 rfl ?_
      refine g_ior (pc' := 38) dX8_failing_37 rfl ?_
      refine g_istore_n (pc' := 39) (L' := [(2, vI (ior x2 (ishl 1 x3))), (0, vR (some 44)), (1, vI x1), (3, vI x3)]) dX8_failing_38 rfl (Nat.le_of_ble_eq_true rfl) rfl ?_
      refine g_iinc (pc' := 42) (L' := [(3, vI (x3 + 1)), (2, vI (ior x2 (ishl 1 x3))), (0, vR (some 44)), (1, vI x1)]) 3 dX8_failing_39 rfl (Nat.le_of_ble_eq_true rfl) rfl rfl ?_
      refine g_goto (tgt := 4) dX8_failing_42 rfl ?_
      refine g_sub (L' := [(0, vR (some 44)), (1, vI x1), (2, vI (ior x2 (ishl 1 x3))), (3, vI (x3 + 1))]) [2, 3, 1, 0] rfl ?_
      exact h

theorem dX8_sweep_0 : decode cX8_sweep 0 = .ok (.aload_n 0, 1) := by decide +kernel
theorem dX8_sweep_1 : decode cX8_sweep 1 = .ok (.invokevirtual 140, 3) := by decide +kernel
theorem dX8_sweep_4 : decode cX8_sweep 4 = .ok (.aload_n 0, 1) := by decide +kernel
theorem dX8_sweep_5 : decode cX8_sweep 5 = .ok (.getfield 45, 3) := by decide +kernel
theorem dX8_sweep_8 : decode cX8_sweep 8 = .ok (.ifCond .eq 4, 3) := by decide +kernel
theorem dX8_sweep_11 : decode cX8_sweep 11 = .ok (.return_, 1) := by decide +kernel
theorem dX8_sweep_12 : decode cX8_sweep 12 = .ok (.aload_n 0, 1) := by decide +kernel
theorem dX8_sweep_13 : decode cX8_sweep 13 = .ok (.iconst 1, 1) := by decide +kernel
theorem dX8_sweep_14 : decode cX8_sweep 14 = .ok (.putfield 45, 3) := by decide +kernel
theorem dX8_sweep_17 : decode cX8_sweep 17 = .ok (.aload_n 0, 1) := by decide +kernel
theorem dX8_sweep_18 : decode cX8_sweep 18 = .ok (.iconst (-1), 1) := by decide +kernel
theorem dX8_sweep_19 : decode cX8_sweep 19 = .ok (.putfield 143, 3) := by decide +kernel
theorem dX8_sweep_22 : decode cX8_sweep 22 = .ok (.aload_n 0, 1) := by decide +kernel
theorem dX8_sweep_23 : decode cX8_sweep 23 = .ok (.iconst (-1), 1) := by decide +kernel
theorem dX8_sweep_24 : decode cX8_sweep 24 = .ok (.putfield 146, 3) := by decide +kernel
theorem dX8_sweep_27 : decode cX8_sweep 27 = .ok (.aload_n 0, 1) := by decide +kernel
theorem dX8_sweep_28 : decode cX8_sweep 28 = .ok (.iconst 0, 1) := by decide +kernel
theorem dX8_sweep_29 : decode cX8_sweep 29 = .ok (.putfield 149, 3) := by decide +kernel
theorem dX8_sweep_32 : decode cX8_sweep 32 = .ok (.aload_n 0, 1) := by decide +kernel
theorem dX8_sweep_33 : decode cX8_sweep 33 = .ok (.getfield 27, 3) := by decide +kernel
theorem dX8_sweep_36 : decode cX8_sweep 36 = .ok (.iconst 0, 1) := by decide +kernel
theorem dX8_sweep_37 : decode cX8_sweep 37 = .ok (.invokestatic 49, 3) := by decide +kernel
theorem dX8_sweep_40 : decode cX8_sweep 40 = .ok (.iconst 0, 1) := by decide +kernel
theorem dX8_sweep_41 : decode cX8_sweep 41 = .ok (.istore_n 1, 1) := by decide +kernel
theorem dX8_sweep_42 : decode cX8_sweep 42 = .ok (.iload_n 1, 1) := by decide +kernel
theorem dX8_sweep_43 : decode cX8_sweep 43 = .ok (.bipush 120, 2) := by decide +kernel
theorem dX8_sweep_45 : decode cX8_sweep 45 = .ok (.if_icmp .ge 92, 3) := by decide +kernel
theorem dX8_sweep_48 : decode cX8_sweep 48 = .ok (.aload_n 0, 1) := by decide +kernel
theorem dX8_sweep_49 : decode cX8_sweep 49 = .ok (.iload_n 1, 1) := by decide +kernel
theorem dX8_sweep_50 : decode cX8_sweep 50 = .ok (.iconst (-1), 1) := by decide +kernel
theorem dX8_sweep_51 : decode cX8_sweep 51 = .ok (.invokevirtual 152, 3) := by decide +kernel
theorem dX8_sweep_54 : decode cX8_sweep 54 = .ok (.aload_n 0, 1) := by decide +kernel
theorem dX8_sweep_55 : decode cX8_sweep 55 = .ok (.iload_n 1, 1) := by decide +kernel
theorem dX8_sweep_56 : decode cX8_sweep 56 = .ok (.invokevirtual 156, 3) := by decide +kernel
theorem dX8_sweep_59 : decode cX8_sweep 59 = .ok (.istore_n 2, 1) := by decide +kernel
theorem dX8_sweep_60 : decode cX8_sweep 60 = .ok (.iload_n 2, 1) := by decide +kernel
theorem dX8_sweep_61 : decode cX8_sweep 61 = .ok (.ifCond .eq 24, 3) := by decide +kernel
theorem dX8_sweep_64 : decode cX8_sweep 64 = .ok (.aload_n 0, 1) := by decide +kernel
theorem dX8_sweep_65 : decode cX8_sweep 65 = .ok (.getfield 143, 3) := by decide +kernel
theorem dX8_sweep_68 : decode cX8_sweep 68 = .ok (.iconst (-1), 1) := by decide +kernel
theorem dX8_sweep_69 : decode cX8_sweep 69 = .ok (.if_icmp .ne 16, 3) := by decide +kernel
theorem dX8_sweep_72 : decode cX8_sweep 72 = .ok (.aload_n 0, 1) := by decide +kernel
theorem dX8_sweep_73 : decode cX8_sweep 73 = .ok (.iload_n 1, 1) := by decide +kernel
theorem dX8_sweep_74 : decode cX8_sweep 74 = .ok (.putfield 143, 3) := by decide +kernel
theorem dX8_sweep_77 : decode cX8_sweep 77 = .ok (.aload_n 0, 1) := by decide +kernel
theorem dX8_sweep_78 : decode cX8_sweep 78 = .ok (.iload_n 2, 1) := by decide +kernel
theorem dX8_sweep_79 : decode cX8_sweep 79 = .ok (.invokestatic 159, 3) := by decide +kernel
theorem dX8_sweep_82 : decode cX8_sweep 82 = .ok (.putfield 146, 3) := by decide +kernel
theorem dX8_sweep_85 : decode cX8_sweep 85 = .ok (.aload_n 0, 1) := by decide +kernel
theorem dX8_sweep_86 : decode cX8_sweep 86 = .ok (.dup, 1) := by decide +kernel
theorem dX8_sweep_87 : decode cX8_sweep 87 = .ok (.getfield 149, 3) := by decide +kernel
theorem dX8_sweep_90 : decode cX8_sweep 90 = .ok (.iload_n 2, 1) := by decide +kernel
theorem dX8_sweep_91 : decode cX8_sweep 91 = .ok (.invokestatic 131, 3) := by decide +kernel
theorem dX8_sweep_94 : decode cX8_sweep 94 = .ok (.iadd, 1) := by decide +kernel
theorem dX8_sweep_95 : decode cX8_sweep 95 = .ok (.putfield 149, 3) := by decide +kernel
theorem dX8_sweep_98 : decode cX8_sweep 98 = .ok (.iconst 0, 1) := by decide +kernel
theorem dX8_sweep_99 : decode cX8_sweep 99 = .ok (.istore_n 3, 1) := by decide +kernel
theorem dX8_sweep_100 : decode cX8_sweep 100 = .ok (.iload_n 3, 1) := by decide +kernel
theorem dX8_sweep_101 : decode cX8_sweep 101 = .ok (.aload_n 0, 1) := by decide +kernel
theorem dX8_sweep_102 : decode cX8_sweep 102 = .ok (.getfield 34, 3) := by decide +kernel
theorem dX8_sweep_105 : decode cX8_sweep 105 = .ok (.getfield 125, 3) := by decide +kernel
theorem dX8_sweep_108 : decode cX8_sweep 108 = .ok (.if_icmp .ge 23, 3) := by decide +kernel
theorem dX8_sweep_111 : decode cX8_sweep 111 = .ok (.aload_n 0, 1) := by decide +kernel
theorem dX8_sweep_112 : decode cX8_sweep 112 = .ok (.getfield 27, 3) := by decide +kernel
theorem dX8_sweep_115 : decode cX8_sweep 115 = .ok (.iload_n 3, 1) := by decide +kernel
theorem dX8_sweep_116 : decode cX8_sweep 116 = .ok (.dup2, 1) := by decide +kernel
theorem dX8_sweep_117 : decode cX8_sweep 117 = .ok (.iaload, 1) := by decide +kernel
theorem dX8_sweep_118 : decode cX8_sweep 118 = .ok (.iload_n 2, 1) := by decide +kernel
theorem dX8_sweep_119 : decode cX8_sweep 119 = .ok (.iload_n 3, 1) := by decide +kernel
theorem dX8_sweep_120 : decode cX8_sweep 120 = .ok (.ishr, 1) := by decide +kernel
theorem dX8_sweep_121 : decode cX8_sweep 121 = .ok (.iconst 1, 1) := by decide +kernel
theorem dX8_sweep_122 : decode cX8_sweep 122 = .ok (.iand, 1) := by decide +kernel
theorem dX8_sweep_123 : decode cX8_sweep 123 = .ok (.iadd, 1) := by decide +kernel
theorem dX8_sweep_124 : decode cX8_sweep 124 = .ok (.iastore, 1) := by decide +kernel
theorem dX8_sweep_125 : decode cX8_sweep 125 = .ok (.iinc 3 1, 3) := by decide +kernel
theorem dX8_sweep_128 : decode cX8_sweep 128 = .ok (.goto (-28), 3) := by decide +kernel
theorem dX8_sweep_131 : decode cX8_sweep 131 = .ok (.iinc 1 1, 3) := by decide +kernel
theorem dX8_sweep_134 : decode cX8_sweep 134 = .ok (.goto (-92), 3) := by decide +kernel
theorem dX8_sweep_137 : decode cX8_sweep 137 = .ok (.return_, 1) := by decide +kernel
set_option maxRecDepth 20000 in
theorem s_X8_sweep {w : Wd} {d : Nat} {P : IM → LM → Prop} {i : IM} {l : LM}   (hd : 1 ≤ d) (h : cVd w d X_X8_refresh [vR (some 44)] i l (fun i1 l1 => (((i1 44 11 = 0) → gV w d X_X8_sweep P (fillA (u2 (u2 (u2 (u2 i1 44 11 1) 44 8 (-1)) 44 9 (-1)) 44 10 0) 50 8 0) l1 42 [(0, vR (some 44)), (1, vI 0)] []) ∧ ((¬ (i1 44 11 = 0)) → P i1 l1)))) : gV w d X_X8_sweep P i l 0 [(0, vR (some 44))] [] := by
  refine g_aload_n (pc' := 1) 0 dX8_sweep_0 rfl rfl ?_
  refine g_cVV (pc' := 4) (vs := []) (st := []) (c := 8) h mv_X8_refresh lk_X8_140 rfl rfl rfl rfl (Nat.le_of_ble_eq_true rfl) (Nat.le_of_ble_eq_true rfl) rfl dX8_sweep_1 rfl z2 (fun i1 l1 h => ?_)
  refine g_aload_n (pc' := 5) 0 dX8_sweep_4 rfl rfl ?_
  refine g_getI (pc' := 8) (z := 11) rfl fl_X8_45 rfl rfl dX8_sweep_5 rfl (fun rg2 => ?_)
  obtain ⟨hk5, hk6⟩ := h
  refine g_if_eq (tgt := 12) (pc' := 11) rg2 Iff.rfl dX8_sweep_8 rfl rfl (fun c4 => ?_) (fun c4 => ?_)
  · have h := hk5 c4
    refine g_aload_n (pc' := 13) 0 dX8_sweep_12 rfl rfl ?_
    refine g_iconst (pc' := 14) dX8_sweep_13 rfl ?_
    refine g_putZ (pc' := 17) (z := 11) rfl fp_X8_45 rfl rfl (by decide) dX8_sweep_14 rfl ?_
    refine g_aload_n (pc' := 18) 0 dX8_sweep_17 rfl rfl ?_
    refine g_iconst (pc' := 19) dX8_sweep_18 rfl ?_
    refine g_putI (pc' := 22) (z := 8) rfl fp_X8_143 rfl rfl (rg_lit rfl) dX8_sweep_19 rfl ?_
    refine g_aload_n (pc' := 23) 0 dX8_sweep_22 rfl rfl ?_
    refine g_iconst (pc' := 24) dX8_sweep_23 rfl ?_
    refine g_putI (pc' := 27) (z := 9) rfl fp_X8_146 rfl rfl (rg_lit rfl) dX8_sweep_24 rfl ?_
    refine g_aload_n (pc' := 28) 0 dX8_sweep_27 rfl rfl ?_
    refine g_iconst (pc' := 29) dX8_sweep_28 rfl ?_
    refine g_putI (pc' := 32) (z := 10) rfl fp_X8_149 rfl rfl (rg_lit rfl) dX8_sweep_29 rfl ?_
    refine g_aload_n (pc' := 33) 0 dX8_sweep_32 rfl rfl ?_
    refine g_getR (pc' := 36) (o := some 50) fl_X8_27 rfl rfl rfl dX8_sweep_33 rfl ?_
    refine g_iconst (pc' := 37) dX8_sweep_36 rfl ?_
    refine g_fill (pc' := 40) (st := []) (le_hd hd rfl) rfl (Nat.le_of_ble_eq_true rfl) (rg_lit rfl) lk_X8_49 (Nat.le_of_ble_eq_true rfl) dX8_sweep_37 rfl ?_
    refine g_iconst (pc' := 41) dX8_sweep_40 rfl ?_
    refine g_istore_n (pc' := 42) (L' := [(1, vI 0), (0, vR (some 44))]) dX8_sweep_41 rfl (Nat.le_of_ble_eq_true rfl) rfl ?_
    refine g_sub (L' := [(0, vR (some 44)), (1, vI 0)]) [1, 0] rfl ?_
    exact h
  · have h := hk6 c4
    exact g_retV rfl dX8_sweep_11 h
theorem e_X8_sweep {w : Wd} {d : Nat} {P : IM → LM → Prop} {i : IM} {l : LM}   (h : gV w d X_X8_sweep P i l 0 [(0, vR (some 44))] []) : cVd w (d + 1) X_X8_sweep [vR (some 44)] i l P := CV_of (by decide +kernel) (Nat.le_of_ble_eq_true rfl) h
set_option maxRecDepth 20000 in
theorem s_X8_sweep_42 {w : Wd} {d : Nat} {P : IM → LM → Prop} {i : IM} {l : LM} (x1 : Int)  (hd : 1 ≤ d) (h : ((rg x1) ∧ ((120 ≤ x1) → P i l) ∧ ((¬ (120 ≤ x1)) → cVd w d X_X8_letOut [vR (some 44), vI x1, vI (-1)] i l (fun i10 l10 => cI w d X_X8_failing [vR (some 44), vI x1] i10 l10 (fun r11 i11 l11 => ((((r11 = 0) ∨ (¬ (i11 44 8 = (-1)))) → ((0 ≤ r11 ∧ r11 < 1024) ∧ (rg ((i11 44 10) + (popI r11))) ∧ gV w d X_X8_sweep P (u2 i11 44 10 ((i11 44 10) + (popI r11))) l11 100 [(0, vR (some 44)), (1, vI x1), (2, vI r11), (3, vI 0)] [])) ∧ ((¬ ((r11 = 0) ∨ (¬ (i11 44 8 = (-1))))) → ((rg x1) ∧ (0 ≤ r11 ∧ r11 < 2147483648) ∧ (0 ≤ r11 ∧ r11 < 1024) ∧ (rg (((u2 (u2 i11 44 8 x1) 44 9 (lowB r11)) 44 10) + (popI r11))) ∧ gV w d X_X8_sweep P (u2 (u2 (u2 i11 44 8 x1) 44 9 (lowB r11)) 44 10 (((u2 (u2 i11 44 8 x1) 44 9 (lowB r11)) 44 10) + (popI r11))) l11 100 [(0, vR (some 44)), (1, vI x1), (2, vI r11), (3, vI 0)] [])))))))) : gV w d X_X8_sweep P i l 42 [(0, vR (some 44)), (1, vI x1)] [] := by
  refine g_iload_n (pc' := 43) 1 dX8_sweep_42 rfl rfl ?_
  refine g_bipush (pc' := 45) dX8_sweep_43 rfl rfl ?_
  obtain ⟨hob8, hk31, hk32⟩ := h
  refine g_icmp_ge (tgt := 137) (pc' := 48) (hob8) (rg_lit rfl) Iff.rfl dX8_sweep_45 rfl rfl (fun c9 => ?_) (fun c9 => ?_)
  · have h := hk31 c9
    exact g_retV rfl dX8_sweep_137 h
  · have h := hk32 c9
    refine g_aload_n (pc' := 49) 0 dX8_sweep_48 rfl rfl ?_
    refine g_iload_n (pc' := 50) 1 dX8_sweep_49 rfl rfl ?_
    refine g_iconst (pc' := 51) dX8_sweep_50 rfl ?_
    refine g_cVV (pc' := 54) (vs := [vI x1, vI (-1)]) (st := []) (c := 8) h mv_X8_letOut lk_X8_152 rfl rfl rfl rfl (Nat.le_of_ble_eq_true rfl) (Nat.le_of_ble_eq_true rfl) rfl dX8_sweep_51 rfl z2 (fun i10 l10 h => ?_)
    refine g_aload_n (pc' := 55) 0 dX8_sweep_54 rfl rfl ?_
    refine g_iload_n (pc' := 56) 1 dX8_sweep_55 rfl rfl ?_
    refine g_cVI (pc' := 59) (vs := [vI x1]) (st := []) (c := 8) h mv_X8_failing lk_X8_156 rfl rfl rfl rfl (Nat.le_of_ble_eq_true rfl) (Nat.le_of_ble_eq_true rfl) rfl dX8_sweep_56 rfl z2 (fun r11 i11 l11 rg11 h => ?_)
    refine g_istore_n (pc' := 60) (L' := [(2, vI r11), (0, vR (some 44)), (1, vI x1)]) dX8_sweep_59 rfl (Nat.le_of_ble_eq_true rfl) rfl ?_
    refine g_iload_n (pc' := 61) 0 dX8_sweep_60 rfl rfl ?_
    obtain ⟨hk29, hk30⟩ := h
    have hk29g : ((r11 = 0) ∨ (¬ (i11 44 8 = (-1)))) → gV w d X_X8_sweep P i11 l11 85 [(2, vI r11), (0, vR (some 44)), (1, vI x1)] [] := by
      intro hp
      have h := hk29 hp
      obtain ⟨ob19, ob21, h⟩ := h
      refine g_aload_n (pc' := 86) 1 dX8_sweep_85 rfl rfl ?_
      refine g_dup (pc' := 87) dX8_sweep_86 rfl rfl ?_
      refine g_getI (pc' := 90) (z := 10) rfl fl_X8_149 rfl rfl dX8_sweep_87 rfl (fun rg18 => ?_)
      refine g_iload_n (pc' := 91) 0 dX8_sweep_90 rfl rfl ?_
      refine g_pSI (pc' := 94) (vs := [vI r11]) (st := [vI (i11 44 10), vR (some 44)]) (val := popI r11) (sp_bitCount (le_hd hd rfl) ob19) mk_J6_bitCount_0f7a4 ms_J6_bitCount_0f7a4 lk_X8_131 rfl (Nat.le_of_ble_eq_true rfl) (Nat.le_of_ble_eq_true rfl) rfl dX8_sweep_91 rfl z2 (fun rg20 => ?_)
      refine g_iadd (pc' := 95) dX8_sweep_94 rfl ?_
      refine g_putI (pc' := 98) (z := 10) rfl fp_X8_149 rfl rfl ob21 dX8_sweep_95 rfl ?_
      refine g_iconst (pc' := 99) dX8_sweep_98 rfl ?_
      refine g_istore_n (pc' := 100) (L' := [(3, vI 0), (2, vI r11), (0, vR (some 44)), (1, vI x1)]) dX8_sweep_99 rfl (Nat.le_of_ble_eq_true rfl) rfl ?_
      refine g_sub (L' := [(0, vR (some 44)), (1, vI x1), (2, vI r11), (3, vI 0)]) [2, 3, 1, 0] rfl ?_
      exact h
    have hk30g : (¬ ((r11 = 0) ∨ (¬ (i11 44 8 = (-1))))) → gV w d X_X8_sweep P i11 l11 72 [(2, vI r11), (0, vR (some 44)), (1, vI x1)] [] := by
      intro hp
      have h := hk30 hp
      obtain ⟨ob22, ob23, ob26, ob28, h⟩ := h
      refine g_aload_n (pc' := 73) 1 dX8_sweep_72 rfl rfl ?_
      refine g_iload_n (pc' := 74) 2 dX8_sweep_73 rfl rfl ?_
      refine g_putI (pc' := 77) (z := 8) rfl fp_X8_143 rfl rfl ob22 dX8_sweep_74 rfl ?_
      refine g_aload_n (pc' := 78) 1 dX8_sweep_77 rfl rfl ?_
      refine g_iload_n (pc' := 79) 0 dX8_sweep_78 rfl rfl ?_
      refine g_pNI (pc' := 82) (vs := [vI r11]) (st := [vR (some 44)]) (val := lowB r11) (sp_X11_lowestOf (le_hd hd rfl) ob23) mk_X11_lowestOf ms_X11_lowestOf (fun _ h => h.2.2.2.2.2.1) rfl (Nat.le_of_ble_eq_true rfl) (Nat.le_of_ble_eq_true rfl) rfl dX8_sweep_79 rfl z2 (fun rg24 => ?_)
      refine g_putI (pc' := 85) (z := 9) rfl fp_X8_146 rfl rfl rg24 dX8_sweep_82 rfl ?_
      refine g_aload_n (pc' := 86) 1 dX8_sweep_85 rfl rfl ?_
      refine g_dup (pc' := 87) dX8_sweep_86 rfl rfl ?_
      refine g_getI (pc' := 90) (z := 10) rfl fl_X8_149 rfl rfl dX8_sweep_87 rfl (fun rg25 => ?_)
      refine g_iload_n (pc' := 91) 0 dX8_sweep_90 rfl rfl ?_
      refine g_pSI (pc' := 94) (vs := [vI r11]) (st := [vI ((u2 (u2 i11 44 8 x1) 44 9 (lowB r11)) 44 10), vR (some 44)]) (val := popI r11) (sp_bitCount (le_hd hd rfl) ob26) mk_J6_bitCount_0f7a4 ms_J6_bitCount_0f7a4 lk_X8_131 rfl (Nat.le_of_ble_eq_true rfl) (Nat.le_of_ble_eq_true rfl) rfl dX8_sweep_91 rfl z2 (fun rg27 => ?_)
      refine g_iadd (pc' := 95) dX8_sweep_94 rfl ?_
      refine g_putI (pc' := 98) (z := 10) rfl fp_X8_149 rfl rfl ob28 dX8_sweep_95 rfl ?_
      refine g_iconst (pc' := 99) dX8_sweep_98 rfl ?_
      refine g_istore_n (pc' := 100) (L' := [(3, vI 0), (2, vI r11), (0, vR (some 44)), (1, vI x1)]) dX8_sweep_99 rfl (Nat.le_of_ble_eq_true rfl) rfl ?_
      refine g_sub (L' := [(0, vR (some 44)), (1, vI x1), (2, vI r11), (3, vI 0)]) [2, 3, 1, 0] rfl ?_
      exact h
    refine g_if_eq (tgt := 85) (pc' := 64) rg11 Iff.rfl dX8_sweep_61 rfl rfl (fun c13 => ?_) (fun c13 => ?_)
    · exact hk29g (Or.inl c13)
    · refine g_aload_n (pc' := 65) 1 dX8_sweep_64 rfl rfl ?_
      refine g_getI (pc' := 68) (z := 8) rfl fl_X8_143 rfl rfl dX8_sweep_65 rfl (fun rg15 => ?_)
      refine g_iconst (pc' := 69) dX8_sweep_68 rfl ?_
      refine g_icmp_ne (tgt := 85) (pc' := 72) rg15 (rg_lit rfl) Iff.rfl dX8_sweep_69 rfl rfl (fun c16 => ?_) (fun c16 => ?_)
      · exact hk29g (Or.inr c16)
      · exact hk30g (fun q => q.elim c13 (fun q => q c16))
set_option maxRecDepth 20000 in
theorem s_X8_sweep_100 {w : Wd} {d : Nat} {P : IM → LM → Prop} {i : IM} {l : LM} (x1 : Int) (x2 : Int) (x3 : Int)  (h : ((rg x3) ∧ ((i 7 9 ≤ x3) → gV w d X_X8_sweep P i l 42 [(0, vR (some 44)), (1, vI (x1 + 1))] []) ∧ ((¬ (i 7 9 ≤ x3)) → ((0 ≤ x3 ∧ x3 < 8) ∧ (rg ((i 50 x3) + (iand (ishr x2 x3) 1))) ∧ gV w d X_X8_sweep P (u2 i 50 x3 ((i 50 x3) + (iand (ishr x2 x3) 1))) l 100 [(0, vR (some 44)), (1, vI x1), (2, vI x2), (3, vI (x3 + 1))] [])))) : gV w d X_X8_sweep P i l 100 [(0, vR (some 44)), (1, vI x1), (2, vI x2), (3, vI x3)] [] := by
  refine g_iload_n (pc' := 101) 3 dX8_sweep_100 rfl rfl ?_
  refine g_aload_n (pc' := 102) 0 dX8_sweep_101 rfl rfl ?_
  refine g_getR (pc' := 105) (o := some 7) fl_X8_34 rfl rfl rfl dX8_sweep_102 rfl ?_
  refine g_getI (pc' := 108) (z := 9) rfl fl_X8_125 rfl rfl dX8_sweep_105 rfl (fun rg33 => ?_)
  obtain ⟨hob35, hk42, hk43⟩ := h
  refine g_icmp_ge (tgt := 131) (pc' := 111) (hob35) rg33 Iff.rfl dX8_sweep_108 rfl rfl (fun c36 => ?_) (fun c36 => ?_)
  · have h := hk42 c36
    refine g_iinc (pc' := 134) (L' := [(1, vI (x1 + 1)), (0, vR (some 44)), (2, vI x2), (3, vI x3)]) 1 dX8_sweep_131 rfl (Nat.le_of_ble_eq_true rfl) rfl rfl ?_
    refine g_goto (tgt := 42) dX8_sweep_134 rfl ?_
    refine g_sub (L' := [(0, vR (some 44)), (1, vI (x1 + 1))]) [1, 0] rfl ?_
    exact h
  · have h := hk43 c36
    obtain ⟨ob39, ob41, h⟩ := h
    refine g_aload_n (pc' := 112) 0 dX8_sweep_111 rfl rfl ?_
    refine g_getR (pc' := 115) (o := some 50) fl_X8_27 rfl rfl rfl dX8_sweep_112 rfl ?_
    refine g_iload_n (pc' := 116) 3 dX8_sweep_115 rfl rfl ?_
    refine g_dup2_11 (pc' := 117) dX8_sweep_116 rfl rfl rfl ?_
    refine g_iald (pc' := 118) (N := 8) rfl rfl (Nat.lt_of_lt_of_le (Nat.lt_succ_self _) (Nat.le_of_ble_eq_true rfl)) ob39 dX8_sweep_117 rfl (fun rg40 => ?_)
    refine g_iload_n (pc' := 119) 2 dX8_sweep_118 rfl rfl ?_
    refine g_iload_n (pc' := 120) 3 dX8_sweep_119 rfl rfl ?_
    refine g_ishr (pc' := 121) dX8_sweep_120 rfl ?_
    refine g_iconst (pc' := 122) dX8_sweep_121 rfl ?_
    refine g_iand (pc' := 123) dX8_sweep_122 rfl ?_
    refine g_iadd (pc' := 124) dX8_sweep_123 rfl ?_
    refine g_iast (pc' := 125) (N := 8) rfl rfl (Nat.lt_of_lt_of_le (Nat.lt_succ_self _) (Nat.le_of_ble_eq_true rfl)) ob39 ob41 dX8_sweep_124 rfl ?_
    refine g_iinc (pc' := 128) (L' := [(3, vI (x3 + 1)), (0, vR (some 44)), (1, vI x1), (2, vI x2)]) 3 dX8_sweep_125 rfl (Nat.le_of_ble_eq_true rfl) rfl rfl ?_
    refine g_goto (tgt := 100) dX8_sweep_128 rfl ?_
    refine g_sub (L' := [(0, vR (some 44)), (1, vI x1), (2, vI x2), (3, vI (x3 + 1))]) [1, 2, 3, 0] rfl ?_
    exact h

theorem dX8_nearest_0 : decode cX8_nearest 0 = .ok (.iconst (-1), 1) := by decide +kernel
theorem dX8_nearest_1 : decode cX8_nearest 1 = .ok (.istore_n 1, 1) := by decide +kernel
theorem dX8_nearest_2 : decode cX8_nearest 2 = .ok (.iconst 0, 1) := by decide +kernel
theorem dX8_nearest_3 : decode cX8_nearest 3 = .ok (.istore_n 2, 1) := by decide +kernel
theorem dX8_nearest_4 : decode cX8_nearest 4 = .ok (.iload_n 2, 1) := by decide +kernel
theorem dX8_nearest_5 : decode cX8_nearest 5 = .ok (.bipush 8, 2) := by decide +kernel
theorem dX8_nearest_7 : decode cX8_nearest 7 = .ok (.if_icmp .ge 115, 3) := by decide +kernel
theorem dX8_nearest_10 : decode cX8_nearest 10 = .ok (.iload_n 2, 1) := by decide +kernel
theorem dX8_nearest_11 : decode cX8_nearest 11 = .ok (.iconst 1, 1) := by decide +kernel
theorem dX8_nearest_12 : decode cX8_nearest 12 = .ok (.iadd, 1) := by decide +kernel
theorem dX8_nearest_13 : decode cX8_nearest 13 = .ok (.istore_n 3, 1) := by decide +kernel
theorem dX8_nearest_14 : decode cX8_nearest 14 = .ok (.iload_n 3, 1) := by decide +kernel
theorem dX8_nearest_15 : decode cX8_nearest 15 = .ok (.bipush 8, 2) := by decide +kernel
theorem dX8_nearest_17 : decode cX8_nearest 17 = .ok (.if_icmp .ge 99, 3) := by decide +kernel
theorem dX8_nearest_20 : decode cX8_nearest 20 = .ok (.aload_n 0, 1) := by decide +kernel
theorem dX8_nearest_21 : decode cX8_nearest 21 = .ok (.getfield 34, 3) := by decide +kernel
theorem dX8_nearest_24 : decode cX8_nearest 24 = .ok (.getfield 102, 3) := by decide +kernel
theorem dX8_nearest_27 : decode cX8_nearest 27 = .ok (.iload_n 2, 1) := by decide +kernel
theorem dX8_nearest_28 : decode cX8_nearest 28 = .ok (.iaload, 1) := by decide +kernel
theorem dX8_nearest_29 : decode cX8_nearest 29 = .ok (.aload_n 0, 1) := by decide +kernel
theorem dX8_nearest_30 : decode cX8_nearest 30 = .ok (.getfield 34, 3) := by decide +kernel
theorem dX8_nearest_33 : decode cX8_nearest 33 = .ok (.getfield 102, 3) := by decide +kernel
theorem dX8_nearest_36 : decode cX8_nearest 36 = .ok (.iload_n 3, 1) := by decide +kernel
theorem dX8_nearest_37 : decode cX8_nearest 37 = .ok (.iaload, 1) := by decide +kernel
theorem dX8_nearest_38 : decode cX8_nearest 38 = .ok (.invokestatic 162, 3) := by decide +kernel
theorem dX8_nearest_41 : decode cX8_nearest 41 = .ok (.istore 4, 2) := by decide +kernel
theorem dX8_nearest_43 : decode cX8_nearest 43 = .ok (.aload_n 0, 1) := by decide +kernel
theorem dX8_nearest_44 : decode cX8_nearest 44 = .ok (.getfield 34, 3) := by decide +kernel
theorem dX8_nearest_47 : decode cX8_nearest 47 = .ok (.getfield 102, 3) := by decide +kernel
theorem dX8_nearest_50 : decode cX8_nearest 50 = .ok (.iload_n 2, 1) := by decide +kernel
theorem dX8_nearest_51 : decode cX8_nearest 51 = .ok (.iaload, 1) := by decide +kernel
theorem dX8_nearest_52 : decode cX8_nearest 52 = .ok (.aload_n 0, 1) := by decide +kernel
theorem dX8_nearest_53 : decode cX8_nearest 53 = .ok (.getfield 34, 3) := by decide +kernel
theorem dX8_nearest_56 : decode cX8_nearest 56 = .ok (.getfield 102, 3) := by decide +kernel
theorem dX8_nearest_59 : decode cX8_nearest 59 = .ok (.iload_n 3, 1) := by decide +kernel
theorem dX8_nearest_60 : decode cX8_nearest 60 = .ok (.iaload, 1) := by decide +kernel
theorem dX8_nearest_61 : decode cX8_nearest 61 = .ok (.invokestatic 167, 3) := by decide +kernel
theorem dX8_nearest_64 : decode cX8_nearest 64 = .ok (.istore 5, 2) := by decide +kernel
theorem dX8_nearest_66 : decode cX8_nearest 66 = .ok (.iload 4, 2) := by decide +kernel
theorem dX8_nearest_68 : decode cX8_nearest 68 = .ok (.iload 5, 2) := by decide +kernel
theorem dX8_nearest_70 : decode cX8_nearest 70 = .ok (.if_icmp .eq 40, 3) := by decide +kernel
theorem dX8_nearest_73 : decode cX8_nearest 73 = .ok (.aload_n 0, 1) := by decide +kernel
theorem dX8_nearest_74 : decode cX8_nearest 74 = .ok (.iload 4, 2) := by decide +kernel
theorem dX8_nearest_76 : decode cX8_nearest 76 = .ok (.iload 5, 2) := by decide +kernel
theorem dX8_nearest_78 : decode cX8_nearest 78 = .ok (.invokevirtual 170, 3) := by decide +kernel
theorem dX8_nearest_81 : decode cX8_nearest 81 = .ok (.istore 6, 2) := by decide +kernel
theorem dX8_nearest_83 : decode cX8_nearest 83 = .ok (.iload_n 1, 1) := by decide +kernel
theorem dX8_nearest_84 : decode cX8_nearest 84 = .ok (.iconst (-1), 1) := by decide +kernel
theorem dX8_nearest_85 : decode cX8_nearest 85 = .ok (.if_icmp .eq 12, 3) := by decide +kernel
theorem dX8_nearest_88 : decode cX8_nearest 88 = .ok (.iload 6, 2) := by decide +kernel
theorem dX8_nearest_90 : decode cX8_nearest 90 = .ok (.iload_n 1, 1) := by decide +kernel
theorem dX8_nearest_91 : decode cX8_nearest 91 = .ok (.bipush 64, 2) := by decide +kernel
theorem dX8_nearest_93 : decode cX8_nearest 93 = .ok (.idiv, 1) := by decide +kernel
theorem dX8_nearest_94 : decode cX8_nearest 94 = .ok (.if_icmp .ge 16, 3) := by decide +kernel
theorem dX8_nearest_97 : decode cX8_nearest 97 = .ok (.iload 6, 2) := by decide +kernel
theorem dX8_nearest_99 : decode cX8_nearest 99 = .ok (.bipush 8, 2) := by decide +kernel
theorem dX8_nearest_101 : decode cX8_nearest 101 = .ok (.imul, 1) := by decide +kernel
theorem dX8_nearest_102 : decode cX8_nearest 102 = .ok (.iload_n 2, 1) := by decide +kernel
theorem dX8_nearest_103 : decode cX8_nearest 103 = .ok (.iadd, 1) := by decide +kernel
theorem dX8_nearest_104 : decode cX8_nearest 104 = .ok (.bipush 8, 2) := by decide +kernel
theorem dX8_nearest_106 : decode cX8_nearest 106 = .ok (.imul, 1) := by decide +kernel
theorem dX8_nearest_107 : decode cX8_nearest 107 = .ok (.iload_n 3, 1) := by decide +kernel
theorem dX8_nearest_108 : decode cX8_nearest 108 = .ok (.iadd, 1) := by decide +kernel
theorem dX8_nearest_109 : decode cX8_nearest 109 = .ok (.istore_n 1, 1) := by decide +kernel
theorem dX8_nearest_110 : decode cX8_nearest 110 = .ok (.iinc 3 1, 3) := by decide +kernel
theorem dX8_nearest_113 : decode cX8_nearest 113 = .ok (.goto (-99), 3) := by decide +kernel
theorem dX8_nearest_116 : decode cX8_nearest 116 = .ok (.iinc 2 1, 3) := by decide +kernel
theorem dX8_nearest_119 : decode cX8_nearest 119 = .ok (.goto (-115), 3) := by decide +kernel
theorem dX8_nearest_122 : decode cX8_nearest 122 = .ok (.iload_n 1, 1) := by decide +kernel
theorem dX8_nearest_123 : decode cX8_nearest 123 = .ok (.ireturn, 1) := by decide +kernel
set_option maxRecDepth 20000 in
theorem s_X8_nearest {w : Wd} {d : Nat} {P : Int → IM → LM → Prop} {i : IM} {l : LM}   (h : gI w d X_X8_nearest P i l 4 [(0, vR (some 44)), (1, vI (-1)), (2, vI 0)] []) : gI w d X_X8_nearest P i l 0 [(0, vR (some 44))] [] := by
  refine g_iconst (pc' := 1) dX8_nearest_0 rfl ?_
  refine g_istore_n (pc' := 2) (L' := [(1, vI (-1)), (0, vR (some 44))]) dX8_nearest_1 rfl (Nat.le_of_ble_eq_true rfl) rfl ?_
  refine g_iconst (pc' := 3) dX8_nearest_2 rfl ?_
  refine g_istore_n (pc' := 4) (L' := [(2, vI 0), (1, vI (-1)), (0, vR (some 44))]) dX8_nearest_3 rfl (Nat.le_of_ble_eq_true rfl) rfl ?_
  refine g_sub (L' := [(0, vR (some 44)), (1, vI (-1)), (2, vI 0)]) [2, 1, 0] rfl ?_
  exact h
theorem e_X8_nearest {w : Wd} {d : Nat} {P : Int → IM → LM → Prop} {i : IM} {l : LM}   (h : gI w d X_X8_nearest P i l 0 [(0, vR (some 44))] []) : cI w (d + 1) X_X8_nearest [vR (some 44)] i l P := CI_of (by decide +kernel) (Nat.le_of_ble_eq_true rfl) h
set_option maxRecDepth 20000 in
theorem s_X8_nearest_4 {w : Wd} {d : Nat} {P : Int → IM → LM → Prop} {i : IM} {l : LM} (x1 : Int) (x2 : Int)  (h : ((rg x2) ∧ ((8 ≤ x2) → ((rg x1) ∧ P x1 i l)) ∧ ((¬ (8 ≤ x2)) → gI w d X_X8_nearest P i l 14 [(0, vR (some 44)), (1, vI x1), (2, vI x2), (3, vI (x2 + 1))] []))) : gI w d X_X8_nearest P i l 4 [(0, vR (some 44)), (1, vI x1), (2, vI x2)] [] := by
  refine g_iload_n (pc' := 5) 2 dX8_nearest_4 rfl rfl ?_
  refine g_bipush (pc' := 7) dX8_nearest_5 rfl rfl ?_
  obtain ⟨hob2, hk5, hk6⟩ := h
  refine g_icmp_ge (tgt := 122) (pc' := 10) (hob2) (rg_lit rfl) Iff.rfl dX8_nearest_7 rfl rfl (fun c3 => ?_) (fun c3 => ?_)
  · have h := hk5 c3
    obtain ⟨ob4, h⟩ := h
    refine g_iload_n (pc' := 123) 1 dX8_nearest_122 rfl rfl ?_
    exact g_retI rfl ob4 dX8_nearest_123 h
  · have h := hk6 c3
    refine g_iload_n (pc' := 11) 2 dX8_nearest_10 rfl rfl ?_
    refine g_iconst (pc' := 12) dX8_nearest_11 rfl ?_
    refine g_iadd (pc' := 13) dX8_nearest_12 rfl ?_
    refine g_istore_n (pc' := 14) (L' := [(3, vI (x2 + 1)), (0, vR (some 44)), (1, vI x1), (2, vI x2)]) dX8_nearest_13 rfl (Nat.le_of_ble_eq_true rfl) rfl ?_
    refine g_sub (L' := [(0, vR (some 44)), (1, vI x1), (2, vI x2), (3, vI (x2 + 1))]) [1, 2, 3, 0] rfl ?_
    exact h
set_option maxRecDepth 20000 in
theorem s_X8_nearest_14 {w : Wd} {d : Nat} {P : Int → IM → LM → Prop} {i : IM} {l : LM} (x1 : Int) (x2 : Int) (x3 : Int)  (hd : 1 ≤ d) (h : ((rg x3) ∧ ((8 ≤ x3) → gI w d X_X8_nearest P i l 4 [(0, vR (some 44)), (1, vI x1), (2, vI (x2 + 1))] []) ∧ ((¬ (8 ≤ x3)) → ((0 ≤ x2 ∧ x2 < 8) ∧ (0 ≤ x3 ∧ x3 < 8) ∧ (((min (i 13 x2) (i 13 x3) = max (i 13 x2) (i 13 x3)) → gI w d X_X8_nearest P i l 14 [(0, vR (some 44)), (1, vI x1), (2, vI x2), (3, vI (x3 + 1))] []) ∧ ((¬ (min (i 13 x2) (i 13 x3) = max (i 13 x2) (i 13 x3))) → cI w d X_X8_failingWith [vR (some 44), vI (min (i 13 x2) (i 13 x3)), vI (max (i 13 x2) (i 13 x3))] i l (fun r25 i25 l25 => ((rg x1) ∧ (¬ (x1 = (-1)) → rg (Int.tdiv x1 64)) ∧ (((x1 = (-1)) ∨ (¬ (Int.tdiv x1 64 ≤ r25))) → gI w d X_X8_nearest P i25 l25 14 [(0, vR (some 44)), (1, vI ((((r25 * 8) + x2) * 8) + x3)), (2, vI x2), (3, vI (x3 + 1))] []) ∧ ((¬ ((x1 = (-1)) ∨ (¬ (Int.tdiv x1 64 ≤ r25)))) → gI w d X_X8_nearest P i25 l25 14 [(0, vR (some 44)), (1, vI x1), (2, vI x2), (3, vI (x3 + 1))] []))))))))) : gI w d X_X8_nearest P i l 14 [(0, vR (some 44)), (1, vI x1), (2, vI x2), (3, vI x3)] [] := by
  refine g_iload_n (pc' := 15) 3 dX8_nearest_14 rfl rfl ?_
  refine g_bipush (pc' := 17) dX8_nearest_15 rfl rfl ?_
  obtain ⟨hob8, hk35, hk36⟩ := h
  refine g_icmp_ge (tgt := 116) (pc' := 20) (hob8) (rg_lit rfl) Iff.rfl dX8_nearest_17 rfl rfl (fun c9 => ?_) (fun c9 => ?_)
  · have h := hk35 c9
    refine g_iinc (pc' := 119) (L' := [(2, vI (x2 + 1)), (0, vR (some 44)), (1, vI x1), (3, vI x3)]) 2 dX8_nearest_116 rfl (Nat.le_of_ble_eq_true rfl) rfl rfl ?_
    refine g_goto (tgt := 4) dX8_nearest_119 rfl ?_
    refine g_sub (L' := [(0, vR (some 44)), (1, vI x1), (2, vI (x2 + 1))]) [1, 2, 0] rfl ?_
    exact h
  · have h := hk36 c9
    obtain ⟨ob15, ob17, h⟩ := h
    refine g_aload_n (pc' := 21) 0 dX8_nearest_20 rfl rfl ?_
    refine g_getR (pc' := 24) (o := some 7) fl_X8_34 rfl rfl rfl dX8_nearest_21 rfl ?_
    refine g_getR (pc' := 27) (o := some 13) fl_X8_102 rfl rfl rfl dX8_nearest_24 rfl ?_
    refine g_iload_n (pc' := 28) 2 dX8_nearest_27 rfl rfl ?_
    refine g_iald (pc' := 29) (N := 8) rfl rfl (Nat.lt_of_lt_of_le (Nat.lt_succ_self _) (Nat.le_of_ble_eq_true rfl)) ob15 dX8_nearest_28 rfl (fun rg16 => ?_)
    refine g_aload_n (pc' := 30) 0 dX8_nearest_29 rfl rfl ?_
    refine g_getR (pc' := 33) (o := some 7) fl_X8_34 rfl rfl rfl dX8_nearest_30 rfl ?_
    refine g_getR (pc' := 36) (o := some 13) fl_X8_102 rfl rfl rfl dX8_nearest_33 rfl ?_
    refine g_iload_n (pc' := 37) 3 dX8_nearest_36 rfl rfl ?_
    refine g_iald (pc' := 38) (N := 8) rfl rfl (Nat.lt_of_lt_of_le (Nat.lt_succ_self _) (Nat.le_of_ble_eq_true rfl)) ob17 dX8_nearest_37 rfl (fun rg18 => ?_)
    refine g_pSI (pc' := 41) (vs := [vI (i 13 x2), vI (i 13 x3)]) (st := []) (val := min (i 13 x2) (i 13 x3)) (sp_min (le_hd hd rfl) rg16 rg18) mk_J9_min_7cf53 ms_J9_min_7cf53 lk_X8_162 rfl (Nat.le_of_ble_eq_true rfl) (Nat.le_of_ble_eq_true rfl) rfl dX8_nearest_38 rfl z2 (fun rg19 => ?_)
    refine g_istore (pc' := 43) (L' := [(4, vI (min (i 13 x2) (i 13 x3))), (0, vR (some 44)), (1, vI x1), (2, vI x2), (3, vI x3)]) dX8_nearest_41 rfl (Nat.le_of_ble_eq_true rfl) rfl ?_
    refine g_aload_n (pc' := 44) 1 dX8_nearest_43 rfl rfl ?_
    refine g_getR (pc' := 47) (o := some 7) fl_X8_34 rfl rfl rfl dX8_nearest_44 rfl ?_
    refine g_getR (pc' := 50) (o := some 13) fl_X8_102 rfl rfl rfl dX8_nearest_47 rfl ?_
    refine g_iload_n (pc' := 51) 3 dX8_nearest_50 rfl rfl ?_
    refine g_iald (pc' := 52) (N := 8) rfl rfl (Nat.lt_of_lt_of_le (Nat.lt_succ_self _) (Nat.le_of_ble_eq_true rfl)) ob15 dX8_nearest_51 rfl (fun rg20 => ?_)
    refine g_aload_n (pc' := 53) 1 dX8_nearest_52 rfl rfl ?_
    refine g_getR (pc' := 56) (o := some 7) fl_X8_34 rfl rfl rfl dX8_nearest_53 rfl ?_
    refine g_getR (pc' := 59) (o := some 13) fl_X8_102 rfl rfl rfl dX8_nearest_56 rfl ?_
    refine g_iload_n (pc' := 60) 4 dX8_nearest_59 rfl rfl ?_
    refine g_iald (pc' := 61) (N := 8) rfl rfl (Nat.lt_of_lt_of_le (Nat.lt_succ_self _) (Nat.le_of_ble_eq_true rfl)) ob17 dX8_nearest_60 rfl (fun rg21 => ?_)
    refine g_pSI (pc' := 64) (vs := [vI (i 13 x2), vI (i 13 x3)]) (st := []) (val := max (i 13 x2) (i 13 x3)) (sp_max (le_hd hd rfl) rg20 rg21) mk_J9_max_7cf53 ms_J9_max_7cf53 lk_X8_167 rfl (Nat.le_of_ble_eq_true rfl) (Nat.le_of_ble_eq_true rfl) rfl dX8_nearest_61 rfl z2 (fun rg22 => ?_)
    refine g_istore (pc' := 66) (L' := [(5, vI (max (i 13 x2) (i 13 x3))), (4, vI (min (i 13 x2) (i 13 x3))), (0, vR (some 44)), (1, vI x1), (2, vI x2), (3, vI x3)]) dX8_nearest_64 rfl (Nat.le_of_ble_eq_true rfl) rfl ?_
    refine g_iload (pc' := 68) 1 dX8_nearest_66 rfl rfl ?_
    refine g_iload (pc' := 70) 0 dX8_nearest_68 rfl rfl ?_
    obtain ⟨hk33, hk34⟩ := h
    refine g_icmp_eq (tgt := 110) (pc' := 73) rg19 rg22 Iff.rfl dX8_nearest_70 rfl rfl (fun c24 => ?_) (fun c24 => ?_)
    · have h := hk33 c24
      refine g_iinc (pc' := 113) (L' := [(3, vI (x3 + 1)), (5, vI (max (i 13 x2) (i 13 x3))), (4, vI (min (i 13 x2) (i 13 x3))), (0, vR (some 44)), (1, vI x1), (2, vI x2)]) 5 dX8_nearest_110 rfl (Nat.le_of_ble_eq_true rfl) rfl rfl ?_
      refine g_goto (tgt := 14) dX8_nearest_113 rfl ?_
      refine g_sub (L' := [(0, vR (some 44)), (1, vI x1), (2, vI x2), (3, vI (x3 + 1))]) [3, 4, 5, 0] rfl ?_
      exact h
    · have h := hk34 c24
      refine g_aload_n (pc' := 74) 2 dX8_nearest_73 rfl rfl ?_
      refine g_iload (pc' := 76) 1 dX8_nearest_74 rfl rfl ?_
      refine g_iload (pc' := 78) 0 dX8_nearest_76 rfl rfl ?_
      refine g_cVI (pc' := 81) (vs := [vI (min (i 13 x2) (i 13 x3)), vI (max (i 13 x2) (i 13 x3))]) (st := []) (c := 8) h mv_X8_failingWith lk_X8_170 rfl rfl rfl rfl (Nat.le_of_ble_eq_true rfl) (Nat.le_of_ble_eq_true rfl) rfl dX8_nearest_78 rfl z2 (fun r25 i25 l25 rg25 h => ?_)
      refine g_istore (pc' := 83) (L' := [(6, vI r25), (5, vI (max (i 13 x2) (i 13 x3))), (4, vI (min (i 13 x2) (i 13 x3))), (0, vR (some 44)), (1, vI x1), (2, vI x2), (3, vI x3)]) dX8_nearest_81 rfl (Nat.le_of_ble_eq_true rfl) rfl ?_
      refine g_iload_n (pc' := 84) 4 dX8_nearest_83 rfl rfl ?_
      refine g_iconst (pc' := 85) dX8_nearest_84 rfl ?_
      obtain ⟨hob27, hob29, hk31, hk32⟩ := h
      have hk31g : ((x1 = (-1)) ∨ (¬ (Int.tdiv x1 64 ≤ r25))) → gI w d X_X8_nearest P i25 l25 97 [(6, vI r25), (5, vI (max (i 13 x2) (i 13 x3))), (4, vI (min (i 13 x2) (i 13 x3))), (0, vR (some 44)), (1, vI x1), (2, vI x2), (3, vI x3)] [] := by
        intro hp
        have h := hk31 hp
        refine g_iload (pc' := 99) 0 dX8_nearest_97 rfl rfl ?_
        refine g_bipush (pc' := 101) dX8_nearest_99 rfl rfl ?_
        refine g_imul (pc' := 102) dX8_nearest_101 rfl ?_
        refine g_iload_n (pc' := 103) 5 dX8_nearest_102 rfl rfl ?_
        refine g_iadd (pc' := 104) dX8_nearest_103 rfl ?_
        refine g_bipush (pc' := 106) dX8_nearest_104 rfl rfl ?_
        refine g_imul (pc' := 107) dX8_nearest_106 rfl ?_
        refine g_iload_n (pc' := 108) 6 dX8_nearest_107 rfl rfl ?_
        refine g_iadd (pc' := 109) dX8_nearest_108 rfl ?_
        refine g_istore_n (pc' := 110) (L' := [(1, vI ((((r25 * 8) + x2) * 8) + x3)), (6, vI r25), (5, vI (max (i 13 x2) (i 13 x3))), (4, vI (min (i 13 x2) (i 13 x3))), (0, vR (some 44)), (2, vI x2), (3, vI x3)]) dX8_nearest_109 rfl (Nat.le_of_ble_eq_true rfl) rfl ?_
        refine g_iinc (pc' := 113) (L' := [(3, vI (x3 + 1)), (1, vI ((((r25 * 8) + x2) * 8) + x3)), (6, vI r25), (5, vI (max (i 13 x2) (i 13 x3))), (4, vI (min (i 13 x2) (i 13 x3))), (0, vR (some 44)), (2, vI x2)]) 6 dX8_nearest_110 rfl (Nat.le_of_ble_eq_true rfl) rfl rfl ?_
        refine g_goto (tgt := 14) dX8_nearest_113 rfl ?_
        refine g_sub (L' := [(0, vR (some 44)), (1, vI ((((r25 * 8) + x2) * 8) + x3)), (2, vI x2), (3, vI (x3 + 1))]) [5, 1, 6, 0] rfl ?_
        exact h
      have hk32g : (¬ ((x1 = (-1)) ∨ (¬ (Int.tdiv x1 64 ≤ r25)))) → gI w d X_X8_nearest P i25 l25 110 [(6, vI r25), (5, vI (max (i 13 x2) (i 13 x3))), (4, vI (min (i 13 x2) (i 13 x3))), (0, vR (some 44)), (1, vI x1), (2, vI x2), (3, vI x3)] [] := by
        intro hp
        have h := hk32 hp
        refine g_iinc (pc' := 113) (L' := [(3, vI (x3 + 1)), (6, vI r25), (5, vI (max (i 13 x2) (i 13 x3))), (4, vI (min (i 13 x2) (i 13 x3))), (0, vR (some 44)), (1, vI x1), (2, vI x2)]) 6 dX8_nearest_110 rfl (Nat.le_of_ble_eq_true rfl) rfl rfl ?_
        refine g_goto (tgt := 14) dX8_nearest_113 rfl ?_
        refine g_sub (L' := [(0, vR (some 44)), (1, vI x1), (2, vI x2), (3, vI (x3 + 1))]) [4, 5, 6, 0] rfl ?_
        exact h
      refine g_icmp_eq (tgt := 97) (pc' := 88) (hob27) (rg_lit rfl) Iff.rfl dX8_nearest_85 rfl rfl (fun c28 => ?_) (fun c28 => ?_)
      · exact hk31g (Or.inl c28)
      · refine g_iload (pc' := 90) 0 dX8_nearest_88 rfl rfl ?_
        refine g_iload_n (pc' := 91) 4 dX8_nearest_90 rfl rfl ?_
        refine g_bipush (pc' := 93) dX8_nearest_91 rfl rfl ?_
        refine g_idiv (pc' := 94) dX8_nearest_93 rfl (hob27) (rg_lit rfl) (by decide) ?_
        refine g_icmp_ge (tgt := 110) (pc' := 97) rg25 (hob29 c28) Iff.rfl dX8_nearest_94 rfl rfl (fun c30 => ?_) (fun c30 => ?_)
        · exact hk32g (fun q => q.elim c28 (fun q => q c30))
        · exact hk31g (Or.inr c30)

theorem dX8_failingWith_0 : decode cX8_failingWith 0 = .ok (.iconst 0, 1) := by decide +kernel
theorem dX8_failingWith_1 : decode cX8_failingWith 1 = .ok (.istore_n 3, 1) := by decide +kernel
theorem dX8_failingWith_2 : decode cX8_failingWith 2 = .ok (.iconst 0, 1) := by decide +kernel
theorem dX8_failingWith_3 : decode cX8_failingWith 3 = .ok (.istore 4, 2) := by decide +kernel
theorem dX8_failingWith_5 : decode cX8_failingWith 5 = .ok (.iload 4, 2) := by decide +kernel
theorem dX8_failingWith_7 : decode cX8_failingWith 7 = .ok (.aload_n 0, 1) := by decide +kernel
theorem dX8_failingWith_8 : decode cX8_failingWith 8 = .ok (.getfield 34, 3) := by decide +kernel
theorem dX8_failingWith_11 : decode cX8_failingWith 11 = .ok (.getfield 125, 3) := by decide +kernel
theorem dX8_failingWith_14 : decode cX8_failingWith 14 = .ok (.if_icmp .ge 63, 3) := by decide +kernel
theorem dX8_failingWith_17 : decode cX8_failingWith 17 = .ok (.aload_n 0, 1) := by decide +kernel
theorem dX8_failingWith_18 : decode cX8_failingWith 18 = .ok (.iload 4, 2) := by decide +kernel
theorem dX8_failingWith_20 : decode cX8_failingWith 20 = .ok (.iconst 0, 1) := by decide +kernel
theorem dX8_failingWith_21 : decode cX8_failingWith 21 = .ok (.invokevirtual 115, 3) := by decide +kernel
theorem dX8_failingWith_24 : decode cX8_failingWith 24 = .ok (.istore 5, 2) := by decide +kernel
theorem dX8_failingWith_26 : decode cX8_failingWith 26 = .ok (.iload 5, 2) := by decide +kernel
theorem dX8_failingWith_28 : decode cX8_failingWith 28 = .ok (.iload_n 1, 1) := by decide +kernel
theorem dX8_failingWith_29 : decode cX8_failingWith 29 = .ok (.ishr, 1) := by decide +kernel
theorem dX8_failingWith_30 : decode cX8_failingWith 30 = .ok (.iconst 1, 1) := by decide +kernel
theorem dX8_failingWith_31 : decode cX8_failingWith 31 = .ok (.iand, 1) := by decide +kernel
theorem dX8_failingWith_32 : decode cX8_failingWith 32 = .ok (.iload 5, 2) := by decide +kernel
theorem dX8_failingWith_34 : decode cX8_failingWith 34 = .ok (.iload_n 2, 1) := by decide +kernel
theorem dX8_failingWith_35 : decode cX8_failingWith 35 = .ok (.ishr, 1) := by decide +kernel
theorem dX8_failingWith_36 : decode cX8_failingWith 36 = .ok (.iconst 1, 1) := by decide +kernel
theorem dX8_failingWith_37 : decode cX8_failingWith 37 = .ok (.iand, 1) := by decide +kernel
theorem dX8_failingWith_38 : decode cX8_failingWith 38 = .ok (.iadd, 1) := by decide +kernel
theorem dX8_failingWith_39 : decode cX8_failingWith 39 = .ok (.iconst 2, 1) := by decide +kernel
theorem dX8_failingWith_40 : decode cX8_failingWith 40 = .ok (.if_icmp .ne 7, 3) := by decide +kernel
theorem dX8_failingWith_43 : decode cX8_failingWith 43 = .ok (.iconst 1, 1) := by decide +kernel
theorem dX8_failingWith_44 : decode cX8_failingWith 44 = .ok (.goto 4, 3) := by decide +kernel
theorem dX8_failingWith_47 : decode cX8_failingWith 47 = .ok (.iconst 0, 1) := by decide +kernel
theorem dX8_failingWith_48 : decode cX8_failingWith 48 = .ok (.istore 6, 2) := by decide +kernel
theorem dX8_failingWith_50 : decode cX8_failingWith 50 = .ok (.iload 5, 2) := by decide +kernel
theorem dX8_failingWith_52 : decode cX8_failingWith 52 = .ok (.invokestatic 131, 3) := by decide +kernel
theorem dX8_failingWith_55 : decode cX8_failingWith 55 = .ok (.iload 6, 2) := by decide +kernel
theorem dX8_failingWith_57 : decode cX8_failingWith 57 = .ok (.isub, 1) := by decide +kernel
theorem dX8_failingWith_58 : decode cX8_failingWith 58 = .ok (.aload_n 0, 1) := by decide +kernel
theorem dX8_failingWith_59 : decode cX8_failingWith 59 = .ok (.iload 4, 2) := by decide +kernel
theorem dX8_failingWith_61 : decode cX8_failingWith 61 = .ok (.iconst 0, 1) := by decide +kernel
theorem dX8_failingWith_62 : decode cX8_failingWith 62 = .ok (.invokevirtual 137, 3) := by decide +kernel
theorem dX8_failingWith_65 : decode cX8_failingWith 65 = .ok (.if_icmp .le 6, 3) := by decide +kernel
theorem dX8_failingWith_68 : decode cX8_failingWith 68 = .ok (.iinc 3 1, 3) := by decide +kernel
theorem dX8_failingWith_71 : decode cX8_failingWith 71 = .ok (.iinc 4 1, 3) := by decide +kernel
theorem dX8_failingWith_74 : decode cX8_failingWith 74 = .ok (.goto (-69), 3) := by decide +kernel
theorem dX8_failingWith_77 : decode cX8_failingWith 77 = .ok (.iload_n 3, 1) := by decide +kernel
theorem dX8_failingWith_78 : decode cX8_failingWith 78 = .ok (.ireturn, 1) := by decide +kernel
set_option maxRecDepth 20000 in
theorem s_X8_failingWith {w : Wd} {d : Nat} {P : Int → IM → LM → Prop} {i : IM} {l : LM} (p0 : Int) (p1 : Int)  (h : gI w d X_X8_failingWith P i l 5 [(0, vR (some 44)), (1, vI p0), (2, vI p1), (3, vI 0), (4, vI 0)] []) : gI w d X_X8_failingWith P i l 0 [(0, vR (some 44)), (1, vI p0), (2, vI p1)] [] := by
  refine g_iconst (pc' := 1) dX8_failingWith_0 rfl ?_
  refine g_istore_n (pc' := 2) (L' := [(3, vI 0), (0, vR (some 44)), (1, vI p0), (2, vI p1)]) dX8_failingWith_1 rfl (Nat.le_of_ble_eq_true rfl) rfl ?_
  refine g_iconst (pc' := 3) dX8_failingWith_2 rfl ?_
  refine g_istore (pc' := 5) (L' := [(4, vI 0), (3, vI 0), (0, vR (some 44)), (1, vI p0), (2, vI p1)]) dX8_failingWith_3 rfl (Nat.le_of_ble_eq_true rfl) rfl ?_
  refine g_sub (L' := [(0, vR (some 44)), (1, vI p0), (2, vI p1), (3, vI 0), (4, vI 0)]) [2, 3, 4, 1, 0] rfl ?_
  exact h
theorem e_X8_failingWith {w : Wd} {d : Nat} {P : Int → IM → LM → Prop} {i : IM} {l : LM} {p0 : Int} {p1 : Int}  (h : gI w d X_X8_failingWith P i l 0 [(0, vR (some 44)), (1, vI p0), (2, vI p1)] []) : cI w (d + 1) X_X8_failingWith [vR (some 44), vI p0, vI p1] i l P := CI_of (by decide +kernel) (Nat.le_of_ble_eq_true rfl) h
set_option maxRecDepth 20000 in
theorem s_X8_failingWith_5 {w : Wd} {d : Nat} {P : Int → IM → LM → Prop} {i : IM} {l : LM} (x1 : Int) (x2 : Int) (x3 : Int) (x4 : Int)  (hd : 1 ≤ d) (h : ((rg x4) ∧ ((i 7 9 ≤ x4) → ((rg x3) ∧ P x3 i l)) ∧ ((¬ (i 7 9 ≤ x4)) → cI w d X_X8_thingsFrom [vR (some 44), vI x4, vI 0] i l (fun r6 i6 l6 => ((rg ((iand (ishr r6 x1) 1) + (iand (ishr r6 x2) 1))) ∧ ((0 ≤ r6 ∧ r6 < 1024) ∧ cI w d X_X8_limitAt [vR (some 44), vI x4, vI 0] i6 l6 (fun r12 i12 l12 => ((rg ((popI r6) - (bI ((iand (ishr r6 x1) 1) + (iand (ishr r6 x2) 1) = 2)))) ∧ (((popI r6) - (bI ((iand (ishr r6 x1) 1) + (iand (ishr r6 x2) 1) = 2)) ≤ r12) → gI w d X_X8_failingWith P i12 l12 5 [(0, vR (some 44)), (1, vI x1), (2, vI x2), (3, vI x3), (4, vI (x4 + 1))] []) ∧ ((¬ ((popI r6) - (bI ((iand (ishr r6 x1) 1) + (iand (ishr r6 x2) 1) = 2)) ≤ r12)) → gI w d X_X8_failingWith P i12 l12 5 [(0, vR (some 44)), (1, vI x1), (2, vI x2), (3, vI (x3 + 1)), (4, vI (x4 + 1))] []))))))))) : gI w d X_X8_failingWith P i l 5 [(0, vR (some 44)), (1, vI x1), (2, vI x2), (3, vI x3), (4, vI x4)] [] := by
  refine g_iload (pc' := 7) 4 dX8_failingWith_5 rfl rfl ?_
  refine g_aload_n (pc' := 8) 0 dX8_failingWith_7 rfl rfl ?_
  refine g_getR (pc' := 11) (o := some 7) fl_X8_34 rfl rfl rfl dX8_failingWith_8 rfl ?_
  refine g_getI (pc' := 14) (z := 9) rfl fl_X8_125 rfl rfl dX8_failingWith_11 rfl (fun rg1 => ?_)
  obtain ⟨hob3, hk18, hk19⟩ := h
  refine g_icmp_ge (tgt := 77) (pc' := 17) (hob3) rg1 Iff.rfl dX8_failingWith_14 rfl rfl (fun c4 => ?_) (fun c4 => ?_)
  · have h := hk18 c4
    obtain ⟨ob5, h⟩ := h
    refine g_iload_n (pc' := 78) 3 dX8_failingWith_77 rfl rfl ?_
    exact g_retI rfl ob5 dX8_failingWith_78 h
  · have h := hk19 c4
    refine g_aload_n (pc' := 18) 0 dX8_failingWith_17 rfl rfl ?_
    refine g_iload (pc' := 20) 4 dX8_failingWith_18 rfl rfl ?_
    refine g_iconst (pc' := 21) dX8_failingWith_20 rfl ?_
    refine g_cVI (pc' := 24) (vs := [vI x4, vI 0]) (st := []) (c := 8) h mv_X8_thingsFrom lk_X8_115 rfl rfl rfl rfl (Nat.le_of_ble_eq_true rfl) (Nat.le_of_ble_eq_true rfl) rfl dX8_failingWith_21 rfl z2 (fun r6 i6 l6 rg6 h => ?_)
    refine g_istore (pc' := 26) (L' := [(5, vI r6), (0, vR (some 44)), (1, vI x1), (2, vI x2), (3, vI x3), (4, vI x4)]) dX8_failingWith_24 rfl (Nat.le_of_ble_eq_true rfl) rfl ?_
    refine g_iload (pc' := 28) 0 dX8_failingWith_26 rfl rfl ?_
    refine g_iload_n (pc' := 29) 2 dX8_failingWith_28 rfl rfl ?_
    refine g_ishr (pc' := 30) dX8_failingWith_29 rfl ?_
    refine g_iconst (pc' := 31) dX8_failingWith_30 rfl ?_
    refine g_iand (pc' := 32) dX8_failingWith_31 rfl ?_
    refine g_iload (pc' := 34) 0 dX8_failingWith_32 rfl rfl ?_
    refine g_iload_n (pc' := 35) 3 dX8_failingWith_34 rfl rfl ?_
    refine g_ishr (pc' := 36) dX8_failingWith_35 rfl ?_
    refine g_iconst (pc' := 37) dX8_failingWith_36 rfl ?_
    refine g_iand (pc' := 38) dX8_failingWith_37 rfl ?_
    refine g_iadd (pc' := 39) dX8_failingWith_38 rfl ?_
    refine g_iconst (pc' := 40) dX8_failingWith_39 rfl ?_
    obtain ⟨hob8, h⟩ := h
    have hJ : gI w d X_X8_failingWith P i6 l6 48 [(5, vI r6), (0, vR (some 44)), (1, vI x1), (2, vI x2), (3, vI x3), (4, vI x4)] [vI (bI ((iand (ishr r6 x1) 1) + (iand (ishr r6 x2) 1) = 2))] := by
      obtain ⟨ob10, h⟩ := h
      refine g_istore (pc' := 50) (L' := [(6, vI (bI ((iand (ishr r6 x1) 1) + (iand (ishr r6 x2) 1) = 2))), (5, vI r6), (0, vR (some 44)), (1, vI x1), (2, vI x2), (3, vI x3), (4, vI x4)]) dX8_failingWith_48 rfl (Nat.le_of_ble_eq_true rfl) rfl ?_
      refine g_iload (pc' := 52) 1 dX8_failingWith_50 rfl rfl ?_
      refine g_pSI (pc' := 55) (vs := [vI r6]) (st := []) (val := popI r6) (sp_bitCount (le_hd hd rfl) ob10) mk_J6_bitCount_0f7a4 ms_J6_bitCount_0f7a4 lk_X8_131 rfl (Nat.le_of_ble_eq_true rfl) (Nat.le_of_ble_eq_true rfl) rfl dX8_failingWith_52 rfl z2 (fun rg11 => ?_)
      refine g_iload (pc' := 57) 0 dX8_failingWith_55 rfl rfl ?_
      refine g_isub (pc' := 58) dX8_failingWith_57 rfl ?_
      refine g_aload_n (pc' := 59) 2 dX8_failingWith_58 rfl rfl ?_
      refine g_iload (pc' := 61) 6 dX8_failingWith_59 rfl rfl ?_
      refine g_iconst (pc' := 62) dX8_failingWith_61 rfl ?_
      refine g_cVI (pc' := 65) (vs := [vI x4, vI 0]) (st := [vI ((popI r6) - (bI ((iand (ishr r6 x1) 1) + (iand (ishr r6 x2) 1) = 2)))]) (c := 8) h mv_X8_limitAt lk_X8_137 rfl rfl rfl rfl (Nat.le_of_ble_eq_true rfl) (Nat.le_of_ble_eq_true rfl) rfl dX8_failingWith_62 rfl z2 (fun r12 i12 l12 rg12 h => ?_)
      obtain ⟨hob14, hk16, hk17⟩ := h
      refine g_icmp_le (tgt := 71) (pc' := 68) (hob14) rg12 Iff.rfl dX8_failingWith_65 rfl rfl (fun c15 => ?_) (fun c15 => ?_)
      · have h := hk16 c15
        refine g_iinc (pc' := 74) (L' := [(4, vI (x4 + 1)), (6, vI (bI ((iand (ishr r6 x1) 1) + (iand (ishr r6 x2) 1) = 2))), (5, vI r6), (0, vR (some 44)), (1, vI x1), (2, vI x2), (3, vI x3)]) 6 dX8_failingWith_71 rfl (Nat.le_of_ble_eq_true rfl) rfl rfl ?_
        refine g_goto (tgt := 5) dX8_failingWith_74 rfl ?_
        refine g_sub (L' := [(0, vR (some 44)), (1, vI x1), (2, vI x2), (3, vI x3), (4, vI (x4 + 1))]) [3, 4, 5, 6, 0] rfl ?_
        exact h
      · have h := hk17 c15
        refine g_iinc (pc' := 71) (L' := [(3, vI (x3 + 1)), (6, vI (bI ((iand (ishr r6 x1) 1) + (iand (ishr r6 x2) 1) = 2))), (5, vI r6), (0, vR (some 44)), (1, vI x1), (2, vI x2), (4, vI x4)]) 5 dX8_failingWith_68 rfl (Nat.le_of_ble_eq_true rfl) rfl rfl ?_
        refine g_iinc (pc' := 74) (L' := [(4, vI (x4 + 1)), (3, vI (x3 + 1)), (6, vI (bI ((iand (ishr r6 x1) 1) + (iand (ishr r6 x2) 1) = 2))), (5, vI r6), (0, vR (some 44)), (1, vI x1), (2, vI x2)]) 6 dX8_failingWith_71 rfl (Nat.le_of_ble_eq_true rfl) rfl rfl ?_
        refine g_goto (tgt := 5) dX8_failingWith_74 rfl ?_
        refine g_sub (L' := [(0, vR (some 44)), (1, vI x1), (2, vI x2), (3, vI (x3 + 1)), (4, vI (x4 + 1))]) [4, 5, 6, 1, 0] rfl ?_
        exact h
    refine g_icmp_ne (tgt := 47) (pc' := 43) (hob8) (rg_lit rfl) Iff.rfl dX8_failingWith_40 rfl rfl (fun c9 => ?_) (fun c9 => ?_)
    · refine g_iconst (pc' := 48) dX8_failingWith_47 rfl ?_
      rw [bI_f (p := ((iand (ishr r6 x1) 1) + (iand (ishr r6 x2) 1) = 2)) c9] at hJ
      exact hJ
    · refine g_iconst (pc' := 44) dX8_failingWith_43 rfl ?_
      refine g_goto (tgt := 48) dX8_failingWith_44 rfl ?_
      rw [bI_t (p := ((iand (ishr r6 x1) 1) + (iand (ishr r6 x2) 1) = 2)) c9] at hJ
      exact hJ
