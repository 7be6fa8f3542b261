theorem dX11_thing_0 : decode cX11_thing 0 = .ok (.iload_n 1, 1) := by decide +kernel
theorem dX11_thing_1 : decode cX11_thing 1 = .ok (.iconst 3, 1) := by decide +kernel
theorem dX11_thing_2 : decode cX11_thing 2 = .ok (.invokestatic 107, 3) := by decide +kernel
theorem dX11_thing_5 : decode cX11_thing 5 = .ok (.ifCond .eq 41, 3) := by decide +kernel
theorem dX11_thing_8 : decode cX11_thing 8 = .ok (.iload_n 2, 1) := by decide +kernel
theorem dX11_thing_9 : decode cX11_thing 9 = .ok (.bipush 7, 2) := by decide +kernel
theorem dX11_thing_11 : decode cX11_thing 11 = .ok (.invokestatic 107, 3) := by decide +kernel
theorem dX11_thing_14 : decode cX11_thing 14 = .ok (.ifCond .eq 32, 3) := by decide +kernel
theorem dX11_thing_17 : decode cX11_thing 17 = .ok (.iload_n 3, 1) := by decide +kernel
theorem dX11_thing_18 : decode cX11_thing 18 = .ok (.bipush 7, 2) := by decide +kernel
theorem dX11_thing_20 : decode cX11_thing 20 = .ok (.invokestatic 107, 3) := by decide +kernel
theorem dX11_thing_23 : decode cX11_thing 23 = .ok (.ifCond .eq 23, 3) := by decide +kernel
theorem dX11_thing_26 : decode cX11_thing 26 = .ok (.iload 4, 2) := by decide +kernel
theorem dX11_thing_28 : decode cX11_thing 28 = .ok (.bipush 99, 2) := by decide +kernel
theorem dX11_thing_30 : decode cX11_thing 30 = .ok (.invokestatic 107, 3) := by decide +kernel
theorem dX11_thing_33 : decode cX11_thing 33 = .ok (.ifCond .eq 13, 3) := by decide +kernel
theorem dX11_thing_36 : decode cX11_thing 36 = .ok (.iload 5, 2) := by decide +kernel
theorem dX11_thing_38 : decode cX11_thing 38 = .ok (.bipush 99, 2) := by decide +kernel
theorem dX11_thing_40 : decode cX11_thing 40 = .ok (.invokestatic 107, 3) := by decide +kernel
theorem dX11_thing_43 : decode cX11_thing 43 = .ok (.ifCond .ne 9, 3) := by decide +kernel
theorem dX11_thing_46 : decode cX11_thing 46 = .ok (.aload_n 0, 1) := by decide +kernel
theorem dX11_thing_47 : decode cX11_thing 47 = .ok (.iconst (-1), 1) := by decide +kernel
theorem dX11_thing_48 : decode cX11_thing 48 = .ok (.invokevirtual 111, 3) := by decide +kernel
theorem dX11_thing_51 : decode cX11_thing 51 = .ok (.ireturn, 1) := by decide +kernel
theorem dX11_thing_52 : decode cX11_thing 52 = .ok (.aload_n 0, 1) := by decide +kernel
theorem dX11_thing_53 : decode cX11_thing 53 = .ok (.getfield 10, 3) := by decide +kernel
theorem dX11_thing_56 : decode cX11_thing 56 = .ok (.getfield 115, 3) := by decide +kernel
theorem dX11_thing_59 : decode cX11_thing 59 = .ok (.bipush 10, 2) := by decide +kernel
theorem dX11_thing_61 : decode cX11_thing 61 = .ok (.if_icmp .lt 10, 3) := by decide +kernel
theorem dX11_thing_64 : decode cX11_thing 64 = .ok (.aload_n 0, 1) := by decide +kernel
theorem dX11_thing_65 : decode cX11_thing 65 = .ok (.bipush (-5), 2) := by decide +kernel
theorem dX11_thing_67 : decode cX11_thing 67 = .ok (.invokevirtual 111, 3) := by decide +kernel
theorem dX11_thing_70 : decode cX11_thing 70 = .ok (.ireturn, 1) := by decide +kernel
theorem dX11_thing_71 : decode cX11_thing 71 = .ok (.aload_n 0, 1) := by decide +kernel
theorem dX11_thing_72 : decode cX11_thing 72 = .ok (.aload_n 0, 1) := by decide +kernel
theorem dX11_thing_73 : decode cX11_thing 73 = .ok (.getfield 10, 3) := by decide +kernel
theorem dX11_thing_76 : decode cX11_thing 76 = .ok (.iload_n 1, 1) := by decide +kernel
theorem dX11_thing_77 : decode cX11_thing 77 = .ok (.iload_n 2, 1) := by decide +kernel
theorem dX11_thing_78 : decode cX11_thing 78 = .ok (.iload_n 3, 1) := by decide +kernel
theorem dX11_thing_79 : decode cX11_thing 79 = .ok (.iload 4, 2) := by decide +kernel
theorem dX11_thing_81 : decode cX11_thing 81 = .ok (.iload 5, 2) := by decide +kernel
theorem dX11_thing_83 : decode cX11_thing 83 = .ok (.invokevirtual 118, 3) := by decide +kernel
theorem dX11_thing_86 : decode cX11_thing 86 = .ok (.invokevirtual 122, 3) := by decide +kernel
theorem dX11_thing_89 : decode cX11_thing 89 = .ok (.ireturn, 1) := by decide +kernel
set_option maxRecDepth 20000 in
theorem s_X11_thing {w : Wd} {d : Nat} {P : Int → IM → LM → Prop} {i : IM} {l : LM} (p0 : Int) (p1 : Int) (p2 : Int) (p3 : Int) (p4 : Int)  (hd : 1 ≤ d) (h : ((rg p0) ∧ (((0 ≤ p0 ∧ p0 ≤ 3) → rg p1) ∧ ((0 ≤ p0 ∧ p0 ≤ 3) → (0 ≤ p1 ∧ p1 ≤ 7) → rg p2) ∧ ((0 ≤ p0 ∧ p0 ≤ 3) → (0 ≤ p1 ∧ p1 ≤ 7) → (0 ≤ p2 ∧ p2 ≤ 7) → rg p3) ∧ ((0 ≤ p0 ∧ p0 ≤ 3) → (0 ≤ p1 ∧ p1 ≤ 7) → (0 ≤ p2 ∧ p2 ≤ 7) → (0 ≤ p3 ∧ p3 ≤ 99) → rg p4) ∧ ((¬ (0 ≤ p0 ∧ p0 ≤ 3) ∨ (¬ (0 ≤ p1 ∧ p1 ≤ 7) ∨ (¬ (0 ≤ p2 ∧ p2 ≤ 7) ∨ (¬ (0 ≤ p3 ∧ p3 ≤ 99) ∨ (¬ (0 ≤ p4 ∧ p4 ≤ 99)))))) → cI w d X_X11_refuse [vR (some 6), vI (-1)] i l (fun r19 i19 l19 => P r19 i19 l19)) ∧ (((0 ≤ p0 ∧ p0 ≤ 3) ∧ ((0 ≤ p1 ∧ p1 ≤ 7) ∧ ((0 ≤ p2 ∧ p2 ≤ 7) ∧ ((0 ≤ p3 ∧ p3 ≤ 99) ∧ ((0 ≤ p4 ∧ p4 ≤ 99) ∧ (i 7 8 < 10)))))) → cI w d X_X9_addThing [vR (some 7), vI p0, vI p1, vI p2, vI p3, vI p4] i l (fun r20 i20 l20 => cI w d X_X11_changed [vR (some 6), vI r20] i20 l20 (fun r21 i21 l21 => P r21 i21 l21))) ∧ (((0 ≤ p0 ∧ p0 ≤ 3) ∧ ((0 ≤ p1 ∧ p1 ≤ 7) ∧ ((0 ≤ p2 ∧ p2 ≤ 7) ∧ ((0 ≤ p3 ∧ p3 ≤ 99) ∧ ((0 ≤ p4 ∧ p4 ≤ 99) ∧ (¬ (i 7 8 < 10))))))) → cI w d X_X11_refuse [vR (some 6), vI (-5)] i l (fun r22 i22 l22 => P r22 i22 l22))))) : gI w d X_X11_thing P i l 0 [(0, vR (some 6)), (1, vI p0), (2, vI p1), (3, vI p2), (4, vI p3), (5, vI p4)] [] := by
  obtain ⟨ob1, h⟩ := h
  refine g_iload_n (pc' := 1) 1 dX11_thing_0 rfl rfl ?_
  refine g_iconst (pc' := 2) dX11_thing_1 rfl ?_
  refine g_pSI (pc' := 5) (vs := [vI p0, vI 3]) (st := []) (val := bI (0 ≤ p0 ∧ p0 ≤ 3)) (sp_X11_upTo (le_hd hd rfl) ob1 (rg_lit rfl)) mk_X11_upTo ms_X11_upTo lk_X11_107 rfl (Nat.le_of_ble_eq_true rfl) (Nat.le_of_ble_eq_true rfl) rfl dX11_thing_2 rfl z2 (fun rg2 => ?_)
  obtain ⟨hob5, hob8, hob11, hob14, hk23, hk24, hk25⟩ := h
  have hk23g : (¬ (0 ≤ p0 ∧ p0 ≤ 3) ∨ (¬ (0 ≤ p1 ∧ p1 ≤ 7) ∨ (¬ (0 ≤ p2 ∧ p2 ≤ 7) ∨ (¬ (0 ≤ p3 ∧ p3 ≤ 99) ∨ (¬ (0 ≤ p4 ∧ p4 ≤ 99)))))) → gI w d X_X11_thing P i l 46 [(0, vR (some 6)), (1, vI p0), (2, vI p1), (3, vI p2), (4, vI p3), (5, vI p4)] [] := by
    intro hp
    have h := hk23 hp
    refine g_aload_n (pc' := 47) 0 dX11_thing_46 rfl rfl ?_
    refine g_iconst (pc' := 48) dX11_thing_47 rfl ?_
    refine g_cVI (pc' := 51) (vs := [vI (-1)]) (st := []) (c := 11) h mv_X11_refuse lk_X11_111 rfl rfl rfl rfl (Nat.le_of_ble_eq_true rfl) (Nat.le_of_ble_eq_true rfl) rfl dX11_thing_48 rfl z2 (fun r19 i19 l19 rg19 h => ?_)
    exact g_retI rfl rg19 dX11_thing_51 h
  have hk24g : ((0 ≤ p0 ∧ p0 ≤ 3) ∧ ((0 ≤ p1 ∧ p1 ≤ 7) ∧ ((0 ≤ p2 ∧ p2 ≤ 7) ∧ ((0 ≤ p3 ∧ p3 ≤ 99) ∧ ((0 ≤ p4 ∧ p4 ≤ 99) ∧ (i 7 8 < 10)))))) → gI w d X_X11_thing P i l 71 [(0, vR (some 6)), (1, vI p0), (2, vI p1), (3, vI p2), (4, vI p3), (5, vI p4)] [] := by
    intro hp
    have h := hk24 hp
    refine g_aload_n (pc' := 72) 0 dX11_thing_71 rfl rfl ?_
    refine g_aload_n (pc' := 73) 0 dX11_thing_72 rfl rfl ?_
    refine g_getR (pc' := 76) (o := some 7) fl_X11_10 rfl rfl rfl dX11_thing_73 rfl ?_
    refine g_iload_n (pc' := 77) 1 dX11_thing_76 rfl rfl ?_
    refine g_iload_n (pc' := 78) 2 dX11_thing_77 rfl rfl ?_
    refine g_iload_n (pc' := 79) 3 dX11_thing_78 rfl rfl ?_
    refine g_iload (pc' := 81) 4 dX11_thing_79 rfl rfl ?_
    refine g_iload (pc' := 83) 5 dX11_thing_81 rfl rfl ?_
    refine g_cVI (pc' := 86) (vs := [vI p0, vI p1, vI p2, vI p3, vI p4]) (st := [vR (some 6)]) (c := 9) h mv_X9_addThing lk_X11_118 rfl rfl rfl rfl (Nat.le_of_ble_eq_true rfl) (Nat.le_of_ble_eq_true rfl) rfl dX11_thing_83 rfl z2 (fun r20 i20 l20 rg20 h => ?_)
    refine g_cVI (pc' := 89) (vs := [vI r20]) (st := []) (c := 11) h mv_X11_changed lk_X11_122 rfl rfl rfl rfl (Nat.le_of_ble_eq_true rfl) (Nat.le_of_ble_eq_true rfl) rfl dX11_thing_86 rfl z2 (fun r21 i21 l21 rg21 h => ?_)
    exact g_retI rfl rg21 dX11_thing_89 h
  have hk25g : ((0 ≤ p0 ∧ p0 ≤ 3) ∧ ((0 ≤ p1 ∧ p1 ≤ 7) ∧ ((0 ≤ p2 ∧ p2 ≤ 7) ∧ ((0 ≤ p3 ∧ p3 ≤ 99) ∧ ((0 ≤ p4 ∧ p4 ≤ 99) ∧ (¬ (i 7 8 < 10))))))) → gI w d X_X11_thing P i l 64 [(0, vR (some 6)), (1, vI p0), (2, vI p1), (3, vI p2), (4, vI p3), (5, vI p4)] [] := by
    intro hp
    have h := hk25 hp
    refine g_aload_n (pc' := 65) 0 dX11_thing_64 rfl rfl ?_
    refine g_bipush (pc' := 67) dX11_thing_65 rfl rfl ?_
    refine g_cVI (pc' := 70) (vs := [vI (-5)]) (st := []) (c := 11) h mv_X11_refuse lk_X11_111 rfl rfl rfl rfl (Nat.le_of_ble_eq_true rfl) (Nat.le_of_ble_eq_true rfl) rfl dX11_thing_67 rfl z2 (fun r22 i22 l22 rg22 h => ?_)
    exact g_retI rfl rg22 dX11_thing_70 h
  refine g_if_eq (tgt := 46) (pc' := 8) rg2 (bI_eq _) dX11_thing_5 rfl rfl (fun c4 => ?_) (fun c4n => ?_)
  · exact hk23g (Or.inl c4)
  · have c4 := Decidable.of_not_not c4n
    refine g_iload_n (pc' := 9) 2 dX11_thing_8 rfl rfl ?_
    refine g_bipush (pc' := 11) dX11_thing_9 rfl rfl ?_
    refine g_pSI (pc' := 14) (vs := [vI p1, vI 7]) (st := []) (val := bI (0 ≤ p1 ∧ p1 ≤ 7)) (sp_X11_upTo (le_hd hd rfl) (hob5 c4) (rg_lit rfl)) mk_X11_upTo ms_X11_upTo lk_X11_107 rfl (Nat.le_of_ble_eq_true rfl) (Nat.le_of_ble_eq_true rfl) rfl dX11_thing_11 rfl z2 (fun rg6 => ?_)
    refine g_if_eq (tgt := 46) (pc' := 17) rg6 (bI_eq _) dX11_thing_14 rfl rfl (fun c7 => ?_) (fun c7n => ?_)
    · exact hk23g (Or.inr (Or.inl c7))
    · have c7 := Decidable.of_not_not c7n
      refine g_iload_n (pc' := 18) 3 dX11_thing_17 rfl rfl ?_
      refine g_bipush (pc' := 20) dX11_thing_18 rfl rfl ?_
      refine g_pSI (pc' := 23) (vs := [vI p2, vI 7]) (st := []) (val := bI (0 ≤ p2 ∧ p2 ≤ 7)) (sp_X11_upTo (le_hd hd rfl) (hob8 c4 c7) (rg_lit rfl)) mk_X11_upTo ms_X11_upTo lk_X11_107 rfl (Nat.le_of_ble_eq_true rfl) (Nat.le_of_ble_eq_true rfl) rfl dX11_thing_20 rfl z2 (fun rg9 => ?_)
      refine g_if_eq (tgt := 46) (pc' := 26) rg9 (bI_eq _) dX11_thing_23 rfl rfl (fun c10 => ?_) (fun c10n => ?_)
      · exact hk23g (Or.inr (Or.inr (Or.inl c10)))
      · have c10 := Decidable.of_not_not c10n
        refine g_iload (pc' := 28) 4 dX11_thing_26 rfl rfl ?_
        refine g_bipush (pc' := 30) dX11_thing_28 rfl rfl ?_
        refine g_pSI (pc' := 33) (vs := [vI p3, vI 99]) (st := []) (val := bI (0 ≤ p3 ∧ p3 ≤ 99)) (sp_X11_upTo (le_hd hd rfl) (hob11 c4 c7 c10) (rg_lit rfl)) mk_X11_upTo ms_X11_upTo lk_X11_107 rfl (Nat.le_of_ble_eq_true rfl) (Nat.le_of_ble_eq_true rfl) rfl dX11_thing_30 rfl z2 (fun rg12 => ?_)
        refine g_if_eq (tgt := 46) (pc' := 36) rg12 (bI_eq _) dX11_thing_33 rfl rfl (fun c13 => ?_) (fun c13n => ?_)
        · exact hk23g (Or.inr (Or.inr (Or.inr (Or.inl c13))))
        · have c13 := Decidable.of_not_not c13n
          refine g_iload (pc' := 38) 5 dX11_thing_36 rfl rfl ?_
          refine g_bipush (pc' := 40) dX11_thing_38 rfl rfl ?_
          refine g_pSI (pc' := 43) (vs := [vI p4, vI 99]) (st := []) (val := bI (0 ≤ p4 ∧ p4 ≤ 99)) (sp_X11_upTo (le_hd hd rfl) (hob14 c4 c7 c10 c13) (rg_lit rfl)) mk_X11_upTo ms_X11_upTo lk_X11_107 rfl (Nat.le_of_ble_eq_true rfl) (Nat.le_of_ble_eq_true rfl) rfl dX11_thing_40 rfl z2 (fun rg15 => ?_)
          refine g_if_ne (tgt := 52) (pc' := 46) rg15 (bI_eq _) dX11_thing_43 rfl rfl (fun c16n => ?_) (fun c16 => ?_)
          · have c16 := Decidable.of_not_not c16n
            refine g_aload_n (pc' := 53) 0 dX11_thing_52 rfl rfl ?_
            refine g_getR (pc' := 56) (o := some 7) fl_X11_10 rfl rfl rfl dX11_thing_53 rfl ?_
            refine g_getI (pc' := 59) (z := 8) rfl fl_X11_115 rfl rfl dX11_thing_56 rfl (fun rg17 => ?_)
            refine g_bipush (pc' := 61) dX11_thing_59 rfl rfl ?_
            refine g_icmp_lt (tgt := 71) (pc' := 64) rg17 (rg_lit rfl) Iff.rfl dX11_thing_61 rfl rfl (fun c18 => ?_) (fun c18 => ?_)
            · exact hk24g ⟨c4, ⟨c7, ⟨c10, ⟨c13, ⟨c16, c18⟩⟩⟩⟩⟩
            · exact hk25g ⟨c4, ⟨c7, ⟨c10, ⟨c13, ⟨c16, c18⟩⟩⟩⟩⟩
          · exact hk23g (Or.inr (Or.inr (Or.inr (Or.inr c16))))
theorem e_X11_thing {w : Wd} {d : Nat} {P : Int → IM → LM → Prop} {i : IM} {l : LM} {p0 : Int} {p1 : Int} {p2 : Int} {p3 : Int} {p4 : Int}  (h : gI w d X_X11_thing P i l 0 [(0, vR (some 6)), (1, vI p0), (2, vI p1), (3, vI p2), (4, vI p3), (5, vI p4)] []) : cI w (d + 1) X_X11_thing [vR (some 6), vI p0, vI p1, vI p2, vI p3, vI p4] i l P := CI_of (by decide +kernel) (Nat.le_of_ble_eq_true rfl) h

theorem dX11_put_0 : decode cX11_put 0 = .ok (.iload_n 2, 1) := by decide +kernel
theorem dX11_put_1 : decode cX11_put 1 = .ok (.iconst 5, 1) := by decide +kernel
theorem dX11_put_2 : decode cX11_put 2 = .ok (.invokestatic 107, 3) := by decide +kernel
theorem dX11_put_5 : decode cX11_put 5 = .ok (.ifCond .eq 15, 3) := by decide +kernel
theorem dX11_put_8 : decode cX11_put 8 = .ok (.iload_n 3, 1) := by decide +kernel
theorem dX11_put_9 : decode cX11_put 9 = .ok (.getstatic 125, 3) := by decide +kernel
theorem dX11_put_12 : decode cX11_put 12 = .ok (.iload_n 2, 1) := by decide +kernel
theorem dX11_put_13 : decode cX11_put 13 = .ok (.iaload, 1) := by decide +kernel
theorem dX11_put_14 : decode cX11_put 14 = .ok (.invokestatic 107, 3) := by decide +kernel
theorem dX11_put_17 : decode cX11_put 17 = .ok (.ifCond .ne 9, 3) := by decide +kernel
theorem dX11_put_20 : decode cX11_put 20 = .ok (.aload_n 0, 1) := by decide +kernel
theorem dX11_put_21 : decode cX11_put 21 = .ok (.iconst (-1), 1) := by decide +kernel
theorem dX11_put_22 : decode cX11_put 22 = .ok (.invokevirtual 111, 3) := by decide +kernel
theorem dX11_put_25 : decode cX11_put 25 = .ok (.ireturn, 1) := by decide +kernel
theorem dX11_put_26 : decode cX11_put 26 = .ok (.iload_n 1, 1) := by decide +kernel
theorem dX11_put_27 : decode cX11_put 27 = .ok (.aload_n 0, 1) := by decide +kernel
theorem dX11_put_28 : decode cX11_put 28 = .ok (.getfield 10, 3) := by decide +kernel
theorem dX11_put_31 : decode cX11_put 31 = .ok (.getfield 115, 3) := by decide +kernel
theorem dX11_put_34 : decode cX11_put 34 = .ok (.invokestatic 128, 3) := by decide +kernel
theorem dX11_put_37 : decode cX11_put 37 = .ok (.ifCond .ne 10, 3) := by decide +kernel
theorem dX11_put_40 : decode cX11_put 40 = .ok (.aload_n 0, 1) := by decide +kernel
theorem dX11_put_41 : decode cX11_put 41 = .ok (.bipush (-2), 2) := by decide +kernel
theorem dX11_put_43 : decode cX11_put 43 = .ok (.invokevirtual 111, 3) := by decide +kernel
theorem dX11_put_46 : decode cX11_put 46 = .ok (.ireturn, 1) := by decide +kernel
theorem dX11_put_47 : decode cX11_put 47 = .ok (.aload_n 0, 1) := by decide +kernel
theorem dX11_put_48 : decode cX11_put 48 = .ok (.getfield 10, 3) := by decide +kernel
theorem dX11_put_51 : decode cX11_put 51 = .ok (.iload_n 1, 1) := by decide +kernel
theorem dX11_put_52 : decode cX11_put 52 = .ok (.iload_n 2, 1) := by decide +kernel
theorem dX11_put_53 : decode cX11_put 53 = .ok (.invokevirtual 131, 3) := by decide +kernel
theorem dX11_put_56 : decode cX11_put 56 = .ok (.istore 4, 2) := by decide +kernel
theorem dX11_put_58 : decode cX11_put 58 = .ok (.aload_n 0, 1) := by decide +kernel
theorem dX11_put_59 : decode cX11_put 59 = .ok (.getfield 10, 3) := by decide +kernel
theorem dX11_put_62 : decode cX11_put 62 = .ok (.getfield 135, 3) := by decide +kernel
theorem dX11_put_65 : decode cX11_put 65 = .ok (.iload_n 1, 1) := by decide +kernel
theorem dX11_put_66 : decode cX11_put 66 = .ok (.bipush 8, 2) := by decide +kernel
theorem dX11_put_68 : decode cX11_put 68 = .ok (.imul, 1) := by decide +kernel
theorem dX11_put_69 : decode cX11_put 69 = .ok (.iload_n 2, 1) := by decide +kernel
theorem dX11_put_70 : decode cX11_put 70 = .ok (.iadd, 1) := by decide +kernel
theorem dX11_put_71 : decode cX11_put 71 = .ok (.iload_n 3, 1) := by decide +kernel
theorem dX11_put_72 : decode cX11_put 72 = .ok (.iastore, 1) := by decide +kernel
theorem dX11_put_73 : decode cX11_put 73 = .ok (.aload_n 0, 1) := by decide +kernel
theorem dX11_put_74 : decode cX11_put 74 = .ok (.iload 4, 2) := by decide +kernel
theorem dX11_put_76 : decode cX11_put 76 = .ok (.invokevirtual 122, 3) := by decide +kernel
theorem dX11_put_79 : decode cX11_put 79 = .ok (.ireturn, 1) := by decide +kernel
set_option maxRecDepth 20000 in
theorem s_X11_put {w : Wd} {d : Nat} {P : Int → IM → LM → Prop} {i : IM} {l : LM} (p0 : Int) (p1 : Int) (p2 : Int)  (hd : 1 ≤ d) (h : ((rg p1) ∧ (((0 ≤ p1 ∧ p1 ≤ 5) → 0 ≤ p1 ∧ p1 < 6) ∧ ((0 ≤ p1 ∧ p1 ≤ 5) → rg p2) ∧ ((0 ≤ p1 ∧ p1 ≤ 5) → (0 ≤ p2 ∧ p2 ≤ hT p1) → rg p0) ∧ ((¬ (0 ≤ p1 ∧ p1 ≤ 5) ∨ (¬ (0 ≤ p2 ∧ p2 ≤ hT p1))) → cI w d X_X11_refuse [vR (some 6), vI (-1)] i l (fun r16 i16 l16 => P r16 i16 l16)) ∧ (((0 ≤ p1 ∧ p1 ≤ 5) ∧ ((0 ≤ p2 ∧ p2 ≤ hT p1) ∧ (0 ≤ p0 ∧ p0 < i 7 8))) → ((0 ≤ p0 * 8 + p1 ∧ p0 * 8 + p1 < 80) ∧ (0 ≤ (p0 * 8) + p1 ∧ (p0 * 8) + p1 < 80) ∧ (rg p2) ∧ cI w d X_X11_changed [vR (some 6), vI (i 8 (p0 * 8 + p1))] (u2 i 8 ((p0 * 8) + p1) p2) l (fun r21 i21 l21 => P r21 i21 l21))) ∧ (((0 ≤ p1 ∧ p1 ≤ 5) ∧ ((0 ≤ p2 ∧ p2 ≤ hT p1) ∧ (¬ (0 ≤ p0 ∧ p0 < i 7 8)))) → cI w d X_X11_refuse [vR (some 6), vI (-2)] i l (fun r22 i22 l22 => P r22 i22 l22))))) : gI w d X_X11_put P i l 0 [(0, vR (some 6)), (1, vI p0), (2, vI p1), (3, vI p2)] [] := by
  obtain ⟨ob1, h⟩ := h
  refine g_iload_n (pc' := 1) 2 dX11_put_0 rfl rfl ?_
  refine g_iconst (pc' := 2) dX11_put_1 rfl ?_
  refine g_pSI (pc' := 5) (vs := [vI p1, vI 5]) (st := []) (val := bI (0 ≤ p1 ∧ p1 ≤ 5)) (sp_X11_upTo (le_hd hd rfl) ob1 (rg_lit rfl)) mk_X11_upTo ms_X11_upTo lk_X11_107 rfl (Nat.le_of_ble_eq_true rfl) (Nat.le_of_ble_eq_true rfl) rfl dX11_put_2 rfl z2 (fun rg2 => ?_)
  obtain ⟨hob5, hob7, hob11, hk23, hk24, hk25⟩ := h
  have hk23g : (¬ (0 ≤ p1 ∧ p1 ≤ 5) ∨ (¬ (0 ≤ p2 ∧ p2 ≤ hT p1))) → gI w d X_X11_put P i l 20 [(0, vR (some 6)), (1, vI p0), (2, vI p1), (3, vI p2)] [] := by
    intro hp
    have h := hk23 hp
    refine g_aload_n (pc' := 21) 0 dX11_put_20 rfl rfl ?_
    refine g_iconst (pc' := 22) dX11_put_21 rfl ?_
    refine g_cVI (pc' := 25) (vs := [vI (-1)]) (st := []) (c := 11) h mv_X11_refuse lk_X11_111 rfl rfl rfl rfl (Nat.le_of_ble_eq_true rfl) (Nat.le_of_ble_eq_true rfl) rfl dX11_put_22 rfl z2 (fun r16 i16 l16 rg16 h => ?_)
    exact g_retI rfl rg16 dX11_put_25 h
  have hk24g : ((0 ≤ p1 ∧ p1 ≤ 5) ∧ ((0 ≤ p2 ∧ p2 ≤ hT p1) ∧ (0 ≤ p0 ∧ p0 < i 7 8))) → gI w d X_X11_put P i l 47 [(0, vR (some 6)), (1, vI p0), (2, vI p1), (3, vI p2)] [] := by
    intro hp
    have h := hk24 hp
    obtain ⟨ob17, ob19, ob20, h⟩ := h
    refine g_aload_n (pc' := 48) 0 dX11_put_47 rfl rfl ?_
    refine g_getR (pc' := 51) (o := some 7) fl_X11_10 rfl rfl rfl dX11_put_48 rfl ?_
    refine g_iload_n (pc' := 52) 1 dX11_put_51 rfl rfl ?_
    refine g_iload_n (pc' := 53) 2 dX11_put_52 rfl rfl ?_
    refine g_pVI (pc' := 56) (vs := [vI p0, vI p1]) (st := []) (val := i 8 (p0 * 8 + p1)) (c := 9) (sp_X9_trait (le_hd hd rfl) ob17) mv_X9_trait lk_X11_131 rfl rfl rfl rfl (Nat.le_of_ble_eq_true rfl) (Nat.le_of_ble_eq_true rfl) rfl dX11_put_53 rfl z2 (fun rg18 => ?_)
    refine g_istore (pc' := 58) (L' := [(4, vI (i 8 (p0 * 8 + p1))), (0, vR (some 6)), (1, vI p0), (2, vI p1), (3, vI p2)]) dX11_put_56 rfl (Nat.le_of_ble_eq_true rfl) rfl ?_
    refine g_aload_n (pc' := 59) 1 dX11_put_58 rfl rfl ?_
    refine g_getR (pc' := 62) (o := some 7) fl_X11_10 rfl rfl rfl dX11_put_59 rfl ?_
    refine g_getR (pc' := 65) (o := some 8) fl_X11_135 rfl rfl rfl dX11_put_62 rfl ?_
    refine g_iload_n (pc' := 66) 2 dX11_put_65 rfl rfl ?_
    refine g_bipush (pc' := 68) dX11_put_66 rfl rfl ?_
    refine g_imul (pc' := 69) dX11_put_68 rfl ?_
    refine g_iload_n (pc' := 70) 3 dX11_put_69 rfl rfl ?_
    refine g_iadd (pc' := 71) dX11_put_70 rfl ?_
    refine g_iload_n (pc' := 72) 4 dX11_put_71 rfl rfl ?_
    refine g_iast (pc' := 73) (N := 80) rfl rfl (Nat.lt_of_lt_of_le (Nat.lt_succ_self _) (Nat.le_of_ble_eq_true rfl)) ob19 ob20 dX11_put_72 rfl ?_
    refine g_aload_n (pc' := 74) 1 dX11_put_73 rfl rfl ?_
    refine g_iload (pc' := 76) 0 dX11_put_74 rfl rfl ?_
    refine g_cVI (pc' := 79) (vs := [vI (i 8 (p0 * 8 + p1))]) (st := []) (c := 11) h mv_X11_changed lk_X11_122 rfl rfl rfl rfl (Nat.le_of_ble_eq_true rfl) (Nat.le_of_ble_eq_true rfl) rfl dX11_put_76 rfl z2 (fun r21 i21 l21 rg21 h => ?_)
    exact g_retI rfl rg21 dX11_put_79 h
  have hk25g : ((0 ≤ p1 ∧ p1 ≤ 5) ∧ ((0 ≤ p2 ∧ p2 ≤ hT p1) ∧ (¬ (0 ≤ p0 ∧ p0 < i 7 8)))) → gI w d X_X11_put P i l 40 [(0, vR (some 6)), (1, vI p0), (2, vI p1), (3, vI p2)] [] := by
    intro hp
    have h := hk25 hp
    refine g_aload_n (pc' := 41) 0 dX11_put_40 rfl rfl ?_
    refine g_bipush (pc' := 43) dX11_put_41 rfl rfl ?_
    refine g_cVI (pc' := 46) (vs := [vI (-2)]) (st := []) (c := 11) h mv_X11_refuse lk_X11_111 rfl rfl rfl rfl (Nat.le_of_ble_eq_true rfl) (Nat.le_of_ble_eq_true rfl) rfl dX11_put_43 rfl z2 (fun r22 i22 l22 rg22 h => ?_)
    exact g_retI rfl rg22 dX11_put_46 h
  refine g_if_eq (tgt := 20) (pc' := 8) rg2 (bI_eq _) dX11_put_5 rfl rfl (fun c4 => ?_) (fun c4n => ?_)
  · exact hk23g (Or.inl c4)
  · have c4 := Decidable.of_not_not c4n
    refine g_iload_n (pc' := 9) 3 dX11_put_8 rfl rfl ?_
    refine g_stat1 (pc' := 12) st_X11_125 dX11_put_9 rfl ?_
    refine g_iload_n (pc' := 13) 2 dX11_put_12 rfl rfl ?_
    refine g_xald1 (pc' := 14) (hob5 c4) dX11_put_13 rfl (fun rg6 => ?_)
    refine g_pSI (pc' := 17) (vs := [vI p2, vI (hT p1)]) (st := []) (val := bI (0 ≤ p2 ∧ p2 ≤ hT p1)) (sp_X11_upTo (le_hd hd rfl) (hob7 c4) rg6) mk_X11_upTo ms_X11_upTo lk_X11_107 rfl (Nat.le_of_ble_eq_true rfl) (Nat.le_of_ble_eq_true rfl) rfl dX11_put_14 rfl z2 (fun rg8 => ?_)
    refine g_if_ne (tgt := 26) (pc' := 20) rg8 (bI_eq _) dX11_put_17 rfl rfl (fun c9n => ?_) (fun c9 => ?_)
    · have c9 := Decidable.of_not_not c9n
      refine g_iload_n (pc' := 27) 1 dX11_put_26 rfl rfl ?_
      refine g_aload_n (pc' := 28) 0 dX11_put_27 rfl rfl ?_
      refine g_getR (pc' := 31) (o := some 7) fl_X11_10 rfl rfl rfl dX11_put_28 rfl ?_
      refine g_getI (pc' := 34) (z := 8) rfl fl_X11_115 rfl rfl dX11_put_31 rfl (fun rg10 => ?_)
      refine g_pSI (pc' := 37) (vs := [vI p0, vI (i 7 8)]) (st := []) (val := bI (0 ≤ p0 ∧ p0 < i 7 8)) (sp_X11_below (le_hd hd rfl) (hob11 c4 c9) rg10) mk_X11_below ms_X11_below lk_X11_128 rfl (Nat.le_of_ble_eq_true rfl) (Nat.le_of_ble_eq_true rfl) rfl dX11_put_34 rfl z2 (fun rg12 => ?_)
      refine g_if_ne (tgt := 47) (pc' := 40) rg12 (bI_eq _) dX11_put_37 rfl rfl (fun c13n => ?_) (fun c13 => ?_)
      · have c13 := Decidable.of_not_not c13n
        exact hk24g ⟨c4, ⟨c9, c13⟩⟩
      · exact hk25g ⟨c4, ⟨c9, c13⟩⟩
    · exact hk23g (Or.inr c9)
theorem e_X11_put {w : Wd} {d : Nat} {P : Int → IM → LM → Prop} {i : IM} {l : LM} {p0 : Int} {p1 : Int} {p2 : Int}  (h : gI w d X_X11_put P i l 0 [(0, vR (some 6)), (1, vI p0), (2, vI p1), (3, vI p2)] []) : cI w (d + 1) X_X11_put [vR (some 6), vI p0, vI p1, vI p2] i l P := CI_of (by decide +kernel) (Nat.le_of_ble_eq_true rfl) h

theorem dX11_bloom_0 : decode cX11_bloom 0 = .ok (.iload_n 2, 1) := by decide +kernel
theorem dX11_bloom_1 : decode cX11_bloom 1 = .ok (.sipush 4095, 3) := by decide +kernel
theorem dX11_bloom_4 : decode cX11_bloom 4 = .ok (.invokestatic 107, 3) := by decide +kernel
theorem dX11_bloom_7 : decode cX11_bloom 7 = .ok (.ifCond .eq 12, 3) := by decide +kernel
theorem dX11_bloom_10 : decode cX11_bloom 10 = .ok (.iload_n 3, 1) := by decide +kernel
theorem dX11_bloom_11 : decode cX11_bloom 11 = .ok (.bipush 7, 2) := by decide +kernel
theorem dX11_bloom_13 : decode cX11_bloom 13 = .ok (.invokestatic 107, 3) := by decide +kernel
theorem dX11_bloom_16 : decode cX11_bloom 16 = .ok (.ifCond .ne 9, 3) := by decide +kernel
theorem dX11_bloom_19 : decode cX11_bloom 19 = .ok (.aload_n 0, 1) := by decide +kernel
theorem dX11_bloom_20 : decode cX11_bloom 20 = .ok (.iconst (-1), 1) := by decide +kernel
theorem dX11_bloom_21 : decode cX11_bloom 21 = .ok (.invokevirtual 111, 3) := by decide +kernel
theorem dX11_bloom_24 : decode cX11_bloom 24 = .ok (.ireturn, 1) := by decide +kernel
theorem dX11_bloom_25 : decode cX11_bloom 25 = .ok (.iload_n 1, 1) := by decide +kernel
theorem dX11_bloom_26 : decode cX11_bloom 26 = .ok (.aload_n 0, 1) := by decide +kernel
theorem dX11_bloom_27 : decode cX11_bloom 27 = .ok (.getfield 10, 3) := by decide +kernel
theorem dX11_bloom_30 : decode cX11_bloom 30 = .ok (.getfield 115, 3) := by decide +kernel
theorem dX11_bloom_33 : decode cX11_bloom 33 = .ok (.invokestatic 128, 3) := by decide +kernel
theorem dX11_bloom_36 : decode cX11_bloom 36 = .ok (.ifCond .ne 10, 3) := by decide +kernel
theorem dX11_bloom_39 : decode cX11_bloom 39 = .ok (.aload_n 0, 1) := by decide +kernel
theorem dX11_bloom_40 : decode cX11_bloom 40 = .ok (.bipush (-2), 2) := by decide +kernel
theorem dX11_bloom_42 : decode cX11_bloom 42 = .ok (.invokevirtual 111, 3) := by decide +kernel
theorem dX11_bloom_45 : decode cX11_bloom 45 = .ok (.ireturn, 1) := by decide +kernel
theorem dX11_bloom_46 : decode cX11_bloom 46 = .ok (.aload_n 0, 1) := by decide +kernel
theorem dX11_bloom_47 : decode cX11_bloom 47 = .ok (.getfield 10, 3) := by decide +kernel
theorem dX11_bloom_50 : decode cX11_bloom 50 = .ok (.getfield 135, 3) := by decide +kernel
theorem dX11_bloom_53 : decode cX11_bloom 53 = .ok (.iload_n 1, 1) := by decide +kernel
theorem dX11_bloom_54 : decode cX11_bloom 54 = .ok (.bipush 8, 2) := by decide +kernel
theorem dX11_bloom_56 : decode cX11_bloom 56 = .ok (.imul, 1) := by decide +kernel
theorem dX11_bloom_57 : decode cX11_bloom 57 = .ok (.bipush 6, 2) := by decide +kernel
theorem dX11_bloom_59 : decode cX11_bloom 59 = .ok (.iadd, 1) := by decide +kernel
theorem dX11_bloom_60 : decode cX11_bloom 60 = .ok (.iload_n 2, 1) := by decide +kernel
theorem dX11_bloom_61 : decode cX11_bloom 61 = .ok (.iastore, 1) := by decide +kernel
theorem dX11_bloom_62 : decode cX11_bloom 62 = .ok (.aload_n 0, 1) := by decide +kernel
theorem dX11_bloom_63 : decode cX11_bloom 63 = .ok (.getfield 10, 3) := by decide +kernel
theorem dX11_bloom_66 : decode cX11_bloom 66 = .ok (.getfield 135, 3) := by decide +kernel
theorem dX11_bloom_69 : decode cX11_bloom 69 = .ok (.iload_n 1, 1) := by decide +kernel
theorem dX11_bloom_70 : decode cX11_bloom 70 = .ok (.bipush 8, 2) := by decide +kernel
theorem dX11_bloom_72 : decode cX11_bloom 72 = .ok (.imul, 1) := by decide +kernel
theorem dX11_bloom_73 : decode cX11_bloom 73 = .ok (.bipush 7, 2) := by decide +kernel
theorem dX11_bloom_75 : decode cX11_bloom 75 = .ok (.iadd, 1) := by decide +kernel
theorem dX11_bloom_76 : decode cX11_bloom 76 = .ok (.iload_n 3, 1) := by decide +kernel
theorem dX11_bloom_77 : decode cX11_bloom 77 = .ok (.iastore, 1) := by decide +kernel
theorem dX11_bloom_78 : decode cX11_bloom 78 = .ok (.aload_n 0, 1) := by decide +kernel
theorem dX11_bloom_79 : decode cX11_bloom 79 = .ok (.iconst 0, 1) := by decide +kernel
theorem dX11_bloom_80 : decode cX11_bloom 80 = .ok (.invokevirtual 122, 3) := by decide +kernel
theorem dX11_bloom_83 : decode cX11_bloom 83 = .ok (.ireturn, 1) := by decide +kernel
set_option maxRecDepth 20000 in
theorem s_X11_bloom {w : Wd} {d : Nat} {P : Int → IM → LM → Prop} {i : IM} {l : LM} (p0 : Int) (p1 : Int) (p2 : Int)  (hd : 1 ≤ d) (h : ((rg p1) ∧ (((0 ≤ p1 ∧ p1 ≤ 4095) → rg p2) ∧ ((0 ≤ p1 ∧ p1 ≤ 4095) → (0 ≤ p2 ∧ p2 ≤ 7) → rg p0) ∧ ((¬ (0 ≤ p1 ∧ p1 ≤ 4095) ∨ (¬ (0 ≤ p2 ∧ p2 ≤ 7))) → cI w d X_X11_refuse [vR (some 6), vI (-1)] i l (fun r12 i12 l12 => P r12 i12 l12)) ∧ (((0 ≤ p1 ∧ p1 ≤ 4095) ∧ ((0 ≤ p2 ∧ p2 ≤ 7) ∧ (0 ≤ p0 ∧ p0 < i 7 8))) → ((0 ≤ (p0 * 8) + 6 ∧ (p0 * 8) + 6 < 80) ∧ (0 ≤ (p0 * 8) + 7 ∧ (p0 * 8) + 7 < 80) ∧ (rg p2) ∧ cI w d X_X11_changed [vR (some 6), vI 0] (u2 (u2 i 8 ((p0 * 8) + 6) p1) 8 ((p0 * 8) + 7) p2) l (fun r16 i16 l16 => P r16 i16 l16))) ∧ (((0 ≤ p1 ∧ p1 ≤ 4095) ∧ ((0 ≤ p2 ∧ p2 ≤ 7) ∧ (¬ (0 ≤ p0 ∧ p0 < i 7 8)))) → cI w d X_X11_refuse [vR (some 6), vI (-2)] i l (fun r17 i17 l17 => P r17 i17 l17))))) : gI w d X_X11_bloom P i l 0 [(0, vR (some 6)), (1, vI p0), (2, vI p1), (3, vI p2)] [] := by
  obtain ⟨ob1, h⟩ := h
  refine g_iload_n (pc' := 1) 2 dX11_bloom_0 rfl rfl ?_
  refine g_sipush (pc' := 4) dX11_bloom_1 rfl rfl ?_
  refine g_pSI (pc' := 7) (vs := [vI p1, vI 4095]) (st := []) (val := bI (0 ≤ p1 ∧ p1 ≤ 4095)) (sp_X11_upTo (le_hd hd rfl) ob1 (rg_lit rfl)) mk_X11_upTo ms_X11_upTo lk_X11_107 rfl (Nat.le_of_ble_eq_true rfl) (Nat.le_of_ble_eq_true rfl) rfl dX11_bloom_4 rfl z2 (fun rg2 => ?_)
  obtain ⟨hob5, hob9, hk18, hk19, hk20⟩ := h
  have hk18g : (¬ (0 ≤ p1 ∧ p1 ≤ 4095) ∨ (¬ (0 ≤ p2 ∧ p2 ≤ 7))) → gI w d X_X11_bloom P i l 19 [(0, vR (some 6)), (1, vI p0), (2, vI p1), (3, vI p2)] [] := by
    intro hp
    have h := hk18 hp
    refine g_aload_n (pc' := 20) 0 dX11_bloom_19 rfl rfl ?_
    refine g_iconst (pc' := 21) dX11_bloom_20 rfl ?_
    refine g_cVI (pc' := 24) (vs := [vI (-1)]) (st := []) (c := 11) h mv_X11_refuse lk_X11_111 rfl rfl rfl rfl (Nat.le_of_ble_eq_true rfl) (Nat.le_of_ble_eq_true rfl) rfl dX11_bloom_21 rfl z2 (fun r12 i12 l12 rg12 h => ?_)
    exact g_retI rfl rg12 dX11_bloom_24 h
  have hk19g : ((0 ≤ p1 ∧ p1 ≤ 4095) ∧ ((0 ≤ p2 ∧ p2 ≤ 7) ∧ (0 ≤ p0 ∧ p0 < i 7 8))) → gI w d X_X11_bloom P i l 46 [(0, vR (some 6)), (1, vI p0), (2, vI p1), (3, vI p2)] [] := by
    intro hp
    have h := hk19 hp
    obtain ⟨ob13, ob14, ob15, h⟩ := h
    refine g_aload_n (pc' := 47) 0 dX11_bloom_46 rfl rfl ?_
    refine g_getR (pc' := 50) (o := some 7) fl_X11_10 rfl rfl rfl dX11_bloom_47 rfl ?_
    refine g_getR (pc' := 53) (o := some 8) fl_X11_135 rfl rfl rfl dX11_bloom_50 rfl ?_
    refine g_iload_n (pc' := 54) 1 dX11_bloom_53 rfl rfl ?_
    refine g_bipush (pc' := 56) dX11_bloom_54 rfl rfl ?_
    refine g_imul (pc' := 57) dX11_bloom_56 rfl ?_
    refine g_bipush (pc' := 59) dX11_bloom_57 rfl rfl ?_
    refine g_iadd (pc' := 60) dX11_bloom_59 rfl ?_
    refine g_iload_n (pc' := 61) 2 dX11_bloom_60 rfl rfl ?_
    refine g_iast (pc' := 62) (N := 80) rfl rfl (Nat.lt_of_lt_of_le (Nat.lt_succ_self _) (Nat.le_of_ble_eq_true rfl)) ob13 ob1 dX11_bloom_61 rfl ?_
    refine g_aload_n (pc' := 63) 0 dX11_bloom_62 rfl rfl ?_
    refine g_getR (pc' := 66) (o := some 7) fl_X11_10 rfl rfl rfl dX11_bloom_63 rfl ?_
    refine g_getR (pc' := 69) (o := some 8) fl_X11_135 rfl rfl rfl dX11_bloom_66 rfl ?_
    refine g_iload_n (pc' := 70) 1 dX11_bloom_69 rfl rfl ?_
    refine g_bipush (pc' := 72) dX11_bloom_70 rfl rfl ?_
    refine g_imul (pc' := 73) dX11_bloom_72 rfl ?_
    refine g_bipush (pc' := 75) dX11_bloom_73 rfl rfl ?_
    refine g_iadd (pc' := 76) dX11_bloom_75 rfl ?_
    refine g_iload_n (pc' := 77) 3 dX11_bloom_76 rfl rfl ?_
    refine g_iast (pc' := 78) (N := 80) rfl rfl (Nat.lt_of_lt_of_le (Nat.lt_succ_self _) (Nat.le_of_ble_eq_true rfl)) ob14 ob15 dX11_bloom_77 rfl ?_
    refine g_aload_n (pc' := 79) 0 dX11_bloom_78 rfl rfl ?_
    refine g_iconst (pc' := 80) dX11_bloom_79 rfl ?_
    refine g_cVI (pc' := 83) (vs := [vI 0]) (st := []) (c := 11) h mv_X11_changed lk_X11_122 rfl rfl rfl rfl (Nat.le_of_ble_eq_true rfl) (Nat.le_of_ble_eq_true rfl) rfl dX11_bloom_80 rfl z2 (fun r16 i16 l16 rg16 h => ?_)
    exact g_retI rfl rg16 dX11_bloom_83 h
  have hk20g : ((0 ≤ p1 ∧ p1 ≤ 4095) ∧ ((0 ≤ p2 ∧ p2 ≤ 7) ∧ (¬ (0 ≤ p0 ∧ p0 < i 7 8)))) → gI w d X_X11_bloom P i l 39 [(0, vR (some 6)), (1, vI p0), (2, vI p1), (3, vI p2)] [] := by
    intro hp
    have h := hk20 hp
    refine g_aload_n (pc' := 40) 0 dX11_bloom_39 rfl rfl ?_
    refine g_bipush (pc' := 42) dX11_bloom_40 rfl rfl ?_
    refine g_cVI (pc' := 45) (vs := [vI (-2)]) (st := []) (c := 11) h mv_X11_refuse lk_X11_111 rfl rfl rfl rfl (Nat.le_of_ble_eq_true rfl) (Nat.le_of_ble_eq_true rfl) rfl dX11_bloom_42 rfl z2 (fun r17 i17 l17 rg17 h => ?_)
    exact g_retI rfl rg17 dX11_bloom_45 h
  refine g_if_eq (tgt := 19) (pc' := 10) rg2 (bI_eq _) dX11_bloom_7 rfl rfl (fun c4 => ?_) (fun c4n => ?_)
  · exact hk18g (Or.inl c4)
  · have c4 := Decidable.of_not_not c4n
    refine g_iload_n (pc' := 11) 3 dX11_bloom_10 rfl rfl ?_
    refine g_bipush (pc' := 13) dX11_bloom_11 rfl rfl ?_
    refine g_pSI (pc' := 16) (vs := [vI p2, vI 7]) (st := []) (val := bI (0 ≤ p2 ∧ p2 ≤ 7)) (sp_X11_upTo (le_hd hd rfl) (hob5 c4) (rg_lit rfl)) mk_X11_upTo ms_X11_upTo lk_X11_107 rfl (Nat.le_of_ble_eq_true rfl) (Nat.le_of_ble_eq_true rfl) rfl dX11_bloom_13 rfl z2 (fun rg6 => ?_)
    refine g_if_ne (tgt := 25) (pc' := 19) rg6 (bI_eq _) dX11_bloom_16 rfl rfl (fun c7n => ?_) (fun c7 => ?_)
    · have c7 := Decidable.of_not_not c7n
      refine g_iload_n (pc' := 26) 1 dX11_bloom_25 rfl rfl ?_
      refine g_aload_n (pc' := 27) 0 dX11_bloom_26 rfl rfl ?_
      refine g_getR (pc' := 30) (o := some 7) fl_X11_10 rfl rfl rfl dX11_bloom_27 rfl ?_
      refine g_getI (pc' := 33) (z := 8) rfl fl_X11_115 rfl rfl dX11_bloom_30 rfl (fun rg8 => ?_)
      refine g_pSI (pc' := 36) (vs := [vI p0, vI (i 7 8)]) (st := []) (val := bI (0 ≤ p0 ∧ p0 < i 7 8)) (sp_X11_below (le_hd hd rfl) (hob9 c4 c7) rg8) mk_X11_below ms_X11_below lk_X11_128 rfl (Nat.le_of_ble_eq_true rfl) (Nat.le_of_ble_eq_true rfl) rfl dX11_bloom_33 rfl z2 (fun rg10 => ?_)
      refine g_if_ne (tgt := 46) (pc' := 39) rg10 (bI_eq _) dX11_bloom_36 rfl rfl (fun c11n => ?_) (fun c11 => ?_)
      · have c11 := Decidable.of_not_not c11n
        exact hk19g ⟨c4, ⟨c7, c11⟩⟩
      · exact hk20g ⟨c4, ⟨c7, c11⟩⟩
    · exact hk18g (Or.inr c7)
theorem e_X11_bloom {w : Wd} {d : Nat} {P : Int → IM → LM → Prop} {i : IM} {l : LM} {p0 : Int} {p1 : Int} {p2 : Int}  (h : gI w d X_X11_bloom P i l 0 [(0, vR (some 6)), (1, vI p0), (2, vI p1), (3, vI p2)] []) : cI w (d + 1) X_X11_bloom [vR (some 6), vI p0, vI p1, vI p2] i l P := CI_of (by decide +kernel) (Nat.le_of_ble_eq_true rfl) h

theorem dX11_window_0 : decode cX11_window 0 = .ok (.iload_n 1, 1) := by decide +kernel
theorem dX11_window_1 : decode cX11_window 1 = .ok (.sipush 1023, 3) := by decide +kernel
theorem dX11_window_4 : decode cX11_window 4 = .ok (.invokestatic 107, 3) := by decide +kernel
theorem dX11_window_7 : decode cX11_window 7 = .ok (.ifCond .eq 22, 3) := by decide +kernel
theorem dX11_window_10 : decode cX11_window 10 = .ok (.iload_n 2, 1) := by decide +kernel
theorem dX11_window_11 : decode cX11_window 11 = .ok (.sipush 1023, 3) := by decide +kernel
theorem dX11_window_14 : decode cX11_window 14 = .ok (.invokestatic 107, 3) := by decide +kernel
theorem dX11_window_17 : decode cX11_window 17 = .ok (.ifCond .eq 12, 3) := by decide +kernel
theorem dX11_window_20 : decode cX11_window 20 = .ok (.iload_n 3, 1) := by decide +kernel
theorem dX11_window_21 : decode cX11_window 21 = .ok (.bipush 99, 2) := by decide +kernel
theorem dX11_window_23 : decode cX11_window 23 = .ok (.invokestatic 107, 3) := by decide +kernel
theorem dX11_window_26 : decode cX11_window 26 = .ok (.ifCond .ne 9, 3) := by decide +kernel
theorem dX11_window_29 : decode cX11_window 29 = .ok (.aload_n 0, 1) := by decide +kernel
theorem dX11_window_30 : decode cX11_window 30 = .ok (.iconst (-1), 1) := by decide +kernel
theorem dX11_window_31 : decode cX11_window 31 = .ok (.invokevirtual 111, 3) := by decide +kernel
theorem dX11_window_34 : decode cX11_window 34 = .ok (.ireturn, 1) := by decide +kernel
theorem dX11_window_35 : decode cX11_window 35 = .ok (.aload_n 0, 1) := by decide +kernel
theorem dX11_window_36 : decode cX11_window 36 = .ok (.getfield 10, 3) := by decide +kernel
theorem dX11_window_39 : decode cX11_window 39 = .ok (.getfield 138, 3) := by decide +kernel
theorem dX11_window_42 : decode cX11_window 42 = .ok (.bipush 8, 2) := by decide +kernel
theorem dX11_window_44 : decode cX11_window 44 = .ok (.if_icmp .lt 10, 3) := by decide +kernel
theorem dX11_window_47 : decode cX11_window 47 = .ok (.aload_n 0, 1) := by decide +kernel
theorem dX11_window_48 : decode cX11_window 48 = .ok (.bipush (-5), 2) := by decide +kernel
theorem dX11_window_50 : decode cX11_window 50 = .ok (.invokevirtual 111, 3) := by decide +kernel
theorem dX11_window_53 : decode cX11_window 53 = .ok (.ireturn, 1) := by decide +kernel
theorem dX11_window_54 : decode cX11_window 54 = .ok (.aload_n 0, 1) := by decide +kernel
theorem dX11_window_55 : decode cX11_window 55 = .ok (.aload_n 0, 1) := by decide +kernel
theorem dX11_window_56 : decode cX11_window 56 = .ok (.getfield 10, 3) := by decide +kernel
theorem dX11_window_59 : decode cX11_window 59 = .ok (.iload_n 1, 1) := by decide +kernel
theorem dX11_window_60 : decode cX11_window 60 = .ok (.iload_n 2, 1) := by decide +kernel
theorem dX11_window_61 : decode cX11_window 61 = .ok (.iload_n 3, 1) := by decide +kernel
theorem dX11_window_62 : decode cX11_window 62 = .ok (.invokevirtual 141, 3) := by decide +kernel
theorem dX11_window_65 : decode cX11_window 65 = .ok (.invokevirtual 122, 3) := by decide +kernel
theorem dX11_window_68 : decode cX11_window 68 = .ok (.ireturn, 1) := by decide +kernel
set_option maxRecDepth 20000 in
theorem s_X11_window {w : Wd} {d : Nat} {P : Int → IM → LM → Prop} {i : IM} {l : LM} (p0 : Int) (p1 : Int) (p2 : Int)  (hd : 1 ≤ d) (h : ((rg p0) ∧ (((0 ≤ p0 ∧ p0 ≤ 1023) → rg p1) ∧ ((0 ≤ p0 ∧ p0 ≤ 1023) → (0 ≤ p1 ∧ p1 ≤ 1023) → rg p2) ∧ ((¬ (0 ≤ p0 ∧ p0 ≤ 1023) ∨ (¬ (0 ≤ p1 ∧ p1 ≤ 1023) ∨ (¬ (0 ≤ p2 ∧ p2 ≤ 99)))) → cI w d X_X11_refuse [vR (some 6), vI (-1)] i l (fun r13 i13 l13 => P r13 i13 l13)) ∧ (((0 ≤ p0 ∧ p0 ≤ 1023) ∧ ((0 ≤ p1 ∧ p1 ≤ 1023) ∧ ((0 ≤ p2 ∧ p2 ≤ 99) ∧ (i 7 9 < 8)))) → cI w d X_X9_addWindow [vR (some 7), vI p0, vI p1, vI p2] i l (fun r14 i14 l14 => cI w d X_X11_changed [vR (some 6), vI r14] i14 l14 (fun r15 i15 l15 => P r15 i15 l15))) ∧ (((0 ≤ p0 ∧ p0 ≤ 1023) ∧ ((0 ≤ p1 ∧ p1 ≤ 1023) ∧ ((0 ≤ p2 ∧ p2 ≤ 99) ∧ (¬ (i 7 9 < 8))))) → cI w d X_X11_refuse [vR (some 6), vI (-5)] i l (fun r16 i16 l16 => P r16 i16 l16))))) : gI w d X_X11_window P i l 0 [(0, vR (some 6)), (1, vI p0), (2, vI p1), (3, vI p2)] [] := by
  obtain ⟨ob1, h⟩ := h
  refine g_iload_n (pc' := 1) 1 dX11_window_0 rfl rfl ?_
  refine g_sipush (pc' := 4) dX11_window_1 rfl rfl ?_
  refine g_pSI (pc' := 7) (vs := [vI p0, vI 1023]) (st := []) (val := bI (0 ≤ p0 ∧ p0 ≤ 1023)) (sp_X11_upTo (le_hd hd rfl) ob1 (rg_lit rfl)) mk_X11_upTo ms_X11_upTo lk_X11_107 rfl (Nat.le_of_ble_eq_true rfl) (Nat.le_of_ble_eq_true rfl) rfl dX11_window_4 rfl z2 (fun rg2 => ?_)
  obtain ⟨hob5, hob8, hk17, hk18, hk19⟩ := h
  have hk17g : (¬ (0 ≤ p0 ∧ p0 ≤ 1023) ∨ (¬ (0 ≤ p1 ∧ p1 ≤ 1023) ∨ (¬ (0 ≤ p2 ∧ p2 ≤ 99)))) → gI w d X_X11_window P i l 29 [(0, vR (some 6)), (1, vI p0), (2, vI p1), (3, vI p2)] [] := by
    intro hp
    have h := hk17 hp
    refine g_aload_n (pc' := 30) 0 dX11_window_29 rfl rfl ?_
    refine g_iconst (pc' := 31) dX11_window_30 rfl ?_
    refine g_cVI (pc' := 34) (vs := [vI (-1)]) (st := []) (c := 11) h mv_X11_refuse lk_X11_111 rfl rfl rfl rfl (Nat.le_of_ble_eq_true rfl) (Nat.le_of_ble_eq_true rfl) rfl dX11_window_31 rfl z2 (fun r13 i13 l13 rg13 h => ?_)
    exact g_retI rfl rg13 dX11_window_34 h
  have hk18g : ((0 ≤ p0 ∧ p0 ≤ 1023) ∧ ((0 ≤ p1 ∧ p1 ≤ 1023) ∧ ((0 ≤ p2 ∧ p2 ≤ 99) ∧ (i 7 9 < 8)))) → gI w d X_X11_window P i l 54 [(0, vR (some 6)), (1, vI p0), (2, vI p1), (3, vI p2)] [] := by
    intro hp
    have h := hk18 hp
    refine g_aload_n (pc' := 55) 0 dX11_window_54 rfl rfl ?_
    refine g_aload_n (pc' := 56) 0 dX11_window_55 rfl rfl ?_
    refine g_getR (pc' := 59) (o := some 7) fl_X11_10 rfl rfl rfl dX11_window_56 rfl ?_
    refine g_iload_n (pc' := 60) 1 dX11_window_59 rfl rfl ?_
    refine g_iload_n (pc' := 61) 2 dX11_window_60 rfl rfl ?_
    refine g_iload_n (pc' := 62) 3 dX11_window_61 rfl rfl ?_
    refine g_cVI (pc' := 65) (vs := [vI p0, vI p1, vI p2]) (st := [vR (some 6)]) (c := 9) h mv_X9_addWindow lk_X11_141 rfl rfl rfl rfl (Nat.le_of_ble_eq_true rfl) (Nat.le_of_ble_eq_true rfl) rfl dX11_window_62 rfl z2 (fun r14 i14 l14 rg14 h => ?_)
    refine g_cVI (pc' := 68) (vs := [vI r14]) (st := []) (c := 11) h mv_X11_changed lk_X11_122 rfl rfl rfl rfl (Nat.le_of_ble_eq_true rfl) (Nat.le_of_ble_eq_true rfl) rfl dX11_window_65 rfl z2 (fun r15 i15 l15 rg15 h => ?_)
    exact g_retI rfl rg15 dX11_window_68 h
  have hk19g : ((0 ≤ p0 ∧ p0 ≤ 1023) ∧ ((0 ≤ p1 ∧ p1 ≤ 1023) ∧ ((0 ≤ p2 ∧ p2 ≤ 99) ∧ (¬ (i 7 9 < 8))))) → gI w d X_X11_window P i l 47 [(0, vR (some 6)), (1, vI p0), (2, vI p1), (3, vI p2)] [] := by
    intro hp
    have h := hk19 hp
    refine g_aload_n (pc' := 48) 0 dX11_window_47 rfl rfl ?_
    refine g_bipush (pc' := 50) dX11_window_48 rfl rfl ?_
    refine g_cVI (pc' := 53) (vs := [vI (-5)]) (st := []) (c := 11) h mv_X11_refuse lk_X11_111 rfl rfl rfl rfl (Nat.le_of_ble_eq_true rfl) (Nat.le_of_ble_eq_true rfl) rfl dX11_window_50 rfl z2 (fun r16 i16 l16 rg16 h => ?_)
    exact g_retI rfl rg16 dX11_window_53 h
  refine g_if_eq (tgt := 29) (pc' := 10) rg2 (bI_eq _) dX11_window_7 rfl rfl (fun c4 => ?_) (fun c4n => ?_)
  · exact hk17g (Or.inl c4)
  · have c4 := Decidable.of_not_not c4n
    refine g_iload_n (pc' := 11) 2 dX11_window_10 rfl rfl ?_
    refine g_sipush (pc' := 14) dX11_window_11 rfl rfl ?_
    refine g_pSI (pc' := 17) (vs := [vI p1, vI 1023]) (st := []) (val := bI (0 ≤ p1 ∧ p1 ≤ 1023)) (sp_X11_upTo (le_hd hd rfl) (hob5 c4) (rg_lit rfl)) mk_X11_upTo ms_X11_upTo lk_X11_107 rfl (Nat.le_of_ble_eq_true rfl) (Nat.le_of_ble_eq_true rfl) rfl dX11_window_14 rfl z2 (fun rg6 => ?_)
    refine g_if_eq (tgt := 29) (pc' := 20) rg6 (bI_eq _) dX11_window_17 rfl rfl (fun c7 => ?_) (fun c7n => ?_)
    · exact hk17g (Or.inr (Or.inl c7))
    · have c7 := Decidable.of_not_not c7n
      refine g_iload_n (pc' := 21) 3 dX11_window_20 rfl rfl ?_
      refine g_bipush (pc' := 23) dX11_window_21 rfl rfl ?_
      refine g_pSI (pc' := 26) (vs := [vI p2, vI 99]) (st := []) (val := bI (0 ≤ p2 ∧ p2 ≤ 99)) (sp_X11_upTo (le_hd hd rfl) (hob8 c4 c7) (rg_lit rfl)) mk_X11_upTo ms_X11_upTo lk_X11_107 rfl (Nat.le_of_ble_eq_true rfl) (Nat.le_of_ble_eq_true rfl) rfl dX11_window_23 rfl z2 (fun rg9 => ?_)
      refine g_if_ne (tgt := 35) (pc' := 29) rg9 (bI_eq _) dX11_window_26 rfl rfl (fun c10n => ?_) (fun c10 => ?_)
      · have c10 := Decidable.of_not_not c10n
        refine g_aload_n (pc' := 36) 0 dX11_window_35 rfl rfl ?_
        refine g_getR (pc' := 39) (o := some 7) fl_X11_10 rfl rfl rfl dX11_window_36 rfl ?_
        refine g_getI (pc' := 42) (z := 9) rfl fl_X11_138 rfl rfl dX11_window_39 rfl (fun rg11 => ?_)
        refine g_bipush (pc' := 44) dX11_window_42 rfl rfl ?_
        refine g_icmp_lt (tgt := 54) (pc' := 47) rg11 (rg_lit rfl) Iff.rfl dX11_window_44 rfl rfl (fun c12 => ?_) (fun c12 => ?_)
        · exact hk18g ⟨c4, ⟨c7, ⟨c10, c12⟩⟩⟩
        · exact hk19g ⟨c4, ⟨c7, ⟨c10, c12⟩⟩⟩
      · exact hk17g (Or.inr (Or.inr c10))
theorem e_X11_window {w : Wd} {d : Nat} {P : Int → IM → LM → Prop} {i : IM} {l : LM} {p0 : Int} {p1 : Int} {p2 : Int}  (h : gI w d X_X11_window P i l 0 [(0, vR (some 6)), (1, vI p0), (2, vI p1), (3, vI p2)] []) : cI w (d + 1) X_X11_window [vR (some 6), vI p0, vI p1, vI p2] i l P := CI_of (by decide +kernel) (Nat.le_of_ble_eq_true rfl) h

theorem dX11_turn_0 : decode cX11_turn 0 = .ok (.iload_n 2, 1) := by decide +kernel
theorem dX11_turn_1 : decode cX11_turn 1 = .ok (.iconst 2, 1) := by decide +kernel
theorem dX11_turn_2 : decode cX11_turn 2 = .ok (.invokestatic 107, 3) := by decide +kernel
theorem dX11_turn_5 : decode cX11_turn 5 = .ok (.ifCond .eq 15, 3) := by decide +kernel
theorem dX11_turn_8 : decode cX11_turn 8 = .ok (.iload_n 3, 1) := by decide +kernel
theorem dX11_turn_9 : decode cX11_turn 9 = .ok (.getstatic 145, 3) := by decide +kernel
theorem dX11_turn_12 : decode cX11_turn 12 = .ok (.iload_n 2, 1) := by decide +kernel
theorem dX11_turn_13 : decode cX11_turn 13 = .ok (.iaload, 1) := by decide +kernel
theorem dX11_turn_14 : decode cX11_turn 14 = .ok (.invokestatic 107, 3) := by decide +kernel
theorem dX11_turn_17 : decode cX11_turn 17 = .ok (.ifCond .ne 9, 3) := by decide +kernel
theorem dX11_turn_20 : decode cX11_turn 20 = .ok (.aload_n 0, 1) := by decide +kernel
theorem dX11_turn_21 : decode cX11_turn 21 = .ok (.iconst (-1), 1) := by decide +kernel
theorem dX11_turn_22 : decode cX11_turn 22 = .ok (.invokevirtual 111, 3) := by decide +kernel
theorem dX11_turn_25 : decode cX11_turn 25 = .ok (.ireturn, 1) := by decide +kernel
theorem dX11_turn_26 : decode cX11_turn 26 = .ok (.iload_n 1, 1) := by decide +kernel
theorem dX11_turn_27 : decode cX11_turn 27 = .ok (.aload_n 0, 1) := by decide +kernel
theorem dX11_turn_28 : decode cX11_turn 28 = .ok (.getfield 10, 3) := by decide +kernel
theorem dX11_turn_31 : decode cX11_turn 31 = .ok (.getfield 138, 3) := by decide +kernel
theorem dX11_turn_34 : decode cX11_turn 34 = .ok (.invokestatic 128, 3) := by decide +kernel
theorem dX11_turn_37 : decode cX11_turn 37 = .ok (.ifCond .ne 10, 3) := by decide +kernel
theorem dX11_turn_40 : decode cX11_turn 40 = .ok (.aload_n 0, 1) := by decide +kernel
theorem dX11_turn_41 : decode cX11_turn 41 = .ok (.bipush (-2), 2) := by decide +kernel
theorem dX11_turn_43 : decode cX11_turn 43 = .ok (.invokevirtual 111, 3) := by decide +kernel
theorem dX11_turn_46 : decode cX11_turn 46 = .ok (.ireturn, 1) := by decide +kernel
theorem dX11_turn_47 : decode cX11_turn 47 = .ok (.aload_n 0, 1) := by decide +kernel
theorem dX11_turn_48 : decode cX11_turn 48 = .ok (.getfield 10, 3) := by decide +kernel
theorem dX11_turn_51 : decode cX11_turn 51 = .ok (.iload_n 1, 1) := by decide +kernel
theorem dX11_turn_52 : decode cX11_turn 52 = .ok (.iload_n 2, 1) := by decide +kernel
theorem dX11_turn_53 : decode cX11_turn 53 = .ok (.invokevirtual 148, 3) := by decide +kernel
theorem dX11_turn_56 : decode cX11_turn 56 = .ok (.istore 4, 2) := by decide +kernel
theorem dX11_turn_58 : decode cX11_turn 58 = .ok (.aload_n 0, 1) := by decide +kernel
theorem dX11_turn_59 : decode cX11_turn 59 = .ok (.getfield 10, 3) := by decide +kernel
theorem dX11_turn_62 : decode cX11_turn 62 = .ok (.getfield 151, 3) := by decide +kernel
theorem dX11_turn_65 : decode cX11_turn 65 = .ok (.iload_n 1, 1) := by decide +kernel
theorem dX11_turn_66 : decode cX11_turn 66 = .ok (.iconst 3, 1) := by decide +kernel
theorem dX11_turn_67 : decode cX11_turn 67 = .ok (.imul, 1) := by decide +kernel
theorem dX11_turn_68 : decode cX11_turn 68 = .ok (.iload_n 2, 1) := by decide +kernel
theorem dX11_turn_69 : decode cX11_turn 69 = .ok (.iadd, 1) := by decide +kernel
theorem dX11_turn_70 : decode cX11_turn 70 = .ok (.iload_n 3, 1) := by decide +kernel
theorem dX11_turn_71 : decode cX11_turn 71 = .ok (.iastore, 1) := by decide +kernel
theorem dX11_turn_72 : decode cX11_turn 72 = .ok (.aload_n 0, 1) := by decide +kernel
theorem dX11_turn_73 : decode cX11_turn 73 = .ok (.iload 4, 2) := by decide +kernel
theorem dX11_turn_75 : decode cX11_turn 75 = .ok (.invokevirtual 122, 3) := by decide +kernel
theorem dX11_turn_78 : decode cX11_turn 78 = .ok (.ireturn, 1) := by decide +kernel
set_option maxRecDepth 20000 in
theorem s_X11_turn {w : Wd} {d : Nat} {P : Int → IM → LM → Prop} {i : IM} {l : LM} (p0 : Int) (p1 : Int) (p2 : Int)  (hd : 1 ≤ d) (h : ((rg p1) ∧ (((0 ≤ p1 ∧ p1 ≤ 2) → 0 ≤ p1 ∧ p1 < 3) ∧ ((0 ≤ p1 ∧ p1 ≤ 2) → rg p2) ∧ ((0 ≤ p1 ∧ p1 ≤ 2) → (0 ≤ p2 ∧ p2 ≤ hV p1) → rg p0) ∧ ((¬ (0 ≤ p1 ∧ p1 ≤ 2) ∨ (¬ (0 ≤ p2 ∧ p2 ≤ hV p1))) → cI w d X_X11_refuse [vR (some 6), vI (-1)] i l (fun r16 i16 l16 => P r16 i16 l16)) ∧ (((0 ≤ p1 ∧ p1 ≤ 2) ∧ ((0 ≤ p2 ∧ p2 ≤ hV p1) ∧ (0 ≤ p0 ∧ p0 < i 7 9))) → ((0 ≤ p0 * 3 + p1 ∧ p0 * 3 + p1 < 24) ∧ (0 ≤ (p0 * 3) + p1 ∧ (p0 * 3) + p1 < 24) ∧ (rg p2) ∧ cI w d X_X11_changed [vR (some 6), vI (i 9 (p0 * 3 + p1))] (u2 i 9 ((p0 * 3) + p1) p2) l (fun r21 i21 l21 => P r21 i21 l21))) ∧ (((0 ≤ p1 ∧ p1 ≤ 2) ∧ ((0 ≤ p2 ∧ p2 ≤ hV p1) ∧ (¬ (0 ≤ p0 ∧ p0 < i 7 9)))) → cI w d X_X11_refuse [vR (some 6), vI (-2)] i l (fun r22 i22 l22 => P r22 i22 l22))))) : gI w d X_X11_turn P i l 0 [(0, vR (some 6)), (1, vI p0), (2, vI p1), (3, vI p2)] [] := by
  obtain ⟨ob1, h⟩ := h
  refine g_iload_n (pc' := 1) 2 dX11_turn_0 rfl rfl ?_
  refine g_iconst (pc' := 2) dX11_turn_1 rfl ?_
  refine g_pSI (pc' := 5) (vs := [vI p1, vI 2]) (st := []) (val := bI (0 ≤ p1 ∧ p1 ≤ 2)) (sp_X11_upTo (le_hd hd rfl) ob1 (rg_lit rfl)) mk_X11_upTo ms_X11_upTo lk_X11_107 rfl (Nat.le_of_ble_eq_true rfl) (Nat.le_of_ble_eq_true rfl) rfl dX11_turn_2 rfl z2 (fun rg2 => ?_)
  obtain ⟨hob5, hob7, hob11, hk23, hk24, hk25⟩ := h
  have hk23g : (¬ (0 ≤ p1 ∧ p1 ≤ 2) ∨ (¬ (0 ≤ p2 ∧ p2 ≤ hV p1))) → gI w d X_X11_turn P i l 20 [(0, vR (some 6)), (1, vI p0), (2, vI p1), (3, vI p2)] [] := by
    intro hp
    have h := hk23 hp
    refine g_aload_n (pc' := 21) 0 dX11_turn_20 rfl rfl ?_
    refine g_iconst (pc' := 22) dX11_turn_21 rfl ?_
    refine g_cVI (pc' := 25) (vs := [vI (-1)]) (st := []) (c := 11) h mv_X11_refuse lk_X11_111 rfl rfl rfl rfl (Nat.le_of_ble_eq_true rfl) (Nat.le_of_ble_eq_true rfl) rfl dX11_turn_22 rfl z2 (fun r16 i16 l16 rg16 h => ?_)
    exact g_retI rfl rg16 dX11_turn_25 h
  have hk24g : ((0 ≤ p1 ∧ p1 ≤ 2) ∧ ((0 ≤ p2 ∧ p2 ≤ hV p1) ∧ (0 ≤ p0 ∧ p0 < i 7 9))) → gI w d X_X11_turn P i l 47 [(0, vR (some 6)), (1, vI p0), (2, vI p1), (3, vI p2)] [] := by
    intro hp
    have h := hk24 hp
    obtain ⟨ob17, ob19, ob20, h⟩ := h
    refine g_aload_n (pc' := 48) 0 dX11_turn_47 rfl rfl ?_
    refine g_getR (pc' := 51) (o := some 7) fl_X11_10 rfl rfl rfl dX11_turn_48 rfl ?_
    refine g_iload_n (pc' := 52) 1 dX11_turn_51 rfl rfl ?_
    refine g_iload_n (pc' := 53) 2 dX11_turn_52 rfl rfl ?_
    refine g_pVI (pc' := 56) (vs := [vI p0, vI p1]) (st := []) (val := i 9 (p0 * 3 + p1)) (c := 9) (sp_X9_view (le_hd hd rfl) ob17) mv_X9_view lk_X11_148 rfl rfl rfl rfl (Nat.le_of_ble_eq_true rfl) (Nat.le_of_ble_eq_true rfl) rfl dX11_turn_53 rfl z2 (fun rg18 => ?_)
    refine g_istore (pc' := 58) (L' := [(4, vI (i 9 (p0 * 3 + p1))), (0, vR (some 6)), (1, vI p0), (2, vI p1), (3, vI p2)]) dX11_turn_56 rfl (Nat.le_of_ble_eq_true rfl) rfl ?_
    refine g_aload_n (pc' := 59) 1 dX11_turn_58 rfl rfl ?_
    refine g_getR (pc' := 62) (o := some 7) fl_X11_10 rfl rfl rfl dX11_turn_59 rfl ?_
    refine g_getR (pc' := 65) (o := some 9) fl_X11_151 rfl rfl rfl dX11_turn_62 rfl ?_
    refine g_iload_n (pc' := 66) 2 dX11_turn_65 rfl rfl ?_
    refine g_iconst (pc' := 67) dX11_turn_66 rfl ?_
    refine g_imul (pc' := 68) dX11_turn_67 rfl ?_
    refine g_iload_n (pc' := 69) 3 dX11_turn_68 rfl rfl ?_
    refine g_iadd (pc' := 70) dX11_turn_69 rfl ?_
    refine g_iload_n (pc' := 71) 4 dX11_turn_70 rfl rfl ?_
    refine g_iast (pc' := 72) (N := 24) rfl rfl (Nat.lt_of_lt_of_le (Nat.lt_succ_self _) (Nat.le_of_ble_eq_true rfl)) ob19 ob20 dX11_turn_71 rfl ?_
    refine g_aload_n (pc' := 73) 1 dX11_turn_72 rfl rfl ?_
    refine g_iload (pc' := 75) 0 dX11_turn_73 rfl rfl ?_
    refine g_cVI (pc' := 78) (vs := [vI (i 9 (p0 * 3 + p1))]) (st := []) (c := 11) h mv_X11_changed lk_X11_122 rfl rfl rfl rfl (Nat.le_of_ble_eq_true rfl) (Nat.le_of_ble_eq_true rfl) rfl dX11_turn_75 rfl z2 (fun r21 i21 l21 rg21 h => ?_)
    exact g_retI rfl rg21 dX11_turn_78 h
  have hk25g : ((0 ≤ p1 ∧ p1 ≤ 2) ∧ ((0 ≤ p2 ∧ p2 ≤ hV p1) ∧ (¬ (0 ≤ p0 ∧ p0 < i 7 9)))) → gI w d X_X11_turn P i l 40 [(0, vR (some 6)), (1, vI p0), (2, vI p1), (3, vI p2)] [] := by
    intro hp
    have h := hk25 hp
    refine g_aload_n (pc' := 41) 0 dX11_turn_40 rfl rfl ?_
    refine g_bipush (pc' := 43) dX11_turn_41 rfl rfl ?_
    refine g_cVI (pc' := 46) (vs := [vI (-2)]) (st := []) (c := 11) h mv_X11_refuse lk_X11_111 rfl rfl rfl rfl (Nat.le_of_ble_eq_true rfl) (Nat.le_of_ble_eq_true rfl) rfl dX11_turn_43 rfl z2 (fun r22 i22 l22 rg22 h => ?_)
    exact g_retI rfl rg22 dX11_turn_46 h
  refine g_if_eq (tgt := 20) (pc' := 8) rg2 (bI_eq _) dX11_turn_5 rfl rfl (fun c4 => ?_) (fun c4n => ?_)
  · exact hk23g (Or.inl c4)
  · have c4 := Decidable.of_not_not c4n
    refine g_iload_n (pc' := 9) 3 dX11_turn_8 rfl rfl ?_
    refine g_stat2 (pc' := 12) st_X11_145 dX11_turn_9 rfl ?_
    refine g_iload_n (pc' := 13) 2 dX11_turn_12 rfl rfl ?_
    refine g_xald2 (pc' := 14) (hob5 c4) dX11_turn_13 rfl (fun rg6 => ?_)
    refine g_pSI (pc' := 17) (vs := [vI p2, vI (hV p1)]) (st := []) (val := bI (0 ≤ p2 ∧ p2 ≤ hV p1)) (sp_X11_upTo (le_hd hd rfl) (hob7 c4) rg6) mk_X11_upTo ms_X11_upTo lk_X11_107 rfl (Nat.le_of_ble_eq_true rfl) (Nat.le_of_ble_eq_true rfl) rfl dX11_turn_14 rfl z2 (fun rg8 => ?_)
    refine g_if_ne (tgt := 26) (pc' := 20) rg8 (bI_eq _) dX11_turn_17 rfl rfl (fun c9n => ?_) (fun c9 => ?_)
    · have c9 := Decidable.of_not_not c9n
      refine g_iload_n (pc' := 27) 1 dX11_turn_26 rfl rfl ?_
      refine g_aload_n (pc' := 28) 0 dX11_turn_27 rfl rfl ?_
      refine g_getR (pc' := 31) (o := some 7) fl_X11_10 rfl rfl rfl dX11_turn_28 rfl ?_
      refine g_getI (pc' := 34) (z := 9) rfl fl_X11_138 rfl rfl dX11_turn_31 rfl (fun rg10 => ?_)
      refine g_pSI (pc' := 37) (vs := [vI p0, vI (i 7 9)]) (st := []) (val := bI (0 ≤ p0 ∧ p0 < i 7 9)) (sp_X11_below (le_hd hd rfl) (hob11 c4 c9) rg10) mk_X11_below ms_X11_below lk_X11_128 rfl (Nat.le_of_ble_eq_true rfl) (Nat.le_of_ble_eq_true rfl) rfl dX11_turn_34 rfl z2 (fun rg12 => ?_)
      refine g_if_ne (tgt := 47) (pc' := 40) rg12 (bI_eq _) dX11_turn_37 rfl rfl (fun c13n => ?_) (fun c13 => ?_)
      · have c13 := Decidable.of_not_not c13n
        exact hk24g ⟨c4, ⟨c9, c13⟩⟩
      · exact hk25g ⟨c4, ⟨c9, c13⟩⟩
    · exact hk23g (Or.inr c9)
theorem e_X11_turn {w : Wd} {d : Nat} {P : Int → IM → LM → Prop} {i : IM} {l : LM} {p0 : Int} {p1 : Int} {p2 : Int}  (h : gI w d X_X11_turn P i l 0 [(0, vR (some 6)), (1, vI p0), (2, vI p1), (3, vI p2)] []) : cI w (d + 1) X_X11_turn [vR (some 6), vI p0, vI p1, vI p2] i l P := CI_of (by decide +kernel) (Nat.le_of_ble_eq_true rfl) h

theorem dX11_of_0 : decode cX11_of 0 = .ok (.iload_n 1, 1) := by decide +kernel
theorem dX11_of_1 : decode cX11_of 1 = .ok (.aload_n 0, 1) := by decide +kernel
theorem dX11_of_2 : decode cX11_of 2 = .ok (.getfield 10, 3) := by decide +kernel
theorem dX11_of_5 : decode cX11_of 5 = .ok (.getfield 115, 3) := by decide +kernel
theorem dX11_of_8 : decode cX11_of 8 = .ok (.invokestatic 128, 3) := by decide +kernel
theorem dX11_of_11 : decode cX11_of 11 = .ok (.ifCond .eq 12, 3) := by decide +kernel
theorem dX11_of_14 : decode cX11_of 14 = .ok (.iload_n 2, 1) := by decide +kernel
theorem dX11_of_15 : decode cX11_of 15 = .ok (.bipush 8, 2) := by decide +kernel
theorem dX11_of_17 : decode cX11_of 17 = .ok (.invokestatic 107, 3) := by decide +kernel
theorem dX11_of_20 : decode cX11_of 20 = .ok (.ifCond .ne 5, 3) := by decide +kernel
theorem dX11_of_23 : decode cX11_of 23 = .ok (.iconst (-1), 1) := by decide +kernel
theorem dX11_of_24 : decode cX11_of 24 = .ok (.ireturn, 1) := by decide +kernel
theorem dX11_of_25 : decode cX11_of 25 = .ok (.iload_n 2, 1) := by decide +kernel
theorem dX11_of_26 : decode cX11_of 26 = .ok (.bipush 8, 2) := by decide +kernel
theorem dX11_of_28 : decode cX11_of 28 = .ok (.if_icmp .ne 28, 3) := by decide +kernel
theorem dX11_of_31 : decode cX11_of 31 = .ok (.aload_n 0, 1) := by decide +kernel
theorem dX11_of_32 : decode cX11_of 32 = .ok (.getfield 10, 3) := by decide +kernel
theorem dX11_of_35 : decode cX11_of 35 = .ok (.iload_n 1, 1) := by decide +kernel
theorem dX11_of_36 : decode cX11_of 36 = .ok (.aload_n 0, 1) := by decide +kernel
theorem dX11_of_37 : decode cX11_of 37 = .ok (.getfield 10, 3) := by decide +kernel
theorem dX11_of_40 : decode cX11_of 40 = .ok (.iload_n 1, 1) := by decide +kernel
theorem dX11_of_41 : decode cX11_of 41 = .ok (.iconst 1, 1) := by decide +kernel
theorem dX11_of_42 : decode cX11_of 42 = .ok (.invokevirtual 131, 3) := by decide +kernel
theorem dX11_of_45 : decode cX11_of 45 = .ok (.aload_n 0, 1) := by decide +kernel
theorem dX11_of_46 : decode cX11_of 46 = .ok (.getfield 10, 3) := by decide +kernel
theorem dX11_of_49 : decode cX11_of 49 = .ok (.getfield 154, 3) := by decide +kernel
theorem dX11_of_52 : decode cX11_of 52 = .ok (.invokevirtual 157, 3) := by decide +kernel
theorem dX11_of_55 : decode cX11_of 55 = .ok (.ireturn, 1) := by decide +kernel
theorem dX11_of_56 : decode cX11_of 56 = .ok (.aload_n 0, 1) := by decide +kernel
theorem dX11_of_57 : decode cX11_of 57 = .ok (.getfield 10, 3) := by decide +kernel
theorem dX11_of_60 : decode cX11_of 60 = .ok (.iload_n 1, 1) := by decide +kernel
theorem dX11_of_61 : decode cX11_of 61 = .ok (.iload_n 2, 1) := by decide +kernel
theorem dX11_of_62 : decode cX11_of 62 = .ok (.invokevirtual 131, 3) := by decide +kernel
theorem dX11_of_65 : decode cX11_of 65 = .ok (.ireturn, 1) := by decide +kernel
set_option maxRecDepth 20000 in
theorem s_X11_of {w : Wd} {d : Nat} {P : Int → IM → LM → Prop} {i : IM} {l : LM} (p0 : Int) (p1 : Int)  (hd : 2 ≤ d) (h : ((rg p0) ∧ (((0 ≤ p0 ∧ p0 < i 7 8) → rg p1) ∧ ((¬ (0 ≤ p0 ∧ p0 < i 7 8) ∨ (¬ (0 ≤ p1 ∧ p1 ≤ 8))) → P (-1) i l) ∧ (((0 ≤ p0 ∧ p0 < i 7 8) ∧ ((0 ≤ p1 ∧ p1 ≤ 8) ∧ (¬ (p1 = 8)))) → ((0 ≤ p0 * 8 + p1 ∧ p0 * 8 + p1 < 80) ∧ P (i 8 (p0 * 8 + p1)) i l)) ∧ (((0 ≤ p0 ∧ p0 < i 7 8) ∧ ((0 ≤ p1 ∧ p1 ≤ 8) ∧ (p1 = 8))) → ((0 ≤ p0 * 8 + 1 ∧ p0 * 8 + 1 < 80) ∧ (0 ≤ p0 ∧ p0 < 10) ∧ P (cShown i p0 (i 8 (p0 * 8 + 1)) (i 7 13)) i l))))) : gI w d X_X11_of P i l 0 [(0, vR (some 6)), (1, vI p0), (2, vI p1)] [] := by
  obtain ⟨ob2, h⟩ := h
  refine g_iload_n (pc' := 1) 1 dX11_of_0 rfl rfl ?_
  refine g_aload_n (pc' := 2) 0 dX11_of_1 rfl rfl ?_
  refine g_getR (pc' := 5) (o := some 7) fl_X11_10 rfl rfl rfl dX11_of_2 rfl ?_
  refine g_getI (pc' := 8) (z := 8) rfl fl_X11_115 rfl rfl dX11_of_5 rfl (fun rg1 => ?_)
  refine g_pSI (pc' := 11) (vs := [vI p0, vI (i 7 8)]) (st := []) (val := bI (0 ≤ p0 ∧ p0 < i 7 8)) (sp_X11_below (le_hd hd rfl) ob2 rg1) mk_X11_below ms_X11_below lk_X11_128 rfl (Nat.le_of_ble_eq_true rfl) (Nat.le_of_ble_eq_true rfl) rfl dX11_of_8 rfl z2 (fun rg3 => ?_)
  obtain ⟨hob6, hk24, hk25, hk26⟩ := h
  have hk24g : (¬ (0 ≤ p0 ∧ p0 < i 7 8) ∨ (¬ (0 ≤ p1 ∧ p1 ≤ 8))) → gI w d X_X11_of P i l 23 [(0, vR (some 6)), (1, vI p0), (2, vI p1)] [] := by
    intro hp
    have h := hk24 hp
    refine g_iconst (pc' := 24) dX11_of_23 rfl ?_
    exact g_retI rfl (rg_lit rfl) dX11_of_24 h
  have hk25g : ((0 ≤ p0 ∧ p0 < i 7 8) ∧ ((0 ≤ p1 ∧ p1 ≤ 8) ∧ (¬ (p1 = 8)))) → gI w d X_X11_of P i l 56 [(0, vR (some 6)), (1, vI p0), (2, vI p1)] [] := by
    intro hp
    have h := hk25 hp
    obtain ⟨ob17, h⟩ := h
    refine g_aload_n (pc' := 57) 0 dX11_of_56 rfl rfl ?_
    refine g_getR (pc' := 60) (o := some 7) fl_X11_10 rfl rfl rfl dX11_of_57 rfl ?_
    refine g_iload_n (pc' := 61) 1 dX11_of_60 rfl rfl ?_
    refine g_iload_n (pc' := 62) 2 dX11_of_61 rfl rfl ?_
    refine g_pVI (pc' := 65) (vs := [vI p0, vI p1]) (st := []) (val := i 8 (p0 * 8 + p1)) (c := 9) (sp_X9_trait (le_hd hd rfl) ob17) mv_X9_trait lk_X11_131 rfl rfl rfl rfl (Nat.le_of_ble_eq_true rfl) (Nat.le_of_ble_eq_true rfl) rfl dX11_of_62 rfl z2 (fun rg18 => ?_)
    exact g_retI rfl rg18 dX11_of_65 h
  have hk26g : ((0 ≤ p0 ∧ p0 < i 7 8) ∧ ((0 ≤ p1 ∧ p1 ≤ 8) ∧ (p1 = 8))) → gI w d X_X11_of P i l 31 [(0, vR (some 6)), (1, vI p0), (2, vI p1)] [] := by
    intro hp
    have h := hk26 hp
    obtain ⟨ob19, ob22, h⟩ := h
    refine g_aload_n (pc' := 32) 0 dX11_of_31 rfl rfl ?_
    refine g_getR (pc' := 35) (o := some 7) fl_X11_10 rfl rfl rfl dX11_of_32 rfl ?_
    refine g_iload_n (pc' := 36) 1 dX11_of_35 rfl rfl ?_
    refine g_aload_n (pc' := 37) 0 dX11_of_36 rfl rfl ?_
    refine g_getR (pc' := 40) (o := some 7) fl_X11_10 rfl rfl rfl dX11_of_37 rfl ?_
    refine g_iload_n (pc' := 41) 1 dX11_of_40 rfl rfl ?_
    refine g_iconst (pc' := 42) dX11_of_41 rfl ?_
    refine g_pVI (pc' := 45) (vs := [vI p0, vI 1]) (st := [vI p0, vR (some 7)]) (val := i 8 (p0 * 8 + 1)) (c := 9) (sp_X9_trait (le_hd hd rfl) ob19) mv_X9_trait lk_X11_131 rfl rfl rfl rfl (Nat.le_of_ble_eq_true rfl) (Nat.le_of_ble_eq_true rfl) rfl dX11_of_42 rfl z2 (fun rg20 => ?_)
    refine g_aload_n (pc' := 46) 0 dX11_of_45 rfl rfl ?_
    refine g_getR (pc' := 49) (o := some 7) fl_X11_10 rfl rfl rfl dX11_of_46 rfl ?_
    refine g_getI (pc' := 52) (z := 13) rfl fl_X11_154 rfl rfl dX11_of_49 rfl (fun rg21 => ?_)
    refine g_pVI (pc' := 55) (vs := [vI p0, vI (i 8 (p0 * 8 + 1)), vI (i 7 13)]) (st := []) (val := cShown i p0 (i 8 (p0 * 8 + 1)) (i 7 13)) (c := 9) (sp_X9_shownIn (le_hd hd rfl) rg20 ob22) mv_X9_shownIn lk_X11_157 rfl rfl rfl rfl (Nat.le_of_ble_eq_true rfl) (Nat.le_of_ble_eq_true rfl) rfl dX11_of_52 rfl z2 (fun rg23 => ?_)
    exact g_retI rfl rg23 dX11_of_55 h
  refine g_if_eq (tgt := 23) (pc' := 14) rg3 (bI_eq _) dX11_of_11 rfl rfl (fun c5 => ?_) (fun c5n => ?_)
  · exact hk24g (Or.inl c5)
  · have c5 := Decidable.of_not_not c5n
    refine g_iload_n (pc' := 15) 2 dX11_of_14 rfl rfl ?_
    refine g_bipush (pc' := 17) dX11_of_15 rfl rfl ?_
    refine g_pSI (pc' := 20) (vs := [vI p1, vI 8]) (st := []) (val := bI (0 ≤ p1 ∧ p1 ≤ 8)) (sp_X11_upTo (le_hd hd rfl) (hob6 c5) (rg_lit rfl)) mk_X11_upTo ms_X11_upTo lk_X11_107 rfl (Nat.le_of_ble_eq_true rfl) (Nat.le_of_ble_eq_true rfl) rfl dX11_of_17 rfl z2 (fun rg7 => ?_)
    refine g_if_ne (tgt := 25) (pc' := 23) rg7 (bI_eq _) dX11_of_20 rfl rfl (fun c8n => ?_) (fun c8 => ?_)
    · have c8 := Decidable.of_not_not c8n
      refine g_iload_n (pc' := 26) 2 dX11_of_25 rfl rfl ?_
      refine g_bipush (pc' := 28) dX11_of_26 rfl rfl ?_
      refine g_icmp_ne (tgt := 56) (pc' := 31) (hob6 c5) (rg_lit rfl) Iff.rfl dX11_of_28 rfl rfl (fun c9 => ?_) (fun c9 => ?_)
      · exact hk25g ⟨c5, ⟨c8, c9⟩⟩
      · exact hk26g ⟨c5, ⟨c8, c9⟩⟩
    · exact hk24g (Or.inr c8)
theorem e_X11_of {w : Wd} {d : Nat} {P : Int → IM → LM → Prop} {i : IM} {l : LM} {p0 : Int} {p1 : Int}  (h : gI w d X_X11_of P i l 0 [(0, vR (some 6)), (1, vI p0), (2, vI p1)] []) : cI w (d + 1) X_X11_of [vR (some 6), vI p0, vI p1] i l P := CI_of (by decide +kernel) (Nat.le_of_ble_eq_true rfl) h

theorem dX11_street_0 : decode cX11_street 0 = .ok (.iload_n 1, 1) := by decide +kernel
theorem dX11_street_1 : decode cX11_street 1 = .ok (.bipush 10, 2) := by decide +kernel
theorem dX11_street_3 : decode cX11_street 3 = .ok (.invokestatic 128, 3) := by decide +kernel
theorem dX11_street_6 : decode cX11_street 6 = .ok (.ifCond .eq 20, 3) := by decide +kernel
theorem dX11_street_9 : decode cX11_street 9 = .ok (.iload_n 2, 1) := by decide +kernel
theorem dX11_street_10 : decode cX11_street 10 = .ok (.bipush 10, 2) := by decide +kernel
theorem dX11_street_12 : decode cX11_street 12 = .ok (.invokestatic 128, 3) := by decide +kernel
theorem dX11_street_15 : decode cX11_street 15 = .ok (.ifCond .eq 11, 3) := by decide +kernel
theorem dX11_street_18 : decode cX11_street 18 = .ok (.iload_n 3, 1) := by decide +kernel
theorem dX11_street_19 : decode cX11_street 19 = .ok (.iconst 1, 1) := by decide +kernel
theorem dX11_street_20 : decode cX11_street 20 = .ok (.invokestatic 107, 3) := by decide +kernel
theorem dX11_street_23 : decode cX11_street 23 = .ok (.ifCond .ne 9, 3) := by decide +kernel
theorem dX11_street_26 : decode cX11_street 26 = .ok (.aload_n 0, 1) := by decide +kernel
theorem dX11_street_27 : decode cX11_street 27 = .ok (.iconst (-1), 1) := by decide +kernel
theorem dX11_street_28 : decode cX11_street 28 = .ok (.invokevirtual 111, 3) := by decide +kernel
theorem dX11_street_31 : decode cX11_street 31 = .ok (.ireturn, 1) := by decide +kernel
theorem dX11_street_32 : decode cX11_street 32 = .ok (.iload_n 1, 1) := by decide +kernel
theorem dX11_street_33 : decode cX11_street 33 = .ok (.iload_n 2, 1) := by decide +kernel
theorem dX11_street_34 : decode cX11_street 34 = .ok (.if_icmp .ne 10, 3) := by decide +kernel
theorem dX11_street_37 : decode cX11_street 37 = .ok (.aload_n 0, 1) := by decide +kernel
theorem dX11_street_38 : decode cX11_street 38 = .ok (.bipush (-3), 2) := by decide +kernel
theorem dX11_street_40 : decode cX11_street 40 = .ok (.invokevirtual 111, 3) := by decide +kernel
theorem dX11_street_43 : decode cX11_street 43 = .ok (.ireturn, 1) := by decide +kernel
theorem dX11_street_44 : decode cX11_street 44 = .ok (.aload_n 0, 1) := by decide +kernel
theorem dX11_street_45 : decode cX11_street 45 = .ok (.getfield 10, 3) := by decide +kernel
theorem dX11_street_48 : decode cX11_street 48 = .ok (.getfield 160, 3) := by decide +kernel
theorem dX11_street_51 : decode cX11_street 51 = .ok (.iload_n 1, 1) := by decide +kernel
theorem dX11_street_52 : decode cX11_street 52 = .ok (.iaload, 1) := by decide +kernel
theorem dX11_street_53 : decode cX11_street 53 = .ok (.iload_n 2, 1) := by decide +kernel
theorem dX11_street_54 : decode cX11_street 54 = .ok (.ishr, 1) := by decide +kernel
theorem dX11_street_55 : decode cX11_street 55 = .ok (.iconst 1, 1) := by decide +kernel
theorem dX11_street_56 : decode cX11_street 56 = .ok (.iand, 1) := by decide +kernel
theorem dX11_street_57 : decode cX11_street 57 = .ok (.istore 4, 2) := by decide +kernel
theorem dX11_street_59 : decode cX11_street 59 = .ok (.aload_n 0, 1) := by decide +kernel
theorem dX11_street_60 : decode cX11_street 60 = .ok (.getfield 10, 3) := by decide +kernel
theorem dX11_street_63 : decode cX11_street 63 = .ok (.aload_n 0, 1) := by decide +kernel
theorem dX11_street_64 : decode cX11_street 64 = .ok (.getfield 10, 3) := by decide +kernel
theorem dX11_street_67 : decode cX11_street 67 = .ok (.getfield 160, 3) := by decide +kernel
theorem dX11_street_70 : decode cX11_street 70 = .ok (.iload_n 1, 1) := by decide +kernel
theorem dX11_street_71 : decode cX11_street 71 = .ok (.iload_n 2, 1) := by decide +kernel
theorem dX11_street_72 : decode cX11_street 72 = .ok (.iload_n 3, 1) := by decide +kernel
theorem dX11_street_73 : decode cX11_street 73 = .ok (.invokevirtual 163, 3) := by decide +kernel
theorem dX11_street_76 : decode cX11_street 76 = .ok (.aload_n 0, 1) := by decide +kernel
theorem dX11_street_77 : decode cX11_street 77 = .ok (.iload 4, 2) := by decide +kernel
theorem dX11_street_79 : decode cX11_street 79 = .ok (.invokevirtual 122, 3) := by decide +kernel
theorem dX11_street_82 : decode cX11_street 82 = .ok (.ireturn, 1) := by decide +kernel
set_option maxRecDepth 20000 in
theorem s_X11_street {w : Wd} {d : Nat} {P : Int → IM → LM → Prop} {i : IM} {l : LM} (p0 : Int) (p1 : Int) (p2 : Int)  (hd : 1 ≤ d) (h : ((rg p0) ∧ (((0 ≤ p0 ∧ p0 < 10) → rg p1) ∧ ((0 ≤ p0 ∧ p0 < 10) → (0 ≤ p1 ∧ p1 < 10) → rg p2) ∧ ((¬ (0 ≤ p0 ∧ p0 < 10) ∨ (¬ (0 ≤ p1 ∧ p1 < 10) ∨ (¬ (0 ≤ p2 ∧ p2 ≤ 1)))) → cI w d X_X11_refuse [vR (some 6), vI (-1)] i l (fun r14 i14 l14 => P r14 i14 l14)) ∧ (((0 ≤ p0 ∧ p0 < 10) ∧ ((0 ≤ p1 ∧ p1 < 10) ∧ ((0 ≤ p2 ∧ p2 ≤ 1) ∧ (¬ (p0 = p1))))) → ((0 ≤ p0 ∧ p0 < 10) ∧ cVd w d X_X9_join [vR (some 7), vR (some 11), vI p0, vI p1, vI p2] i l (fun i17 l17 => cI w d X_X11_changed [vR (some 6), vI (iand (ishr (i 11 p0) p1) 1)] i17 l17 (fun r18 i18 l18 => P r18 i18 l18)))) ∧ (((0 ≤ p0 ∧ p0 < 10) ∧ ((0 ≤ p1 ∧ p1 < 10) ∧ ((0 ≤ p2 ∧ p2 ≤ 1) ∧ (p0 = p1)))) → cI w d X_X11_refuse [vR (some 6), vI (-3)] i l (fun r19 i19 l19 => P r19 i19 l19))))) : gI w d X_X11_street P i l 0 [(0, vR (some 6)), (1, vI p0), (2, vI p1), (3, vI p2)] [] := by
  obtain ⟨ob1, h⟩ := h
  refine g_iload_n (pc' := 1) 1 dX11_street_0 rfl rfl ?_
  refine g_bipush (pc' := 3) dX11_street_1 rfl rfl ?_
  refine g_pSI (pc' := 6) (vs := [vI p0, vI 10]) (st := []) (val := bI (0 ≤ p0 ∧ p0 < 10)) (sp_X11_below (le_hd hd rfl) ob1 (rg_lit rfl)) mk_X11_below ms_X11_below lk_X11_128 rfl (Nat.le_of_ble_eq_true rfl) (Nat.le_of_ble_eq_true rfl) rfl dX11_street_3 rfl z2 (fun rg2 => ?_)
  obtain ⟨hob5, hob8, hk20, hk21, hk22⟩ := h
  have hk20g : (¬ (0 ≤ p0 ∧ p0 < 10) ∨ (¬ (0 ≤ p1 ∧ p1 < 10) ∨ (¬ (0 ≤ p2 ∧ p2 ≤ 1)))) → gI w d X_X11_street P i l 26 [(0, vR (some 6)), (1, vI p0), (2, vI p1), (3, vI p2)] [] := by
    intro hp
    have h := hk20 hp
    refine g_aload_n (pc' := 27) 0 dX11_street_26 rfl rfl ?_
    refine g_iconst (pc' := 28) dX11_street_27 rfl ?_
    refine g_cVI (pc' := 31) (vs := [vI (-1)]) (st := []) (c := 11) h mv_X11_refuse lk_X11_111 rfl rfl rfl rfl (Nat.le_of_ble_eq_true rfl) (Nat.le_of_ble_eq_true rfl) rfl dX11_street_28 rfl z2 (fun r14 i14 l14 rg14 h => ?_)
    exact g_retI rfl rg14 dX11_street_31 h
  have hk21g : ((0 ≤ p0 ∧ p0 < 10) ∧ ((0 ≤ p1 ∧ p1 < 10) ∧ ((0 ≤ p2 ∧ p2 ≤ 1) ∧ (¬ (p0 = p1))))) → gI w d X_X11_street P i l 44 [(0, vR (some 6)), (1, vI p0), (2, vI p1), (3, vI p2)] [] := by
    intro hp
    have h := hk21 hp
    obtain ⟨ob15, h⟩ := h
    refine g_aload_n (pc' := 45) 0 dX11_street_44 rfl rfl ?_
    refine g_getR (pc' := 48) (o := some 7) fl_X11_10 rfl rfl rfl dX11_street_45 rfl ?_
    refine g_getR (pc' := 51) (o := some 11) fl_X11_160 rfl rfl rfl dX11_street_48 rfl ?_
    refine g_iload_n (pc' := 52) 1 dX11_street_51 rfl rfl ?_
    refine g_iald (pc' := 53) (N := 10) rfl rfl (Nat.lt_of_lt_of_le (Nat.lt_succ_self _) (Nat.le_of_ble_eq_true rfl)) ob15 dX11_street_52 rfl (fun rg16 => ?_)
    refine g_iload_n (pc' := 54) 2 dX11_street_53 rfl rfl ?_
    refine g_ishr (pc' := 55) dX11_street_54 rfl ?_
    refine g_iconst (pc' := 56) dX11_street_55 rfl ?_
    refine g_iand (pc' := 57) dX11_street_56 rfl ?_
    refine g_istore (pc' := 59) (L' := [(4, vI (iand (ishr (i 11 p0) p1) 1)), (0, vR (some 6)), (1, vI p0), (2, vI p1), (3, vI p2)]) dX11_street_57 rfl (Nat.le_of_ble_eq_true rfl) rfl ?_
    refine g_aload_n (pc' := 60) 1 dX11_street_59 rfl rfl ?_
    refine g_getR (pc' := 63) (o := some 7) fl_X11_10 rfl rfl rfl dX11_street_60 rfl ?_
    refine g_aload_n (pc' := 64) 1 dX11_street_63 rfl rfl ?_
    refine g_getR (pc' := 67) (o := some 7) fl_X11_10 rfl rfl rfl dX11_street_64 rfl ?_
    refine g_getR (pc' := 70) (o := some 11) fl_X11_160 rfl rfl rfl dX11_street_67 rfl ?_
    refine g_iload_n (pc' := 71) 2 dX11_street_70 rfl rfl ?_
    refine g_iload_n (pc' := 72) 3 dX11_street_71 rfl rfl ?_
    refine g_iload_n (pc' := 73) 4 dX11_street_72 rfl rfl ?_
    refine g_cVV (pc' := 76) (vs := [vR (some 11), vI p0, vI p1, vI p2]) (st := []) (c := 9) h mv_X9_join lk_X11_163 rfl rfl rfl rfl (Nat.le_of_ble_eq_true rfl) (Nat.le_of_ble_eq_true rfl) rfl dX11_street_73 rfl z2 (fun i17 l17 h => ?_)
    refine g_aload_n (pc' := 77) 1 dX11_street_76 rfl rfl ?_
    refine g_iload (pc' := 79) 0 dX11_street_77 rfl rfl ?_
    refine g_cVI (pc' := 82) (vs := [vI (iand (ishr (i 11 p0) p1) 1)]) (st := []) (c := 11) h mv_X11_changed lk_X11_122 rfl rfl rfl rfl (Nat.le_of_ble_eq_true rfl) (Nat.le_of_ble_eq_true rfl) rfl dX11_street_79 rfl z2 (fun r18 i18 l18 rg18 h => ?_)
    exact g_retI rfl rg18 dX11_street_82 h
  have hk22g : ((0 ≤ p0 ∧ p0 < 10) ∧ ((0 ≤ p1 ∧ p1 < 10) ∧ ((0 ≤ p2 ∧ p2 ≤ 1) ∧ (p0 = p1)))) → gI w d X_X11_street P i l 37 [(0, vR (some 6)), (1, vI p0), (2, vI p1), (3, vI p2)] [] := by
    intro hp
    have h := hk22 hp
    refine g_aload_n (pc' := 38) 0 dX11_street_37 rfl rfl ?_
    refine g_bipush (pc' := 40) dX11_street_38 rfl rfl ?_
    refine g_cVI (pc' := 43) (vs := [vI (-3)]) (st := []) (c := 11) h mv_X11_refuse lk_X11_111 rfl rfl rfl rfl (Nat.le_of_ble_eq_true rfl) (Nat.le_of_ble_eq_true rfl) rfl dX11_street_40 rfl z2 (fun r19 i19 l19 rg19 h => ?_)
    exact g_retI rfl rg19 dX11_street_43 h
  refine g_if_eq (tgt := 26) (pc' := 9) rg2 (bI_eq _) dX11_street_6 rfl rfl (fun c4 => ?_) (fun c4n => ?_)
  · exact hk20g (Or.inl c4)
  · have c4 := Decidable.of_not_not c4n
    refine g_iload_n (pc' := 10) 2 dX11_street_9 rfl rfl ?_
    refine g_bipush (pc' := 12) dX11_street_10 rfl rfl ?_
    refine g_pSI (pc' := 15) (vs := [vI p1, vI 10]) (st := []) (val := bI (0 ≤ p1 ∧ p1 < 10)) (sp_X11_below (le_hd hd rfl) (hob5 c4) (rg_lit rfl)) mk_X11_below ms_X11_below lk_X11_128 rfl (Nat.le_of_ble_eq_true rfl) (Nat.le_of_ble_eq_true rfl) rfl dX11_street_12 rfl z2 (fun rg6 => ?_)
    refine g_if_eq (tgt := 26) (pc' := 18) rg6 (bI_eq _) dX11_street_15 rfl rfl (fun c7 => ?_) (fun c7n => ?_)
    · exact hk20g (Or.inr (Or.inl c7))
    · have c7 := Decidable.of_not_not c7n
      refine g_iload_n (pc' := 19) 3 dX11_street_18 rfl rfl ?_
      refine g_iconst (pc' := 20) dX11_street_19 rfl ?_
      refine g_pSI (pc' := 23) (vs := [vI p2, vI 1]) (st := []) (val := bI (0 ≤ p2 ∧ p2 ≤ 1)) (sp_X11_upTo (le_hd hd rfl) (hob8 c4 c7) (rg_lit rfl)) mk_X11_upTo ms_X11_upTo lk_X11_107 rfl (Nat.le_of_ble_eq_true rfl) (Nat.le_of_ble_eq_true rfl) rfl dX11_street_20 rfl z2 (fun rg9 => ?_)
      refine g_if_ne (tgt := 32) (pc' := 26) rg9 (bI_eq _) dX11_street_23 rfl rfl (fun c10n => ?_) (fun c10 => ?_)
      · have c10 := Decidable.of_not_not c10n
        refine g_iload_n (pc' := 33) 1 dX11_street_32 rfl rfl ?_
        refine g_iload_n (pc' := 34) 2 dX11_street_33 rfl rfl ?_
        refine g_icmp_ne (tgt := 44) (pc' := 37) ob1 (hob5 c4) Iff.rfl dX11_street_34 rfl rfl (fun c11 => ?_) (fun c11 => ?_)
        · exact hk21g ⟨c4, ⟨c7, ⟨c10, c11⟩⟩⟩
        · exact hk22g ⟨c4, ⟨c7, ⟨c10, c11⟩⟩⟩
      · exact hk20g (Or.inr (Or.inr c10))
theorem e_X11_street {w : Wd} {d : Nat} {P : Int → IM → LM → Prop} {i : IM} {l : LM} {p0 : Int} {p1 : Int} {p2 : Int}  (h : gI w d X_X11_street P i l 0 [(0, vR (some 6)), (1, vI p0), (2, vI p1), (3, vI p2)] []) : cI w (d + 1) X_X11_street [vR (some 6), vI p0, vI p1, vI p2] i l P := CI_of (by decide +kernel) (Nat.le_of_ble_eq_true rfl) h

theorem dX11_person_0 : decode cX11_person 0 = .ok (.iload_n 1, 1) := by decide +kernel
theorem dX11_person_1 : decode cX11_person 1 = .ok (.bipush 7, 2) := by decide +kernel
theorem dX11_person_3 : decode cX11_person 3 = .ok (.invokestatic 107, 3) := by decide +kernel
theorem dX11_person_6 : decode cX11_person 6 = .ok (.ifCond .ne 9, 3) := by decide +kernel
theorem dX11_person_9 : decode cX11_person 9 = .ok (.aload_n 0, 1) := by decide +kernel
theorem dX11_person_10 : decode cX11_person 10 = .ok (.iconst (-1), 1) := by decide +kernel
theorem dX11_person_11 : decode cX11_person 11 = .ok (.invokevirtual 111, 3) := by decide +kernel
theorem dX11_person_14 : decode cX11_person 14 = .ok (.ireturn, 1) := by decide +kernel
theorem dX11_person_15 : decode cX11_person 15 = .ok (.aload_n 0, 1) := by decide +kernel
theorem dX11_person_16 : decode cX11_person 16 = .ok (.getfield 10, 3) := by decide +kernel
theorem dX11_person_19 : decode cX11_person 19 = .ok (.getfield 167, 3) := by decide +kernel
theorem dX11_person_22 : decode cX11_person 22 = .ok (.iconst 5, 1) := by decide +kernel
theorem dX11_person_23 : decode cX11_person 23 = .ok (.if_icmp .lt 10, 3) := by decide +kernel
theorem dX11_person_26 : decode cX11_person 26 = .ok (.aload_n 0, 1) := by decide +kernel
theorem dX11_person_27 : decode cX11_person 27 = .ok (.bipush (-5), 2) := by decide +kernel
theorem dX11_person_29 : decode cX11_person 29 = .ok (.invokevirtual 111, 3) := by decide +kernel
theorem dX11_person_32 : decode cX11_person 32 = .ok (.ireturn, 1) := by decide +kernel
theorem dX11_person_33 : decode cX11_person 33 = .ok (.aload_n 0, 1) := by decide +kernel
theorem dX11_person_34 : decode cX11_person 34 = .ok (.getfield 10, 3) := by decide +kernel
theorem dX11_person_37 : decode cX11_person 37 = .ok (.getfield 170, 3) := by decide +kernel
theorem dX11_person_40 : decode cX11_person 40 = .ok (.aload_n 0, 1) := by decide +kernel
theorem dX11_person_41 : decode cX11_person 41 = .ok (.getfield 10, 3) := by decide +kernel
theorem dX11_person_44 : decode cX11_person 44 = .ok (.getfield 167, 3) := by decide +kernel
theorem dX11_person_47 : decode cX11_person 47 = .ok (.iload_n 1, 1) := by decide +kernel
theorem dX11_person_48 : decode cX11_person 48 = .ok (.iastore, 1) := by decide +kernel
theorem dX11_person_49 : decode cX11_person 49 = .ok (.aload_n 0, 1) := by decide +kernel
theorem dX11_person_50 : decode cX11_person 50 = .ok (.getfield 10, 3) := by decide +kernel
theorem dX11_person_53 : decode cX11_person 53 = .ok (.dup, 1) := by decide +kernel
theorem dX11_person_54 : decode cX11_person 54 = .ok (.getfield 167, 3) := by decide +kernel
theorem dX11_person_57 : decode cX11_person 57 = .ok (.iconst 1, 1) := by decide +kernel
theorem dX11_person_58 : decode cX11_person 58 = .ok (.iadd, 1) := by decide +kernel
theorem dX11_person_59 : decode cX11_person 59 = .ok (.putfield 167, 3) := by decide +kernel
theorem dX11_person_62 : decode cX11_person 62 = .ok (.aload_n 0, 1) := by decide +kernel
theorem dX11_person_63 : decode cX11_person 63 = .ok (.aload_n 0, 1) := by decide +kernel
theorem dX11_person_64 : decode cX11_person 64 = .ok (.getfield 10, 3) := by decide +kernel
theorem dX11_person_67 : decode cX11_person 67 = .ok (.getfield 167, 3) := by decide +kernel
theorem dX11_person_70 : decode cX11_person 70 = .ok (.iconst 1, 1) := by decide +kernel
theorem dX11_person_71 : decode cX11_person 71 = .ok (.isub, 1) := by decide +kernel
theorem dX11_person_72 : decode cX11_person 72 = .ok (.invokevirtual 122, 3) := by decide +kernel
theorem dX11_person_75 : decode cX11_person 75 = .ok (.ireturn, 1) := by decide +kernel
set_option maxRecDepth 20000 in
theorem s_X11_person {w : Wd} {d : Nat} {P : Int → IM → LM → Prop} {i : IM} {l : LM} (p0 : Int)  (hd : 1 ≤ d) (h : ((rg p0) ∧ ((((0 ≤ p0 ∧ p0 ≤ 7) ∧ (i 7 10 < 5)) → ((0 ≤ i 7 10 ∧ i 7 10 < 5) ∧ (rg (((u2 i 10 (i 7 10) p0) 7 10) + 1)) ∧ cI w d X_X11_changed [vR (some 6), vI (((u2 (u2 i 10 (i 7 10) p0) 7 10 (((u2 i 10 (i 7 10) p0) 7 10) + 1)) 7 10) - 1)] (u2 (u2 i 10 (i 7 10) p0) 7 10 (((u2 i 10 (i 7 10) p0) 7 10) + 1)) l (fun r13 i13 l13 => P r13 i13 l13))) ∧ (((0 ≤ p0 ∧ p0 ≤ 7) ∧ (¬ (i 7 10 < 5))) → cI w d X_X11_refuse [vR (some 6), vI (-5)] i l (fun r14 i14 l14 => P r14 i14 l14)) ∧ ((¬ (0 ≤ p0 ∧ p0 ≤ 7)) → cI w d X_X11_refuse [vR (some 6), vI (-1)] i l (fun r15 i15 l15 => P r15 i15 l15))))) : gI w d X_X11_person P i l 0 [(0, vR (some 6)), (1, vI p0)] [] := by
  obtain ⟨ob1, h⟩ := h
  refine g_iload_n (pc' := 1) 1 dX11_person_0 rfl rfl ?_
  refine g_bipush (pc' := 3) dX11_person_1 rfl rfl ?_
  refine g_pSI (pc' := 6) (vs := [vI p0, vI 7]) (st := []) (val := bI (0 ≤ p0 ∧ p0 ≤ 7)) (sp_X11_upTo (le_hd hd rfl) ob1 (rg_lit rfl)) mk_X11_upTo ms_X11_upTo lk_X11_107 rfl (Nat.le_of_ble_eq_true rfl) (Nat.le_of_ble_eq_true rfl) rfl dX11_person_3 rfl z2 (fun rg2 => ?_)
  obtain ⟨hk16, hk17, hk18⟩ := h
  have hk16g : ((0 ≤ p0 ∧ p0 ≤ 7) ∧ (i 7 10 < 5)) → gI w d X_X11_person P i l 33 [(0, vR (some 6)), (1, vI p0)] [] := by
    intro hp
    have h := hk16 hp
    obtain ⟨ob9, ob11, h⟩ := h
    refine g_aload_n (pc' := 34) 0 dX11_person_33 rfl rfl ?_
    refine g_getR (pc' := 37) (o := some 7) fl_X11_10 rfl rfl rfl dX11_person_34 rfl ?_
    refine g_getR (pc' := 40) (o := some 10) fl_X11_170 rfl rfl rfl dX11_person_37 rfl ?_
    refine g_aload_n (pc' := 41) 0 dX11_person_40 rfl rfl ?_
    refine g_getR (pc' := 44) (o := some 7) fl_X11_10 rfl rfl rfl dX11_person_41 rfl ?_
    refine g_getI (pc' := 47) (z := 10) rfl fl_X11_167 rfl rfl dX11_person_44 rfl (fun rg8 => ?_)
    refine g_iload_n (pc' := 48) 1 dX11_person_47 rfl rfl ?_
    refine g_iast (pc' := 49) (N := 5) rfl rfl (Nat.lt_of_lt_of_le (Nat.lt_succ_self _) (Nat.le_of_ble_eq_true rfl)) ob9 ob1 dX11_person_48 rfl ?_
    refine g_aload_n (pc' := 50) 0 dX11_person_49 rfl rfl ?_
    refine g_getR (pc' := 53) (o := some 7) fl_X11_10 rfl rfl rfl dX11_person_50 rfl ?_
    refine g_dup (pc' := 54) dX11_person_53 rfl rfl ?_
    refine g_getI (pc' := 57) (z := 10) rfl fl_X11_167 rfl rfl dX11_person_54 rfl (fun rg10 => ?_)
    refine g_iconst (pc' := 58) dX11_person_57 rfl ?_
    refine g_iadd (pc' := 59) dX11_person_58 rfl ?_
    refine g_putI (pc' := 62) (z := 10) rfl fp_X11_167 rfl rfl ob11 dX11_person_59 rfl ?_
    refine g_aload_n (pc' := 63) 0 dX11_person_62 rfl rfl ?_
    refine g_aload_n (pc' := 64) 0 dX11_person_63 rfl rfl ?_
    refine g_getR (pc' := 67) (o := some 7) fl_X11_10 rfl rfl rfl dX11_person_64 rfl ?_
    refine g_getI (pc' := 70) (z := 10) rfl fl_X11_167 rfl rfl dX11_person_67 rfl (fun rg12 => ?_)
    refine g_iconst (pc' := 71) dX11_person_70 rfl ?_
    refine g_isub (pc' := 72) dX11_person_71 rfl ?_
    refine g_cVI (pc' := 75) (vs := [vI (((u2 (u2 i 10 (i 7 10) p0) 7 10 (((u2 i 10 (i 7 10) p0) 7 10) + 1)) 7 10) - 1)]) (st := []) (c := 11) h mv_X11_changed lk_X11_122 rfl rfl rfl rfl (Nat.le_of_ble_eq_true rfl) (Nat.le_of_ble_eq_true rfl) rfl dX11_person_72 rfl z2 (fun r13 i13 l13 rg13 h => ?_)
    exact g_retI rfl rg13 dX11_person_75 h
  have hk17g : ((0 ≤ p0 ∧ p0 ≤ 7) ∧ (¬ (i 7 10 < 5))) → gI w d X_X11_person P i l 26 [(0, vR (some 6)), (1, vI p0)] [] := by
    intro hp
    have h := hk17 hp
    refine g_aload_n (pc' := 27) 0 dX11_person_26 rfl rfl ?_
    refine g_bipush (pc' := 29) dX11_person_27 rfl rfl ?_
    refine g_cVI (pc' := 32) (vs := [vI (-5)]) (st := []) (c := 11) h mv_X11_refuse lk_X11_111 rfl rfl rfl rfl (Nat.le_of_ble_eq_true rfl) (Nat.le_of_ble_eq_true rfl) rfl dX11_person_29 rfl z2 (fun r14 i14 l14 rg14 h => ?_)
    exact g_retI rfl rg14 dX11_person_32 h
  have hk18g : (¬ (0 ≤ p0 ∧ p0 ≤ 7)) → gI w d X_X11_person P i l 9 [(0, vR (some 6)), (1, vI p0)] [] := by
    intro hp
    have h := hk18 hp
    refine g_aload_n (pc' := 10) 0 dX11_person_9 rfl rfl ?_
    refine g_iconst (pc' := 11) dX11_person_10 rfl ?_
    refine g_cVI (pc' := 14) (vs := [vI (-1)]) (st := []) (c := 11) h mv_X11_refuse lk_X11_111 rfl rfl rfl rfl (Nat.le_of_ble_eq_true rfl) (Nat.le_of_ble_eq_true rfl) rfl dX11_person_11 rfl z2 (fun r15 i15 l15 rg15 h => ?_)
    exact g_retI rfl rg15 dX11_person_14 h
  refine g_if_ne (tgt := 15) (pc' := 9) rg2 (bI_eq _) dX11_person_6 rfl rfl (fun c4n => ?_) (fun c4 => ?_)
  · have c4 := Decidable.of_not_not c4n
    refine g_aload_n (pc' := 16) 0 dX11_person_15 rfl rfl ?_
    refine g_getR (pc' := 19) (o := some 7) fl_X11_10 rfl rfl rfl dX11_person_16 rfl ?_
    refine g_getI (pc' := 22) (z := 10) rfl fl_X11_167 rfl rfl dX11_person_19 rfl (fun rg5 => ?_)
    refine g_iconst (pc' := 23) dX11_person_22 rfl ?_
    refine g_icmp_lt (tgt := 33) (pc' := 26) rg5 (rg_lit rfl) Iff.rfl dX11_person_23 rfl rfl (fun c6 => ?_) (fun c6 => ?_)
    · exact hk16g ⟨c4, c6⟩
    · exact hk17g ⟨c4, c6⟩
  · exact hk18g c4
theorem e_X11_person {w : Wd} {d : Nat} {P : Int → IM → LM → Prop} {i : IM} {l : LM} {p0 : Int}  (h : gI w d X_X11_person P i l 0 [(0, vR (some 6)), (1, vI p0)] []) : cI w (d + 1) X_X11_person [vR (some 6), vI p0] i l P := CI_of (by decide +kernel) (Nat.le_of_ble_eq_true rfl) h

theorem dX11_coat_0 : decode cX11_coat 0 = .ok (.iload_n 2, 1) := by decide +kernel
theorem dX11_coat_1 : decode cX11_coat 1 = .ok (.bipush 7, 2) := by decide +kernel
theorem dX11_coat_3 : decode cX11_coat 3 = .ok (.invokestatic 107, 3) := by decide +kernel
theorem dX11_coat_6 : decode cX11_coat 6 = .ok (.ifCond .ne 9, 3) := by decide +kernel
theorem dX11_coat_9 : decode cX11_coat 9 = .ok (.aload_n 0, 1) := by decide +kernel
theorem dX11_coat_10 : decode cX11_coat 10 = .ok (.iconst (-1), 1) := by decide +kernel
theorem dX11_coat_11 : decode cX11_coat 11 = .ok (.invokevirtual 111, 3) := by decide +kernel
theorem dX11_coat_14 : decode cX11_coat 14 = .ok (.ireturn, 1) := by decide +kernel
theorem dX11_coat_15 : decode cX11_coat 15 = .ok (.iload_n 1, 1) := by decide +kernel
theorem dX11_coat_16 : decode cX11_coat 16 = .ok (.aload_n 0, 1) := by decide +kernel
theorem dX11_coat_17 : decode cX11_coat 17 = .ok (.getfield 10, 3) := by decide +kernel
theorem dX11_coat_20 : decode cX11_coat 20 = .ok (.getfield 167, 3) := by decide +kernel
theorem dX11_coat_23 : decode cX11_coat 23 = .ok (.invokestatic 128, 3) := by decide +kernel
theorem dX11_coat_26 : decode cX11_coat 26 = .ok (.ifCond .ne 10, 3) := by decide +kernel
theorem dX11_coat_29 : decode cX11_coat 29 = .ok (.aload_n 0, 1) := by decide +kernel
theorem dX11_coat_30 : decode cX11_coat 30 = .ok (.bipush (-2), 2) := by decide +kernel
theorem dX11_coat_32 : decode cX11_coat 32 = .ok (.invokevirtual 111, 3) := by decide +kernel
theorem dX11_coat_35 : decode cX11_coat 35 = .ok (.ireturn, 1) := by decide +kernel
theorem dX11_coat_36 : decode cX11_coat 36 = .ok (.aload_n 0, 1) := by decide +kernel
theorem dX11_coat_37 : decode cX11_coat 37 = .ok (.getfield 10, 3) := by decide +kernel
theorem dX11_coat_40 : decode cX11_coat 40 = .ok (.getfield 170, 3) := by decide +kernel
theorem dX11_coat_43 : decode cX11_coat 43 = .ok (.iload_n 1, 1) := by decide +kernel
theorem dX11_coat_44 : decode cX11_coat 44 = .ok (.iaload, 1) := by decide +kernel
theorem dX11_coat_45 : decode cX11_coat 45 = .ok (.istore_n 3, 1) := by decide +kernel
theorem dX11_coat_46 : decode cX11_coat 46 = .ok (.aload_n 0, 1) := by decide +kernel
theorem dX11_coat_47 : decode cX11_coat 47 = .ok (.getfield 10, 3) := by decide +kernel
theorem dX11_coat_50 : decode cX11_coat 50 = .ok (.getfield 170, 3) := by decide +kernel
theorem dX11_coat_53 : decode cX11_coat 53 = .ok (.iload_n 1, 1) := by decide +kernel
theorem dX11_coat_54 : decode cX11_coat 54 = .ok (.iload_n 2, 1) := by decide +kernel
theorem dX11_coat_55 : decode cX11_coat 55 = .ok (.iastore, 1) := by decide +kernel
theorem dX11_coat_56 : decode cX11_coat 56 = .ok (.aload_n 0, 1) := by decide +kernel
theorem dX11_coat_57 : decode cX11_coat 57 = .ok (.iload_n 3, 1) := by decide +kernel
theorem dX11_coat_58 : decode cX11_coat 58 = .ok (.invokevirtual 122, 3) := by decide +kernel
theorem dX11_coat_61 : decode cX11_coat 61 = .ok (.ireturn, 1) := by decide +kernel
set_option maxRecDepth 20000 in
theorem s_X11_coat {w : Wd} {d : Nat} {P : Int → IM → LM → Prop} {i : IM} {l : LM} (p0 : Int) (p1 : Int)  (hd : 1 ≤ d) (h : ((rg p1) ∧ (((0 ≤ p1 ∧ p1 ≤ 7) → rg p0) ∧ (((0 ≤ p1 ∧ p1 ≤ 7) ∧ (0 ≤ p0 ∧ p0 < i 7 10)) → ((0 ≤ p0 ∧ p0 < 5) ∧ cI w d X_X11_changed [vR (some 6), vI (i 10 p0)] (u2 i 10 p0 p1) l (fun r13 i13 l13 => P r13 i13 l13))) ∧ (((0 ≤ p1 ∧ p1 ≤ 7) ∧ (¬ (0 ≤ p0 ∧ p0 < i 7 10))) → cI w d X_X11_refuse [vR (some 6), vI (-2)] i l (fun r14 i14 l14 => P r14 i14 l14)) ∧ ((¬ (0 ≤ p1 ∧ p1 ≤ 7)) → cI w d X_X11_refuse [vR (some 6), vI (-1)] i l (fun r15 i15 l15 => P r15 i15 l15))))) : gI w d X_X11_coat P i l 0 [(0, vR (some 6)), (1, vI p0), (2, vI p1)] [] := by
  obtain ⟨ob1, h⟩ := h
  refine g_iload_n (pc' := 1) 2 dX11_coat_0 rfl rfl ?_
  refine g_bipush (pc' := 3) dX11_coat_1 rfl rfl ?_
  refine g_pSI (pc' := 6) (vs := [vI p1, vI 7]) (st := []) (val := bI (0 ≤ p1 ∧ p1 ≤ 7)) (sp_X11_upTo (le_hd hd rfl) ob1 (rg_lit rfl)) mk_X11_upTo ms_X11_upTo lk_X11_107 rfl (Nat.le_of_ble_eq_true rfl) (Nat.le_of_ble_eq_true rfl) rfl dX11_coat_3 rfl z2 (fun rg2 => ?_)
  obtain ⟨hob6, hk16, hk17, hk18⟩ := h
  have hk16g : ((0 ≤ p1 ∧ p1 ≤ 7) ∧ (0 ≤ p0 ∧ p0 < i 7 10)) → gI w d X_X11_coat P i l 36 [(0, vR (some 6)), (1, vI p0), (2, vI p1)] [] := by
    intro hp
    have h := hk16 hp
    obtain ⟨ob11, h⟩ := h
    refine g_aload_n (pc' := 37) 0 dX11_coat_36 rfl rfl ?_
    refine g_getR (pc' := 40) (o := some 7) fl_X11_10 rfl rfl rfl dX11_coat_37 rfl ?_
    refine g_getR (pc' := 43) (o := some 10) fl_X11_170 rfl rfl rfl dX11_coat_40 rfl ?_
    refine g_iload_n (pc' := 44) 1 dX11_coat_43 rfl rfl ?_
    refine g_iald (pc' := 45) (N := 5) rfl rfl (Nat.lt_of_lt_of_le (Nat.lt_succ_self _) (Nat.le_of_ble_eq_true rfl)) ob11 dX11_coat_44 rfl (fun rg12 => ?_)
    refine g_istore_n (pc' := 46) (L' := [(3, vI (i 10 p0)), (0, vR (some 6)), (1, vI p0), (2, vI p1)]) dX11_coat_45 rfl (Nat.le_of_ble_eq_true rfl) rfl ?_
    refine g_aload_n (pc' := 47) 1 dX11_coat_46 rfl rfl ?_
    refine g_getR (pc' := 50) (o := some 7) fl_X11_10 rfl rfl rfl dX11_coat_47 rfl ?_
    refine g_getR (pc' := 53) (o := some 10) fl_X11_170 rfl rfl rfl dX11_coat_50 rfl ?_
    refine g_iload_n (pc' := 54) 2 dX11_coat_53 rfl rfl ?_
    refine g_iload_n (pc' := 55) 3 dX11_coat_54 rfl rfl ?_
    refine g_iast (pc' := 56) (N := 5) rfl rfl (Nat.lt_of_lt_of_le (Nat.lt_succ_self _) (Nat.le_of_ble_eq_true rfl)) ob11 ob1 dX11_coat_55 rfl ?_
    refine g_aload_n (pc' := 57) 1 dX11_coat_56 rfl rfl ?_
    refine g_iload_n (pc' := 58) 0 dX11_coat_57 rfl rfl ?_
    refine g_cVI (pc' := 61) (vs := [vI (i 10 p0)]) (st := []) (c := 11) h mv_X11_changed lk_X11_122 rfl rfl rfl rfl (Nat.le_of_ble_eq_true rfl) (Nat.le_of_ble_eq_true rfl) rfl dX11_coat_58 rfl z2 (fun r13 i13 l13 rg13 h => ?_)
    exact g_retI rfl rg13 dX11_coat_61 h
  have hk17g : ((0 ≤ p1 ∧ p1 ≤ 7) ∧ (¬ (0 ≤ p0 ∧ p0 < i 7 10))) → gI w d X_X11_coat P i l 29 [(0, vR (some 6)), (1, vI p0), (2, vI p1)] [] := by
    intro hp
    have h := hk17 hp
    refine g_aload_n (pc' := 30) 0 dX11_coat_29 rfl rfl ?_
    refine g_bipush (pc' := 32) dX11_coat_30 rfl rfl ?_
    refine g_cVI (pc' := 35) (vs := [vI (-2)]) (st := []) (c := 11) h mv_X11_refuse lk_X11_111 rfl rfl rfl rfl (Nat.le_of_ble_eq_true rfl) (Nat.le_of_ble_eq_true rfl) rfl dX11_coat_32 rfl z2 (fun r14 i14 l14 rg14 h => ?_)
    exact g_retI rfl rg14 dX11_coat_35 h
  have hk18g : (¬ (0 ≤ p1 ∧ p1 ≤ 7)) → gI w d X_X11_coat P i l 9 [(0, vR (some 6)), (1, vI p0), (2, vI p1)] [] := by
    intro hp
    have h := hk18 hp
    refine g_aload_n (pc' := 10) 0 dX11_coat_9 rfl rfl ?_
    refine g_iconst (pc' := 11) dX11_coat_10 rfl ?_
    refine g_cVI (pc' := 14) (vs := [vI (-1)]) (st := []) (c := 11) h mv_X11_refuse lk_X11_111 rfl rfl rfl rfl (Nat.le_of_ble_eq_true rfl) (Nat.le_of_ble_eq_true rfl) rfl dX11_coat_11 rfl z2 (fun r15 i15 l15 rg15 h => ?_)
    exact g_retI rfl rg15 dX11_coat_14 h
  refine g_if_ne (tgt := 15) (pc' := 9) rg2 (bI_eq _) dX11_coat_6 rfl rfl (fun c4n => ?_) (fun c4 => ?_)
  · have c4 := Decidable.of_not_not c4n
    refine g_iload_n (pc' := 16) 1 dX11_coat_15 rfl rfl ?_
    refine g_aload_n (pc' := 17) 0 dX11_coat_16 rfl rfl ?_
    refine g_getR (pc' := 20) (o := some 7) fl_X11_10 rfl rfl rfl dX11_coat_17 rfl ?_
    refine g_getI (pc' := 23) (z := 10) rfl fl_X11_167 rfl rfl dX11_coat_20 rfl (fun rg5 => ?_)
    refine g_pSI (pc' := 26) (vs := [vI p0, vI (i 7 10)]) (st := []) (val := bI (0 ≤ p0 ∧ p0 < i 7 10)) (sp_X11_below (le_hd hd rfl) (hob6 c4) rg5) mk_X11_below ms_X11_below lk_X11_128 rfl (Nat.le_of_ble_eq_true rfl) (Nat.le_of_ble_eq_true rfl) rfl dX11_coat_23 rfl z2 (fun rg7 => ?_)
    refine g_if_ne (tgt := 36) (pc' := 29) rg7 (bI_eq _) dX11_coat_26 rfl rfl (fun c8n => ?_) (fun c8 => ?_)
    · have c8 := Decidable.of_not_not c8n
      exact hk16g ⟨c4, c8⟩
    · exact hk17g ⟨c4, c8⟩
  · exact hk18g c4
theorem e_X11_coat {w : Wd} {d : Nat} {P : Int → IM → LM → Prop} {i : IM} {l : LM} {p0 : Int} {p1 : Int}  (h : gI w d X_X11_coat P i l 0 [(0, vR (some 6)), (1, vI p0), (2, vI p1)] []) : cI w (d + 1) X_X11_coat [vR (some 6), vI p0, vI p1] i l P := CI_of (by decide +kernel) (Nat.le_of_ble_eq_true rfl) h

theorem dX11_same_0 : decode cX11_same 0 = .ok (.iload_n 1, 1) := by decide +kernel
theorem dX11_same_1 : decode cX11_same 1 = .ok (.bipush 7, 2) := by decide +kernel
theorem dX11_same_3 : decode cX11_same 3 = .ok (.invokestatic 107, 3) := by decide +kernel
theorem dX11_same_6 : decode cX11_same 6 = .ok (.ifCond .eq 20, 3) := by decide +kernel
theorem dX11_same_9 : decode cX11_same 9 = .ok (.iload_n 2, 1) := by decide +kernel
theorem dX11_same_10 : decode cX11_same 10 = .ok (.bipush 7, 2) := by decide +kernel
theorem dX11_same_12 : decode cX11_same 12 = .ok (.invokestatic 107, 3) := by decide +kernel
theorem dX11_same_15 : decode cX11_same 15 = .ok (.ifCond .eq 11, 3) := by decide +kernel
theorem dX11_same_18 : decode cX11_same 18 = .ok (.iload_n 3, 1) := by decide +kernel
theorem dX11_same_19 : decode cX11_same 19 = .ok (.iconst 1, 1) := by decide +kernel
theorem dX11_same_20 : decode cX11_same 20 = .ok (.invokestatic 107, 3) := by decide +kernel
theorem dX11_same_23 : decode cX11_same 23 = .ok (.ifCond .ne 9, 3) := by decide +kernel
theorem dX11_same_26 : decode cX11_same 26 = .ok (.aload_n 0, 1) := by decide +kernel
theorem dX11_same_27 : decode cX11_same 27 = .ok (.iconst (-1), 1) := by decide +kernel
theorem dX11_same_28 : decode cX11_same 28 = .ok (.invokevirtual 111, 3) := by decide +kernel
theorem dX11_same_31 : decode cX11_same 31 = .ok (.ireturn, 1) := by decide +kernel
theorem dX11_same_32 : decode cX11_same 32 = .ok (.iload_n 1, 1) := by decide +kernel
theorem dX11_same_33 : decode cX11_same 33 = .ok (.iload_n 2, 1) := by decide +kernel
theorem dX11_same_34 : decode cX11_same 34 = .ok (.if_icmp .ne 10, 3) := by decide +kernel
theorem dX11_same_37 : decode cX11_same 37 = .ok (.aload_n 0, 1) := by decide +kernel
theorem dX11_same_38 : decode cX11_same 38 = .ok (.bipush (-3), 2) := by decide +kernel
theorem dX11_same_40 : decode cX11_same 40 = .ok (.invokevirtual 111, 3) := by decide +kernel
theorem dX11_same_43 : decode cX11_same 43 = .ok (.ireturn, 1) := by decide +kernel
theorem dX11_same_44 : decode cX11_same 44 = .ok (.aload_n 0, 1) := by decide +kernel
theorem dX11_same_45 : decode cX11_same 45 = .ok (.getfield 10, 3) := by decide +kernel
theorem dX11_same_48 : decode cX11_same 48 = .ok (.getfield 173, 3) := by decide +kernel
theorem dX11_same_51 : decode cX11_same 51 = .ok (.iload_n 1, 1) := by decide +kernel
theorem dX11_same_52 : decode cX11_same 52 = .ok (.iaload, 1) := by decide +kernel
theorem dX11_same_53 : decode cX11_same 53 = .ok (.iload_n 2, 1) := by decide +kernel
theorem dX11_same_54 : decode cX11_same 54 = .ok (.ishr, 1) := by decide +kernel
theorem dX11_same_55 : decode cX11_same 55 = .ok (.iconst 1, 1) := by decide +kernel
theorem dX11_same_56 : decode cX11_same 56 = .ok (.iand, 1) := by decide +kernel
theorem dX11_same_57 : decode cX11_same 57 = .ok (.istore 4, 2) := by decide +kernel
theorem dX11_same_59 : decode cX11_same 59 = .ok (.aload_n 0, 1) := by decide +kernel
theorem dX11_same_60 : decode cX11_same 60 = .ok (.getfield 10, 3) := by decide +kernel
theorem dX11_same_63 : decode cX11_same 63 = .ok (.aload_n 0, 1) := by decide +kernel
theorem dX11_same_64 : decode cX11_same 64 = .ok (.getfield 10, 3) := by decide +kernel
theorem dX11_same_67 : decode cX11_same 67 = .ok (.getfield 173, 3) := by decide +kernel
theorem dX11_same_70 : decode cX11_same 70 = .ok (.iload_n 1, 1) := by decide +kernel
theorem dX11_same_71 : decode cX11_same 71 = .ok (.iload_n 2, 1) := by decide +kernel
theorem dX11_same_72 : decode cX11_same 72 = .ok (.iload_n 3, 1) := by decide +kernel
theorem dX11_same_73 : decode cX11_same 73 = .ok (.invokevirtual 163, 3) := by decide +kernel
theorem dX11_same_76 : decode cX11_same 76 = .ok (.aload_n 0, 1) := by decide +kernel
theorem dX11_same_77 : decode cX11_same 77 = .ok (.getfield 10, 3) := by decide +kernel
theorem dX11_same_80 : decode cX11_same 80 = .ok (.invokevirtual 176, 3) := by decide +kernel
theorem dX11_same_83 : decode cX11_same 83 = .ok (.aload_n 0, 1) := by decide +kernel
theorem dX11_same_84 : decode cX11_same 84 = .ok (.iload 4, 2) := by decide +kernel
theorem dX11_same_86 : decode cX11_same 86 = .ok (.invokevirtual 122, 3) := by decide +kernel
theorem dX11_same_89 : decode cX11_same 89 = .ok (.ireturn, 1) := by decide +kernel
set_option maxRecDepth 20000 in
theorem s_X11_same {w : Wd} {d : Nat} {P : Int → IM → LM → Prop} {i : IM} {l : LM} (p0 : Int) (p1 : Int) (p2 : Int)  (hd : 1 ≤ d) (h : ((rg p0) ∧ (((0 ≤ p0 ∧ p0 ≤ 7) → rg p1) ∧ ((0 ≤ p0 ∧ p0 ≤ 7) → (0 ≤ p1 ∧ p1 ≤ 7) → rg p2) ∧ ((¬ (0 ≤ p0 ∧ p0 ≤ 7) ∨ (¬ (0 ≤ p1 ∧ p1 ≤ 7) ∨ (¬ (0 ≤ p2 ∧ p2 ≤ 1)))) → cI w d X_X11_refuse [vR (some 6), vI (-1)] i l (fun r14 i14 l14 => P r14 i14 l14)) ∧ (((0 ≤ p0 ∧ p0 ≤ 7) ∧ ((0 ≤ p1 ∧ p1 ≤ 7) ∧ ((0 ≤ p2 ∧ p2 ≤ 1) ∧ (¬ (p0 = p1))))) → ((0 ≤ p0 ∧ p0 < 8) ∧ cVd w d X_X9_join [vR (some 7), vR (some 12), vI p0, vI p1, vI p2] i l (fun i17 l17 => cVd w d X_X9_gather [vR (some 7)] i17 l17 (fun i18 l18 => cI w d X_X11_changed [vR (some 6), vI (iand (ishr (i 12 p0) p1) 1)] i18 l18 (fun r19 i19 l19 => P r19 i19 l19))))) ∧ (((0 ≤ p0 ∧ p0 ≤ 7) ∧ ((0 ≤ p1 ∧ p1 ≤ 7) ∧ ((0 ≤ p2 ∧ p2 ≤ 1) ∧ (p0 = p1)))) → cI w d X_X11_refuse [vR (some 6), vI (-3)] i l (fun r20 i20 l20 => P r20 i20 l20))))) : gI w d X_X11_same P i l 0 [(0, vR (some 6)), (1, vI p0), (2, vI p1), (3, vI p2)] [] := by
  obtain ⟨ob1, h⟩ := h
  refine g_iload_n (pc' := 1) 1 dX11_same_0 rfl rfl ?_
  refine g_bipush (pc' := 3) dX11_same_1 rfl rfl ?_
  refine g_pSI (pc' := 6) (vs := [vI p0, vI 7]) (st := []) (val := bI (0 ≤ p0 ∧ p0 ≤ 7)) (sp_X11_upTo (le_hd hd rfl) ob1 (rg_lit rfl)) mk_X11_upTo ms_X11_upTo lk_X11_107 rfl (Nat.le_of_ble_eq_true rfl) (Nat.le_of_ble_eq_true rfl) rfl dX11_same_3 rfl z2 (fun rg2 => ?_)
  obtain ⟨hob5, hob8, hk21, hk22, hk23⟩ := h
  have hk21g : (¬ (0 ≤ p0 ∧ p0 ≤ 7) ∨ (¬ (0 ≤ p1 ∧ p1 ≤ 7) ∨ (¬ (0 ≤ p2 ∧ p2 ≤ 1)))) → gI w d X_X11_same P i l 26 [(0, vR (some 6)), (1, vI p0), (2, vI p1), (3, vI p2)] [] := by
    intro hp
    have h := hk21 hp
    refine g_aload_n (pc' := 27) 0 dX11_same_26 rfl rfl ?_
    refine g_iconst (pc' := 28) dX11_same_27 rfl ?_
    refine g_cVI (pc' := 31) (vs := [vI (-1)]) (st := []) (c := 11) h mv_X11_refuse lk_X11_111 rfl rfl rfl rfl (Nat.le_of_ble_eq_true rfl) (Nat.le_of_ble_eq_true rfl) rfl dX11_same_28 rfl z2 (fun r14 i14 l14 rg14 h => ?_)
    exact g_retI rfl rg14 dX11_same_31 h
  have hk22g : ((0 ≤ p0 ∧ p0 ≤ 7) ∧ ((0 ≤ p1 ∧ p1 ≤ 7) ∧ ((0 ≤ p2 ∧ p2 ≤ 1) ∧ (¬ (p0 = p1))))) → gI w d X_X11_same P i l 44 [(0, vR (some 6)), (1, vI p0), (2, vI p1), (3, vI p2)] [] := by
    intro hp
    have h := hk22 hp
    obtain ⟨ob15, h⟩ := h
    refine g_aload_n (pc' := 45) 0 dX11_same_44 rfl rfl ?_
    refine g_getR (pc' := 48) (o := some 7) fl_X11_10 rfl rfl rfl dX11_same_45 rfl ?_
    refine g_getR (pc' := 51) (o := some 12) fl_X11_173 rfl rfl rfl dX11_same_48 rfl ?_
    refine g_iload_n (pc' := 52) 1 dX11_same_51 rfl rfl ?_
    refine g_iald (pc' := 53) (N := 8) rfl rfl (Nat.lt_of_lt_of_le (Nat.lt_succ_self _) (Nat.le_of_ble_eq_true rfl)) ob15 dX11_same_52 rfl (fun rg16 => ?_)
    refine g_iload_n (pc' := 54) 2 dX11_same_53 rfl rfl ?_
    refine g_ishr (pc' := 55) dX11_same_54 rfl ?_
    refine g_iconst (pc' := 56) dX11_same_55 rfl ?_
    refine g_iand (pc' := 57) dX11_same_56 rfl ?_
    refine g_istore (pc' := 59) (L' := [(4, vI (iand (ishr (i 12 p0) p1) 1)), (0, vR (some 6)), (1, vI p0), (2, vI p1), (3, vI p2)]) dX11_same_57 rfl (Nat.le_of_ble_eq_true rfl) rfl ?_
    refine g_aload_n (pc' := 60) 1 dX11_same_59 rfl rfl ?_
    refine g_getR (pc' := 63) (o := some 7) fl_X11_10 rfl rfl rfl dX11_same_60 rfl ?_
    refine g_aload_n (pc' := 64) 1 dX11_same_63 rfl rfl ?_
    refine g_getR (pc' := 67) (o := some 7) fl_X11_10 rfl rfl rfl dX11_same_64 rfl ?_
    refine g_getR (pc' := 70) (o := some 12) fl_X11_173 rfl rfl rfl dX11_same_67 rfl ?_
    refine g_iload_n (pc' := 71) 2 dX11_same_70 rfl rfl ?_
    refine g_iload_n (pc' := 72) 3 dX11_same_71 rfl rfl ?_
    refine g_iload_n (pc' := 73) 4 dX11_same_72 rfl rfl ?_
    refine g_cVV (pc' := 76) (vs := [vR (some 12), vI p0, vI p1, vI p2]) (st := []) (c := 9) h mv_X9_join lk_X11_163 rfl rfl rfl rfl (Nat.le_of_ble_eq_true rfl) (Nat.le_of_ble_eq_true rfl) rfl dX11_same_73 rfl z2 (fun i17 l17 h => ?_)
    refine g_aload_n (pc' := 77) 1 dX11_same_76 rfl rfl ?_
    refine g_getR (pc' := 80) (o := some 7) fl_X11_10 rfl rfl rfl dX11_same_77 rfl ?_
    refine g_cVV (pc' := 83) (vs := []) (st := []) (c := 9) h mv_X9_gather lk_X11_176 rfl rfl rfl rfl (Nat.le_of_ble_eq_true rfl) (Nat.le_of_ble_eq_true rfl) rfl dX11_same_80 rfl z2 (fun i18 l18 h => ?_)
    refine g_aload_n (pc' := 84) 1 dX11_same_83 rfl rfl ?_
    refine g_iload (pc' := 86) 0 dX11_same_84 rfl rfl ?_
    refine g_cVI (pc' := 89) (vs := [vI (iand (ishr (i 12 p0) p1) 1)]) (st := []) (c := 11) h mv_X11_changed lk_X11_122 rfl rfl rfl rfl (Nat.le_of_ble_eq_true rfl) (Nat.le_of_ble_eq_true rfl) rfl dX11_same_86 rfl z2 (fun r19 i19 l19 rg19 h => ?_)
    exact g_retI rfl rg19 dX11_same_89 h
  have hk23g : ((0 ≤ p0 ∧ p0 ≤ 7) ∧ ((0 ≤ p1 ∧ p1 ≤ 7) ∧ ((0 ≤ p2 ∧ p2 ≤ 1) ∧ (p0 = p1)))) → gI w d X_X11_same P i l 37 [(0, vR (some 6)), (1, vI p0), (2, vI p1), (3, vI p2)] [] := by
    intro hp
    have h := hk23 hp
    refine g_aload_n (pc' := 38) 0 dX11_same_37 rfl rfl ?_
    refine g_bipush (pc' := 40) dX11_same_38 rfl rfl ?_
    refine g_cVI (pc' := 43) (vs := [vI (-3)]) (st := []) (c := 11) h mv_X11_refuse lk_X11_111 rfl rfl rfl rfl (Nat.le_of_ble_eq_true rfl) (Nat.le_of_ble_eq_true rfl) rfl dX11_same_40 rfl z2 (fun r20 i20 l20 rg20 h => ?_)
    exact g_retI rfl rg20 dX11_same_43 h
  refine g_if_eq (tgt := 26) (pc' := 9) rg2 (bI_eq _) dX11_same_6 rfl rfl (fun c4 => ?_) (fun c4n => ?_)
  · exact hk21g (Or.inl c4)
  · have c4 := Decidable.of_not_not c4n
    refine g_iload_n (pc' := 10) 2 dX11_same_9 rfl rfl ?_
    refine g_bipush (pc' := 12) dX11_same_10 rfl rfl ?_
    refine g_pSI (pc' := 15) (vs := [vI p1, vI 7]) (st := []) (val := bI (0 ≤ p1 ∧ p1 ≤ 7)) (sp_X11_upTo (le_hd hd rfl) (hob5 c4) (rg_lit rfl)) mk_X11_upTo ms_X11_upTo lk_X11_107 rfl (Nat.le_of_ble_eq_true rfl) (Nat.le_of_ble_eq_true rfl) rfl dX11_same_12 rfl z2 (fun rg6 => ?_)
    refine g_if_eq (tgt := 26) (pc' := 18) rg6 (bI_eq _) dX11_same_15 rfl rfl (fun c7 => ?_) (fun c7n => ?_)
    · exact hk21g (Or.inr (Or.inl c7))
    · have c7 := Decidable.of_not_not c7n
      refine g_iload_n (pc' := 19) 3 dX11_same_18 rfl rfl ?_
      refine g_iconst (pc' := 20) dX11_same_19 rfl ?_
      refine g_pSI (pc' := 23) (vs := [vI p2, vI 1]) (st := []) (val := bI (0 ≤ p2 ∧ p2 ≤ 1)) (sp_X11_upTo (le_hd hd rfl) (hob8 c4 c7) (rg_lit rfl)) mk_X11_upTo ms_X11_upTo lk_X11_107 rfl (Nat.le_of_ble_eq_true rfl) (Nat.le_of_ble_eq_true rfl) rfl dX11_same_20 rfl z2 (fun rg9 => ?_)
      refine g_if_ne (tgt := 32) (pc' := 26) rg9 (bI_eq _) dX11_same_23 rfl rfl (fun c10n => ?_) (fun c10 => ?_)
      · have c10 := Decidable.of_not_not c10n
        refine g_iload_n (pc' := 33) 1 dX11_same_32 rfl rfl ?_
        refine g_iload_n (pc' := 34) 2 dX11_same_33 rfl rfl ?_
        refine g_icmp_ne (tgt := 44) (pc' := 37) ob1 (hob5 c4) Iff.rfl dX11_same_34 rfl rfl (fun c11 => ?_) (fun c11 => ?_)
        · exact hk22g ⟨c4, ⟨c7, ⟨c10, c11⟩⟩⟩
        · exact hk23g ⟨c4, ⟨c7, ⟨c10, c11⟩⟩⟩
      · exact hk21g (Or.inr (Or.inr c10))
theorem e_X11_same {w : Wd} {d : Nat} {P : Int → IM → LM → Prop} {i : IM} {l : LM} {p0 : Int} {p1 : Int} {p2 : Int}  (h : gI w d X_X11_same P i l 0 [(0, vR (some 6)), (1, vI p0), (2, vI p1), (3, vI p2)] []) : cI w (d + 1) X_X11_same [vR (some 6), vI p0, vI p1, vI p2] i l P := CI_of (by decide +kernel) (Nat.le_of_ble_eq_true rfl) h

theorem dX11_counts_0 : decode cX11_counts 0 = .ok (.iload_n 1, 1) := by decide +kernel
theorem dX11_counts_1 : decode cX11_counts 1 = .ok (.bipush 7, 2) := by decide +kernel
theorem dX11_counts_3 : decode cX11_counts 3 = .ok (.invokestatic 107, 3) := by decide +kernel
theorem dX11_counts_6 : decode cX11_counts 6 = .ok (.ifCond .eq 15, 3) := by decide +kernel
theorem dX11_counts_9 : decode cX11_counts 9 = .ok (.aload_n 0, 1) := by decide +kernel
theorem dX11_counts_10 : decode cX11_counts 10 = .ok (.getfield 10, 3) := by decide +kernel
theorem dX11_counts_13 : decode cX11_counts 13 = .ok (.getfield 179, 3) := by decide +kernel
theorem dX11_counts_16 : decode cX11_counts 16 = .ok (.iload_n 1, 1) := by decide +kernel
theorem dX11_counts_17 : decode cX11_counts 17 = .ok (.iaload, 1) := by decide +kernel
theorem dX11_counts_18 : decode cX11_counts 18 = .ok (.goto 4, 3) := by decide +kernel
theorem dX11_counts_21 : decode cX11_counts 21 = .ok (.iconst (-1), 1) := by decide +kernel
theorem dX11_counts_22 : decode cX11_counts 22 = .ok (.ireturn, 1) := by decide +kernel
set_option maxRecDepth 20000 in
theorem s_X11_counts {w : Wd} {d : Nat} {P : Int → IM → LM → Prop} {i : IM} {l : LM} (p0 : Int)  (hd : 1 ≤ d) (h : ((rg p0) ∧ (((0 ≤ p0 ∧ p0 ≤ 7) → 0 ≤ p0 ∧ p0 < 8) ∧ P (if (0 ≤ p0 ∧ p0 ≤ 7) then i 13 p0 else (-1)) i l))) : gI w d X_X11_counts P i l 0 [(0, vR (some 6)), (1, vI p0)] [] := by
  obtain ⟨ob1, h⟩ := h
  refine g_iload_n (pc' := 1) 1 dX11_counts_0 rfl rfl ?_
  refine g_bipush (pc' := 3) dX11_counts_1 rfl rfl ?_
  refine g_pSI (pc' := 6) (vs := [vI p0, vI 7]) (st := []) (val := bI (0 ≤ p0 ∧ p0 ≤ 7)) (sp_X11_upTo (le_hd hd rfl) ob1 (rg_lit rfl)) mk_X11_upTo ms_X11_upTo lk_X11_107 rfl (Nat.le_of_ble_eq_true rfl) (Nat.le_of_ble_eq_true rfl) rfl dX11_counts_3 rfl z2 (fun rg2 => ?_)
  refine g_rg (fun hRG3 => ?_)
  obtain ⟨hob5, h⟩ := h
  have hJ : gI w d X_X11_counts P i l 22 [(0, vR (some 6)), (1, vI p0)] [vI (if (0 ≤ p0 ∧ p0 ≤ 7) then i 13 p0 else (-1))] := by
    exact g_retI rfl (rg_ite (hRG3 _ _) (rg_lit rfl)) dX11_counts_22 h
  refine g_if_eq (tgt := 21) (pc' := 9) rg2 (bI_eq _) dX11_counts_6 rfl rfl (fun c4 => ?_) (fun c4n => ?_)
  · refine g_iconst (pc' := 22) dX11_counts_21 rfl ?_
    rw [if_neg c4 (α := Int) (t := i 13 p0) (e := (-1))] at hJ
    exact hJ
  · have c4 := Decidable.of_not_not c4n
    refine g_aload_n (pc' := 10) 0 dX11_counts_9 rfl rfl ?_
    refine g_getR (pc' := 13) (o := some 7) fl_X11_10 rfl rfl rfl dX11_counts_10 rfl ?_
    refine g_getR (pc' := 16) (o := some 13) fl_X11_179 rfl rfl rfl dX11_counts_13 rfl ?_
    refine g_iload_n (pc' := 17) 1 dX11_counts_16 rfl rfl ?_
    refine g_iald (pc' := 18) (N := 8) rfl rfl (Nat.lt_of_lt_of_le (Nat.lt_succ_self _) (Nat.le_of_ble_eq_true rfl)) (hob5 c4) dX11_counts_17 rfl (fun rg6 => ?_)
    refine g_goto (tgt := 22) dX11_counts_18 rfl ?_
    rw [if_pos c4 (α := Int) (t := i 13 p0) (e := (-1))] at hJ
    exact hJ
theorem e_X11_counts {w : Wd} {d : Nat} {P : Int → IM → LM → Prop} {i : IM} {l : LM} {p0 : Int}  (h : gI w d X_X11_counts P i l 0 [(0, vR (some 6)), (1, vI p0)] []) : cI w (d + 1) X_X11_counts [vR (some 6), vI p0] i l P := CI_of (by decide +kernel) (Nat.le_of_ble_eq_true rfl) h

theorem dX11_month_0 : decode cX11_month 0 = .ok (.iload_n 1, 1) := by decide +kernel
theorem dX11_month_1 : decode cX11_month 1 = .ok (.bipush 12, 2) := by decide +kernel
theorem dX11_month_3 : decode cX11_month 3 = .ok (.invokestatic 128, 3) := by decide +kernel
theorem dX11_month_6 : decode cX11_month 6 = .ok (.ifCond .ne 9, 3) := by decide +kernel
theorem dX11_month_9 : decode cX11_month 9 = .ok (.aload_n 0, 1) := by decide +kernel
theorem dX11_month_10 : decode cX11_month 10 = .ok (.iconst (-1), 1) := by decide +kernel
theorem dX11_month_11 : decode cX11_month 11 = .ok (.invokevirtual 111, 3) := by decide +kernel
theorem dX11_month_14 : decode cX11_month 14 = .ok (.ireturn, 1) := by decide +kernel
theorem dX11_month_15 : decode cX11_month 15 = .ok (.aload_n 0, 1) := by decide +kernel
theorem dX11_month_16 : decode cX11_month 16 = .ok (.getfield 10, 3) := by decide +kernel
theorem dX11_month_19 : decode cX11_month 19 = .ok (.getfield 154, 3) := by decide +kernel
theorem dX11_month_22 : decode cX11_month 22 = .ok (.istore_n 2, 1) := by decide +kernel
theorem dX11_month_23 : decode cX11_month 23 = .ok (.aload_n 0, 1) := by decide +kernel
theorem dX11_month_24 : decode cX11_month 24 = .ok (.getfield 10, 3) := by decide +kernel
theorem dX11_month_27 : decode cX11_month 27 = .ok (.iload_n 1, 1) := by decide +kernel
theorem dX11_month_28 : decode cX11_month 28 = .ok (.putfield 154, 3) := by decide +kernel
theorem dX11_month_31 : decode cX11_month 31 = .ok (.aload_n 0, 1) := by decide +kernel
theorem dX11_month_32 : decode cX11_month 32 = .ok (.iload_n 2, 1) := by decide +kernel
theorem dX11_month_33 : decode cX11_month 33 = .ok (.invokevirtual 122, 3) := by decide +kernel
theorem dX11_month_36 : decode cX11_month 36 = .ok (.ireturn, 1) := by decide +kernel
set_option maxRecDepth 20000 in
theorem s_X11_month {w : Wd} {d : Nat} {P : Int → IM → LM → Prop} {i : IM} {l : LM} (p0 : Int)  (hd : 1 ≤ d) (h : ((rg p0) ∧ (((0 ≤ p0 ∧ p0 < 12) → cI w d X_X11_changed [vR (some 6), vI (i 7 13)] (u2 i 7 13 p0) l (fun r7 i7 l7 => P r7 i7 l7)) ∧ ((¬ (0 ≤ p0 ∧ p0 < 12)) → cI w d X_X11_refuse [vR (some 6), vI (-1)] i l (fun r8 i8 l8 => P r8 i8 l8))))) : gI w d X_X11_month P i l 0 [(0, vR (some 6)), (1, vI p0)] [] := by
  obtain ⟨ob1, h⟩ := h
  refine g_iload_n (pc' := 1) 1 dX11_month_0 rfl rfl ?_
  refine g_bipush (pc' := 3) dX11_month_1 rfl rfl ?_
  refine g_pSI (pc' := 6) (vs := [vI p0, vI 12]) (st := []) (val := bI (0 ≤ p0 ∧ p0 < 12)) (sp_X11_below (le_hd hd rfl) ob1 (rg_lit rfl)) mk_X11_below ms_X11_below lk_X11_128 rfl (Nat.le_of_ble_eq_true rfl) (Nat.le_of_ble_eq_true rfl) rfl dX11_month_3 rfl z2 (fun rg2 => ?_)
  obtain ⟨hk9, hk10⟩ := h
  have hk9g : (0 ≤ p0 ∧ p0 < 12) → gI w d X_X11_month P i l 15 [(0, vR (some 6)), (1, vI p0)] [] := by
    intro hp
    have h := hk9 hp
    refine g_aload_n (pc' := 16) 0 dX11_month_15 rfl rfl ?_
    refine g_getR (pc' := 19) (o := some 7) fl_X11_10 rfl rfl rfl dX11_month_16 rfl ?_
    refine g_getI (pc' := 22) (z := 13) rfl fl_X11_154 rfl rfl dX11_month_19 rfl (fun rg6 => ?_)
    refine g_istore_n (pc' := 23) (L' := [(2, vI (i 7 13)), (0, vR (some 6)), (1, vI p0)]) dX11_month_22 rfl (Nat.le_of_ble_eq_true rfl) rfl ?_
    refine g_aload_n (pc' := 24) 1 dX11_month_23 rfl rfl ?_
    refine g_getR (pc' := 27) (o := some 7) fl_X11_10 rfl rfl rfl dX11_month_24 rfl ?_
    refine g_iload_n (pc' := 28) 2 dX11_month_27 rfl rfl ?_
    refine g_putI (pc' := 31) (z := 13) rfl fp_X11_154 rfl rfl ob1 dX11_month_28 rfl ?_
    refine g_aload_n (pc' := 32) 1 dX11_month_31 rfl rfl ?_
    refine g_iload_n (pc' := 33) 0 dX11_month_32 rfl rfl ?_
    refine g_cVI (pc' := 36) (vs := [vI (i 7 13)]) (st := []) (c := 11) h mv_X11_changed lk_X11_122 rfl rfl rfl rfl (Nat.le_of_ble_eq_true rfl) (Nat.le_of_ble_eq_true rfl) rfl dX11_month_33 rfl z2 (fun r7 i7 l7 rg7 h => ?_)
    exact g_retI rfl rg7 dX11_month_36 h
  have hk10g : (¬ (0 ≤ p0 ∧ p0 < 12)) → gI w d X_X11_month P i l 9 [(0, vR (some 6)), (1, vI p0)] [] := by
    intro hp
    have h := hk10 hp
    refine g_aload_n (pc' := 10) 0 dX11_month_9 rfl rfl ?_
    refine g_iconst (pc' := 11) dX11_month_10 rfl ?_
    refine g_cVI (pc' := 14) (vs := [vI (-1)]) (st := []) (c := 11) h mv_X11_refuse lk_X11_111 rfl rfl rfl rfl (Nat.le_of_ble_eq_true rfl) (Nat.le_of_ble_eq_true rfl) rfl dX11_month_11 rfl z2 (fun r8 i8 l8 rg8 h => ?_)
    exact g_retI rfl rg8 dX11_month_14 h
  refine g_if_ne (tgt := 15) (pc' := 9) rg2 (bI_eq _) dX11_month_6 rfl rfl (fun c4n => ?_) (fun c4 => ?_)
  · have c4 := Decidable.of_not_not c4n
    exact hk9g c4
  · exact hk10g c4
theorem e_X11_month {w : Wd} {d : Nat} {P : Int → IM → LM → Prop} {i : IM} {l : LM} {p0 : Int}  (h : gI w d X_X11_month P i l 0 [(0, vR (some 6)), (1, vI p0)] []) : cI w (d + 1) X_X11_month [vR (some 6), vI p0] i l P := CI_of (by decide +kernel) (Nat.le_of_ble_eq_true rfl) h

theorem dX11_walk_0 : decode cX11_walk 0 = .ok (.iload_n 2, 1) := by decide +kernel
theorem dX11_walk_1 : decode cX11_walk 1 = .ok (.bipush 120, 2) := by decide +kernel
theorem dX11_walk_3 : decode cX11_walk 3 = .ok (.invokestatic 128, 3) := by decide +kernel
theorem dX11_walk_6 : decode cX11_walk 6 = .ok (.ifCond .eq 17, 3) := by decide +kernel
theorem dX11_walk_9 : decode cX11_walk 9 = .ok (.iload_n 3, 1) := by decide +kernel
theorem dX11_walk_10 : decode cX11_walk 10 = .ok (.iconst (-1), 1) := by decide +kernel
theorem dX11_walk_11 : decode cX11_walk 11 = .ok (.if_icmp .eq 18, 3) := by decide +kernel
theorem dX11_walk_14 : decode cX11_walk 14 = .ok (.iload_n 3, 1) := by decide +kernel
theorem dX11_walk_15 : decode cX11_walk 15 = .ok (.bipush 10, 2) := by decide +kernel
theorem dX11_walk_17 : decode cX11_walk 17 = .ok (.invokestatic 128, 3) := by decide +kernel
theorem dX11_walk_20 : decode cX11_walk 20 = .ok (.ifCond .ne 9, 3) := by decide +kernel
theorem dX11_walk_23 : decode cX11_walk 23 = .ok (.aload_n 0, 1) := by decide +kernel
theorem dX11_walk_24 : decode cX11_walk 24 = .ok (.iconst (-1), 1) := by decide +kernel
theorem dX11_walk_25 : decode cX11_walk 25 = .ok (.invokevirtual 111, 3) := by decide +kernel
theorem dX11_walk_28 : decode cX11_walk 28 = .ok (.ireturn, 1) := by decide +kernel
theorem dX11_walk_29 : decode cX11_walk 29 = .ok (.iload_n 1, 1) := by decide +kernel
theorem dX11_walk_30 : decode cX11_walk 30 = .ok (.aload_n 0, 1) := by decide +kernel
theorem dX11_walk_31 : decode cX11_walk 31 = .ok (.getfield 10, 3) := by decide +kernel
theorem dX11_walk_34 : decode cX11_walk 34 = .ok (.getfield 167, 3) := by decide +kernel
theorem dX11_walk_37 : decode cX11_walk 37 = .ok (.invokestatic 128, 3) := by decide +kernel
theorem dX11_walk_40 : decode cX11_walk 40 = .ok (.ifCond .ne 10, 3) := by decide +kernel
theorem dX11_walk_43 : decode cX11_walk 43 = .ok (.aload_n 0, 1) := by decide +kernel
theorem dX11_walk_44 : decode cX11_walk 44 = .ok (.bipush (-2), 2) := by decide +kernel
theorem dX11_walk_46 : decode cX11_walk 46 = .ok (.invokevirtual 111, 3) := by decide +kernel
theorem dX11_walk_49 : decode cX11_walk 49 = .ok (.ireturn, 1) := by decide +kernel
theorem dX11_walk_50 : decode cX11_walk 50 = .ok (.aload_n 0, 1) := by decide +kernel
theorem dX11_walk_51 : decode cX11_walk 51 = .ok (.getfield 10, 3) := by decide +kernel
theorem dX11_walk_54 : decode cX11_walk 54 = .ok (.getfield 182, 3) := by decide +kernel
theorem dX11_walk_57 : decode cX11_walk 57 = .ok (.bipush 60, 2) := by decide +kernel
theorem dX11_walk_59 : decode cX11_walk 59 = .ok (.if_icmp .lt 10, 3) := by decide +kernel
theorem dX11_walk_62 : decode cX11_walk 62 = .ok (.aload_n 0, 1) := by decide +kernel
theorem dX11_walk_63 : decode cX11_walk 63 = .ok (.bipush (-5), 2) := by decide +kernel
theorem dX11_walk_65 : decode cX11_walk 65 = .ok (.invokevirtual 111, 3) := by decide +kernel
theorem dX11_walk_68 : decode cX11_walk 68 = .ok (.ireturn, 1) := by decide +kernel
theorem dX11_walk_69 : decode cX11_walk 69 = .ok (.aload_n 0, 1) := by decide +kernel
theorem dX11_walk_70 : decode cX11_walk 70 = .ok (.getfield 10, 3) := by decide +kernel
theorem dX11_walk_73 : decode cX11_walk 73 = .ok (.iload_n 1, 1) := by decide +kernel
theorem dX11_walk_74 : decode cX11_walk 74 = .ok (.iload_n 2, 1) := by decide +kernel
theorem dX11_walk_75 : decode cX11_walk 75 = .ok (.iload_n 3, 1) := by decide +kernel
theorem dX11_walk_76 : decode cX11_walk 76 = .ok (.invokevirtual 185, 3) := by decide +kernel
theorem dX11_walk_79 : decode cX11_walk 79 = .ok (.aload_n 0, 1) := by decide +kernel
theorem dX11_walk_80 : decode cX11_walk 80 = .ok (.aload_n 0, 1) := by decide +kernel
theorem dX11_walk_81 : decode cX11_walk 81 = .ok (.getfield 10, 3) := by decide +kernel
theorem dX11_walk_84 : decode cX11_walk 84 = .ok (.getfield 182, 3) := by decide +kernel
theorem dX11_walk_87 : decode cX11_walk 87 = .ok (.invokevirtual 122, 3) := by decide +kernel
theorem dX11_walk_90 : decode cX11_walk 90 = .ok (.ireturn, 1) := by decide +kernel
set_option maxRecDepth 20000 in
theorem s_X11_walk {w : Wd} {d : Nat} {P : Int → IM → LM → Prop} {i : IM} {l : LM} (p0 : Int) (p1 : Int) (p2 : Int)  (hd : 1 ≤ d) (h : ((rg p1) ∧ (((0 ≤ p1 ∧ p1 < 120) → rg p2) ∧ (((0 ≤ p1 ∧ p1 < 120) ∧ ((p2 = (-1)) ∨ (0 ≤ p2 ∧ p2 < 10))) → gI w d X_X11_walk P i l 29 [(0, vR (some 6)), (1, vI p0), (2, vI p1), (3, vI p2)] []) ∧ ((¬ ((0 ≤ p1 ∧ p1 < 120) ∧ ((p2 = (-1)) ∨ (0 ≤ p2 ∧ p2 < 10)))) → cI w d X_X11_refuse [vR (some 6), vI (-1)] i l (fun r9 i9 l9 => P r9 i9 l9))))) : gI w d X_X11_walk P i l 0 [(0, vR (some 6)), (1, vI p0), (2, vI p1), (3, vI p2)] [] := by
  obtain ⟨ob1, h⟩ := h
  refine g_iload_n (pc' := 1) 2 dX11_walk_0 rfl rfl ?_
  refine g_bipush (pc' := 3) dX11_walk_1 rfl rfl ?_
  refine g_pSI (pc' := 6) (vs := [vI p1, vI 120]) (st := []) (val := bI (0 ≤ p1 ∧ p1 < 120)) (sp_X11_below (le_hd hd rfl) ob1 (rg_lit rfl)) mk_X11_below ms_X11_below lk_X11_128 rfl (Nat.le_of_ble_eq_true rfl) (Nat.le_of_ble_eq_true rfl) rfl dX11_walk_3 rfl z2 (fun rg2 => ?_)
  obtain ⟨hob5, hk10, hk11⟩ := h
  have hk10g : ((0 ≤ p1 ∧ p1 < 120) ∧ ((p2 = (-1)) ∨ (0 ≤ p2 ∧ p2 < 10))) → gI w d X_X11_walk P i l 29 [(0, vR (some 6)), (1, vI p0), (2, vI p1), (3, vI p2)] [] := by
    intro hp
    have h := hk10 hp
    exact h
  have hk11g : (¬ ((0 ≤ p1 ∧ p1 < 120) ∧ ((p2 = (-1)) ∨ (0 ≤ p2 ∧ p2 < 10)))) → gI w d X_X11_walk P i l 23 [(0, vR (some 6)), (1, vI p0), (2, vI p1), (3, vI p2)] [] := by
    intro hp
    have h := hk11 hp
    refine g_aload_n (pc' := 24) 0 dX11_walk_23 rfl rfl ?_
    refine g_iconst (pc' := 25) dX11_walk_24 rfl ?_
    refine g_cVI (pc' := 28) (vs := [vI (-1)]) (st := []) (c := 11) h mv_X11_refuse lk_X11_111 rfl rfl rfl rfl (Nat.le_of_ble_eq_true rfl) (Nat.le_of_ble_eq_true rfl) rfl dX11_walk_25 rfl z2 (fun r9 i9 l9 rg9 h => ?_)
    exact g_retI rfl rg9 dX11_walk_28 h
  refine g_if_eq (tgt := 23) (pc' := 9) rg2 (bI_eq _) dX11_walk_6 rfl rfl (fun c4 => ?_) (fun c4n => ?_)
  · exact hk11g (fun q => c4 q.1)
  · have c4 := Decidable.of_not_not c4n
    refine g_iload_n (pc' := 10) 3 dX11_walk_9 rfl rfl ?_
    refine g_iconst (pc' := 11) dX11_walk_10 rfl ?_
    refine g_icmp_eq (tgt := 29) (pc' := 14) (hob5 c4) (rg_lit rfl) Iff.rfl dX11_walk_11 rfl rfl (fun c6 => ?_) (fun c6 => ?_)
    · exact hk10g ⟨c4, (Or.inl c6)⟩
    · refine g_iload_n (pc' := 15) 3 dX11_walk_14 rfl rfl ?_
      refine g_bipush (pc' := 17) dX11_walk_15 rfl rfl ?_
      refine g_pSI (pc' := 20) (vs := [vI p2, vI 10]) (st := []) (val := bI (0 ≤ p2 ∧ p2 < 10)) (sp_X11_below (le_hd hd rfl) (hob5 c4) (rg_lit rfl)) mk_X11_below ms_X11_below lk_X11_128 rfl (Nat.le_of_ble_eq_true rfl) (Nat.le_of_ble_eq_true rfl) rfl dX11_walk_17 rfl z2 (fun rg7 => ?_)
      refine g_if_ne (tgt := 29) (pc' := 23) rg7 (bI_eq _) dX11_walk_20 rfl rfl (fun c8n => ?_) (fun c8 => ?_)
      · have c8 := Decidable.of_not_not c8n
        exact hk10g ⟨c4, (Or.inr c8)⟩
      · exact hk11g (fun q => (fun q => q.elim c6 c8) q.2)
theorem e_X11_walk {w : Wd} {d : Nat} {P : Int → IM → LM → Prop} {i : IM} {l : LM} {p0 : Int} {p1 : Int} {p2 : Int}  (h : gI w d X_X11_walk P i l 0 [(0, vR (some 6)), (1, vI p0), (2, vI p1), (3, vI p2)] []) : cI w (d + 1) X_X11_walk [vR (some 6), vI p0, vI p1, vI p2] i l P := CI_of (by decide +kernel) (Nat.le_of_ble_eq_true rfl) h
set_option maxRecDepth 20000 in
theorem s_X11_walk_29 {w : Wd} {d : Nat} {P : Int → IM → LM → Prop} {i : IM} {l : LM} (x1 : Int) (x2 : Int) (x3 : Int)  (hd : 1 ≤ d) (h : ((rg x1) ∧ ((((0 ≤ x1 ∧ x1 < i 7 10) ∧ (i 7 11 < 60)) → cVd w d X_X9_addWalk [vR (some 7), vI x1, vI x2, vI x3] i l (fun i19 l19 => cI w d X_X11_changed [vR (some 6), vI (i19 7 11)] i19 l19 (fun r21 i21 l21 => P r21 i21 l21))) ∧ (((0 ≤ x1 ∧ x1 < i 7 10) ∧ (¬ (i 7 11 < 60))) → cI w d X_X11_refuse [vR (some 6), vI (-5)] i l (fun r22 i22 l22 => P r22 i22 l22)) ∧ ((¬ (0 ≤ x1 ∧ x1 < i 7 10)) → cI w d X_X11_refuse [vR (some 6), vI (-2)] i l (fun r23 i23 l23 => P r23 i23 l23))))) : gI w d X_X11_walk P i l 29 [(0, vR (some 6)), (1, vI x1), (2, vI x2), (3, vI x3)] [] := by
  obtain ⟨ob13, h⟩ := h
  refine g_iload_n (pc' := 30) 1 dX11_walk_29 rfl rfl ?_
  refine g_aload_n (pc' := 31) 0 dX11_walk_30 rfl rfl ?_
  refine g_getR (pc' := 34) (o := some 7) fl_X11_10 rfl rfl rfl dX11_walk_31 rfl ?_
  refine g_getI (pc' := 37) (z := 10) rfl fl_X11_167 rfl rfl dX11_walk_34 rfl (fun rg12 => ?_)
  refine g_pSI (pc' := 40) (vs := [vI x1, vI (i 7 10)]) (st := []) (val := bI (0 ≤ x1 ∧ x1 < i 7 10)) (sp_X11_below (le_hd hd rfl) ob13 rg12) mk_X11_below ms_X11_below lk_X11_128 rfl (Nat.le_of_ble_eq_true rfl) (Nat.le_of_ble_eq_true rfl) rfl dX11_walk_37 rfl z2 (fun rg14 => ?_)
  obtain ⟨hk24, hk25, hk26⟩ := h
  have hk24g : ((0 ≤ x1 ∧ x1 < i 7 10) ∧ (i 7 11 < 60)) → gI w d X_X11_walk P i l 69 [(0, vR (some 6)), (1, vI x1), (2, vI x2), (3, vI x3)] [] := by
    intro hp
    have h := hk24 hp
    refine g_aload_n (pc' := 70) 0 dX11_walk_69 rfl rfl ?_
    refine g_getR (pc' := 73) (o := some 7) fl_X11_10 rfl rfl rfl dX11_walk_70 rfl ?_
    refine g_iload_n (pc' := 74) 1 dX11_walk_73 rfl rfl ?_
    refine g_iload_n (pc' := 75) 2 dX11_walk_74 rfl rfl ?_
    refine g_iload_n (pc' := 76) 3 dX11_walk_75 rfl rfl ?_
    refine g_cVV (pc' := 79) (vs := [vI x1, vI x2, vI x3]) (st := []) (c := 9) h mv_X9_addWalk lk_X11_185 rfl rfl rfl rfl (Nat.le_of_ble_eq_true rfl) (Nat.le_of_ble_eq_true rfl) rfl dX11_walk_76 rfl z2 (fun i19 l19 h => ?_)
    refine g_aload_n (pc' := 80) 0 dX11_walk_79 rfl rfl ?_
    refine g_aload_n (pc' := 81) 0 dX11_walk_80 rfl rfl ?_
    refine g_getR (pc' := 84) (o := some 7) fl_X11_10 rfl rfl rfl dX11_walk_81 rfl ?_
    refine g_getI (pc' := 87) (z := 11) rfl fl_X11_182 rfl rfl dX11_walk_84 rfl (fun rg20 => ?_)
    refine g_cVI (pc' := 90) (vs := [vI (i19 7 11)]) (st := []) (c := 11) h mv_X11_changed lk_X11_122 rfl rfl rfl rfl (Nat.le_of_ble_eq_true rfl) (Nat.le_of_ble_eq_true rfl) rfl dX11_walk_87 rfl z2 (fun r21 i21 l21 rg21 h => ?_)
    exact g_retI rfl rg21 dX11_walk_90 h
  have hk25g : ((0 ≤ x1 ∧ x1 < i 7 10) ∧ (¬ (i 7 11 < 60))) → gI w d X_X11_walk P i l 62 [(0, vR (some 6)), (1, vI x1), (2, vI x2), (3, vI x3)] [] := by
    intro hp
    have h := hk25 hp
    refine g_aload_n (pc' := 63) 0 dX11_walk_62 rfl rfl ?_
    refine g_bipush (pc' := 65) dX11_walk_63 rfl rfl ?_
    refine g_cVI (pc' := 68) (vs := [vI (-5)]) (st := []) (c := 11) h mv_X11_refuse lk_X11_111 rfl rfl rfl rfl (Nat.le_of_ble_eq_true rfl) (Nat.le_of_ble_eq_true rfl) rfl dX11_walk_65 rfl z2 (fun r22 i22 l22 rg22 h => ?_)
    exact g_retI rfl rg22 dX11_walk_68 h
  have hk26g : (¬ (0 ≤ x1 ∧ x1 < i 7 10)) → gI w d X_X11_walk P i l 43 [(0, vR (some 6)), (1, vI x1), (2, vI x2), (3, vI x3)] [] := by
    intro hp
    have h := hk26 hp
    refine g_aload_n (pc' := 44) 0 dX11_walk_43 rfl rfl ?_
    refine g_bipush (pc' := 46) dX11_walk_44 rfl rfl ?_
    refine g_cVI (pc' := 49) (vs := [vI (-2)]) (st := []) (c := 11) h mv_X11_refuse lk_X11_111 rfl rfl rfl rfl (Nat.le_of_ble_eq_true rfl) (Nat.le_of_ble_eq_true rfl) rfl dX11_walk_46 rfl z2 (fun r23 i23 l23 rg23 h => ?_)
    exact g_retI rfl rg23 dX11_walk_49 h
  refine g_if_ne (tgt := 50) (pc' := 43) rg14 (bI_eq _) dX11_walk_40 rfl rfl (fun c16n => ?_) (fun c16 => ?_)
  · have c16 := Decidable.of_not_not c16n
    refine g_aload_n (pc' := 51) 0 dX11_walk_50 rfl rfl ?_
    refine g_getR (pc' := 54) (o := some 7) fl_X11_10 rfl rfl rfl dX11_walk_51 rfl ?_
    refine g_getI (pc' := 57) (z := 11) rfl fl_X11_182 rfl rfl dX11_walk_54 rfl (fun rg17 => ?_)
    refine g_bipush (pc' := 59) dX11_walk_57 rfl rfl ?_
    refine g_icmp_lt (tgt := 69) (pc' := 62) rg17 (rg_lit rfl) Iff.rfl dX11_walk_59 rfl rfl (fun c18 => ?_) (fun c18 => ?_)
    · exact hk24g ⟨c16, c18⟩
    · exact hk25g ⟨c16, c18⟩
  · exact hk26g c16

theorem dX11_where_0 : decode cX11_where 0 = .ok (.iload_n 1, 1) := by decide +kernel
theorem dX11_where_1 : decode cX11_where 1 = .ok (.aload_n 0, 1) := by decide +kernel
theorem dX11_where_2 : decode cX11_where 2 = .ok (.getfield 10, 3) := by decide +kernel
theorem dX11_where_5 : decode cX11_where 5 = .ok (.getfield 167, 3) := by decide +kernel
theorem dX11_where_8 : decode cX11_where 8 = .ok (.invokestatic 128, 3) := by decide +kernel
theorem dX11_where_11 : decode cX11_where 11 = .ok (.ifCond .eq 12, 3) := by decide +kernel
theorem dX11_where_14 : decode cX11_where 14 = .ok (.iload_n 2, 1) := by decide +kernel
theorem dX11_where_15 : decode cX11_where 15 = .ok (.bipush 120, 2) := by decide +kernel
theorem dX11_where_17 : decode cX11_where 17 = .ok (.invokestatic 128, 3) := by decide +kernel
theorem dX11_where_20 : decode cX11_where 20 = .ok (.ifCond .ne 5, 3) := by decide +kernel
theorem dX11_where_23 : decode cX11_where 23 = .ok (.iconst (-1), 1) := by decide +kernel
theorem dX11_where_24 : decode cX11_where 24 = .ok (.ireturn, 1) := by decide +kernel
theorem dX11_where_25 : decode cX11_where 25 = .ok (.aload_n 0, 1) := by decide +kernel
theorem dX11_where_26 : decode cX11_where 26 = .ok (.getfield 10, 3) := by decide +kernel
theorem dX11_where_29 : decode cX11_where 29 = .ok (.iload_n 1, 1) := by decide +kernel
theorem dX11_where_30 : decode cX11_where 30 = .ok (.iload_n 2, 1) := by decide +kernel
theorem dX11_where_31 : decode cX11_where 31 = .ok (.invokevirtual 189, 3) := by decide +kernel
theorem dX11_where_34 : decode cX11_where 34 = .ok (.ireturn, 1) := by decide +kernel
set_option maxRecDepth 20000 in
theorem s_X11_where {w : Wd} {d : Nat} {P : Int → IM → LM → Prop} {i : IM} {l : LM} (p0 : Int) (p1 : Int)  (hd : 1 ≤ d) (h : ((rg p0) ∧ (((0 ≤ p0 ∧ p0 < i 7 10) → rg p1) ∧ (((0 ≤ p0 ∧ p0 < i 7 10) ∧ (0 ≤ p1 ∧ p1 < 120)) → cI w d X_X9_placeAt [vR (some 7), vI p0, vI p1] i l (fun r9 i9 l9 => P r9 i9 l9)) ∧ ((¬ ((0 ≤ p0 ∧ p0 < i 7 10) ∧ (0 ≤ p1 ∧ p1 < 120))) → P (-1) i l)))) : gI w d X_X11_where P i l 0 [(0, vR (some 6)), (1, vI p0), (2, vI p1)] [] := by
  obtain ⟨ob2, h⟩ := h
  refine g_iload_n (pc' := 1) 1 dX11_where_0 rfl rfl ?_
  refine g_aload_n (pc' := 2) 0 dX11_where_1 rfl rfl ?_
  refine g_getR (pc' := 5) (o := some 7) fl_X11_10 rfl rfl rfl dX11_where_2 rfl ?_
  refine g_getI (pc' := 8) (z := 10) rfl fl_X11_167 rfl rfl dX11_where_5 rfl (fun rg1 => ?_)
  refine g_pSI (pc' := 11) (vs := [vI p0, vI (i 7 10)]) (st := []) (val := bI (0 ≤ p0 ∧ p0 < i 7 10)) (sp_X11_below (le_hd hd rfl) ob2 rg1) mk_X11_below ms_X11_below lk_X11_128 rfl (Nat.le_of_ble_eq_true rfl) (Nat.le_of_ble_eq_true rfl) rfl dX11_where_8 rfl z2 (fun rg3 => ?_)
  obtain ⟨hob6, hk10, hk11⟩ := h
  have hk10g : ((0 ≤ p0 ∧ p0 < i 7 10) ∧ (0 ≤ p1 ∧ p1 < 120)) → gI w d X_X11_where P i l 25 [(0, vR (some 6)), (1, vI p0), (2, vI p1)] [] := by
    intro hp
    have h := hk10 hp
    refine g_aload_n (pc' := 26) 0 dX11_where_25 rfl rfl ?_
    refine g_getR (pc' := 29) (o := some 7) fl_X11_10 rfl rfl rfl dX11_where_26 rfl ?_
    refine g_iload_n (pc' := 30) 1 dX11_where_29 rfl rfl ?_
    refine g_iload_n (pc' := 31) 2 dX11_where_30 rfl rfl ?_
    refine g_cVI (pc' := 34) (vs := [vI p0, vI p1]) (st := []) (c := 9) h mv_X9_placeAt lk_X11_189 rfl rfl rfl rfl (Nat.le_of_ble_eq_true rfl) (Nat.le_of_ble_eq_true rfl) rfl dX11_where_31 rfl z2 (fun r9 i9 l9 rg9 h => ?_)
    exact g_retI rfl rg9 dX11_where_34 h
  have hk11g : (¬ ((0 ≤ p0 ∧ p0 < i 7 10) ∧ (0 ≤ p1 ∧ p1 < 120))) → gI w d X_X11_where P i l 23 [(0, vR (some 6)), (1, vI p0), (2, vI p1)] [] := by
    intro hp
    have h := hk11 hp
    refine g_iconst (pc' := 24) dX11_where_23 rfl ?_
    exact g_retI rfl (rg_lit rfl) dX11_where_24 h
  refine g_if_eq (tgt := 23) (pc' := 14) rg3 (bI_eq _) dX11_where_11 rfl rfl (fun c5 => ?_) (fun c5n => ?_)
  · exact hk11g (fun q => c5 q.1)
  · have c5 := Decidable.of_not_not c5n
    refine g_iload_n (pc' := 15) 2 dX11_where_14 rfl rfl ?_
    refine g_bipush (pc' := 17) dX11_where_15 rfl rfl ?_
    refine g_pSI (pc' := 20) (vs := [vI p1, vI 120]) (st := []) (val := bI (0 ≤ p1 ∧ p1 < 120)) (sp_X11_below (le_hd hd rfl) (hob6 c5) (rg_lit rfl)) mk_X11_below ms_X11_below lk_X11_128 rfl (Nat.le_of_ble_eq_true rfl) (Nat.le_of_ble_eq_true rfl) rfl dX11_where_17 rfl z2 (fun rg7 => ?_)
    refine g_if_ne (tgt := 25) (pc' := 23) rg7 (bI_eq _) dX11_where_20 rfl rfl (fun c8n => ?_) (fun c8 => ?_)
    · have c8 := Decidable.of_not_not c8n
      exact hk10g ⟨c5, c8⟩
    · exact hk11g (fun q => c8 q.2)
theorem e_X11_where {w : Wd} {d : Nat} {P : Int → IM → LM → Prop} {i : IM} {l : LM} {p0 : Int} {p1 : Int}  (h : gI w d X_X11_where P i l 0 [(0, vR (some 6)), (1, vI p0), (2, vI p1)] []) : cI w (d + 1) X_X11_where [vR (some 6), vI p0, vI p1] i l P := CI_of (by decide +kernel) (Nat.le_of_ble_eq_true rfl) h

theorem dX11_feed_0 : decode cX11_feed 0 = .ok (.aload_n 0, 1) := by decide +kernel
theorem dX11_feed_1 : decode cX11_feed 1 = .ok (.getfield 192, 3) := by decide +kernel
theorem dX11_feed_4 : decode cX11_feed 4 = .ok (.bipush 20, 2) := by decide +kernel
theorem dX11_feed_6 : decode cX11_feed 6 = .ok (.iadd, 1) := by decide +kernel
theorem dX11_feed_7 : decode cX11_feed 7 = .ok (.sipush 400, 3) := by decide +kernel
theorem dX11_feed_10 : decode cX11_feed 10 = .ok (.if_icmp .le 5, 3) := by decide +kernel
theorem dX11_feed_13 : decode cX11_feed 13 = .ok (.iconst (-1), 1) := by decide +kernel
theorem dX11_feed_14 : decode cX11_feed 14 = .ok (.ireturn, 1) := by decide +kernel
theorem dX11_feed_15 : decode cX11_feed 15 = .ok (.aload_n 0, 1) := by decide +kernel
theorem dX11_feed_16 : decode cX11_feed 16 = .ok (.iload_n 1, 1) := by decide +kernel
theorem dX11_feed_17 : decode cX11_feed 17 = .ok (.invokevirtual 195, 3) := by decide +kernel
theorem dX11_feed_20 : decode cX11_feed 20 = .ok (.aload_n 0, 1) := by decide +kernel
theorem dX11_feed_21 : decode cX11_feed 21 = .ok (.iload_n 2, 1) := by decide +kernel
theorem dX11_feed_22 : decode cX11_feed 22 = .ok (.invokevirtual 195, 3) := by decide +kernel
theorem dX11_feed_25 : decode cX11_feed 25 = .ok (.aload_n 0, 1) := by decide +kernel
theorem dX11_feed_26 : decode cX11_feed 26 = .ok (.iload_n 3, 1) := by decide +kernel
theorem dX11_feed_27 : decode cX11_feed 27 = .ok (.invokevirtual 195, 3) := by decide +kernel
theorem dX11_feed_30 : decode cX11_feed 30 = .ok (.aload_n 0, 1) := by decide +kernel
theorem dX11_feed_31 : decode cX11_feed 31 = .ok (.iload 4, 2) := by decide +kernel
theorem dX11_feed_33 : decode cX11_feed 33 = .ok (.invokevirtual 195, 3) := by decide +kernel
theorem dX11_feed_36 : decode cX11_feed 36 = .ok (.aload_n 0, 1) := by decide +kernel
theorem dX11_feed_37 : decode cX11_feed 37 = .ok (.iload 5, 2) := by decide +kernel
theorem dX11_feed_39 : decode cX11_feed 39 = .ok (.invokevirtual 195, 3) := by decide +kernel
theorem dX11_feed_42 : decode cX11_feed 42 = .ok (.aload_n 0, 1) := by decide +kernel
theorem dX11_feed_43 : decode cX11_feed 43 = .ok (.getfield 192, 3) := by decide +kernel
theorem dX11_feed_46 : decode cX11_feed 46 = .ok (.ireturn, 1) := by decide +kernel
set_option maxRecDepth 20000 in
theorem s_X11_feed {w : Wd} {d : Nat} {P : Int → IM → LM → Prop} {i : IM} {l : LM} (p0 : Int) (p1 : Int) (p2 : Int) (p3 : Int) (p4 : Int)  (h : ((rg ((i 6 15) + 20)) ∧ (((i 6 15) + 20 ≤ 400) → cVd w d X_X11_append [vR (some 6), vI p0] i l (fun i5 l5 => cVd w d X_X11_append [vR (some 6), vI p1] i5 l5 (fun i6 l6 => cVd w d X_X11_append [vR (some 6), vI p2] i6 l6 (fun i7 l7 => cVd w d X_X11_append [vR (some 6), vI p3] i7 l7 (fun i8 l8 => cVd w d X_X11_append [vR (some 6), vI p4] i8 l8 (fun i9 l9 => P (i9 6 15) i9 l9)))))) ∧ ((¬ ((i 6 15) + 20 ≤ 400)) → P (-1) i l))) : gI w d X_X11_feed P i l 0 [(0, vR (some 6)), (1, vI p0), (2, vI p1), (3, vI p2), (4, vI p3), (5, vI p4)] [] := by
  refine g_aload_n (pc' := 1) 0 dX11_feed_0 rfl rfl ?_
  refine g_getI (pc' := 4) (z := 15) rfl fl_X11_192 rfl rfl dX11_feed_1 rfl (fun rg1 => ?_)
  refine g_bipush (pc' := 6) dX11_feed_4 rfl rfl ?_
  refine g_iadd (pc' := 7) dX11_feed_6 rfl ?_
  refine g_sipush (pc' := 10) dX11_feed_7 rfl rfl ?_
  obtain ⟨hob3, hk11, hk12⟩ := h
  refine g_icmp_le (tgt := 15) (pc' := 13) (hob3) (rg_lit rfl) Iff.rfl dX11_feed_10 rfl rfl (fun c4 => ?_) (fun c4 => ?_)
  · have h := hk11 c4
    refine g_aload_n (pc' := 16) 0 dX11_feed_15 rfl rfl ?_
    refine g_iload_n (pc' := 17) 1 dX11_feed_16 rfl rfl ?_
    refine g_cVV (pc' := 20) (vs := [vI p0]) (st := []) (c := 11) h mv_X11_append lk_X11_195 rfl rfl rfl rfl (Nat.le_of_ble_eq_true rfl) (Nat.le_of_ble_eq_true rfl) rfl dX11_feed_17 rfl z2 (fun i5 l5 h => ?_)
    refine g_aload_n (pc' := 21) 0 dX11_feed_20 rfl rfl ?_
    refine g_iload_n (pc' := 22) 2 dX11_feed_21 rfl rfl ?_
    refine g_cVV (pc' := 25) (vs := [vI p1]) (st := []) (c := 11) h mv_X11_append lk_X11_195 rfl rfl rfl rfl (Nat.le_of_ble_eq_true rfl) (Nat.le_of_ble_eq_true rfl) rfl dX11_feed_22 rfl z2 (fun i6 l6 h => ?_)
    refine g_aload_n (pc' := 26) 0 dX11_feed_25 rfl rfl ?_
    refine g_iload_n (pc' := 27) 3 dX11_feed_26 rfl rfl ?_
    refine g_cVV (pc' := 30) (vs := [vI p2]) (st := []) (c := 11) h mv_X11_append lk_X11_195 rfl rfl rfl rfl (Nat.le_of_ble_eq_true rfl) (Nat.le_of_ble_eq_true rfl) rfl dX11_feed_27 rfl z2 (fun i7 l7 h => ?_)
    refine g_aload_n (pc' := 31) 0 dX11_feed_30 rfl rfl ?_
    refine g_iload (pc' := 33) 4 dX11_feed_31 rfl rfl ?_
    refine g_cVV (pc' := 36) (vs := [vI p3]) (st := []) (c := 11) h mv_X11_append lk_X11_195 rfl rfl rfl rfl (Nat.le_of_ble_eq_true rfl) (Nat.le_of_ble_eq_true rfl) rfl dX11_feed_33 rfl z2 (fun i8 l8 h => ?_)
    refine g_aload_n (pc' := 37) 0 dX11_feed_36 rfl rfl ?_
    refine g_iload (pc' := 39) 5 dX11_feed_37 rfl rfl ?_
    refine g_cVV (pc' := 42) (vs := [vI p4]) (st := []) (c := 11) h mv_X11_append lk_X11_195 rfl rfl rfl rfl (Nat.le_of_ble_eq_true rfl) (Nat.le_of_ble_eq_true rfl) rfl dX11_feed_39 rfl z2 (fun i9 l9 h => ?_)
    refine g_aload_n (pc' := 43) 0 dX11_feed_42 rfl rfl ?_
    refine g_getI (pc' := 46) (z := 15) rfl fl_X11_192 rfl rfl dX11_feed_43 rfl (fun rg10 => ?_)
    exact g_retI rfl rg10 dX11_feed_46 h
  · have h := hk12 c4
    refine g_iconst (pc' := 14) dX11_feed_13 rfl ?_
    exact g_retI rfl (rg_lit rfl) dX11_feed_14 h
theorem e_X11_feed {w : Wd} {d : Nat} {P : Int → IM → LM → Prop} {i : IM} {l : LM} {p0 : Int} {p1 : Int} {p2 : Int} {p3 : Int} {p4 : Int}  (h : gI w d X_X11_feed P i l 0 [(0, vR (some 6)), (1, vI p0), (2, vI p1), (3, vI p2), (4, vI p3), (5, vI p4)] []) : cI w (d + 1) X_X11_feed [vR (some 6), vI p0, vI p1, vI p2, vI p3, vI p4] i l P := CI_of (by decide +kernel) (Nat.le_of_ble_eq_true rfl) h

theorem dX11_end_0 : decode cX11_end 0 = .ok (.iload_n 1, 1) := by decide +kernel
theorem dX11_end_1 : decode cX11_end 1 = .ok (.aload_n 0, 1) := by decide +kernel
theorem dX11_end_2 : decode cX11_end 2 = .ok (.getfield 192, 3) := by decide +kernel
theorem dX11_end_5 : decode cX11_end 5 = .ok (.invokestatic 107, 3) := by decide +kernel
theorem dX11_end_8 : decode cX11_end 8 = .ok (.ifCond .ne 5, 3) := by decide +kernel
theorem dX11_end_11 : decode cX11_end 11 = .ok (.iconst (-1), 1) := by decide +kernel
theorem dX11_end_12 : decode cX11_end 12 = .ok (.ireturn, 1) := by decide +kernel
theorem dX11_end_13 : decode cX11_end 13 = .ok (.aload_n 0, 1) := by decide +kernel
theorem dX11_end_14 : decode cX11_end 14 = .ok (.iload_n 1, 1) := by decide +kernel
theorem dX11_end_15 : decode cX11_end 15 = .ok (.putfield 192, 3) := by decide +kernel
theorem dX11_end_18 : decode cX11_end 18 = .ok (.iload_n 1, 1) := by decide +kernel
theorem dX11_end_19 : decode cX11_end 19 = .ok (.ireturn, 1) := by decide +kernel
set_option maxRecDepth 20000 in
theorem s_X11_end {w : Wd} {d : Nat} {P : Int → IM → LM → Prop} {i : IM} {l : LM} (p0 : Int)  (hd : 1 ≤ d) (h : ((rg p0) ∧ (((0 ≤ p0 ∧ p0 ≤ i 6 15) → P p0 (u2 i 6 15 p0) l) ∧ ((¬ (0 ≤ p0 ∧ p0 ≤ i 6 15)) → P (-1) i l)))) : gI w d X_X11_end P i l 0 [(0, vR (some 6)), (1, vI p0)] [] := by
  obtain ⟨ob2, h⟩ := h
  refine g_iload_n (pc' := 1) 1 dX11_end_0 rfl rfl ?_
  refine g_aload_n (pc' := 2) 0 dX11_end_1 rfl rfl ?_
  refine g_getI (pc' := 5) (z := 15) rfl fl_X11_192 rfl rfl dX11_end_2 rfl (fun rg1 => ?_)
  refine g_pSI (pc' := 8) (vs := [vI p0, vI (i 6 15)]) (st := []) (val := bI (0 ≤ p0 ∧ p0 ≤ i 6 15)) (sp_X11_upTo (le_hd hd rfl) ob2 rg1) mk_X11_upTo ms_X11_upTo lk_X11_107 rfl (Nat.le_of_ble_eq_true rfl) (Nat.le_of_ble_eq_true rfl) rfl dX11_end_5 rfl z2 (fun rg3 => ?_)
  obtain ⟨hk6, hk7⟩ := h
  have hk6g : (0 ≤ p0 ∧ p0 ≤ i 6 15) → gI w d X_X11_end P i l 13 [(0, vR (some 6)), (1, vI p0)] [] := by
    intro hp
    have h := hk6 hp
    refine g_aload_n (pc' := 14) 0 dX11_end_13 rfl rfl ?_
    refine g_iload_n (pc' := 15) 1 dX11_end_14 rfl rfl ?_
    refine g_putI (pc' := 18) (z := 15) rfl fp_X11_192 rfl rfl ob2 dX11_end_15 rfl ?_
    refine g_iload_n (pc' := 19) 1 dX11_end_18 rfl rfl ?_
    exact g_retI rfl ob2 dX11_end_19 h
  have hk7g : (¬ (0 ≤ p0 ∧ p0 ≤ i 6 15)) → gI w d X_X11_end P i l 11 [(0, vR (some 6)), (1, vI p0)] [] := by
    intro hp
    have h := hk7 hp
    refine g_iconst (pc' := 12) dX11_end_11 rfl ?_
    exact g_retI rfl (rg_lit rfl) dX11_end_12 h
  refine g_if_ne (tgt := 13) (pc' := 11) rg3 (bI_eq _) dX11_end_8 rfl rfl (fun c5n => ?_) (fun c5 => ?_)
  · have c5 := Decidable.of_not_not c5n
    exact hk6g c5
  · exact hk7g c5
theorem e_X11_end {w : Wd} {d : Nat} {P : Int → IM → LM → Prop} {i : IM} {l : LM} {p0 : Int}  (h : gI w d X_X11_end P i l 0 [(0, vR (some 6)), (1, vI p0)] []) : cI w (d + 1) X_X11_end [vR (some 6), vI p0] i l P := CI_of (by decide +kernel) (Nat.le_of_ble_eq_true rfl) h

theorem dX11_row_0 : decode cX11_row 0 = .ok (.aload_n 0, 1) := by decide +kernel
theorem dX11_row_1 : decode cX11_row 1 = .ok (.getfield 192, 3) := by decide +kernel
theorem dX11_row_4 : decode cX11_row 4 = .ok (.ifCond .ne 10, 3) := by decide +kernel
theorem dX11_row_7 : decode cX11_row 7 = .ok (.aload_n 0, 1) := by decide +kernel
theorem dX11_row_8 : decode cX11_row 8 = .ok (.bipush (-6), 2) := by decide +kernel
theorem dX11_row_10 : decode cX11_row 10 = .ok (.invokevirtual 111, 3) := by decide +kernel
theorem dX11_row_13 : decode cX11_row 13 = .ok (.ireturn, 1) := by decide +kernel
theorem dX11_row_14 : decode cX11_row 14 = .ok (.iconst 0, 1) := by decide +kernel
theorem dX11_row_15 : decode cX11_row 15 = .ok (.istore_n 1, 1) := by decide +kernel
theorem dX11_row_16 : decode cX11_row 16 = .ok (.iconst 0, 1) := by decide +kernel
theorem dX11_row_17 : decode cX11_row 17 = .ok (.istore_n 2, 1) := by decide +kernel
theorem dX11_row_18 : decode cX11_row 18 = .ok (.iconst 0, 1) := by decide +kernel
theorem dX11_row_19 : decode cX11_row 19 = .ok (.istore_n 3, 1) := by decide +kernel
theorem dX11_row_20 : decode cX11_row 20 = .ok (.iload_n 3, 1) := by decide +kernel
theorem dX11_row_21 : decode cX11_row 21 = .ok (.aload_n 0, 1) := by decide +kernel
theorem dX11_row_22 : decode cX11_row 22 = .ok (.getfield 192, 3) := by decide +kernel
theorem dX11_row_25 : decode cX11_row 25 = .ok (.if_icmp .ge 26, 3) := by decide +kernel
theorem dX11_row_28 : decode cX11_row 28 = .ok (.aload_n 0, 1) := by decide +kernel
theorem dX11_row_29 : decode cX11_row 29 = .ok (.iload_n 3, 1) := by decide +kernel
theorem dX11_row_30 : decode cX11_row 30 = .ok (.invokevirtual 199, 3) := by decide +kernel
theorem dX11_row_33 : decode cX11_row 33 = .ok (.ifCond .eq 9, 3) := by decide +kernel
theorem dX11_row_36 : decode cX11_row 36 = .ok (.iinc 1 1, 3) := by decide +kernel
theorem dX11_row_39 : decode cX11_row 39 = .ok (.goto 6, 3) := by decide +kernel
theorem dX11_row_42 : decode cX11_row 42 = .ok (.iinc 2 1, 3) := by decide +kernel
theorem dX11_row_45 : decode cX11_row 45 = .ok (.iinc 3 3, 3) := by decide +kernel
theorem dX11_row_48 : decode cX11_row 48 = .ok (.goto (-28), 3) := by decide +kernel
theorem dX11_row_51 : decode cX11_row 51 = .ok (.aload_n 0, 1) := by decide +kernel
theorem dX11_row_52 : decode cX11_row 52 = .ok (.iconst 0, 1) := by decide +kernel
theorem dX11_row_53 : decode cX11_row 53 = .ok (.putfield 192, 3) := by decide +kernel
theorem dX11_row_56 : decode cX11_row 56 = .ok (.aload_n 0, 1) := by decide +kernel
theorem dX11_row_57 : decode cX11_row 57 = .ok (.iload_n 2, 1) := by decide +kernel
theorem dX11_row_58 : decode cX11_row 58 = .ok (.putfield 203, 3) := by decide +kernel
theorem dX11_row_61 : decode cX11_row 61 = .ok (.aload_n 0, 1) := by decide +kernel
theorem dX11_row_62 : decode cX11_row 62 = .ok (.iload_n 1, 1) := by decide +kernel
theorem dX11_row_63 : decode cX11_row 63 = .ok (.invokevirtual 122, 3) := by decide +kernel
theorem dX11_row_66 : decode cX11_row 66 = .ok (.ireturn, 1) := by decide +kernel
set_option maxRecDepth 20000 in
theorem s_X11_row {w : Wd} {d : Nat} {P : Int → IM → LM → Prop} {i : IM} {l : LM}   (h : (((i 6 15 = 0) → cI w d X_X11_refuse [vR (some 6), vI (-6)] i l (fun r4 i4 l4 => P r4 i4 l4)) ∧ ((¬ (i 6 15 = 0)) → gI w d X_X11_row P i l 20 [(0, vR (some 6)), (1, vI 0), (2, vI 0), (3, vI 0)] []))) : gI w d X_X11_row P i l 0 [(0, vR (some 6))] [] := by
  refine g_aload_n (pc' := 1) 0 dX11_row_0 rfl rfl ?_
  refine g_getI (pc' := 4) (z := 15) rfl fl_X11_192 rfl rfl dX11_row_1 rfl (fun rg1 => ?_)
  obtain ⟨hk5, hk6⟩ := h
  refine g_if_ne (tgt := 14) (pc' := 7) rg1 Iff.rfl dX11_row_4 rfl rfl (fun c3 => ?_) (fun c3 => ?_)
  · have h := hk6 c3
    refine g_iconst (pc' := 15) dX11_row_14 rfl ?_
    refine g_istore_n (pc' := 16) (L' := [(1, vI 0), (0, vR (some 6))]) dX11_row_15 rfl (Nat.le_of_ble_eq_true rfl) rfl ?_
    refine g_iconst (pc' := 17) dX11_row_16 rfl ?_
    refine g_istore_n (pc' := 18) (L' := [(2, vI 0), (1, vI 0), (0, vR (some 6))]) dX11_row_17 rfl (Nat.le_of_ble_eq_true rfl) rfl ?_
    refine g_iconst (pc' := 19) dX11_row_18 rfl ?_
    refine g_istore_n (pc' := 20) (L' := [(3, vI 0), (2, vI 0), (1, vI 0), (0, vR (some 6))]) dX11_row_19 rfl (Nat.le_of_ble_eq_true rfl) rfl ?_
    refine g_sub (L' := [(0, vR (some 6)), (1, vI 0), (2, vI 0), (3, vI 0)]) [3, 2, 1, 0] rfl ?_
    exact h
  · have h := hk5 c3
    refine g_aload_n (pc' := 8) 0 dX11_row_7 rfl rfl ?_
    refine g_bipush (pc' := 10) dX11_row_8 rfl rfl ?_
    refine g_cVI (pc' := 13) (vs := [vI (-6)]) (st := []) (c := 11) h mv_X11_refuse lk_X11_111 rfl rfl rfl rfl (Nat.le_of_ble_eq_true rfl) (Nat.le_of_ble_eq_true rfl) rfl dX11_row_10 rfl z2 (fun r4 i4 l4 rg4 h => ?_)
    exact g_retI rfl rg4 dX11_row_13 h
theorem e_X11_row {w : Wd} {d : Nat} {P : Int → IM → LM → Prop} {i : IM} {l : LM}   (h : gI w d X_X11_row P i l 0 [(0, vR (some 6))] []) : cI w (d + 1) X_X11_row [vR (some 6)] i l P := CI_of (by decide +kernel) (Nat.le_of_ble_eq_true rfl) h
set_option maxRecDepth 20000 in
theorem s_X11_row_20 {w : Wd} {d : Nat} {P : Int → IM → LM → Prop} {i : IM} {l : LM} (x1 : Int) (x2 : Int) (x3 : Int)  (h : ((rg x3) ∧ ((i 6 15 ≤ x3) → ((rg x2) ∧ cI w d X_X11_changed [vR (some 6), vI x1] (u2 (u2 i 6 15 0) 6 17 x2) l (fun r12 i12 l12 => P r12 i12 l12))) ∧ ((¬ (i 6 15 ≤ x3)) → cI w d X_X11_comes [vR (some 6), vI x3] i l (fun r13 i13 l13 => (((r13 = 0) → gI w d X_X11_row P i13 l13 20 [(0, vR (some 6)), (1, vI x1), (2, vI (x2 + 1)), (3, vI (x3 + 3))] []) ∧ ((¬ (r13 = 0)) → gI w d X_X11_row P i13 l13 20 [(0, vR (some 6)), (1, vI (x1 + 1)), (2, vI x2), (3, vI (x3 + 3))] [])))))) : gI w d X_X11_row P i l 20 [(0, vR (some 6)), (1, vI x1), (2, vI x2), (3, vI x3)] [] := by
  refine g_iload_n (pc' := 21) 3 dX11_row_20 rfl rfl ?_
  refine g_aload_n (pc' := 22) 0 dX11_row_21 rfl rfl ?_
  refine g_getI (pc' := 25) (z := 15) rfl fl_X11_192 rfl rfl dX11_row_22 rfl (fun rg7 => ?_)
  obtain ⟨hob9, hk18, hk19⟩ := h
  refine g_icmp_ge (tgt := 51) (pc' := 28) (hob9) rg7 Iff.rfl dX11_row_25 rfl rfl (fun c10 => ?_) (fun c10 => ?_)
  · have h := hk18 c10
    obtain ⟨ob11, h⟩ := h
    refine g_aload_n (pc' := 52) 0 dX11_row_51 rfl rfl ?_
    refine g_iconst (pc' := 53) dX11_row_52 rfl ?_
    refine g_putI (pc' := 56) (z := 15) rfl fp_X11_192 rfl rfl (rg_lit rfl) dX11_row_53 rfl ?_
    refine g_aload_n (pc' := 57) 0 dX11_row_56 rfl rfl ?_
    refine g_iload_n (pc' := 58) 2 dX11_row_57 rfl rfl ?_
    refine g_putI (pc' := 61) (z := 17) rfl fp_X11_203 rfl rfl ob11 dX11_row_58 rfl ?_
    refine g_aload_n (pc' := 62) 0 dX11_row_61 rfl rfl ?_
    refine g_iload_n (pc' := 63) 1 dX11_row_62 rfl rfl ?_
    refine g_cVI (pc' := 66) (vs := [vI x1]) (st := []) (c := 11) h mv_X11_changed lk_X11_122 rfl rfl rfl rfl (Nat.le_of_ble_eq_true rfl) (Nat.le_of_ble_eq_true rfl) rfl dX11_row_63 rfl z2 (fun r12 i12 l12 rg12 h => ?_)
    exact g_retI rfl rg12 dX11_row_66 h
  · have h := hk19 c10
    refine g_aload_n (pc' := 29) 0 dX11_row_28 rfl rfl ?_
    refine g_iload_n (pc' := 30) 3 dX11_row_29 rfl rfl ?_
    refine g_cVI (pc' := 33) (vs := [vI x3]) (st := []) (c := 11) h mv_X11_comes lk_X11_199 rfl rfl rfl rfl (Nat.le_of_ble_eq_true rfl) (Nat.le_of_ble_eq_true rfl) rfl dX11_row_30 rfl z2 (fun r13 i13 l13 rg13 h => ?_)
    obtain ⟨hk16, hk17⟩ := h
    refine g_if_eq (tgt := 42) (pc' := 36) rg13 Iff.rfl dX11_row_33 rfl rfl (fun c15 => ?_) (fun c15 => ?_)
    · have h := hk16 c15
      refine g_iinc (pc' := 45) (L' := [(2, vI (x2 + 1)), (0, vR (some 6)), (1, vI x1), (3, vI x3)]) 2 dX11_row_42 rfl (Nat.le_of_ble_eq_true rfl) rfl rfl ?_
      refine g_iinc (pc' := 48) (L' := [(3, vI (x3 + 3)), (2, vI (x2 + 1)), (0, vR (some 6)), (1, vI x1)]) 3 dX11_row_45 rfl (Nat.le_of_ble_eq_true rfl) rfl rfl ?_
      refine g_goto (tgt := 20) dX11_row_48 rfl ?_
      refine g_sub (L' := [(0, vR (some 6)), (1, vI x1), (2, vI (x2 + 1)), (3, vI (x3 + 3))]) [2, 3, 1, 0] rfl ?_
      exact h
    · have h := hk17 c15
      refine g_iinc (pc' := 39) (L' := [(1, vI (x1 + 1)), (0, vR (some 6)), (2, vI x2), (3, vI x3)]) 1 dX11_row_36 rfl (Nat.le_of_ble_eq_true rfl) rfl rfl ?_
      refine g_goto (tgt := 45) dX11_row_39 rfl ?_
      refine g_iinc (pc' := 48) (L' := [(3, vI (x3 + 3)), (1, vI (x1 + 1)), (0, vR (some 6)), (2, vI x2)]) 3 dX11_row_45 rfl (Nat.le_of_ble_eq_true rfl) rfl rfl ?_
      refine g_goto (tgt := 20) dX11_row_48 rfl ?_
      refine g_sub (L' := [(0, vR (some 6)), (1, vI (x1 + 1)), (2, vI x2), (3, vI (x3 + 3))]) [2, 1, 3, 0] rfl ?_
      exact h

theorem dX11_spoilt_0 : decode cX11_spoilt 0 = .ok (.aload_n 0, 1) := by decide +kernel
theorem dX11_spoilt_1 : decode cX11_spoilt 1 = .ok (.getfield 203, 3) := by decide +kernel
theorem dX11_spoilt_4 : decode cX11_spoilt 4 = .ok (.ireturn, 1) := by decide +kernel
set_option maxRecDepth 20000 in
theorem s_X11_spoilt {w : Wd} {d : Nat} {P : Int → IM → LM → Prop} {i : IM} {l : LM}   (h : P (i 6 17) i l) : gI w d X_X11_spoilt P i l 0 [(0, vR (some 6))] [] := by
  refine g_aload_n (pc' := 1) 0 dX11_spoilt_0 rfl rfl ?_
  refine g_getI (pc' := 4) (z := 17) rfl fl_X11_203 rfl rfl dX11_spoilt_1 rfl (fun rg1 => ?_)
  exact g_retI rfl rg1 dX11_spoilt_4 h
theorem e_X11_spoilt {w : Wd} {d : Nat} {P : Int → IM → LM → Prop} {i : IM} {l : LM}   (h : gI w d X_X11_spoilt P i l 0 [(0, vR (some 6))] []) : cI w (d + 1) X_X11_spoilt [vR (some 6)] i l P := CI_of (by decide +kernel) (Nat.le_of_ble_eq_true rfl) h

theorem dX11_fault_0 : decode cX11_fault 0 = .ok (.aload_n 0, 1) := by decide +kernel
theorem dX11_fault_1 : decode cX11_fault 1 = .ok (.getfield 103, 3) := by decide +kernel
theorem dX11_fault_4 : decode cX11_fault 4 = .ok (.ireturn, 1) := by decide +kernel
set_option maxRecDepth 20000 in
theorem s_X11_fault {w : Wd} {d : Nat} {P : Int → IM → LM → Prop} {i : IM} {l : LM}   (h : P (i 6 16) i l) : gI w d X_X11_fault P i l 0 [(0, vR (some 6))] [] := by
  refine g_aload_n (pc' := 1) 0 dX11_fault_0 rfl rfl ?_
  refine g_getI (pc' := 4) (z := 16) rfl fl_X11_103 rfl rfl dX11_fault_1 rfl (fun rg1 => ?_)
  exact g_retI rfl rg1 dX11_fault_4 h
theorem e_X11_fault {w : Wd} {d : Nat} {P : Int → IM → LM → Prop} {i : IM} {l : LM}   (h : gI w d X_X11_fault P i l 0 [(0, vR (some 6))] []) : cI w (d + 1) X_X11_fault [vR (some 6)] i l P := CI_of (by decide +kernel) (Nat.le_of_ble_eq_true rfl) h

theorem dX11_force_0 : decode cX11_force 0 = .ok (.iload_n 1, 1) := by decide +kernel
theorem dX11_force_1 : decode cX11_force 1 = .ok (.iconst (-1), 1) := by decide +kernel
theorem dX11_force_2 : decode cX11_force 2 = .ok (.if_icmp .eq 24, 3) := by decide +kernel
theorem dX11_force_5 : decode cX11_force 5 = .ok (.iload_n 1, 1) := by decide +kernel
theorem dX11_force_6 : decode cX11_force 6 = .ok (.aload_n 0, 1) := by decide +kernel
theorem dX11_force_7 : decode cX11_force 7 = .ok (.getfield 10, 3) := by decide +kernel
theorem dX11_force_10 : decode cX11_force 10 = .ok (.getfield 206, 3) := by decide +kernel
theorem dX11_force_13 : decode cX11_force 13 = .ok (.invokestatic 128, 3) := by decide +kernel
theorem dX11_force_16 : decode cX11_force 16 = .ok (.ifCond .ne 10, 3) := by decide +kernel
theorem dX11_force_19 : decode cX11_force 19 = .ok (.aload_n 0, 1) := by decide +kernel
theorem dX11_force_20 : decode cX11_force 20 = .ok (.bipush (-2), 2) := by decide +kernel
theorem dX11_force_22 : decode cX11_force 22 = .ok (.invokevirtual 111, 3) := by decide +kernel
theorem dX11_force_25 : decode cX11_force 25 = .ok (.ireturn, 1) := by decide +kernel
theorem dX11_force_26 : decode cX11_force 26 = .ok (.aload_n 0, 1) := by decide +kernel
theorem dX11_force_27 : decode cX11_force 27 = .ok (.getfield 10, 3) := by decide +kernel
theorem dX11_force_30 : decode cX11_force 30 = .ok (.getfield 221, 3) := by decide +kernel
theorem dX11_force_33 : decode cX11_force 33 = .ok (.istore_n 2, 1) := by decide +kernel
theorem dX11_force_34 : decode cX11_force 34 = .ok (.aload_n 0, 1) := by decide +kernel
theorem dX11_force_35 : decode cX11_force 35 = .ok (.getfield 10, 3) := by decide +kernel
theorem dX11_force_38 : decode cX11_force 38 = .ok (.iload_n 1, 1) := by decide +kernel
theorem dX11_force_39 : decode cX11_force 39 = .ok (.putfield 221, 3) := by decide +kernel
theorem dX11_force_42 : decode cX11_force 42 = .ok (.aload_n 0, 1) := by decide +kernel
theorem dX11_force_43 : decode cX11_force 43 = .ok (.iload_n 2, 1) := by decide +kernel
theorem dX11_force_44 : decode cX11_force 44 = .ok (.invokevirtual 122, 3) := by decide +kernel
theorem dX11_force_47 : decode cX11_force 47 = .ok (.ireturn, 1) := by decide +kernel
set_option maxRecDepth 20000 in
theorem s_X11_force {w : Wd} {d : Nat} {P : Int → IM → LM → Prop} {i : IM} {l : LM} (p0 : Int)  (hd : 1 ≤ d) (h : ((rg p0) ∧ (((p0 = (-1)) ∨ (0 ≤ p0 ∧ p0 < i 7 12)) → ((rg p0) ∧ cI w d X_X11_changed [vR (some 6), vI (i 7 14)] (u2 i 7 14 p0) l (fun r11 i11 l11 => P r11 i11 l11))) ∧ ((¬ ((p0 = (-1)) ∨ (0 ≤ p0 ∧ p0 < i 7 12))) → cI w d X_X11_refuse [vR (some 6), vI (-2)] i l (fun r12 i12 l12 => P r12 i12 l12)))) : gI w d X_X11_force P i l 0 [(0, vR (some 6)), (1, vI p0)] [] := by
  refine g_iload_n (pc' := 1) 1 dX11_force_0 rfl rfl ?_
  refine g_iconst (pc' := 2) dX11_force_1 rfl ?_
  obtain ⟨hob2, hk13, hk14⟩ := h
  have hk13g : ((p0 = (-1)) ∨ (0 ≤ p0 ∧ p0 < i 7 12)) → gI w d X_X11_force P i l 26 [(0, vR (some 6)), (1, vI p0)] [] := by
    intro hp
    have h := hk13 hp
    obtain ⟨ob10, h⟩ := h
    refine g_aload_n (pc' := 27) 0 dX11_force_26 rfl rfl ?_
    refine g_getR (pc' := 30) (o := some 7) fl_X11_10 rfl rfl rfl dX11_force_27 rfl ?_
    refine g_getI (pc' := 33) (z := 14) rfl fl_X11_221 rfl rfl dX11_force_30 rfl (fun rg9 => ?_)
    refine g_istore_n (pc' := 34) (L' := [(2, vI (i 7 14)), (0, vR (some 6)), (1, vI p0)]) dX11_force_33 rfl (Nat.le_of_ble_eq_true rfl) rfl ?_
    refine g_aload_n (pc' := 35) 1 dX11_force_34 rfl rfl ?_
    refine g_getR (pc' := 38) (o := some 7) fl_X11_10 rfl rfl rfl dX11_force_35 rfl ?_
    refine g_iload_n (pc' := 39) 2 dX11_force_38 rfl rfl ?_
    refine g_putI (pc' := 42) (z := 14) rfl fp_X11_221 rfl rfl ob10 dX11_force_39 rfl ?_
    refine g_aload_n (pc' := 43) 1 dX11_force_42 rfl rfl ?_
    refine g_iload_n (pc' := 44) 0 dX11_force_43 rfl rfl ?_
    refine g_cVI (pc' := 47) (vs := [vI (i 7 14)]) (st := []) (c := 11) h mv_X11_changed lk_X11_122 rfl rfl rfl rfl (Nat.le_of_ble_eq_true rfl) (Nat.le_of_ble_eq_true rfl) rfl dX11_force_44 rfl z2 (fun r11 i11 l11 rg11 h => ?_)
    exact g_retI rfl rg11 dX11_force_47 h
  have hk14g : (¬ ((p0 = (-1)) ∨ (0 ≤ p0 ∧ p0 < i 7 12))) → gI w d X_X11_force P i l 19 [(0, vR (some 6)), (1, vI p0)] [] := by
    intro hp
    have h := hk14 hp
    refine g_aload_n (pc' := 20) 0 dX11_force_19 rfl rfl ?_
    refine g_bipush (pc' := 22) dX11_force_20 rfl rfl ?_
    refine g_cVI (pc' := 25) (vs := [vI (-2)]) (st := []) (c := 11) h mv_X11_refuse lk_X11_111 rfl rfl rfl rfl (Nat.le_of_ble_eq_true rfl) (Nat.le_of_ble_eq_true rfl) rfl dX11_force_22 rfl z2 (fun r12 i12 l12 rg12 h => ?_)
    exact g_retI rfl rg12 dX11_force_25 h
  refine g_icmp_eq (tgt := 26) (pc' := 5) (hob2) (rg_lit rfl) Iff.rfl dX11_force_2 rfl rfl (fun c3 => ?_) (fun c3 => ?_)
  · exact hk13g (Or.inl c3)
  · refine g_iload_n (pc' := 6) 1 dX11_force_5 rfl rfl ?_
    refine g_aload_n (pc' := 7) 0 dX11_force_6 rfl rfl ?_
    refine g_getR (pc' := 10) (o := some 7) fl_X11_10 rfl rfl rfl dX11_force_7 rfl ?_
    refine g_getI (pc' := 13) (z := 12) rfl fl_X11_206 rfl rfl dX11_force_10 rfl (fun rg5 => ?_)
    refine g_pSI (pc' := 16) (vs := [vI p0, vI (i 7 12)]) (st := []) (val := bI (0 ≤ p0 ∧ p0 < i 7 12)) (sp_X11_below (le_hd hd rfl) (hob2) rg5) mk_X11_below ms_X11_below lk_X11_128 rfl (Nat.le_of_ble_eq_true rfl) (Nat.le_of_ble_eq_true rfl) rfl dX11_force_13 rfl z2 (fun rg6 => ?_)
    refine g_if_ne (tgt := 26) (pc' := 19) rg6 (bI_eq _) dX11_force_16 rfl rfl (fun c7n => ?_) (fun c7 => ?_)
    · have c7 := Decidable.of_not_not c7n
      exact hk13g (Or.inr c7)
    · exact hk14g (fun q => q.elim c3 c7)
theorem e_X11_force {w : Wd} {d : Nat} {P : Int → IM → LM → Prop} {i : IM} {l : LM} {p0 : Int}  (h : gI w d X_X11_force P i l 0 [(0, vR (some 6)), (1, vI p0)] []) : cI w (d + 1) X_X11_force [vR (some 6), vI p0] i l P := CI_of (by decide +kernel) (Nat.le_of_ble_eq_true rfl) h

theorem dX11_costs_0 : decode cX11_costs 0 = .ok (.iload_n 1, 1) := by decide +kernel
theorem dX11_costs_1 : decode cX11_costs 1 = .ok (.aload_n 0, 1) := by decide +kernel
theorem dX11_costs_2 : decode cX11_costs 2 = .ok (.getfield 10, 3) := by decide +kernel
theorem dX11_costs_5 : decode cX11_costs 5 = .ok (.getfield 115, 3) := by decide +kernel
theorem dX11_costs_8 : decode cX11_costs 8 = .ok (.invokestatic 128, 3) := by decide +kernel
theorem dX11_costs_11 : decode cX11_costs 11 = .ok (.ifCond .eq 12, 3) := by decide +kernel
theorem dX11_costs_14 : decode cX11_costs 14 = .ok (.iload_n 2, 1) := by decide +kernel
theorem dX11_costs_15 : decode cX11_costs 15 = .ok (.bipush 7, 2) := by decide +kernel
theorem dX11_costs_17 : decode cX11_costs 17 = .ok (.invokestatic 107, 3) := by decide +kernel
theorem dX11_costs_20 : decode cX11_costs 20 = .ok (.ifCond .ne 5, 3) := by decide +kernel
theorem dX11_costs_23 : decode cX11_costs 23 = .ok (.iconst (-1), 1) := by decide +kernel
theorem dX11_costs_24 : decode cX11_costs 24 = .ok (.ireturn, 1) := by decide +kernel
theorem dX11_costs_25 : decode cX11_costs 25 = .ok (.aload_n 0, 1) := by decide +kernel
theorem dX11_costs_26 : decode cX11_costs 26 = .ok (.getfield 41, 3) := by decide +kernel
theorem dX11_costs_29 : decode cX11_costs 29 = .ok (.iload_n 1, 1) := by decide +kernel
theorem dX11_costs_30 : decode cX11_costs 30 = .ok (.iload_n 2, 1) := by decide +kernel
theorem dX11_costs_31 : decode cX11_costs 31 = .ok (.invokevirtual 224, 3) := by decide +kernel
theorem dX11_costs_34 : decode cX11_costs 34 = .ok (.ireturn, 1) := by decide +kernel
set_option maxRecDepth 20000 in
theorem s_X11_costs {w : Wd} {d : Nat} {P : Int → IM → LM → Prop} {i : IM} {l : LM} (p0 : Int) (p1 : Int)  (hd : 1 ≤ d) (h : ((rg p0) ∧ (((0 ≤ p0 ∧ p0 < i 7 8) → rg p1) ∧ (((0 ≤ p0 ∧ p0 < i 7 8) ∧ (0 ≤ p1 ∧ p1 ≤ 7)) → cI w d X_X0_priceOf [vR (some 41), vI p0, vI p1] i l (fun r9 i9 l9 => P r9 i9 l9)) ∧ ((¬ ((0 ≤ p0 ∧ p0 < i 7 8) ∧ (0 ≤ p1 ∧ p1 ≤ 7))) → P (-1) i l)))) : gI w d X_X11_costs P i l 0 [(0, vR (some 6)), (1, vI p0), (2, vI p1)] [] := by
  obtain ⟨ob2, h⟩ := h
  refine g_iload_n (pc' := 1) 1 dX11_costs_0 rfl rfl ?_
  refine g_aload_n (pc' := 2) 0 dX11_costs_1 rfl rfl ?_
  refine g_getR (pc' := 5) (o := some 7) fl_X11_10 rfl rfl rfl dX11_costs_2 rfl ?_
  refine g_getI (pc' := 8) (z := 8) rfl fl_X11_115 rfl rfl dX11_costs_5 rfl (fun rg1 => ?_)
  refine g_pSI (pc' := 11) (vs := [vI p0, vI (i 7 8)]) (st := []) (val := bI (0 ≤ p0 ∧ p0 < i 7 8)) (sp_X11_below (le_hd hd rfl) ob2 rg1) mk_X11_below ms_X11_below lk_X11_128 rfl (Nat.le_of_ble_eq_true rfl) (Nat.le_of_ble_eq_true rfl) rfl dX11_costs_8 rfl z2 (fun rg3 => ?_)
  obtain ⟨hob6, hk10, hk11⟩ := h
  have hk10g : ((0 ≤ p0 ∧ p0 < i 7 8) ∧ (0 ≤ p1 ∧ p1 ≤ 7)) → gI w d X_X11_costs P i l 25 [(0, vR (some 6)), (1, vI p0), (2, vI p1)] [] := by
    intro hp
    have h := hk10 hp
    refine g_aload_n (pc' := 26) 0 dX11_costs_25 rfl rfl ?_
    refine g_getR (pc' := 29) (o := some 41) fl_X11_41 rfl rfl rfl dX11_costs_26 rfl ?_
    refine g_iload_n (pc' := 30) 1 dX11_costs_29 rfl rfl ?_
    refine g_iload_n (pc' := 31) 2 dX11_costs_30 rfl rfl ?_
    refine g_cVI (pc' := 34) (vs := [vI p0, vI p1]) (st := []) (c := 0) h mv_X0_priceOf lk_X11_224 rfl rfl rfl rfl (Nat.le_of_ble_eq_true rfl) (Nat.le_of_ble_eq_true rfl) rfl dX11_costs_31 rfl z2 (fun r9 i9 l9 rg9 h => ?_)
    exact g_retI rfl rg9 dX11_costs_34 h
  have hk11g : (¬ ((0 ≤ p0 ∧ p0 < i 7 8) ∧ (0 ≤ p1 ∧ p1 ≤ 7))) → gI w d X_X11_costs P i l 23 [(0, vR (some 6)), (1, vI p0), (2, vI p1)] [] := by
    intro hp
    have h := hk11 hp
    refine g_iconst (pc' := 24) dX11_costs_23 rfl ?_
    exact g_retI rfl (rg_lit rfl) dX11_costs_24 h
  refine g_if_eq (tgt := 23) (pc' := 14) rg3 (bI_eq _) dX11_costs_11 rfl rfl (fun c5 => ?_) (fun c5n => ?_)
  · exact hk11g (fun q => c5 q.1)
  · have c5 := Decidable.of_not_not c5n
    refine g_iload_n (pc' := 15) 2 dX11_costs_14 rfl rfl ?_
    refine g_bipush (pc' := 17) dX11_costs_15 rfl rfl ?_
    refine g_pSI (pc' := 20) (vs := [vI p1, vI 7]) (st := []) (val := bI (0 ≤ p1 ∧ p1 ≤ 7)) (sp_X11_upTo (le_hd hd rfl) (hob6 c5) (rg_lit rfl)) mk_X11_upTo ms_X11_upTo lk_X11_107 rfl (Nat.le_of_ble_eq_true rfl) (Nat.le_of_ble_eq_true rfl) rfl dX11_costs_17 rfl z2 (fun rg7 => ?_)
    refine g_if_ne (tgt := 25) (pc' := 23) rg7 (bI_eq _) dX11_costs_20 rfl rfl (fun c8n => ?_) (fun c8 => ?_)
    · have c8 := Decidable.of_not_not c8n
      exact hk10g ⟨c5, c8⟩
    · exact hk11g (fun q => c8 q.2)
theorem e_X11_costs {w : Wd} {d : Nat} {P : Int → IM → LM → Prop} {i : IM} {l : LM} {p0 : Int} {p1 : Int}  (h : gI w d X_X11_costs P i l 0 [(0, vR (some 6)), (1, vI p0), (2, vI p1)] []) : cI w (d + 1) X_X11_costs [vR (some 6), vI p0, vI p1] i l P := CI_of (by decide +kernel) (Nat.le_of_ble_eq_true rfl) h

theorem dX11_sees_0 : decode cX11_sees 0 = .ok (.iload_n 1, 1) := by decide +kernel
theorem dX11_sees_1 : decode cX11_sees 1 = .ok (.aload_n 0, 1) := by decide +kernel
theorem dX11_sees_2 : decode cX11_sees 2 = .ok (.getfield 10, 3) := by decide +kernel
theorem dX11_sees_5 : decode cX11_sees 5 = .ok (.getfield 138, 3) := by decide +kernel
theorem dX11_sees_8 : decode cX11_sees 8 = .ok (.invokestatic 128, 3) := by decide +kernel
theorem dX11_sees_11 : decode cX11_sees 11 = .ok (.ifCond .eq 20, 3) := by decide +kernel
theorem dX11_sees_14 : decode cX11_sees 14 = .ok (.iload_n 2, 1) := by decide +kernel
theorem dX11_sees_15 : decode cX11_sees 15 = .ok (.bipush 120, 2) := by decide +kernel
theorem dX11_sees_17 : decode cX11_sees 17 = .ok (.invokestatic 128, 3) := by decide +kernel
theorem dX11_sees_20 : decode cX11_sees 20 = .ok (.ifCond .eq 11, 3) := by decide +kernel
theorem dX11_sees_23 : decode cX11_sees 23 = .ok (.iload_n 3, 1) := by decide +kernel
theorem dX11_sees_24 : decode cX11_sees 24 = .ok (.iconst 2, 1) := by decide +kernel
theorem dX11_sees_25 : decode cX11_sees 25 = .ok (.invokestatic 107, 3) := by decide +kernel
theorem dX11_sees_28 : decode cX11_sees 28 = .ok (.ifCond .ne 5, 3) := by decide +kernel
theorem dX11_sees_31 : decode cX11_sees 31 = .ok (.iconst (-1), 1) := by decide +kernel
theorem dX11_sees_32 : decode cX11_sees 32 = .ok (.ireturn, 1) := by decide +kernel
theorem dX11_sees_33 : decode cX11_sees 33 = .ok (.aload_n 0, 1) := by decide +kernel
theorem dX11_sees_34 : decode cX11_sees 34 = .ok (.getfield 50, 3) := by decide +kernel
theorem dX11_sees_37 : decode cX11_sees 37 = .ok (.invokevirtual 227, 3) := by decide +kernel
theorem dX11_sees_40 : decode cX11_sees 40 = .ok (.aload_n 0, 1) := by decide +kernel
theorem dX11_sees_41 : decode cX11_sees 41 = .ok (.getfield 50, 3) := by decide +kernel
theorem dX11_sees_44 : decode cX11_sees 44 = .ok (.iload_n 2, 1) := by decide +kernel
theorem dX11_sees_45 : decode cX11_sees 45 = .ok (.iconst (-1), 1) := by decide +kernel
theorem dX11_sees_46 : decode cX11_sees 46 = .ok (.invokevirtual 230, 3) := by decide +kernel
theorem dX11_sees_49 : decode cX11_sees 49 = .ok (.aload_n 0, 1) := by decide +kernel
theorem dX11_sees_50 : decode cX11_sees 50 = .ok (.getfield 50, 3) := by decide +kernel
theorem dX11_sees_53 : decode cX11_sees 53 = .ok (.iload_n 1, 1) := by decide +kernel
theorem dX11_sees_54 : decode cX11_sees 54 = .ok (.iload_n 2, 1) := by decide +kernel
theorem dX11_sees_55 : decode cX11_sees 55 = .ok (.invokevirtual 234, 3) := by decide +kernel
theorem dX11_sees_58 : decode cX11_sees 58 = .ok (.istore 4, 2) := by decide +kernel
theorem dX11_sees_60 : decode cX11_sees 60 = .ok (.iload_n 3, 1) := by decide +kernel
theorem dX11_sees_61 : decode cX11_sees 61 = .ok (.iconst 1, 1) := by decide +kernel
theorem dX11_sees_62 : decode cX11_sees 62 = .ok (.if_icmp .ne 6, 3) := by decide +kernel
theorem dX11_sees_65 : decode cX11_sees 65 = .ok (.iload 4, 2) := by decide +kernel
theorem dX11_sees_67 : decode cX11_sees 67 = .ok (.ireturn, 1) := by decide +kernel
theorem dX11_sees_68 : decode cX11_sees 68 = .ok (.aload_n 0, 1) := by decide +kernel
theorem dX11_sees_69 : decode cX11_sees 69 = .ok (.getfield 50, 3) := by decide +kernel
theorem dX11_sees_72 : decode cX11_sees 72 = .ok (.iload_n 1, 1) := by decide +kernel
theorem dX11_sees_73 : decode cX11_sees 73 = .ok (.iload_n 2, 1) := by decide +kernel
theorem dX11_sees_74 : decode cX11_sees 74 = .ok (.invokevirtual 237, 3) := by decide +kernel
theorem dX11_sees_77 : decode cX11_sees 77 = .ok (.istore 5, 2) := by decide +kernel
theorem dX11_sees_79 : decode cX11_sees 79 = .ok (.iload_n 3, 1) := by decide +kernel
theorem dX11_sees_80 : decode cX11_sees 80 = .ok (.ifCond .ne 6, 3) := by decide +kernel
theorem dX11_sees_83 : decode cX11_sees 83 = .ok (.iload 5, 2) := by decide +kernel
theorem dX11_sees_85 : decode cX11_sees 85 = .ok (.ireturn, 1) := by decide +kernel
theorem dX11_sees_86 : decode cX11_sees 86 = .ok (.iload 5, 2) := by decide +kernel
theorem dX11_sees_88 : decode cX11_sees 88 = .ok (.invokestatic 240, 3) := by decide +kernel
theorem dX11_sees_91 : decode cX11_sees 91 = .ok (.iload 4, 2) := by decide +kernel
theorem dX11_sees_93 : decode cX11_sees 93 = .ok (.if_icmp .gt 7, 3) := by decide +kernel
theorem dX11_sees_96 : decode cX11_sees 96 = .ok (.iconst 1, 1) := by decide +kernel
theorem dX11_sees_97 : decode cX11_sees 97 = .ok (.goto 4, 3) := by decide +kernel
theorem dX11_sees_100 : decode cX11_sees 100 = .ok (.iconst 0, 1) := by decide +kernel
theorem dX11_sees_101 : decode cX11_sees 101 = .ok (.ireturn, 1) := by decide +kernel
set_option maxRecDepth 20000 in
theorem s_X11_sees {w : Wd} {d : Nat} {P : Int → IM → LM → Prop} {i : IM} {l : LM} (p0 : Int) (p1 : Int) (p2 : Int)  (hd : 1 ≤ d) (h : ((rg p0) ∧ (((0 ≤ p0 ∧ p0 < i 7 9) → rg p1) ∧ ((0 ≤ p0 ∧ p0 < i 7 9) → (0 ≤ p1 ∧ p1 < 120) → rg p2) ∧ (((0 ≤ p0 ∧ p0 < i 7 9) ∧ ((0 ≤ p1 ∧ p1 < 120) ∧ (0 ≤ p2 ∧ p2 ≤ 2))) → cVd w d X_X8_refresh [vR (some 44)] i l (fun i12 l12 => cVd w d X_X8_letOut [vR (some 44), vI p1, vI (-1)] i12 l12 (fun i13 l13 => cI w d X_X8_limitAt [vR (some 44), vI p0, vI p1] i13 l13 (fun r14 i14 l14 => ((rg p2) ∧ ((p2 = 1) → P r14 i14 l14) ∧ ((¬ (p2 = 1)) → cI w d X_X8_seenFrom [vR (some 44), vI p0, vI p1] i14 l14 (fun r18 i18 l18 => ((rg p2) ∧ ((p2 = 0) → P r18 i18 l18) ∧ ((¬ (p2 = 0)) → ((0 ≤ r18 ∧ r18 < 1024) ∧ P (bI (¬ (r14 < popI r18))) i18 l18)))))))))) ∧ ((¬ ((0 ≤ p0 ∧ p0 < i 7 9) ∧ ((0 ≤ p1 ∧ p1 < 120) ∧ (0 ≤ p2 ∧ p2 ≤ 2)))) → P (-1) i l)))) : gI w d X_X11_sees P i l 0 [(0, vR (some 6)), (1, vI p0), (2, vI p1), (3, vI p2)] [] := by
  obtain ⟨ob2, h⟩ := h
  refine g_iload_n (pc' := 1) 1 dX11_sees_0 rfl rfl ?_
  refine g_aload_n (pc' := 2) 0 dX11_sees_1 rfl rfl ?_
  refine g_getR (pc' := 5) (o := some 7) fl_X11_10 rfl rfl rfl dX11_sees_2 rfl ?_
  refine g_getI (pc' := 8) (z := 9) rfl fl_X11_138 rfl rfl dX11_sees_5 rfl (fun rg1 => ?_)
  refine g_pSI (pc' := 11) (vs := [vI p0, vI (i 7 9)]) (st := []) (val := bI (0 ≤ p0 ∧ p0 < i 7 9)) (sp_X11_below (le_hd hd rfl) ob2 rg1) mk_X11_below ms_X11_below lk_X11_128 rfl (Nat.le_of_ble_eq_true rfl) (Nat.le_of_ble_eq_true rfl) rfl dX11_sees_8 rfl z2 (fun rg3 => ?_)
  obtain ⟨hob6, hob9, hk50, hk51⟩ := h
  have hk50g : ((0 ≤ p0 ∧ p0 < i 7 9) ∧ ((0 ≤ p1 ∧ p1 < 120) ∧ (0 ≤ p2 ∧ p2 ≤ 2))) → gI w d X_X11_sees P i l 33 [(0, vR (some 6)), (1, vI p0), (2, vI p1), (3, vI p2)] [] := by
    intro hp
    have h := hk50 hp
    refine g_aload_n (pc' := 34) 0 dX11_sees_33 rfl rfl ?_
    refine g_getR (pc' := 37) (o := some 44) fl_X11_50 rfl rfl rfl dX11_sees_34 rfl ?_
    refine g_cVV (pc' := 40) (vs := []) (st := []) (c := 8) h mv_X8_refresh lk_X11_227 rfl rfl rfl rfl (Nat.le_of_ble_eq_true rfl) (Nat.le_of_ble_eq_true rfl) rfl dX11_sees_37 rfl z2 (fun i12 l12 h => ?_)
    refine g_aload_n (pc' := 41) 0 dX11_sees_40 rfl rfl ?_
    refine g_getR (pc' := 44) (o := some 44) fl_X11_50 rfl rfl rfl dX11_sees_41 rfl ?_
    refine g_iload_n (pc' := 45) 2 dX11_sees_44 rfl rfl ?_
    refine g_iconst (pc' := 46) dX11_sees_45 rfl ?_
    refine g_cVV (pc' := 49) (vs := [vI p1, vI (-1)]) (st := []) (c := 8) h mv_X8_letOut lk_X11_230 rfl rfl rfl rfl (Nat.le_of_ble_eq_true rfl) (Nat.le_of_ble_eq_true rfl) rfl dX11_sees_46 rfl z2 (fun i13 l13 h => ?_)
    refine g_aload_n (pc' := 50) 0 dX11_sees_49 rfl rfl ?_
    refine g_getR (pc' := 53) (o := some 44) fl_X11_50 rfl rfl rfl dX11_sees_50 rfl ?_
    refine g_iload_n (pc' := 54) 1 dX11_sees_53 rfl rfl ?_
    refine g_iload_n (pc' := 55) 2 dX11_sees_54 rfl rfl ?_
    refine g_cVI (pc' := 58) (vs := [vI p0, vI p1]) (st := []) (c := 8) h mv_X8_limitAt lk_X11_234 rfl rfl rfl rfl (Nat.le_of_ble_eq_true rfl) (Nat.le_of_ble_eq_true rfl) rfl dX11_sees_55 rfl z2 (fun r14 i14 l14 rg14 h => ?_)
    refine g_istore (pc' := 60) (L' := [(4, vI r14), (0, vR (some 6)), (1, vI p0), (2, vI p1), (3, vI p2)]) dX11_sees_58 rfl (Nat.le_of_ble_eq_true rfl) rfl ?_
    refine g_iload_n (pc' := 61) 4 dX11_sees_60 rfl rfl ?_
    refine g_iconst (pc' := 62) dX11_sees_61 rfl ?_
    obtain ⟨hob16, hk48, hk49⟩ := h
    refine g_icmp_ne (tgt := 68) (pc' := 65) (hob16) (rg_lit rfl) Iff.rfl dX11_sees_62 rfl rfl (fun c17 => ?_) (fun c17 => ?_)
    · have h := hk49 c17
      refine g_aload_n (pc' := 69) 1 dX11_sees_68 rfl rfl ?_
      refine g_getR (pc' := 72) (o := some 44) fl_X11_50 rfl rfl rfl dX11_sees_69 rfl ?_
      refine g_iload_n (pc' := 73) 2 dX11_sees_72 rfl rfl ?_
      refine g_iload_n (pc' := 74) 3 dX11_sees_73 rfl rfl ?_
      refine g_cVI (pc' := 77) (vs := [vI p0, vI p1]) (st := []) (c := 8) h mv_X8_seenFrom lk_X11_237 rfl rfl rfl rfl (Nat.le_of_ble_eq_true rfl) (Nat.le_of_ble_eq_true rfl) rfl dX11_sees_74 rfl z2 (fun r18 i18 l18 rg18 h => ?_)
      refine g_istore (pc' := 79) (L' := [(5, vI r18), (4, vI r14), (0, vR (some 6)), (1, vI p0), (2, vI p1), (3, vI p2)]) dX11_sees_77 rfl (Nat.le_of_ble_eq_true rfl) rfl ?_
      refine g_iload_n (pc' := 80) 5 dX11_sees_79 rfl rfl ?_
      obtain ⟨hob40, hk46, hk47⟩ := h
      refine g_if_ne (tgt := 86) (pc' := 83) (hob40) Iff.rfl dX11_sees_80 rfl rfl (fun c41 => ?_) (fun c41 => ?_)
      · have h := hk47 c41
        obtain ⟨ob42, h⟩ := h
        refine g_iload (pc' := 88) 0 dX11_sees_86 rfl rfl ?_
        refine g_pSI (pc' := 91) (vs := [vI r18]) (st := []) (val := popI r18) (sp_bitCount (le_hd hd rfl) ob42) mk_J6_bitCount_0f7a4 ms_J6_bitCount_0f7a4 lk_X11_240 rfl (Nat.le_of_ble_eq_true rfl) (Nat.le_of_ble_eq_true rfl) rfl dX11_sees_88 rfl z2 (fun rg43 => ?_)
        refine g_iload (pc' := 93) 1 dX11_sees_91 rfl rfl ?_
        have hJ : gI w d X_X11_sees P i18 l18 101 [(5, vI r18), (4, vI r14), (0, vR (some 6)), (1, vI p0), (2, vI p1), (3, vI p2)] [vI (bI (¬ (r14 < popI r18)))] := by
          exact g_retI rfl (rg_bI _) dX11_sees_101 h
        refine g_icmp_gt (tgt := 100) (pc' := 96) rg43 rg14 Iff.rfl dX11_sees_93 rfl rfl (fun c45 => ?_) (fun c45 => ?_)
        · refine g_iconst (pc' := 101) dX11_sees_100 rfl ?_
          rw [bI_f (p := (¬ (r14 < popI r18))) (fun q => q c45)] at hJ
          exact hJ
        · refine g_iconst (pc' := 97) dX11_sees_96 rfl ?_
          refine g_goto (tgt := 101) dX11_sees_97 rfl ?_
          rw [bI_t (p := (¬ (r14 < popI r18))) c45] at hJ
          exact hJ
      · have h := hk46 c41
        refine g_iload (pc' := 85) 0 dX11_sees_83 rfl rfl ?_
        exact g_retI rfl rg18 dX11_sees_85 h
    · have h := hk48 c17
      refine g_iload (pc' := 67) 0 dX11_sees_65 rfl rfl ?_
      exact g_retI rfl rg14 dX11_sees_67 h
  have hk51g : (¬ ((0 ≤ p0 ∧ p0 < i 7 9) ∧ ((0 ≤ p1 ∧ p1 < 120) ∧ (0 ≤ p2 ∧ p2 ≤ 2)))) → gI w d X_X11_sees P i l 31 [(0, vR (some 6)), (1, vI p0), (2, vI p1), (3, vI p2)] [] := by
    intro hp
    have h := hk51 hp
    refine g_iconst (pc' := 32) dX11_sees_31 rfl ?_
    exact g_retI rfl (rg_lit rfl) dX11_sees_32 h
  refine g_if_eq (tgt := 31) (pc' := 14) rg3 (bI_eq _) dX11_sees_11 rfl rfl (fun c5 => ?_) (fun c5n => ?_)
  · exact hk51g (fun q => c5 q.1)
  · have c5 := Decidable.of_not_not c5n
    refine g_iload_n (pc' := 15) 2 dX11_sees_14 rfl rfl ?_
    refine g_bipush (pc' := 17) dX11_sees_15 rfl rfl ?_
    refine g_pSI (pc' := 20) (vs := [vI p1, vI 120]) (st := []) (val := bI (0 ≤ p1 ∧ p1 < 120)) (sp_X11_below (le_hd hd rfl) (hob6 c5) (rg_lit rfl)) mk_X11_below ms_X11_below lk_X11_128 rfl (Nat.le_of_ble_eq_true rfl) (Nat.le_of_ble_eq_true rfl) rfl dX11_sees_17 rfl z2 (fun rg7 => ?_)
    refine g_if_eq (tgt := 31) (pc' := 23) rg7 (bI_eq _) dX11_sees_20 rfl rfl (fun c8 => ?_) (fun c8n => ?_)
    · exact hk51g (fun q => (fun q => c8 q.1) q.2)
    · have c8 := Decidable.of_not_not c8n
      refine g_iload_n (pc' := 24) 3 dX11_sees_23 rfl rfl ?_
      refine g_iconst (pc' := 25) dX11_sees_24 rfl ?_
      refine g_pSI (pc' := 28) (vs := [vI p2, vI 2]) (st := []) (val := bI (0 ≤ p2 ∧ p2 ≤ 2)) (sp_X11_upTo (le_hd hd rfl) (hob9 c5 c8) (rg_lit rfl)) mk_X11_upTo ms_X11_upTo lk_X11_107 rfl (Nat.le_of_ble_eq_true rfl) (Nat.le_of_ble_eq_true rfl) rfl dX11_sees_25 rfl z2 (fun rg10 => ?_)
      refine g_if_ne (tgt := 33) (pc' := 31) rg10 (bI_eq _) dX11_sees_28 rfl rfl (fun c11n => ?_) (fun c11 => ?_)
      · have c11 := Decidable.of_not_not c11n
        exact hk50g ⟨c5, ⟨c8, c11⟩⟩
      · exact hk51g (fun q => (fun q => c11 q.2) q.2)
theorem e_X11_sees {w : Wd} {d : Nat} {P : Int → IM → LM → Prop} {i : IM} {l : LM} {p0 : Int} {p1 : Int} {p2 : Int}  (h : gI w d X_X11_sees P i l 0 [(0, vR (some 6)), (1, vI p0), (2, vI p1), (3, vI p2)] []) : cI w (d + 1) X_X11_sees [vR (some 6), vI p0, vI p1, vI p2] i l P := CI_of (by decide +kernel) (Nat.le_of_ble_eq_true rfl) h

theorem dX11_judge_0 : decode cX11_judge 0 = .ok (.iload_n 1, 1) := by decide +kernel
theorem dX11_judge_1 : decode cX11_judge 1 = .ok (.iconst 2, 1) := by decide +kernel
theorem dX11_judge_2 : decode cX11_judge 2 = .ok (.invokestatic 107, 3) := by decide +kernel
theorem dX11_judge_5 : decode cX11_judge 5 = .ok (.ifCond .ne 5, 3) := by decide +kernel
theorem dX11_judge_8 : decode cX11_judge 8 = .ok (.iconst (-1), 1) := by decide +kernel
theorem dX11_judge_9 : decode cX11_judge 9 = .ok (.ireturn, 1) := by decide +kernel
theorem dX11_judge_10 : decode cX11_judge 10 = .ok (.aload_n 0, 1) := by decide +kernel
theorem dX11_judge_11 : decode cX11_judge 11 = .ok (.getfield 50, 3) := by decide +kernel
theorem dX11_judge_14 : decode cX11_judge 14 = .ok (.invokevirtual 245, 3) := by decide +kernel
theorem dX11_judge_17 : decode cX11_judge 17 = .ok (.iload_n 1, 1) := by decide +kernel
theorem dX11_judge_18 : decode cX11_judge 18 = .ok (.ifCond .ne 11, 3) := by decide +kernel
theorem dX11_judge_21 : decode cX11_judge 21 = .ok (.aload_n 0, 1) := by decide +kernel
theorem dX11_judge_22 : decode cX11_judge 22 = .ok (.getfield 50, 3) := by decide +kernel
theorem dX11_judge_25 : decode cX11_judge 25 = .ok (.getfield 248, 3) := by decide +kernel
theorem dX11_judge_28 : decode cX11_judge 28 = .ok (.ireturn, 1) := by decide +kernel
theorem dX11_judge_29 : decode cX11_judge 29 = .ok (.iload_n 1, 1) := by decide +kernel
theorem dX11_judge_30 : decode cX11_judge 30 = .ok (.iconst 1, 1) := by decide +kernel
theorem dX11_judge_31 : decode cX11_judge 31 = .ok (.if_icmp .ne 13, 3) := by decide +kernel
theorem dX11_judge_34 : decode cX11_judge 34 = .ok (.aload_n 0, 1) := by decide +kernel
theorem dX11_judge_35 : decode cX11_judge 35 = .ok (.getfield 50, 3) := by decide +kernel
theorem dX11_judge_38 : decode cX11_judge 38 = .ok (.getfield 251, 3) := by decide +kernel
theorem dX11_judge_41 : decode cX11_judge 41 = .ok (.goto 10, 3) := by decide +kernel
theorem dX11_judge_44 : decode cX11_judge 44 = .ok (.aload_n 0, 1) := by decide +kernel
theorem dX11_judge_45 : decode cX11_judge 45 = .ok (.getfield 50, 3) := by decide +kernel
theorem dX11_judge_48 : decode cX11_judge 48 = .ok (.getfield 254, 3) := by decide +kernel
theorem dX11_judge_51 : decode cX11_judge 51 = .ok (.ireturn, 1) := by decide +kernel
set_option maxRecDepth 20000 in
theorem s_X11_judge {w : Wd} {d : Nat} {P : Int → IM → LM → Prop} {i : IM} {l : LM} (p0 : Int)  (hd : 1 ≤ d) (h : ((rg p0) ∧ (((0 ≤ p0 ∧ p0 ≤ 2) → cVd w d X_X8_sweep [vR (some 44)] i l (fun i5 l5 => (((p0 = 0) → P (i5 44 8) i5 l5) ∧ ((¬ (p0 = 0)) → P (if (p0 = 1) then i5 44 9 else i5 44 10) i5 l5)))) ∧ ((¬ (0 ≤ p0 ∧ p0 ≤ 2)) → P (-1) i l)))) : gI w d X_X11_judge P i l 0 [(0, vR (some 6)), (1, vI p0)] [] := by
  obtain ⟨ob1, h⟩ := h
  refine g_iload_n (pc' := 1) 1 dX11_judge_0 rfl rfl ?_
  refine g_iconst (pc' := 2) dX11_judge_1 rfl ?_
  refine g_pSI (pc' := 5) (vs := [vI p0, vI 2]) (st := []) (val := bI (0 ≤ p0 ∧ p0 ≤ 2)) (sp_X11_upTo (le_hd hd rfl) ob1 (rg_lit rfl)) mk_X11_upTo ms_X11_upTo lk_X11_107 rfl (Nat.le_of_ble_eq_true rfl) (Nat.le_of_ble_eq_true rfl) rfl dX11_judge_2 rfl z2 (fun rg2 => ?_)
  obtain ⟨hk35, hk36⟩ := h
  have hk35g : (0 ≤ p0 ∧ p0 ≤ 2) → gI w d X_X11_judge P i l 10 [(0, vR (some 6)), (1, vI p0)] [] := by
    intro hp
    have h := hk35 hp
    refine g_aload_n (pc' := 11) 0 dX11_judge_10 rfl rfl ?_
    refine g_getR (pc' := 14) (o := some 44) fl_X11_50 rfl rfl rfl dX11_judge_11 rfl ?_
    refine g_cVV (pc' := 17) (vs := []) (st := []) (c := 8) h mv_X8_sweep lk_X11_245 rfl rfl rfl rfl (Nat.le_of_ble_eq_true rfl) (Nat.le_of_ble_eq_true rfl) rfl dX11_judge_14 rfl z2 (fun i5 l5 h => ?_)
    refine g_iload_n (pc' := 18) 1 dX11_judge_17 rfl rfl ?_
    obtain ⟨hk33, hk34⟩ := h
    refine g_if_ne (tgt := 29) (pc' := 21) ob1 Iff.rfl dX11_judge_18 rfl rfl (fun c27 => ?_) (fun c27 => ?_)
    · have h := hk34 c27
      refine g_iload_n (pc' := 30) 1 dX11_judge_29 rfl rfl ?_
      refine g_iconst (pc' := 31) dX11_judge_30 rfl ?_
      refine g_rg (fun hRG28 => ?_)
      have hJ : gI w d X_X11_judge P i5 l5 51 [(0, vR (some 6)), (1, vI p0)] [vI (if (p0 = 1) then i5 44 9 else i5 44 10)] := by
        exact g_retI rfl (rg_ite (hRG28 _ _) (hRG28 _ _)) dX11_judge_51 h
      refine g_icmp_ne (tgt := 44) (pc' := 34) ob1 (rg_lit rfl) Iff.rfl dX11_judge_31 rfl rfl (fun c29 => ?_) (fun c29 => ?_)
      · refine g_aload_n (pc' := 45) 0 dX11_judge_44 rfl rfl ?_
        refine g_getR (pc' := 48) (o := some 44) fl_X11_50 rfl rfl rfl dX11_judge_45 rfl ?_
        refine g_getI (pc' := 51) (z := 10) rfl fl_X11_254 rfl rfl dX11_judge_48 rfl (fun rg30 => ?_)
        rw [if_neg c29 (α := Int) (t := i5 44 9) (e := i5 44 10)] at hJ
        exact hJ
      · refine g_aload_n (pc' := 35) 0 dX11_judge_34 rfl rfl ?_
        refine g_getR (pc' := 38) (o := some 44) fl_X11_50 rfl rfl rfl dX11_judge_35 rfl ?_
        refine g_getI (pc' := 41) (z := 9) rfl fl_X11_251 rfl rfl dX11_judge_38 rfl (fun rg31 => ?_)
        refine g_goto (tgt := 51) dX11_judge_41 rfl ?_
        rw [if_pos c29 (α := Int) (t := i5 44 9) (e := i5 44 10)] at hJ
        exact hJ
    · have h := hk33 c27
      refine g_aload_n (pc' := 22) 0 dX11_judge_21 rfl rfl ?_
      refine g_getR (pc' := 25) (o := some 44) fl_X11_50 rfl rfl rfl dX11_judge_22 rfl ?_
      refine g_getI (pc' := 28) (z := 8) rfl fl_X11_248 rfl rfl dX11_judge_25 rfl (fun rg32 => ?_)
      exact g_retI rfl rg32 dX11_judge_28 h
  have hk36g : (¬ (0 ≤ p0 ∧ p0 ≤ 2)) → gI w d X_X11_judge P i l 8 [(0, vR (some 6)), (1, vI p0)] [] := by
    intro hp
    have h := hk36 hp
    refine g_iconst (pc' := 9) dX11_judge_8 rfl ?_
    exact g_retI rfl (rg_lit rfl) dX11_judge_9 h
  refine g_if_ne (tgt := 10) (pc' := 8) rg2 (bI_eq _) dX11_judge_5 rfl rfl (fun c4n => ?_) (fun c4 => ?_)
  · have c4 := Decidable.of_not_not c4n
    exact hk35g c4
  · exact hk36g c4
theorem e_X11_judge {w : Wd} {d : Nat} {P : Int → IM → LM → Prop} {i : IM} {l : LM} {p0 : Int}  (h : gI w d X_X11_judge P i l 0 [(0, vR (some 6)), (1, vI p0)] []) : cI w (d + 1) X_X11_judge [vR (some 6), vI p0] i l P := CI_of (by decide +kernel) (Nat.le_of_ble_eq_true rfl) h

theorem dX11_bad_0 : decode cX11_bad 0 = .ok (.iload_n 1, 1) := by decide +kernel
theorem dX11_bad_1 : decode cX11_bad 1 = .ok (.aload_n 0, 1) := by decide +kernel
theorem dX11_bad_2 : decode cX11_bad 2 = .ok (.getfield 10, 3) := by decide +kernel
theorem dX11_bad_5 : decode cX11_bad 5 = .ok (.getfield 138, 3) := by decide +kernel
theorem dX11_bad_8 : decode cX11_bad 8 = .ok (.invokestatic 128, 3) := by decide +kernel
theorem dX11_bad_11 : decode cX11_bad 11 = .ok (.ifCond .ne 5, 3) := by decide +kernel
theorem dX11_bad_14 : decode cX11_bad 14 = .ok (.iconst (-1), 1) := by decide +kernel
theorem dX11_bad_15 : decode cX11_bad 15 = .ok (.ireturn, 1) := by decide +kernel
theorem dX11_bad_16 : decode cX11_bad 16 = .ok (.aload_n 0, 1) := by decide +kernel
theorem dX11_bad_17 : decode cX11_bad 17 = .ok (.getfield 50, 3) := by decide +kernel
theorem dX11_bad_20 : decode cX11_bad 20 = .ok (.invokevirtual 245, 3) := by decide +kernel
theorem dX11_bad_23 : decode cX11_bad 23 = .ok (.aload_n 0, 1) := by decide +kernel
theorem dX11_bad_24 : decode cX11_bad 24 = .ok (.getfield 50, 3) := by decide +kernel
theorem dX11_bad_27 : decode cX11_bad 27 = .ok (.getfield 257, 3) := by decide +kernel
theorem dX11_bad_30 : decode cX11_bad 30 = .ok (.iload_n 1, 1) := by decide +kernel
theorem dX11_bad_31 : decode cX11_bad 31 = .ok (.iaload, 1) := by decide +kernel
theorem dX11_bad_32 : decode cX11_bad 32 = .ok (.ireturn, 1) := by decide +kernel
set_option maxRecDepth 20000 in
theorem s_X11_bad {w : Wd} {d : Nat} {P : Int → IM → LM → Prop} {i : IM} {l : LM} (p0 : Int)  (hd : 1 ≤ d) (h : ((rg p0) ∧ (((0 ≤ p0 ∧ p0 < i 7 9) → cVd w d X_X8_sweep [vR (some 44)] i l (fun i6 l6 => ((0 ≤ p0 ∧ p0 < 8) ∧ P (i6 50 p0) i6 l6))) ∧ ((¬ (0 ≤ p0 ∧ p0 < i 7 9)) → P (-1) i l)))) : gI w d X_X11_bad P i l 0 [(0, vR (some 6)), (1, vI p0)] [] := by
  obtain ⟨ob2, h⟩ := h
  refine g_iload_n (pc' := 1) 1 dX11_bad_0 rfl rfl ?_
  refine g_aload_n (pc' := 2) 0 dX11_bad_1 rfl rfl ?_
  refine g_getR (pc' := 5) (o := some 7) fl_X11_10 rfl rfl rfl dX11_bad_2 rfl ?_
  refine g_getI (pc' := 8) (z := 9) rfl fl_X11_138 rfl rfl dX11_bad_5 rfl (fun rg1 => ?_)
  refine g_pSI (pc' := 11) (vs := [vI p0, vI (i 7 9)]) (st := []) (val := bI (0 ≤ p0 ∧ p0 < i 7 9)) (sp_X11_below (le_hd hd rfl) ob2 rg1) mk_X11_below ms_X11_below lk_X11_128 rfl (Nat.le_of_ble_eq_true rfl) (Nat.le_of_ble_eq_true rfl) rfl dX11_bad_8 rfl z2 (fun rg3 => ?_)
  obtain ⟨hk9, hk10⟩ := h
  have hk9g : (0 ≤ p0 ∧ p0 < i 7 9) → gI w d X_X11_bad P i l 16 [(0, vR (some 6)), (1, vI p0)] [] := by
    intro hp
    have h := hk9 hp
    refine g_aload_n (pc' := 17) 0 dX11_bad_16 rfl rfl ?_
    refine g_getR (pc' := 20) (o := some 44) fl_X11_50 rfl rfl rfl dX11_bad_17 rfl ?_
    refine g_cVV (pc' := 23) (vs := []) (st := []) (c := 8) h mv_X8_sweep lk_X11_245 rfl rfl rfl rfl (Nat.le_of_ble_eq_true rfl) (Nat.le_of_ble_eq_true rfl) rfl dX11_bad_20 rfl z2 (fun i6 l6 h => ?_)
    obtain ⟨ob7, h⟩ := h
    refine g_aload_n (pc' := 24) 0 dX11_bad_23 rfl rfl ?_
    refine g_getR (pc' := 27) (o := some 44) fl_X11_50 rfl rfl rfl dX11_bad_24 rfl ?_
    refine g_getR (pc' := 30) (o := some 50) fl_X11_257 rfl rfl rfl dX11_bad_27 rfl ?_
    refine g_iload_n (pc' := 31) 1 dX11_bad_30 rfl rfl ?_
    refine g_iald (pc' := 32) (N := 8) rfl rfl (Nat.lt_of_lt_of_le (Nat.lt_succ_self _) (Nat.le_of_ble_eq_true rfl)) ob7 dX11_bad_31 rfl (fun rg8 => ?_)
    exact g_retI rfl rg8 dX11_bad_32 h
  have hk10g : (¬ (0 ≤ p0 ∧ p0 < i 7 9)) → gI w d X_X11_bad P i l 14 [(0, vR (some 6)), (1, vI p0)] [] := by
    intro hp
    have h := hk10 hp
    refine g_iconst (pc' := 15) dX11_bad_14 rfl ?_
    exact g_retI rfl (rg_lit rfl) dX11_bad_15 h
  refine g_if_ne (tgt := 16) (pc' := 14) rg3 (bI_eq _) dX11_bad_11 rfl rfl (fun c5n => ?_) (fun c5 => ?_)
  · have c5 := Decidable.of_not_not c5n
    exact hk9g c5
  · exact hk10g c5
theorem e_X11_bad {w : Wd} {d : Nat} {P : Int → IM → LM → Prop} {i : IM} {l : LM} {p0 : Int}  (h : gI w d X_X11_bad P i l 0 [(0, vR (some 6)), (1, vI p0)] []) : cI w (d + 1) X_X11_bad [vR (some 6), vI p0] i l P := CI_of (by decide +kernel) (Nat.le_of_ble_eq_true rfl) h

theorem dX11_best_0 : decode cX11_best 0 = .ok (.iload_n 1, 1) := by decide +kernel
theorem dX11_best_1 : decode cX11_best 1 = .ok (.invokestatic 260, 3) := by decide +kernel
theorem dX11_best_4 : decode cX11_best 4 = .ok (.ifCond .eq 11, 3) := by decide +kernel
theorem dX11_best_7 : decode cX11_best 7 = .ok (.iload_n 2, 1) := by decide +kernel
theorem dX11_best_8 : decode cX11_best 8 = .ok (.iconst 2, 1) := by decide +kernel
theorem dX11_best_9 : decode cX11_best 9 = .ok (.invokestatic 107, 3) := by decide +kernel
theorem dX11_best_12 : decode cX11_best 12 = .ok (.ifCond .ne 7, 3) := by decide +kernel
theorem dX11_best_15 : decode cX11_best 15 = .ok (.sipush (-10000), 3) := by decide +kernel
theorem dX11_best_18 : decode cX11_best 18 = .ok (.ireturn, 1) := by decide +kernel
theorem dX11_best_19 : decode cX11_best 19 = .ok (.aload_n 0, 1) := by decide +kernel
theorem dX11_best_20 : decode cX11_best 20 = .ok (.iload_n 1, 1) := by decide +kernel
theorem dX11_best_21 : decode cX11_best 21 = .ok (.invokevirtual 263, 3) := by decide +kernel
theorem dX11_best_24 : decode cX11_best 24 = .ok (.iload_n 2, 1) := by decide +kernel
theorem dX11_best_25 : decode cX11_best 25 = .ok (.iconst 2, 1) := by decide +kernel
theorem dX11_best_26 : decode cX11_best 26 = .ok (.if_icmp .ne 11, 3) := by decide +kernel
theorem dX11_best_29 : decode cX11_best 29 = .ok (.aload_n 0, 1) := by decide +kernel
theorem dX11_best_30 : decode cX11_best 30 = .ok (.getfield 66, 3) := by decide +kernel
theorem dX11_best_33 : decode cX11_best 33 = .ok (.getfield 266, 3) := by decide +kernel
theorem dX11_best_36 : decode cX11_best 36 = .ok (.ireturn, 1) := by decide +kernel
theorem dX11_best_37 : decode cX11_best 37 = .ok (.iload_n 2, 1) := by decide +kernel
theorem dX11_best_38 : decode cX11_best 38 = .ok (.ifCond .ne 11, 3) := by decide +kernel
theorem dX11_best_41 : decode cX11_best 41 = .ok (.aload_n 0, 1) := by decide +kernel
theorem dX11_best_42 : decode cX11_best 42 = .ok (.getfield 66, 3) := by decide +kernel
theorem dX11_best_45 : decode cX11_best 45 = .ok (.getfield 269, 3) := by decide +kernel
theorem dX11_best_48 : decode cX11_best 48 = .ok (.ireturn, 1) := by decide +kernel
theorem dX11_best_49 : decode cX11_best 49 = .ok (.aload_n 0, 1) := by decide +kernel
theorem dX11_best_50 : decode cX11_best 50 = .ok (.getfield 66, 3) := by decide +kernel
theorem dX11_best_53 : decode cX11_best 53 = .ok (.getfield 266, 3) := by decide +kernel
theorem dX11_best_56 : decode cX11_best 56 = .ok (.ifCond .le 13, 3) := by decide +kernel
theorem dX11_best_59 : decode cX11_best 59 = .ok (.aload_n 0, 1) := by decide +kernel
theorem dX11_best_60 : decode cX11_best 60 = .ok (.getfield 66, 3) := by decide +kernel
theorem dX11_best_63 : decode cX11_best 63 = .ok (.getfield 272, 3) := by decide +kernel
theorem dX11_best_66 : decode cX11_best 66 = .ok (.goto 6, 3) := by decide +kernel
theorem dX11_best_69 : decode cX11_best 69 = .ok (.sipush (-10000), 3) := by decide +kernel
theorem dX11_best_72 : decode cX11_best 72 = .ok (.ireturn, 1) := by decide +kernel
set_option maxRecDepth 20000 in
theorem s_X11_best {w : Wd} {d : Nat} {P : Int → IM → LM → Prop} {i : IM} {l : LM} (p0 : Int) (p1 : Int)  (hd : 1 ≤ d) (h : ((rg p0) ∧ (((1 ≤ p0 ∧ p0 ≤ 4095) → rg p1) ∧ (((1 ≤ p0 ∧ p0 ≤ 4095) ∧ (0 ≤ p1 ∧ p1 ≤ 2)) → cVd w d X_X11_survey [vR (some 6), vI p0] i l (fun i8 l8 => ((rg p1) ∧ ((¬ (p1 = 2) ∧ (¬ (p1 = 0))) → P (if (i8 63 11 ≤ 0) then (-10000) else i8 63 13) i8 l8) ∧ ((¬ (p1 = 2) ∧ (p1 = 0)) → P (i8 63 12) i8 l8) ∧ ((p1 = 2) → P (i8 63 11) i8 l8)))) ∧ ((¬ ((1 ≤ p0 ∧ p0 ≤ 4095) ∧ (0 ≤ p1 ∧ p1 ≤ 2))) → P (-10000) i l)))) : gI w d X_X11_best P i l 0 [(0, vR (some 6)), (1, vI p0), (2, vI p1)] [] := by
  obtain ⟨ob1, h⟩ := h
  refine g_iload_n (pc' := 1) 1 dX11_best_0 rfl rfl ?_
  refine g_pSI (pc' := 4) (vs := [vI p0]) (st := []) (val := bI (1 ≤ p0 ∧ p0 ≤ 4095)) (sp_X11_areMonths (le_hd hd rfl) ob1) mk_X11_areMonths ms_X11_areMonths lk_X11_260 rfl (Nat.le_of_ble_eq_true rfl) (Nat.le_of_ble_eq_true rfl) rfl dX11_best_1 rfl z2 (fun rg2 => ?_)
  obtain ⟨hob5, hk49, hk50⟩ := h
  have hk49g : ((1 ≤ p0 ∧ p0 ≤ 4095) ∧ (0 ≤ p1 ∧ p1 ≤ 2)) → gI w d X_X11_best P i l 19 [(0, vR (some 6)), (1, vI p0), (2, vI p1)] [] := by
    intro hp
    have h := hk49 hp
    refine g_aload_n (pc' := 20) 0 dX11_best_19 rfl rfl ?_
    refine g_iload_n (pc' := 21) 1 dX11_best_20 rfl rfl ?_
    refine g_cVV (pc' := 24) (vs := [vI p0]) (st := []) (c := 11) h mv_X11_survey lk_X11_263 rfl rfl rfl rfl (Nat.le_of_ble_eq_true rfl) (Nat.le_of_ble_eq_true rfl) rfl dX11_best_21 rfl z2 (fun i8 l8 h => ?_)
    refine g_iload_n (pc' := 25) 2 dX11_best_24 rfl rfl ?_
    refine g_iconst (pc' := 26) dX11_best_25 rfl ?_
    obtain ⟨hob34, hk46, hk47, hk48⟩ := h
    have hk46g : (¬ (p1 = 2) ∧ (¬ (p1 = 0))) → gI w d X_X11_best P i8 l8 49 [(0, vR (some 6)), (1, vI p0), (2, vI p1)] [] := by
      intro hp
      have h := hk46 hp
      refine g_aload_n (pc' := 50) 0 dX11_best_49 rfl rfl ?_
      refine g_getR (pc' := 53) (o := some 63) fl_X11_66 rfl rfl rfl dX11_best_50 rfl ?_
      refine g_getI (pc' := 56) (z := 11) rfl fl_X11_266 rfl rfl dX11_best_53 rfl (fun rg40 => ?_)
      refine g_rg (fun hRG41 => ?_)
      have hJ : gI w d X_X11_best P i8 l8 72 [(0, vR (some 6)), (1, vI p0), (2, vI p1)] [vI (if (i8 63 11 ≤ 0) then (-10000) else i8 63 13)] := by
        exact g_retI rfl (rg_ite (rg_lit rfl) (hRG41 _ _)) dX11_best_72 h
      refine g_if_le (tgt := 69) (pc' := 59) rg40 Iff.rfl dX11_best_56 rfl rfl (fun c42 => ?_) (fun c42 => ?_)
      · refine g_sipush (pc' := 72) dX11_best_69 rfl rfl ?_
        rw [if_pos c42 (α := Int) (t := (-10000)) (e := i8 63 13)] at hJ
        exact hJ
      · refine g_aload_n (pc' := 60) 0 dX11_best_59 rfl rfl ?_
        refine g_getR (pc' := 63) (o := some 63) fl_X11_66 rfl rfl rfl dX11_best_60 rfl ?_
        refine g_getI (pc' := 66) (z := 13) rfl fl_X11_272 rfl rfl dX11_best_63 rfl (fun rg43 => ?_)
        refine g_goto (tgt := 72) dX11_best_66 rfl ?_
        rw [if_neg c42 (α := Int) (t := (-10000)) (e := i8 63 13)] at hJ
        exact hJ
    have hk47g : (¬ (p1 = 2) ∧ (p1 = 0)) → gI w d X_X11_best P i8 l8 41 [(0, vR (some 6)), (1, vI p0), (2, vI p1)] [] := by
      intro hp
      have h := hk47 hp
      refine g_aload_n (pc' := 42) 0 dX11_best_41 rfl rfl ?_
      refine g_getR (pc' := 45) (o := some 63) fl_X11_66 rfl rfl rfl dX11_best_42 rfl ?_
      refine g_getI (pc' := 48) (z := 12) rfl fl_X11_269 rfl rfl dX11_best_45 rfl (fun rg44 => ?_)
      exact g_retI rfl rg44 dX11_best_48 h
    have hk48g : (p1 = 2) → gI w d X_X11_best P i8 l8 29 [(0, vR (some 6)), (1, vI p0), (2, vI p1)] [] := by
      intro hp
      have h := hk48 hp
      refine g_aload_n (pc' := 30) 0 dX11_best_29 rfl rfl ?_
      refine g_getR (pc' := 33) (o := some 63) fl_X11_66 rfl rfl rfl dX11_best_30 rfl ?_
      refine g_getI (pc' := 36) (z := 11) rfl fl_X11_266 rfl rfl dX11_best_33 rfl (fun rg45 => ?_)
      exact g_retI rfl rg45 dX11_best_36 h
    refine g_icmp_ne (tgt := 37) (pc' := 29) (hob34) (rg_lit rfl) Iff.rfl dX11_best_26 rfl rfl (fun c35 => ?_) (fun c35 => ?_)
    · refine g_iload_n (pc' := 38) 2 dX11_best_37 rfl rfl ?_
      refine g_if_ne (tgt := 49) (pc' := 41) (hob34) Iff.rfl dX11_best_38 rfl rfl (fun c36 => ?_) (fun c36 => ?_)
      · exact hk46g ⟨c35, c36⟩
      · exact hk47g ⟨c35, c36⟩
    · exact hk48g c35
  have hk50g : (¬ ((1 ≤ p0 ∧ p0 ≤ 4095) ∧ (0 ≤ p1 ∧ p1 ≤ 2))) → gI w d X_X11_best P i l 15 [(0, vR (some 6)), (1, vI p0), (2, vI p1)] [] := by
    intro hp
    have h := hk50 hp
    refine g_sipush (pc' := 18) dX11_best_15 rfl rfl ?_
    exact g_retI rfl (rg_lit rfl) dX11_best_18 h
  refine g_if_eq (tgt := 15) (pc' := 7) rg2 (bI_eq _) dX11_best_4 rfl rfl (fun c4 => ?_) (fun c4n => ?_)
  · exact hk50g (fun q => c4 q.1)
  · have c4 := Decidable.of_not_not c4n
    refine g_iload_n (pc' := 8) 2 dX11_best_7 rfl rfl ?_
    refine g_iconst (pc' := 9) dX11_best_8 rfl ?_
    refine g_pSI (pc' := 12) (vs := [vI p1, vI 2]) (st := []) (val := bI (0 ≤ p1 ∧ p1 ≤ 2)) (sp_X11_upTo (le_hd hd rfl) (hob5 c4) (rg_lit rfl)) mk_X11_upTo ms_X11_upTo lk_X11_107 rfl (Nat.le_of_ble_eq_true rfl) (Nat.le_of_ble_eq_true rfl) rfl dX11_best_9 rfl z2 (fun rg6 => ?_)
    refine g_if_ne (tgt := 19) (pc' := 15) rg6 (bI_eq _) dX11_best_12 rfl rfl (fun c7n => ?_) (fun c7 => ?_)
    · have c7 := Decidable.of_not_not c7n
      exact hk49g ⟨c4, c7⟩
    · exact hk50g (fun q => c7 q.2)
theorem e_X11_best {w : Wd} {d : Nat} {P : Int → IM → LM → Prop} {i : IM} {l : LM} {p0 : Int} {p1 : Int}  (h : gI w d X_X11_best P i l 0 [(0, vR (some 6)), (1, vI p0), (2, vI p1)] []) : cI w (d + 1) X_X11_best [vR (some 6), vI p0, vI p1] i l P := CI_of (by decide +kernel) (Nat.le_of_ble_eq_true rfl) h

theorem dX11_paint_0 : decode cX11_paint 0 = .ok (.iload_n 1, 1) := by decide +kernel
theorem dX11_paint_1 : decode cX11_paint 1 = .ok (.invokestatic 260, 3) := by decide +kernel
theorem dX11_paint_4 : decode cX11_paint 4 = .ok (.ifCond .eq 17, 3) := by decide +kernel
theorem dX11_paint_7 : decode cX11_paint 7 = .ok (.iload_n 2, 1) := by decide +kernel
theorem dX11_paint_8 : decode cX11_paint 8 = .ok (.aload_n 0, 1) := by decide +kernel
theorem dX11_paint_9 : decode cX11_paint 9 = .ok (.getfield 10, 3) := by decide +kernel
theorem dX11_paint_12 : decode cX11_paint 12 = .ok (.getfield 115, 3) := by decide +kernel
theorem dX11_paint_15 : decode cX11_paint 15 = .ok (.invokestatic 128, 3) := by decide +kernel
theorem dX11_paint_18 : decode cX11_paint 18 = .ok (.ifCond .ne 5, 3) := by decide +kernel
theorem dX11_paint_21 : decode cX11_paint 21 = .ok (.iconst (-1), 1) := by decide +kernel
theorem dX11_paint_22 : decode cX11_paint 22 = .ok (.ireturn, 1) := by decide +kernel
theorem dX11_paint_23 : decode cX11_paint 23 = .ok (.aload_n 0, 1) := by decide +kernel
theorem dX11_paint_24 : decode cX11_paint 24 = .ok (.iload_n 1, 1) := by decide +kernel
theorem dX11_paint_25 : decode cX11_paint 25 = .ok (.invokevirtual 263, 3) := by decide +kernel
theorem dX11_paint_28 : decode cX11_paint 28 = .ok (.aload_n 0, 1) := by decide +kernel
theorem dX11_paint_29 : decode cX11_paint 29 = .ok (.getfield 66, 3) := by decide +kernel
theorem dX11_paint_32 : decode cX11_paint 32 = .ok (.getfield 266, 3) := by decide +kernel
theorem dX11_paint_35 : decode cX11_paint 35 = .ok (.ifCond .le 23, 3) := by decide +kernel
theorem dX11_paint_38 : decode cX11_paint 38 = .ok (.aload_n 0, 1) := by decide +kernel
theorem dX11_paint_39 : decode cX11_paint 39 = .ok (.getfield 57, 3) := by decide +kernel
theorem dX11_paint_42 : decode cX11_paint 42 = .ok (.iload_n 2, 1) := by decide +kernel
theorem dX11_paint_43 : decode cX11_paint 43 = .ok (.aload_n 0, 1) := by decide +kernel
theorem dX11_paint_44 : decode cX11_paint 44 = .ok (.getfield 66, 3) := by decide +kernel
theorem dX11_paint_47 : decode cX11_paint 47 = .ok (.getfield 275, 3) := by decide +kernel
theorem dX11_paint_50 : decode cX11_paint 50 = .ok (.iload_n 2, 1) := by decide +kernel
theorem dX11_paint_51 : decode cX11_paint 51 = .ok (.iaload, 1) := by decide +kernel
theorem dX11_paint_52 : decode cX11_paint 52 = .ok (.invokevirtual 278, 3) := by decide +kernel
theorem dX11_paint_55 : decode cX11_paint 55 = .ok (.goto 4, 3) := by decide +kernel
theorem dX11_paint_58 : decode cX11_paint 58 = .ok (.iconst (-1), 1) := by decide +kernel
theorem dX11_paint_59 : decode cX11_paint 59 = .ok (.ireturn, 1) := by decide +kernel
set_option maxRecDepth 20000 in
theorem s_X11_paint {w : Wd} {d : Nat} {P : Int → IM → LM → Prop} {i : IM} {l : LM} (p0 : Int) (p1 : Int)  (hd : 1 ≤ d) (h : ((rg p0) ∧ (((1 ≤ p0 ∧ p0 ≤ 4095) → rg p1) ∧ (((1 ≤ p0 ∧ p0 ≤ 4095) ∧ (0 ≤ p1 ∧ p1 < i 7 8)) → cVd w d X_X11_survey [vR (some 6), vI p0] i l (fun i9 l9 => ((¬ (i9 63 11 ≤ 0) → 0 ≤ p1 ∧ p1 < 10) ∧ (¬ (i9 63 11 ≤ 0) → 0 ≤ p1 * 3 + (i9 72 p1) ∧ p1 * 3 + (i9 72 p1) < 30) ∧ P (if (i9 63 11 ≤ 0) then (-1) else i9 59 (p1 * 3 + (i9 72 p1))) i9 l9))) ∧ ((¬ ((1 ≤ p0 ∧ p0 ≤ 4095) ∧ (0 ≤ p1 ∧ p1 < i 7 8))) → P (-1) i l)))) : gI w d X_X11_paint P i l 0 [(0, vR (some 6)), (1, vI p0), (2, vI p1)] [] := by
  obtain ⟨ob1, h⟩ := h
  refine g_iload_n (pc' := 1) 1 dX11_paint_0 rfl rfl ?_
  refine g_pSI (pc' := 4) (vs := [vI p0]) (st := []) (val := bI (1 ≤ p0 ∧ p0 ≤ 4095)) (sp_X11_areMonths (le_hd hd rfl) ob1) mk_X11_areMonths ms_X11_areMonths lk_X11_260 rfl (Nat.le_of_ble_eq_true rfl) (Nat.le_of_ble_eq_true rfl) rfl dX11_paint_1 rfl z2 (fun rg2 => ?_)
  obtain ⟨hob6, hk17, hk18⟩ := h
  have hk17g : ((1 ≤ p0 ∧ p0 ≤ 4095) ∧ (0 ≤ p1 ∧ p1 < i 7 8)) → gI w d X_X11_paint P i l 23 [(0, vR (some 6)), (1, vI p0), (2, vI p1)] [] := by
    intro hp
    have h := hk17 hp
    refine g_aload_n (pc' := 24) 0 dX11_paint_23 rfl rfl ?_
    refine g_iload_n (pc' := 25) 1 dX11_paint_24 rfl rfl ?_
    refine g_cVV (pc' := 28) (vs := [vI p0]) (st := []) (c := 11) h mv_X11_survey lk_X11_263 rfl rfl rfl rfl (Nat.le_of_ble_eq_true rfl) (Nat.le_of_ble_eq_true rfl) rfl dX11_paint_25 rfl z2 (fun i9 l9 h => ?_)
    refine g_aload_n (pc' := 29) 0 dX11_paint_28 rfl rfl ?_
    refine g_getR (pc' := 32) (o := some 63) fl_X11_66 rfl rfl rfl dX11_paint_29 rfl ?_
    refine g_getI (pc' := 35) (z := 11) rfl fl_X11_266 rfl rfl dX11_paint_32 rfl (fun rg10 => ?_)
    refine g_rg (fun hRG11 => ?_)
    obtain ⟨hob13, hob15, h⟩ := h
    have hJ : gI w d X_X11_paint P i9 l9 59 [(0, vR (some 6)), (1, vI p0), (2, vI p1)] [vI (if (i9 63 11 ≤ 0) then (-1) else i9 59 (p1 * 3 + (i9 72 p1)))] := by
      exact g_retI rfl (rg_ite (rg_lit rfl) (hRG11 _ _)) dX11_paint_59 h
    refine g_if_le (tgt := 58) (pc' := 38) rg10 Iff.rfl dX11_paint_35 rfl rfl (fun c12 => ?_) (fun c12 => ?_)
    · refine g_iconst (pc' := 59) dX11_paint_58 rfl ?_
      rw [if_pos c12 (α := Int) (t := (-1)) (e := i9 59 (p1 * 3 + (i9 72 p1)))] at hJ
      exact hJ
    · refine g_aload_n (pc' := 39) 0 dX11_paint_38 rfl rfl ?_
      refine g_getR (pc' := 42) (o := some 51) fl_X11_57 rfl rfl rfl dX11_paint_39 rfl ?_
      refine g_iload_n (pc' := 43) 2 dX11_paint_42 rfl rfl ?_
      refine g_aload_n (pc' := 44) 0 dX11_paint_43 rfl rfl ?_
      refine g_getR (pc' := 47) (o := some 63) fl_X11_66 rfl rfl rfl dX11_paint_44 rfl ?_
      refine g_getR (pc' := 50) (o := some 72) fl_X11_275 rfl rfl rfl dX11_paint_47 rfl ?_
      refine g_iload_n (pc' := 51) 2 dX11_paint_50 rfl rfl ?_
      refine g_iald (pc' := 52) (N := 10) rfl rfl (Nat.lt_of_lt_of_le (Nat.lt_succ_self _) (Nat.le_of_ble_eq_true rfl)) (hob13 c12) dX11_paint_51 rfl (fun rg14 => ?_)
      refine g_pVI (pc' := 55) (vs := [vI p1, vI (i9 72 p1)]) (st := []) (val := i9 59 (p1 * 3 + (i9 72 p1))) (c := 1) (sp_X1_hue (le_hd hd rfl) (hob15 c12)) mv_X1_hue lk_X11_278 rfl rfl rfl rfl (Nat.le_of_ble_eq_true rfl) (Nat.le_of_ble_eq_true rfl) rfl dX11_paint_52 rfl z2 (fun rg16 => ?_)
      refine g_goto (tgt := 59) dX11_paint_55 rfl ?_
      rw [if_neg c12 (α := Int) (t := (-1)) (e := i9 59 (p1 * 3 + (i9 72 p1)))] at hJ
      exact hJ
  have hk18g : (¬ ((1 ≤ p0 ∧ p0 ≤ 4095) ∧ (0 ≤ p1 ∧ p1 < i 7 8))) → gI w d X_X11_paint P i l 21 [(0, vR (some 6)), (1, vI p0), (2, vI p1)] [] := by
    intro hp
    have h := hk18 hp
    refine g_iconst (pc' := 22) dX11_paint_21 rfl ?_
    exact g_retI rfl (rg_lit rfl) dX11_paint_22 h
  refine g_if_eq (tgt := 21) (pc' := 7) rg2 (bI_eq _) dX11_paint_4 rfl rfl (fun c4 => ?_) (fun c4n => ?_)
  · exact hk18g (fun q => c4 q.1)
  · have c4 := Decidable.of_not_not c4n
    refine g_iload_n (pc' := 8) 2 dX11_paint_7 rfl rfl ?_
    refine g_aload_n (pc' := 9) 0 dX11_paint_8 rfl rfl ?_
    refine g_getR (pc' := 12) (o := some 7) fl_X11_10 rfl rfl rfl dX11_paint_9 rfl ?_
    refine g_getI (pc' := 15) (z := 8) rfl fl_X11_115 rfl rfl dX11_paint_12 rfl (fun rg5 => ?_)
    refine g_pSI (pc' := 18) (vs := [vI p1, vI (i 7 8)]) (st := []) (val := bI (0 ≤ p1 ∧ p1 < i 7 8)) (sp_X11_below (le_hd hd rfl) (hob6 c4) rg5) mk_X11_below ms_X11_below lk_X11_128 rfl (Nat.le_of_ble_eq_true rfl) (Nat.le_of_ble_eq_true rfl) rfl dX11_paint_15 rfl z2 (fun rg7 => ?_)
    refine g_if_ne (tgt := 23) (pc' := 21) rg7 (bI_eq _) dX11_paint_18 rfl rfl (fun c8n => ?_) (fun c8 => ?_)
    · have c8 := Decidable.of_not_not c8n
      exact hk17g ⟨c4, c8⟩
    · exact hk18g (fun q => c8 q.2)
theorem e_X11_paint {w : Wd} {d : Nat} {P : Int → IM → LM → Prop} {i : IM} {l : LM} {p0 : Int} {p1 : Int}  (h : gI w d X_X11_paint P i l 0 [(0, vR (some 6)), (1, vI p0), (2, vI p1)] []) : cI w (d + 1) X_X11_paint [vR (some 6), vI p0, vI p1] i l P := CI_of (by decide +kernel) (Nat.le_of_ble_eq_true rfl) h

theorem dX11_fewest_0 : decode cX11_fewest 0 = .ok (.iload_n 1, 1) := by decide +kernel
theorem dX11_fewest_1 : decode cX11_fewest 1 = .ok (.invokestatic 260, 3) := by decide +kernel
theorem dX11_fewest_4 : decode cX11_fewest 4 = .ok (.ifCond .eq 11, 3) := by decide +kernel
theorem dX11_fewest_7 : decode cX11_fewest 7 = .ok (.iload_n 2, 1) := by decide +kernel
theorem dX11_fewest_8 : decode cX11_fewest 8 = .ok (.iconst 2, 1) := by decide +kernel
theorem dX11_fewest_9 : decode cX11_fewest 9 = .ok (.invokestatic 107, 3) := by decide +kernel
theorem dX11_fewest_12 : decode cX11_fewest 12 = .ok (.ifCond .ne 5, 3) := by decide +kernel
theorem dX11_fewest_15 : decode cX11_fewest 15 = .ok (.iconst (-1), 1) := by decide +kernel
theorem dX11_fewest_16 : decode cX11_fewest 16 = .ok (.ireturn, 1) := by decide +kernel
theorem dX11_fewest_17 : decode cX11_fewest 17 = .ok (.aload_n 0, 1) := by decide +kernel
theorem dX11_fewest_18 : decode cX11_fewest 18 = .ok (.iload_n 1, 1) := by decide +kernel
theorem dX11_fewest_19 : decode cX11_fewest 19 = .ok (.invokevirtual 263, 3) := by decide +kernel
theorem dX11_fewest_22 : decode cX11_fewest 22 = .ok (.aload_n 0, 1) := by decide +kernel
theorem dX11_fewest_23 : decode cX11_fewest 23 = .ok (.getfield 66, 3) := by decide +kernel
theorem dX11_fewest_26 : decode cX11_fewest 26 = .ok (.getfield 266, 3) := by decide +kernel
theorem dX11_fewest_29 : decode cX11_fewest 29 = .ok (.ifCond .le 14, 3) := by decide +kernel
theorem dX11_fewest_32 : decode cX11_fewest 32 = .ok (.aload_n 0, 1) := by decide +kernel
theorem dX11_fewest_33 : decode cX11_fewest 33 = .ok (.getfield 66, 3) := by decide +kernel
theorem dX11_fewest_36 : decode cX11_fewest 36 = .ok (.iload_n 2, 1) := by decide +kernel
theorem dX11_fewest_37 : decode cX11_fewest 37 = .ok (.invokevirtual 281, 3) := by decide +kernel
theorem dX11_fewest_40 : decode cX11_fewest 40 = .ok (.goto 4, 3) := by decide +kernel
theorem dX11_fewest_43 : decode cX11_fewest 43 = .ok (.iconst (-1), 1) := by decide +kernel
theorem dX11_fewest_44 : decode cX11_fewest 44 = .ok (.ireturn, 1) := by decide +kernel
set_option maxRecDepth 20000 in
theorem s_X11_fewest {w : Wd} {d : Nat} {P : Int → IM → LM → Prop} {i : IM} {l : LM} (p0 : Int) (p1 : Int)  (hd : 1 ≤ d) (h : ((rg p0) ∧ (((1 ≤ p0 ∧ p0 ≤ 4095) → rg p1) ∧ (((1 ≤ p0 ∧ p0 ≤ 4095) ∧ (0 ≤ p1 ∧ p1 ≤ 2)) → cVd w d X_X11_survey [vR (some 6), vI p0] i l (fun i8 l8 => (((i8 63 11 ≤ 0) → P (-1) i8 l8) ∧ ((¬ (i8 63 11 ≤ 0)) → cI w d X_X5_fewestOf [vR (some 63), vI p1] i8 l8 (fun r12 i12 l12 => P r12 i12 l12))))) ∧ ((¬ ((1 ≤ p0 ∧ p0 ≤ 4095) ∧ (0 ≤ p1 ∧ p1 ≤ 2))) → P (-1) i l)))) : gI w d X_X11_fewest P i l 0 [(0, vR (some 6)), (1, vI p0), (2, vI p1)] [] := by
  obtain ⟨ob1, h⟩ := h
  refine g_iload_n (pc' := 1) 1 dX11_fewest_0 rfl rfl ?_
  refine g_pSI (pc' := 4) (vs := [vI p0]) (st := []) (val := bI (1 ≤ p0 ∧ p0 ≤ 4095)) (sp_X11_areMonths (le_hd hd rfl) ob1) mk_X11_areMonths ms_X11_areMonths lk_X11_260 rfl (Nat.le_of_ble_eq_true rfl) (Nat.le_of_ble_eq_true rfl) rfl dX11_fewest_1 rfl z2 (fun rg2 => ?_)
  obtain ⟨hob5, hk15, hk16⟩ := h
  have hk15g : ((1 ≤ p0 ∧ p0 ≤ 4095) ∧ (0 ≤ p1 ∧ p1 ≤ 2)) → gI w d X_X11_fewest P i l 17 [(0, vR (some 6)), (1, vI p0), (2, vI p1)] [] := by
    intro hp
    have h := hk15 hp
    refine g_aload_n (pc' := 18) 0 dX11_fewest_17 rfl rfl ?_
    refine g_iload_n (pc' := 19) 1 dX11_fewest_18 rfl rfl ?_
    refine g_cVV (pc' := 22) (vs := [vI p0]) (st := []) (c := 11) h mv_X11_survey lk_X11_263 rfl rfl rfl rfl (Nat.le_of_ble_eq_true rfl) (Nat.le_of_ble_eq_true rfl) rfl dX11_fewest_19 rfl z2 (fun i8 l8 h => ?_)
    refine g_aload_n (pc' := 23) 0 dX11_fewest_22 rfl rfl ?_
    refine g_getR (pc' := 26) (o := some 63) fl_X11_66 rfl rfl rfl dX11_fewest_23 rfl ?_
    refine g_getI (pc' := 29) (z := 11) rfl fl_X11_266 rfl rfl dX11_fewest_26 rfl (fun rg9 => ?_)
    obtain ⟨hk13, hk14⟩ := h
    refine g_if_le (tgt := 43) (pc' := 32) rg9 Iff.rfl dX11_fewest_29 rfl rfl (fun c11 => ?_) (fun c11 => ?_)
    · refine g_iconst (pc' := 44) dX11_fewest_43 rfl ?_
      have h := hk13 c11
      exact g_retI rfl (rg_lit rfl) dX11_fewest_44 h
    · have h := hk14 c11
      refine g_aload_n (pc' := 33) 0 dX11_fewest_32 rfl rfl ?_
      refine g_getR (pc' := 36) (o := some 63) fl_X11_66 rfl rfl rfl dX11_fewest_33 rfl ?_
      refine g_iload_n (pc' := 37) 2 dX11_fewest_36 rfl rfl ?_
      refine g_cVI (pc' := 40) (vs := [vI p1]) (st := []) (c := 5) h mv_X5_fewestOf lk_X11_281 rfl rfl rfl rfl (Nat.le_of_ble_eq_true rfl) (Nat.le_of_ble_eq_true rfl) rfl dX11_fewest_37 rfl z2 (fun r12 i12 l12 rg12 h => ?_)
      refine g_goto (tgt := 44) dX11_fewest_40 rfl ?_
      exact g_retI rfl rg12 dX11_fewest_44 h
  have hk16g : (¬ ((1 ≤ p0 ∧ p0 ≤ 4095) ∧ (0 ≤ p1 ∧ p1 ≤ 2))) → gI w d X_X11_fewest P i l 15 [(0, vR (some 6)), (1, vI p0), (2, vI p1)] [] := by
    intro hp
    have h := hk16 hp
    refine g_iconst (pc' := 16) dX11_fewest_15 rfl ?_
    exact g_retI rfl (rg_lit rfl) dX11_fewest_16 h
  refine g_if_eq (tgt := 15) (pc' := 7) rg2 (bI_eq _) dX11_fewest_4 rfl rfl (fun c4 => ?_) (fun c4n => ?_)
  · exact hk16g (fun q => c4 q.1)
  · have c4 := Decidable.of_not_not c4n
    refine g_iload_n (pc' := 8) 2 dX11_fewest_7 rfl rfl ?_
    refine g_iconst (pc' := 9) dX11_fewest_8 rfl ?_
    refine g_pSI (pc' := 12) (vs := [vI p1, vI 2]) (st := []) (val := bI (0 ≤ p1 ∧ p1 ≤ 2)) (sp_X11_upTo (le_hd hd rfl) (hob5 c4) (rg_lit rfl)) mk_X11_upTo ms_X11_upTo lk_X11_107 rfl (Nat.le_of_ble_eq_true rfl) (Nat.le_of_ble_eq_true rfl) rfl dX11_fewest_9 rfl z2 (fun rg6 => ?_)
    refine g_if_ne (tgt := 17) (pc' := 15) rg6 (bI_eq _) dX11_fewest_12 rfl rfl (fun c7n => ?_) (fun c7 => ?_)
    · have c7 := Decidable.of_not_not c7n
      exact hk15g ⟨c4, c7⟩
    · exact hk16g (fun q => c7 q.2)
theorem e_X11_fewest {w : Wd} {d : Nat} {P : Int → IM → LM → Prop} {i : IM} {l : LM} {p0 : Int} {p1 : Int}  (h : gI w d X_X11_fewest P i l 0 [(0, vR (some 6)), (1, vI p0), (2, vI p1)] []) : cI w (d + 1) X_X11_fewest [vR (some 6), vI p0, vI p1] i l P := CI_of (by decide +kernel) (Nat.le_of_ble_eq_true rfl) h

theorem dX11_take_0 : decode cX11_take 0 = .ok (.iload_n 1, 1) := by decide +kernel
theorem dX11_take_1 : decode cX11_take 1 = .ok (.invokestatic 260, 3) := by decide +kernel
theorem dX11_take_4 : decode cX11_take 4 = .ok (.ifCond .ne 9, 3) := by decide +kernel
theorem dX11_take_7 : decode cX11_take 7 = .ok (.aload_n 0, 1) := by decide +kernel
theorem dX11_take_8 : decode cX11_take 8 = .ok (.iconst (-1), 1) := by decide +kernel
theorem dX11_take_9 : decode cX11_take 9 = .ok (.invokevirtual 111, 3) := by decide +kernel
theorem dX11_take_12 : decode cX11_take 12 = .ok (.ireturn, 1) := by decide +kernel
theorem dX11_take_13 : decode cX11_take 13 = .ok (.aload_n 0, 1) := by decide +kernel
theorem dX11_take_14 : decode cX11_take 14 = .ok (.iload_n 1, 1) := by decide +kernel
theorem dX11_take_15 : decode cX11_take 15 = .ok (.invokevirtual 263, 3) := by decide +kernel
theorem dX11_take_18 : decode cX11_take 18 = .ok (.aload_n 0, 1) := by decide +kernel
theorem dX11_take_19 : decode cX11_take 19 = .ok (.getfield 66, 3) := by decide +kernel
theorem dX11_take_22 : decode cX11_take 22 = .ok (.getfield 266, 3) := by decide +kernel
theorem dX11_take_25 : decode cX11_take 25 = .ok (.ifCond .ne 10, 3) := by decide +kernel
theorem dX11_take_28 : decode cX11_take 28 = .ok (.aload_n 0, 1) := by decide +kernel
theorem dX11_take_29 : decode cX11_take 29 = .ok (.bipush (-3), 2) := by decide +kernel
theorem dX11_take_31 : decode cX11_take 31 = .ok (.invokevirtual 111, 3) := by decide +kernel
theorem dX11_take_34 : decode cX11_take 34 = .ok (.ireturn, 1) := by decide +kernel
theorem dX11_take_35 : decode cX11_take 35 = .ok (.iconst 0, 1) := by decide +kernel
theorem dX11_take_36 : decode cX11_take 36 = .ok (.istore_n 2, 1) := by decide +kernel
theorem dX11_take_37 : decode cX11_take 37 = .ok (.iconst 0, 1) := by decide +kernel
theorem dX11_take_38 : decode cX11_take 38 = .ok (.istore_n 3, 1) := by decide +kernel
theorem dX11_take_39 : decode cX11_take 39 = .ok (.iload_n 3, 1) := by decide +kernel
theorem dX11_take_40 : decode cX11_take 40 = .ok (.aload_n 0, 1) := by decide +kernel
theorem dX11_take_41 : decode cX11_take 41 = .ok (.getfield 10, 3) := by decide +kernel
theorem dX11_take_44 : decode cX11_take 44 = .ok (.getfield 115, 3) := by decide +kernel
theorem dX11_take_47 : decode cX11_take 47 = .ok (.if_icmp .ge 55, 3) := by decide +kernel
theorem dX11_take_50 : decode cX11_take 50 = .ok (.aload_n 0, 1) := by decide +kernel
theorem dX11_take_51 : decode cX11_take 51 = .ok (.getfield 66, 3) := by decide +kernel
theorem dX11_take_54 : decode cX11_take 54 = .ok (.getfield 275, 3) := by decide +kernel
theorem dX11_take_57 : decode cX11_take 57 = .ok (.iload_n 3, 1) := by decide +kernel
theorem dX11_take_58 : decode cX11_take 58 = .ok (.iaload, 1) := by decide +kernel
theorem dX11_take_59 : decode cX11_take 59 = .ok (.ifCond .eq 37, 3) := by decide +kernel
theorem dX11_take_62 : decode cX11_take 62 = .ok (.iinc 2 1, 3) := by decide +kernel
theorem dX11_take_65 : decode cX11_take 65 = .ok (.aload_n 0, 1) := by decide +kernel
theorem dX11_take_66 : decode cX11_take 66 = .ok (.getfield 10, 3) := by decide +kernel
theorem dX11_take_69 : decode cX11_take 69 = .ok (.getfield 135, 3) := by decide +kernel
theorem dX11_take_72 : decode cX11_take 72 = .ok (.iload_n 3, 1) := by decide +kernel
theorem dX11_take_73 : decode cX11_take 73 = .ok (.bipush 8, 2) := by decide +kernel
theorem dX11_take_75 : decode cX11_take 75 = .ok (.imul, 1) := by decide +kernel
theorem dX11_take_76 : decode cX11_take 76 = .ok (.iconst 1, 1) := by decide +kernel
theorem dX11_take_77 : decode cX11_take 77 = .ok (.iadd, 1) := by decide +kernel
theorem dX11_take_78 : decode cX11_take 78 = .ok (.aload_n 0, 1) := by decide +kernel
theorem dX11_take_79 : decode cX11_take 79 = .ok (.getfield 57, 3) := by decide +kernel
theorem dX11_take_82 : decode cX11_take 82 = .ok (.iload_n 3, 1) := by decide +kernel
theorem dX11_take_83 : decode cX11_take 83 = .ok (.aload_n 0, 1) := by decide +kernel
theorem dX11_take_84 : decode cX11_take 84 = .ok (.getfield 66, 3) := by decide +kernel
theorem dX11_take_87 : decode cX11_take 87 = .ok (.getfield 275, 3) := by decide +kernel
theorem dX11_take_90 : decode cX11_take 90 = .ok (.iload_n 3, 1) := by decide +kernel
theorem dX11_take_91 : decode cX11_take 91 = .ok (.iaload, 1) := by decide +kernel
theorem dX11_take_92 : decode cX11_take 92 = .ok (.invokevirtual 278, 3) := by decide +kernel
theorem dX11_take_95 : decode cX11_take 95 = .ok (.iastore, 1) := by decide +kernel
theorem dX11_take_96 : decode cX11_take 96 = .ok (.iinc 3 1, 3) := by decide +kernel
theorem dX11_take_99 : decode cX11_take 99 = .ok (.goto (-60), 3) := by decide +kernel
theorem dX11_take_102 : decode cX11_take 102 = .ok (.aload_n 0, 1) := by decide +kernel
theorem dX11_take_103 : decode cX11_take 103 = .ok (.iload_n 2, 1) := by decide +kernel
theorem dX11_take_104 : decode cX11_take 104 = .ok (.invokevirtual 122, 3) := by decide +kernel
theorem dX11_take_107 : decode cX11_take 107 = .ok (.ireturn, 1) := by decide +kernel
set_option maxRecDepth 20000 in
theorem s_X11_take {w : Wd} {d : Nat} {P : Int → IM → LM → Prop} {i : IM} {l : LM} (p0 : Int)  (hd : 1 ≤ d) (h : ((rg p0) ∧ (((1 ≤ p0 ∧ p0 ≤ 4095) → cVd w d X_X11_survey [vR (some 6), vI p0] i l (fun i5 l5 => (((i5 63 11 = 0) → cI w d X_X11_refuse [vR (some 6), vI (-3)] i5 l5 (fun r9 i9 l9 => P r9 i9 l9)) ∧ ((¬ (i5 63 11 = 0)) → gI w d X_X11_take P i5 l5 39 [(0, vR (some 6)), (2, vI 0), (3, vI 0)] [])))) ∧ ((¬ (1 ≤ p0 ∧ p0 ≤ 4095)) → cI w d X_X11_refuse [vR (some 6), vI (-1)] i l (fun r12 i12 l12 => P r12 i12 l12))))) : gI w d X_X11_take P i l 0 [(0, vR (some 6)), (1, vI p0)] [] := by
  obtain ⟨ob1, h⟩ := h
  refine g_iload_n (pc' := 1) 1 dX11_take_0 rfl rfl ?_
  refine g_pSI (pc' := 4) (vs := [vI p0]) (st := []) (val := bI (1 ≤ p0 ∧ p0 ≤ 4095)) (sp_X11_areMonths (le_hd hd rfl) ob1) mk_X11_areMonths ms_X11_areMonths lk_X11_260 rfl (Nat.le_of_ble_eq_true rfl) (Nat.le_of_ble_eq_true rfl) rfl dX11_take_1 rfl z2 (fun rg2 => ?_)
  obtain ⟨hk13, hk14⟩ := h
  have hk13g : (1 ≤ p0 ∧ p0 ≤ 4095) → gI w d X_X11_take P i l 13 [(0, vR (some 6)), (1, vI p0)] [] := by
    intro hp
    have h := hk13 hp
    refine g_aload_n (pc' := 14) 0 dX11_take_13 rfl rfl ?_
    refine g_iload_n (pc' := 15) 1 dX11_take_14 rfl rfl ?_
    refine g_cVV (pc' := 18) (vs := [vI p0]) (st := []) (c := 11) h mv_X11_survey lk_X11_263 rfl rfl rfl rfl (Nat.le_of_ble_eq_true rfl) (Nat.le_of_ble_eq_true rfl) rfl dX11_take_15 rfl z2 (fun i5 l5 h => ?_)
    refine g_aload_n (pc' := 19) 0 dX11_take_18 rfl rfl ?_
    refine g_getR (pc' := 22) (o := some 63) fl_X11_66 rfl rfl rfl dX11_take_19 rfl ?_
    refine g_getI (pc' := 25) (z := 11) rfl fl_X11_266 rfl rfl dX11_take_22 rfl (fun rg6 => ?_)
    obtain ⟨hk10, hk11⟩ := h
    refine g_if_ne (tgt := 35) (pc' := 28) rg6 Iff.rfl dX11_take_25 rfl rfl (fun c8 => ?_) (fun c8 => ?_)
    · have h := hk11 c8
      refine g_iconst (pc' := 36) dX11_take_35 rfl ?_
      refine g_istore_n (pc' := 37) (L' := [(2, vI 0), (0, vR (some 6)), (1, vI p0)]) dX11_take_36 rfl (Nat.le_of_ble_eq_true rfl) rfl ?_
      refine g_iconst (pc' := 38) dX11_take_37 rfl ?_
      refine g_istore_n (pc' := 39) (L' := [(3, vI 0), (2, vI 0), (0, vR (some 6)), (1, vI p0)]) dX11_take_38 rfl (Nat.le_of_ble_eq_true rfl) rfl ?_
      refine g_sub (L' := [(0, vR (some 6)), (2, vI 0), (3, vI 0)]) [2, 1, 0] rfl ?_
      exact h
    · have h := hk10 c8
      refine g_aload_n (pc' := 29) 0 dX11_take_28 rfl rfl ?_
      refine g_bipush (pc' := 31) dX11_take_29 rfl rfl ?_
      refine g_cVI (pc' := 34) (vs := [vI (-3)]) (st := []) (c := 11) h mv_X11_refuse lk_X11_111 rfl rfl rfl rfl (Nat.le_of_ble_eq_true rfl) (Nat.le_of_ble_eq_true rfl) rfl dX11_take_31 rfl z2 (fun r9 i9 l9 rg9 h => ?_)
      exact g_retI rfl rg9 dX11_take_34 h
  have hk14g : (¬ (1 ≤ p0 ∧ p0 ≤ 4095)) → gI w d X_X11_take P i l 7 [(0, vR (some 6)), (1, vI p0)] [] := by
    intro hp
    have h := hk14 hp
    refine g_aload_n (pc' := 8) 0 dX11_take_7 rfl rfl ?_
    refine g_iconst (pc' := 9) dX11_take_8 rfl ?_
    refine g_cVI (pc' := 12) (vs := [vI (-1)]) (st := []) (c := 11) h mv_X11_refuse lk_X11_111 rfl rfl rfl rfl (Nat.le_of_ble_eq_true rfl) (Nat.le_of_ble_eq_true rfl) rfl dX11_take_9 rfl z2 (fun r12 i12 l12 rg12 h => ?_)
    exact g_retI rfl rg12 dX11_take_12 h
  refine g_if_ne (tgt := 13) (pc' := 7) rg2 (bI_eq _) dX11_take_4 rfl rfl (fun c4n => ?_) (fun c4 => ?_)
  · have c4 := Decidable.of_not_not c4n
    exact hk13g c4
  · exact hk14g c4
theorem e_X11_take {w : Wd} {d : Nat} {P : Int → IM → LM → Prop} {i : IM} {l : LM} {p0 : Int}  (h : gI w d X_X11_take P i l 0 [(0, vR (some 6)), (1, vI p0)] []) : cI w (d + 1) X_X11_take [vR (some 6), vI p0] i l P := CI_of (by decide +kernel) (Nat.le_of_ble_eq_true rfl) h
set_option maxRecDepth 20000 in
theorem s_X11_take_39 {w : Wd} {d : Nat} {P : Int → IM → LM → Prop} {i : IM} {l : LM} (x2 : Int) (x3 : Int)  (hd : 1 ≤ d) (h : ((rg x3) ∧ (¬ (i 7 8 ≤ x3) → 0 ≤ x3 ∧ x3 < 10) ∧ ((i 7 8 ≤ x3) → cI w d X_X11_changed [vR (some 6), vI x2] i l (fun r22 i22 l22 => P r22 i22 l22)) ∧ ((¬ (i 7 8 ≤ x3) ∧ (i 72 x3 = 0)) → gI w d X_X11_take P i l 39 [(0, vR (some 6)), (2, vI x2), (3, vI (x3 + 1))] []) ∧ ((¬ (i 7 8 ≤ x3) ∧ (¬ (i 72 x3 = 0))) → ((0 ≤ x3 ∧ x3 < 10) ∧ (0 ≤ x3 * 3 + (i 72 x3) ∧ x3 * 3 + (i 72 x3) < 30) ∧ (0 ≤ (x3 * 8) + 1 ∧ (x3 * 8) + 1 < 80) ∧ gI w d X_X11_take P (u2 i 8 ((x3 * 8) + 1) (i 59 (x3 * 3 + (i 72 x3)))) l 39 [(0, vR (some 6)), (2, vI (x2 + 1)), (3, vI (x3 + 1))] [])))) : gI w d X_X11_take P i l 39 [(0, vR (some 6)), (2, vI x2), (3, vI x3)] [] := by
  refine g_iload_n (pc' := 40) 2 dX11_take_39 rfl rfl ?_
  refine g_aload_n (pc' := 41) 0 dX11_take_40 rfl rfl ?_
  refine g_getR (pc' := 44) (o := some 7) fl_X11_10 rfl rfl rfl dX11_take_41 rfl ?_
  refine g_getI (pc' := 47) (z := 8) rfl fl_X11_115 rfl rfl dX11_take_44 rfl (fun rg15 => ?_)
  obtain ⟨hob17, hob19, hk28, hk29, hk30⟩ := h
  have hk28g : (i 7 8 ≤ x3) → gI w d X_X11_take P i l 102 [(0, vR (some 6)), (2, vI x2), (3, vI x3)] [] := by
    intro hp
    have h := hk28 hp
    refine g_aload_n (pc' := 103) 0 dX11_take_102 rfl rfl ?_
    refine g_iload_n (pc' := 104) 1 dX11_take_103 rfl rfl ?_
    refine g_cVI (pc' := 107) (vs := [vI x2]) (st := []) (c := 11) h mv_X11_changed lk_X11_122 rfl rfl rfl rfl (Nat.le_of_ble_eq_true rfl) (Nat.le_of_ble_eq_true rfl) rfl dX11_take_104 rfl z2 (fun r22 i22 l22 rg22 h => ?_)
    exact g_retI rfl rg22 dX11_take_107 h
  have hk29g : (¬ (i 7 8 ≤ x3) ∧ (i 72 x3 = 0)) → gI w d X_X11_take P i l 96 [(0, vR (some 6)), (2, vI x2), (3, vI x3)] [] := by
    intro hp
    have h := hk29 hp
    refine g_iinc (pc' := 99) (L' := [(3, vI (x3 + 1)), (0, vR (some 6)), (2, vI x2)]) 2 dX11_take_96 rfl (Nat.le_of_ble_eq_true rfl) rfl rfl ?_
    refine g_goto (tgt := 39) dX11_take_99 rfl ?_
    refine g_sub (L' := [(0, vR (some 6)), (2, vI x2), (3, vI (x3 + 1))]) [1, 2, 0] rfl ?_
    exact h
  have hk30g : (¬ (i 7 8 ≤ x3) ∧ (¬ (i 72 x3 = 0))) → gI w d X_X11_take P i l 62 [(0, vR (some 6)), (2, vI x2), (3, vI x3)] [] := by
    intro hp
    have h := hk30 hp
    obtain ⟨ob23, ob25, ob27, h⟩ := h
    refine g_iinc (pc' := 65) (L' := [(2, vI (x2 + 1)), (0, vR (some 6)), (3, vI x3)]) 1 dX11_take_62 rfl (Nat.le_of_ble_eq_true rfl) rfl rfl ?_
    refine g_aload_n (pc' := 66) 1 dX11_take_65 rfl rfl ?_
    refine g_getR (pc' := 69) (o := some 7) fl_X11_10 rfl rfl rfl dX11_take_66 rfl ?_
    refine g_getR (pc' := 72) (o := some 8) fl_X11_135 rfl rfl rfl dX11_take_69 rfl ?_
    refine g_iload_n (pc' := 73) 2 dX11_take_72 rfl rfl ?_
    refine g_bipush (pc' := 75) dX11_take_73 rfl rfl ?_
    refine g_imul (pc' := 76) dX11_take_75 rfl ?_
    refine g_iconst (pc' := 77) dX11_take_76 rfl ?_
    refine g_iadd (pc' := 78) dX11_take_77 rfl ?_
    refine g_aload_n (pc' := 79) 1 dX11_take_78 rfl rfl ?_
    refine g_getR (pc' := 82) (o := some 51) fl_X11_57 rfl rfl rfl dX11_take_79 rfl ?_
    refine g_iload_n (pc' := 83) 2 dX11_take_82 rfl rfl ?_
    refine g_aload_n (pc' := 84) 1 dX11_take_83 rfl rfl ?_
    refine g_getR (pc' := 87) (o := some 63) fl_X11_66 rfl rfl rfl dX11_take_84 rfl ?_
    refine g_getR (pc' := 90) (o := some 72) fl_X11_275 rfl rfl rfl dX11_take_87 rfl ?_
    refine g_iload_n (pc' := 91) 2 dX11_take_90 rfl rfl ?_
    refine g_iald (pc' := 92) (N := 10) rfl rfl (Nat.lt_of_lt_of_le (Nat.lt_succ_self _) (Nat.le_of_ble_eq_true rfl)) ob23 dX11_take_91 rfl (fun rg24 => ?_)
    refine g_pVI (pc' := 95) (vs := [vI x3, vI (i 72 x3)]) (st := [vI ((x3 * 8) + 1), vR (some 8)]) (val := i 59 (x3 * 3 + (i 72 x3))) (c := 1) (sp_X1_hue (le_hd hd rfl) ob25) mv_X1_hue lk_X11_278 rfl rfl rfl rfl (Nat.le_of_ble_eq_true rfl) (Nat.le_of_ble_eq_true rfl) rfl dX11_take_92 rfl z2 (fun rg26 => ?_)
    refine g_iast (pc' := 96) (N := 80) rfl rfl (Nat.lt_of_lt_of_le (Nat.lt_succ_self _) (Nat.le_of_ble_eq_true rfl)) ob27 rg26 dX11_take_95 rfl ?_
    refine g_iinc (pc' := 99) (L' := [(3, vI (x3 + 1)), (2, vI (x2 + 1)), (0, vR (some 6))]) 2 dX11_take_96 rfl (Nat.le_of_ble_eq_true rfl) rfl rfl ?_
    refine g_goto (tgt := 39) dX11_take_99 rfl ?_
    refine g_sub (L' := [(0, vR (some 6)), (2, vI (x2 + 1)), (3, vI (x3 + 1))]) [2, 1, 0] rfl ?_
    exact h
  refine g_icmp_ge (tgt := 102) (pc' := 50) (hob17) rg15 Iff.rfl dX11_take_47 rfl rfl (fun c18 => ?_) (fun c18 => ?_)
  · exact hk28g c18
  · refine g_aload_n (pc' := 51) 0 dX11_take_50 rfl rfl ?_
    refine g_getR (pc' := 54) (o := some 63) fl_X11_66 rfl rfl rfl dX11_take_51 rfl ?_
    refine g_getR (pc' := 57) (o := some 72) fl_X11_275 rfl rfl rfl dX11_take_54 rfl ?_
    refine g_iload_n (pc' := 58) 2 dX11_take_57 rfl rfl ?_
    refine g_iald (pc' := 59) (N := 10) rfl rfl (Nat.lt_of_lt_of_le (Nat.lt_succ_self _) (Nat.le_of_ble_eq_true rfl)) (hob19 c18) dX11_take_58 rfl (fun rg20 => ?_)
    refine g_if_eq (tgt := 96) (pc' := 62) rg20 Iff.rfl dX11_take_59 rfl rfl (fun c21 => ?_) (fun c21 => ?_)
    · exact hk29g ⟨c18, c21⟩
    · exact hk30g ⟨c18, c21⟩

theorem dX11_mend_0 : decode cX11_mend 0 = .ok (.iload_n 1, 1) := by decide +kernel
theorem dX11_mend_1 : decode cX11_mend 1 = .ok (.invokestatic 260, 3) := by decide +kernel
theorem dX11_mend_4 : decode cX11_mend 4 = .ok (.ifCond .eq 22, 3) := by decide +kernel
theorem dX11_mend_7 : decode cX11_mend 7 = .ok (.iload_n 2, 1) := by decide +kernel
theorem dX11_mend_8 : decode cX11_mend 8 = .ok (.iconst (-1), 1) := by decide +kernel
theorem dX11_mend_9 : decode cX11_mend 9 = .ok (.if_icmp .eq 19, 3) := by decide +kernel
theorem dX11_mend_12 : decode cX11_mend 12 = .ok (.iload_n 2, 1) := by decide +kernel
theorem dX11_mend_13 : decode cX11_mend 13 = .ok (.aload_n 0, 1) := by decide +kernel
theorem dX11_mend_14 : decode cX11_mend 14 = .ok (.getfield 10, 3) := by decide +kernel
theorem dX11_mend_17 : decode cX11_mend 17 = .ok (.getfield 115, 3) := by decide +kernel
theorem dX11_mend_20 : decode cX11_mend 20 = .ok (.invokestatic 128, 3) := by decide +kernel
theorem dX11_mend_23 : decode cX11_mend 23 = .ok (.ifCond .ne 5, 3) := by decide +kernel
theorem dX11_mend_26 : decode cX11_mend 26 = .ok (.iconst (-1), 1) := by decide +kernel
theorem dX11_mend_27 : decode cX11_mend 27 = .ok (.ireturn, 1) := by decide +kernel
theorem dX11_mend_28 : decode cX11_mend 28 = .ok (.aload_n 0, 1) := by decide +kernel
theorem dX11_mend_29 : decode cX11_mend 29 = .ok (.getfield 57, 3) := by decide +kernel
theorem dX11_mend_32 : decode cX11_mend 32 = .ok (.iload_n 1, 1) := by decide +kernel
theorem dX11_mend_33 : decode cX11_mend 33 = .ok (.invokevirtual 284, 3) := by decide +kernel
theorem dX11_mend_36 : decode cX11_mend 36 = .ok (.aload_n 0, 1) := by decide +kernel
theorem dX11_mend_37 : decode cX11_mend 37 = .ok (.getfield 76, 3) := by decide +kernel
theorem dX11_mend_40 : decode cX11_mend 40 = .ok (.iload_n 1, 1) := by decide +kernel
theorem dX11_mend_41 : decode cX11_mend 41 = .ok (.invokevirtual 287, 3) := by decide +kernel
theorem dX11_mend_44 : decode cX11_mend 44 = .ok (.iload_n 2, 1) := by decide +kernel
theorem dX11_mend_45 : decode cX11_mend 45 = .ok (.iconst (-1), 1) := by decide +kernel
theorem dX11_mend_46 : decode cX11_mend 46 = .ok (.if_icmp .ne 13, 3) := by decide +kernel
theorem dX11_mend_49 : decode cX11_mend 49 = .ok (.aload_n 0, 1) := by decide +kernel
theorem dX11_mend_50 : decode cX11_mend 50 = .ok (.getfield 76, 3) := by decide +kernel
theorem dX11_mend_53 : decode cX11_mend 53 = .ok (.getfield 290, 3) := by decide +kernel
theorem dX11_mend_56 : decode cX11_mend 56 = .ok (.goto 20, 3) := by decide +kernel
theorem dX11_mend_59 : decode cX11_mend 59 = .ok (.aload_n 0, 1) := by decide +kernel
theorem dX11_mend_60 : decode cX11_mend 60 = .ok (.getfield 57, 3) := by decide +kernel
theorem dX11_mend_63 : decode cX11_mend 63 = .ok (.iload_n 2, 1) := by decide +kernel
theorem dX11_mend_64 : decode cX11_mend 64 = .ok (.aload_n 0, 1) := by decide +kernel
theorem dX11_mend_65 : decode cX11_mend 65 = .ok (.getfield 76, 3) := by decide +kernel
theorem dX11_mend_68 : decode cX11_mend 68 = .ok (.getfield 293, 3) := by decide +kernel
theorem dX11_mend_71 : decode cX11_mend 71 = .ok (.iload_n 2, 1) := by decide +kernel
theorem dX11_mend_72 : decode cX11_mend 72 = .ok (.iaload, 1) := by decide +kernel
theorem dX11_mend_73 : decode cX11_mend 73 = .ok (.invokevirtual 278, 3) := by decide +kernel
theorem dX11_mend_76 : decode cX11_mend 76 = .ok (.ireturn, 1) := by decide +kernel
set_option maxRecDepth 20000 in
theorem s_X11_mend {w : Wd} {d : Nat} {P : Int → IM → LM → Prop} {i : IM} {l : LM} (p0 : Int) (p1 : Int)  (hd : 1 ≤ d) (h : ((rg p0) ∧ (((1 ≤ p0 ∧ p0 ≤ 4095) → rg p1) ∧ (((1 ≤ p0 ∧ p0 ≤ 4095) ∧ ((p1 = (-1)) ∨ (0 ≤ p1 ∧ p1 < i 7 8))) → gI w d X_X11_mend P i l 28 [(0, vR (some 6)), (1, vI p0), (2, vI p1)] []) ∧ ((¬ ((1 ≤ p0 ∧ p0 ≤ 4095) ∧ ((p1 = (-1)) ∨ (0 ≤ p1 ∧ p1 < i 7 8)))) → P (-1) i l)))) : gI w d X_X11_mend P i l 0 [(0, vR (some 6)), (1, vI p0), (2, vI p1)] [] := by
  obtain ⟨ob1, h⟩ := h
  refine g_iload_n (pc' := 1) 1 dX11_mend_0 rfl rfl ?_
  refine g_pSI (pc' := 4) (vs := [vI p0]) (st := []) (val := bI (1 ≤ p0 ∧ p0 ≤ 4095)) (sp_X11_areMonths (le_hd hd rfl) ob1) mk_X11_areMonths ms_X11_areMonths lk_X11_260 rfl (Nat.le_of_ble_eq_true rfl) (Nat.le_of_ble_eq_true rfl) rfl dX11_mend_1 rfl z2 (fun rg2 => ?_)
  obtain ⟨hob5, hk10, hk11⟩ := h
  have hk10g : ((1 ≤ p0 ∧ p0 ≤ 4095) ∧ ((p1 = (-1)) ∨ (0 ≤ p1 ∧ p1 < i 7 8))) → gI w d X_X11_mend P i l 28 [(0, vR (some 6)), (1, vI p0), (2, vI p1)] [] := by
    intro hp
    have h := hk10 hp
    exact h
  have hk11g : (¬ ((1 ≤ p0 ∧ p0 ≤ 4095) ∧ ((p1 = (-1)) ∨ (0 ≤ p1 ∧ p1 < i 7 8)))) → gI w d X_X11_mend P i l 26 [(0, vR (some 6)), (1, vI p0), (2, vI p1)] [] := by
    intro hp
    have h := hk11 hp
    refine g_iconst (pc' := 27) dX11_mend_26 rfl ?_
    exact g_retI rfl (rg_lit rfl) dX11_mend_27 h
  refine g_if_eq (tgt := 26) (pc' := 7) rg2 (bI_eq _) dX11_mend_4 rfl rfl (fun c4 => ?_) (fun c4n => ?_)
  · exact hk11g (fun q => c4 q.1)
  · have c4 := Decidable.of_not_not c4n
    refine g_iload_n (pc' := 8) 2 dX11_mend_7 rfl rfl ?_
    refine g_iconst (pc' := 9) dX11_mend_8 rfl ?_
    refine g_icmp_eq (tgt := 28) (pc' := 12) (hob5 c4) (rg_lit rfl) Iff.rfl dX11_mend_9 rfl rfl (fun c6 => ?_) (fun c6 => ?_)
    · exact hk10g ⟨c4, (Or.inl c6)⟩
    · refine g_iload_n (pc' := 13) 2 dX11_mend_12 rfl rfl ?_
      refine g_aload_n (pc' := 14) 0 dX11_mend_13 rfl rfl ?_
      refine g_getR (pc' := 17) (o := some 7) fl_X11_10 rfl rfl rfl dX11_mend_14 rfl ?_
      refine g_getI (pc' := 20) (z := 8) rfl fl_X11_115 rfl rfl dX11_mend_17 rfl (fun rg7 => ?_)
      refine g_pSI (pc' := 23) (vs := [vI p1, vI (i 7 8)]) (st := []) (val := bI (0 ≤ p1 ∧ p1 < i 7 8)) (sp_X11_below (le_hd hd rfl) (hob5 c4) rg7) mk_X11_below ms_X11_below lk_X11_128 rfl (Nat.le_of_ble_eq_true rfl) (Nat.le_of_ble_eq_true rfl) rfl dX11_mend_20 rfl z2 (fun rg8 => ?_)
      refine g_if_ne (tgt := 28) (pc' := 26) rg8 (bI_eq _) dX11_mend_23 rfl rfl (fun c9n => ?_) (fun c9 => ?_)
      · have c9 := Decidable.of_not_not c9n
        exact hk10g ⟨c4, (Or.inr c9)⟩
      · exact hk11g (fun q => (fun q => q.elim c6 c9) q.2)
theorem e_X11_mend {w : Wd} {d : Nat} {P : Int → IM → LM → Prop} {i : IM} {l : LM} {p0 : Int} {p1 : Int}  (h : gI w d X_X11_mend P i l 0 [(0, vR (some 6)), (1, vI p0), (2, vI p1)] []) : cI w (d + 1) X_X11_mend [vR (some 6), vI p0, vI p1] i l P := CI_of (by decide +kernel) (Nat.le_of_ble_eq_true rfl) h
set_option maxRecDepth 20000 in
theorem s_X11_mend_28 {w : Wd} {d : Nat} {P : Int → IM → LM → Prop} {i : IM} {l : LM} (x1 : Int) (x2 : Int)  (hd : 1 ≤ d) (h : cVd w d X_X1_prepare [vR (some 51), vI x1] i l (fun i12 l12 => cVd w d X_X3_search [vR (some 83), vI x1] i12 l12 (fun i13 l13 => ((rg x2) ∧ (¬ (x2 = (-1)) → 0 ≤ x2 ∧ x2 < 10) ∧ (¬ (x2 = (-1)) → 0 ≤ x2 * 3 + (i13 89 x2) ∧ x2 * 3 + (i13 89 x2) < 30) ∧ P (if (x2 = (-1)) then i13 83 8 else i13 59 (x2 * 3 + (i13 89 x2))) i13 l13)))) : gI w d X_X11_mend P i l 28 [(0, vR (some 6)), (1, vI x1), (2, vI x2)] [] := by
  refine g_aload_n (pc' := 29) 0 dX11_mend_28 rfl rfl ?_
  refine g_getR (pc' := 32) (o := some 51) fl_X11_57 rfl rfl rfl dX11_mend_29 rfl ?_
  refine g_iload_n (pc' := 33) 1 dX11_mend_32 rfl rfl ?_
  refine g_cVV (pc' := 36) (vs := [vI x1]) (st := []) (c := 1) h mv_X1_prepare lk_X11_284 rfl rfl rfl rfl (Nat.le_of_ble_eq_true rfl) (Nat.le_of_ble_eq_true rfl) rfl dX11_mend_33 rfl z2 (fun i12 l12 h => ?_)
  refine g_aload_n (pc' := 37) 0 dX11_mend_36 rfl rfl ?_
  refine g_getR (pc' := 40) (o := some 83) fl_X11_76 rfl rfl rfl dX11_mend_37 rfl ?_
  refine g_iload_n (pc' := 41) 1 dX11_mend_40 rfl rfl ?_
  refine g_cVV (pc' := 44) (vs := [vI x1]) (st := []) (c := 3) h mv_X3_search lk_X11_287 rfl rfl rfl rfl (Nat.le_of_ble_eq_true rfl) (Nat.le_of_ble_eq_true rfl) rfl dX11_mend_41 rfl z2 (fun i13 l13 h => ?_)
  refine g_iload_n (pc' := 45) 2 dX11_mend_44 rfl rfl ?_
  refine g_iconst (pc' := 46) dX11_mend_45 rfl ?_
  refine g_rg (fun hRG14 => ?_)
  obtain ⟨hob15, hob17, hob19, h⟩ := h
  have hJ : gI w d X_X11_mend P i13 l13 76 [(0, vR (some 6)), (1, vI x1), (2, vI x2)] [vI (if (x2 = (-1)) then i13 83 8 else i13 59 (x2 * 3 + (i13 89 x2)))] := by
    exact g_retI rfl (rg_ite (hRG14 _ _) (hRG14 _ _)) dX11_mend_76 h
  refine g_icmp_ne (tgt := 59) (pc' := 49) (hob15) (rg_lit rfl) Iff.rfl dX11_mend_46 rfl rfl (fun c16 => ?_) (fun c16 => ?_)
  · refine g_aload_n (pc' := 60) 0 dX11_mend_59 rfl rfl ?_
    refine g_getR (pc' := 63) (o := some 51) fl_X11_57 rfl rfl rfl dX11_mend_60 rfl ?_
    refine g_iload_n (pc' := 64) 2 dX11_mend_63 rfl rfl ?_
    refine g_aload_n (pc' := 65) 0 dX11_mend_64 rfl rfl ?_
    refine g_getR (pc' := 68) (o := some 83) fl_X11_76 rfl rfl rfl dX11_mend_65 rfl ?_
    refine g_getR (pc' := 71) (o := some 89) fl_X11_293 rfl rfl rfl dX11_mend_68 rfl ?_
    refine g_iload_n (pc' := 72) 2 dX11_mend_71 rfl rfl ?_
    refine g_iald (pc' := 73) (N := 10) rfl rfl (Nat.lt_of_lt_of_le (Nat.lt_succ_self _) (Nat.le_of_ble_eq_true rfl)) (hob17 c16) dX11_mend_72 rfl (fun rg18 => ?_)
    refine g_pVI (pc' := 76) (vs := [vI x2, vI (i13 89 x2)]) (st := []) (val := i13 59 (x2 * 3 + (i13 89 x2))) (c := 1) (sp_X1_hue (le_hd hd rfl) (hob19 c16)) mv_X1_hue lk_X11_278 rfl rfl rfl rfl (Nat.le_of_ble_eq_true rfl) (Nat.le_of_ble_eq_true rfl) rfl dX11_mend_73 rfl z2 (fun rg20 => ?_)
    rw [if_neg c16 (α := Int) (t := i13 83 8) (e := i13 59 (x2 * 3 + (i13 89 x2)))] at hJ
    exact hJ
  · refine g_aload_n (pc' := 50) 0 dX11_mend_49 rfl rfl ?_
    refine g_getR (pc' := 53) (o := some 83) fl_X11_76 rfl rfl rfl dX11_mend_50 rfl ?_
    refine g_getI (pc' := 56) (z := 8) rfl fl_X11_290 rfl rfl dX11_mend_53 rfl (fun rg21 => ?_)
    refine g_goto (tgt := 76) dX11_mend_56 rfl ?_
    rw [if_pos c16 (α := Int) (t := i13 83 8) (e := i13 59 (x2 * 3 + (i13 89 x2)))] at hJ
    exact hJ

theorem dX11_shut_0 : decode cX11_shut 0 = .ok (.iload_n 1, 1) := by decide +kernel
theorem dX11_shut_1 : decode cX11_shut 1 = .ok (.invokestatic 260, 3) := by decide +kernel
theorem dX11_shut_4 : decode cX11_shut 4 = .ok (.ifCond .ne 5, 3) := by decide +kernel
theorem dX11_shut_7 : decode cX11_shut 7 = .ok (.iconst (-1), 1) := by decide +kernel
theorem dX11_shut_8 : decode cX11_shut 8 = .ok (.ireturn, 1) := by decide +kernel
theorem dX11_shut_9 : decode cX11_shut 9 = .ok (.aload_n 0, 1) := by decide +kernel
theorem dX11_shut_10 : decode cX11_shut 10 = .ok (.getfield 57, 3) := by decide +kernel
theorem dX11_shut_13 : decode cX11_shut 13 = .ok (.iload_n 1, 1) := by decide +kernel
theorem dX11_shut_14 : decode cX11_shut 14 = .ok (.invokevirtual 284, 3) := by decide +kernel
theorem dX11_shut_17 : decode cX11_shut 17 = .ok (.aload_n 0, 1) := by decide +kernel
theorem dX11_shut_18 : decode cX11_shut 18 = .ok (.getfield 76, 3) := by decide +kernel
theorem dX11_shut_21 : decode cX11_shut 21 = .ok (.iload_n 1, 1) := by decide +kernel
theorem dX11_shut_22 : decode cX11_shut 22 = .ok (.invokevirtual 287, 3) := by decide +kernel
theorem dX11_shut_25 : decode cX11_shut 25 = .ok (.aload_n 0, 1) := by decide +kernel
theorem dX11_shut_26 : decode cX11_shut 26 = .ok (.getfield 76, 3) := by decide +kernel
theorem dX11_shut_29 : decode cX11_shut 29 = .ok (.invokevirtual 294, 3) := by decide +kernel
theorem dX11_shut_32 : decode cX11_shut 32 = .ok (.ireturn, 1) := by decide +kernel
set_option maxRecDepth 20000 in
theorem s_X11_shut {w : Wd} {d : Nat} {P : Int → IM → LM → Prop} {i : IM} {l : LM} (p0 : Int)  (hd : 1 ≤ d) (h : ((rg p0) ∧ (((1 ≤ p0 ∧ p0 ≤ 4095) → cVd w d X_X1_prepare [vR (some 51), vI p0] i l (fun i5 l5 => cVd w d X_X3_search [vR (some 83), vI p0] i5 l5 (fun i6 l6 => cI w d X_X3_walledUp [vR (some 83)] i6 l6 (fun r7 i7 l7 => P r7 i7 l7)))) ∧ ((¬ (1 ≤ p0 ∧ p0 ≤ 4095)) → P (-1) i l)))) : gI w d X_X11_shut P i l 0 [(0, vR (some 6)), (1, vI p0)] [] := by
  obtain ⟨ob1, h⟩ := h
  refine g_iload_n (pc' := 1) 1 dX11_shut_0 rfl rfl ?_
  refine g_pSI (pc' := 4) (vs := [vI p0]) (st := []) (val := bI (1 ≤ p0 ∧ p0 ≤ 4095)) (sp_X11_areMonths (le_hd hd rfl) ob1) mk_X11_areMonths ms_X11_areMonths lk_X11_260 rfl (Nat.le_of_ble_eq_true rfl) (Nat.le_of_ble_eq_true rfl) rfl dX11_shut_1 rfl z2 (fun rg2 => ?_)
  obtain ⟨hk8, hk9⟩ := h
  have hk8g : (1 ≤ p0 ∧ p0 ≤ 4095) → gI w d X_X11_shut P i l 9 [(0, vR (some 6)), (1, vI p0)] [] := by
    intro hp
    have h := hk8 hp
    refine g_aload_n (pc' := 10) 0 dX11_shut_9 rfl rfl ?_
    refine g_getR (pc' := 13) (o := some 51) fl_X11_57 rfl rfl rfl dX11_shut_10 rfl ?_
    refine g_iload_n (pc' := 14) 1 dX11_shut_13 rfl rfl ?_
    refine g_cVV (pc' := 17) (vs := [vI p0]) (st := []) (c := 1) h mv_X1_prepare lk_X11_284 rfl rfl rfl rfl (Nat.le_of_ble_eq_true rfl) (Nat.le_of_ble_eq_true rfl) rfl dX11_shut_14 rfl z2 (fun i5 l5 h => ?_)
    refine g_aload_n (pc' := 18) 0 dX11_shut_17 rfl rfl ?_
    refine g_getR (pc' := 21) (o := some 83) fl_X11_76 rfl rfl rfl dX11_shut_18 rfl ?_
    refine g_iload_n (pc' := 22) 1 dX11_shut_21 rfl rfl ?_
    refine g_cVV (pc' := 25) (vs := [vI p0]) (st := []) (c := 3) h mv_X3_search lk_X11_287 rfl rfl rfl rfl (Nat.le_of_ble_eq_true rfl) (Nat.le_of_ble_eq_true rfl) rfl dX11_shut_22 rfl z2 (fun i6 l6 h => ?_)
    refine g_aload_n (pc' := 26) 0 dX11_shut_25 rfl rfl ?_
    refine g_getR (pc' := 29) (o := some 83) fl_X11_76 rfl rfl rfl dX11_shut_26 rfl ?_
    refine g_cVI (pc' := 32) (vs := []) (st := []) (c := 3) h mv_X3_walledUp lk_X11_294 rfl rfl rfl rfl (Nat.le_of_ble_eq_true rfl) (Nat.le_of_ble_eq_true rfl) rfl dX11_shut_29 rfl z2 (fun r7 i7 l7 rg7 h => ?_)
    exact g_retI rfl rg7 dX11_shut_32 h
  have hk9g : (¬ (1 ≤ p0 ∧ p0 ≤ 4095)) → gI w d X_X11_shut P i l 7 [(0, vR (some 6)), (1, vI p0)] [] := by
    intro hp
    have h := hk9 hp
    refine g_iconst (pc' := 8) dX11_shut_7 rfl ?_
    exact g_retI rfl (rg_lit rfl) dX11_shut_8 h
  refine g_if_ne (tgt := 9) (pc' := 7) rg2 (bI_eq _) dX11_shut_4 rfl rfl (fun c4n => ?_) (fun c4 => ?_)
  · have c4 := Decidable.of_not_not c4n
    exact hk8g c4
  · exact hk9g c4
theorem e_X11_shut {w : Wd} {d : Nat} {P : Int → IM → LM → Prop} {i : IM} {l : LM} {p0 : Int}  (h : gI w d X_X11_shut P i l 0 [(0, vR (some 6)), (1, vI p0)] []) : cI w (d + 1) X_X11_shut [vR (some 6), vI p0] i l P := CI_of (by decide +kernel) (Nat.le_of_ble_eq_true rfl) h

theorem dX11_bars_0 : decode cX11_bars 0 = .ok (.iload_n 1, 1) := by decide +kernel
theorem dX11_bars_1 : decode cX11_bars 1 = .ok (.invokestatic 260, 3) := by decide +kernel
theorem dX11_bars_4 : decode cX11_bars 4 = .ok (.ifCond .ne 5, 3) := by decide +kernel
theorem dX11_bars_7 : decode cX11_bars 7 = .ok (.iconst (-1), 1) := by decide +kernel
theorem dX11_bars_8 : decode cX11_bars 8 = .ok (.ireturn, 1) := by decide +kernel
theorem dX11_bars_9 : decode cX11_bars 9 = .ok (.aload_n 0, 1) := by decide +kernel
theorem dX11_bars_10 : decode cX11_bars 10 = .ok (.getfield 57, 3) := by decide +kernel
theorem dX11_bars_13 : decode cX11_bars 13 = .ok (.iload_n 1, 1) := by decide +kernel
theorem dX11_bars_14 : decode cX11_bars 14 = .ok (.invokevirtual 284, 3) := by decide +kernel
theorem dX11_bars_17 : decode cX11_bars 17 = .ok (.iconst 1, 1) := by decide +kernel
theorem dX11_bars_18 : decode cX11_bars 18 = .ok (.aload_n 0, 1) := by decide +kernel
theorem dX11_bars_19 : decode cX11_bars 19 = .ok (.getfield 10, 3) := by decide +kernel
theorem dX11_bars_22 : decode cX11_bars 22 = .ok (.getfield 138, 3) := by decide +kernel
theorem dX11_bars_25 : decode cX11_bars 25 = .ok (.ishl, 1) := by decide +kernel
theorem dX11_bars_26 : decode cX11_bars 26 = .ok (.iconst 1, 1) := by decide +kernel
theorem dX11_bars_27 : decode cX11_bars 27 = .ok (.isub, 1) := by decide +kernel
theorem dX11_bars_28 : decode cX11_bars 28 = .ok (.istore_n 2, 1) := by decide +kernel
theorem dX11_bars_29 : decode cX11_bars 29 = .ok (.aload_n 0, 1) := by decide +kernel
theorem dX11_bars_30 : decode cX11_bars 30 = .ok (.getfield 70, 3) := by decide +kernel
theorem dX11_bars_33 : decode cX11_bars 33 = .ok (.iload_n 2, 1) := by decide +kernel
theorem dX11_bars_34 : decode cX11_bars 34 = .ok (.invokevirtual 297, 3) := by decide +kernel
theorem dX11_bars_37 : decode cX11_bars 37 = .ok (.ifCond .eq 5, 3) := by decide +kernel
theorem dX11_bars_40 : decode cX11_bars 40 = .ok (.iconst 0, 1) := by decide +kernel
theorem dX11_bars_41 : decode cX11_bars 41 = .ok (.ireturn, 1) := by decide +kernel
theorem dX11_bars_42 : decode cX11_bars 42 = .ok (.iconst 0, 1) := by decide +kernel
theorem dX11_bars_43 : decode cX11_bars 43 = .ok (.istore_n 3, 1) := by decide +kernel
theorem dX11_bars_44 : decode cX11_bars 44 = .ok (.iload_n 3, 1) := by decide +kernel
theorem dX11_bars_45 : decode cX11_bars 45 = .ok (.aload_n 0, 1) := by decide +kernel
theorem dX11_bars_46 : decode cX11_bars 46 = .ok (.getfield 10, 3) := by decide +kernel
theorem dX11_bars_49 : decode cX11_bars 49 = .ok (.getfield 138, 3) := by decide +kernel
theorem dX11_bars_52 : decode cX11_bars 52 = .ok (.if_icmp .ge 34, 3) := by decide +kernel
theorem dX11_bars_55 : decode cX11_bars 55 = .ok (.aload_n 0, 1) := by decide +kernel
theorem dX11_bars_56 : decode cX11_bars 56 = .ok (.getfield 70, 3) := by decide +kernel
theorem dX11_bars_59 : decode cX11_bars 59 = .ok (.iload_n 2, 1) := by decide +kernel
theorem dX11_bars_60 : decode cX11_bars 60 = .ok (.iconst 1, 1) := by decide +kernel
theorem dX11_bars_61 : decode cX11_bars 61 = .ok (.iload_n 3, 1) := by decide +kernel
theorem dX11_bars_62 : decode cX11_bars 62 = .ok (.ishl, 1) := by decide +kernel
theorem dX11_bars_63 : decode cX11_bars 63 = .ok (.iconst (-1), 1) := by decide +kernel
theorem dX11_bars_64 : decode cX11_bars 64 = .ok (.ixor, 1) := by decide +kernel
theorem dX11_bars_65 : decode cX11_bars 65 = .ok (.iand, 1) := by decide +kernel
theorem dX11_bars_66 : decode cX11_bars 66 = .ok (.invokevirtual 297, 3) := by decide +kernel
theorem dX11_bars_69 : decode cX11_bars 69 = .ok (.ifCond .ne 11, 3) := by decide +kernel
theorem dX11_bars_72 : decode cX11_bars 72 = .ok (.iload_n 2, 1) := by decide +kernel
theorem dX11_bars_73 : decode cX11_bars 73 = .ok (.iconst 1, 1) := by decide +kernel
theorem dX11_bars_74 : decode cX11_bars 74 = .ok (.iload_n 3, 1) := by decide +kernel
theorem dX11_bars_75 : decode cX11_bars 75 = .ok (.ishl, 1) := by decide +kernel
theorem dX11_bars_76 : decode cX11_bars 76 = .ok (.iconst (-1), 1) := by decide +kernel
theorem dX11_bars_77 : decode cX11_bars 77 = .ok (.ixor, 1) := by decide +kernel
theorem dX11_bars_78 : decode cX11_bars 78 = .ok (.iand, 1) := by decide +kernel
theorem dX11_bars_79 : decode cX11_bars 79 = .ok (.istore_n 2, 1) := by decide +kernel
theorem dX11_bars_80 : decode cX11_bars 80 = .ok (.iinc 3 1, 3) := by decide +kernel
theorem dX11_bars_83 : decode cX11_bars 83 = .ok (.goto (-39), 3) := by decide +kernel
theorem dX11_bars_86 : decode cX11_bars 86 = .ok (.iload_n 2, 1) := by decide +kernel
theorem dX11_bars_87 : decode cX11_bars 87 = .ok (.ireturn, 1) := by decide +kernel
set_option maxRecDepth 20000 in
theorem s_X11_bars {w : Wd} {d : Nat} {P : Int → IM → LM → Prop} {i : IM} {l : LM} (p0 : Int)  (hd : 1 ≤ d) (h : ((rg p0) ∧ (((1 ≤ p0 ∧ p0 ≤ 4095) → cVd w d X_X1_prepare [vR (some 51), vI p0] i l (fun i5 l5 => cI w d X_X5_finds [vR (some 73), vI ((ishl 1 (i5 7 9)) - 1)] i5 l5 (fun r7 i7 l7 => (((r7 = 0) → gI w d X_X11_bars P i7 l7 44 [(0, vR (some 6)), (2, vI ((ishl 1 (i5 7 9)) - 1)), (3, vI 0)] []) ∧ ((¬ (r7 = 0)) → P 0 i7 l7))))) ∧ ((¬ (1 ≤ p0 ∧ p0 ≤ 4095)) → P (-1) i l)))) : gI w d X_X11_bars P i l 0 [(0, vR (some 6)), (1, vI p0)] [] := by
  obtain ⟨ob1, h⟩ := h
  refine g_iload_n (pc' := 1) 1 dX11_bars_0 rfl rfl ?_
  refine g_pSI (pc' := 4) (vs := [vI p0]) (st := []) (val := bI (1 ≤ p0 ∧ p0 ≤ 4095)) (sp_X11_areMonths (le_hd hd rfl) ob1) mk_X11_areMonths ms_X11_areMonths lk_X11_260 rfl (Nat.le_of_ble_eq_true rfl) (Nat.le_of_ble_eq_true rfl) rfl dX11_bars_1 rfl z2 (fun rg2 => ?_)
  obtain ⟨hk12, hk13⟩ := h
  have hk12g : (1 ≤ p0 ∧ p0 ≤ 4095) → gI w d X_X11_bars P i l 9 [(0, vR (some 6)), (1, vI p0)] [] := by
    intro hp
    have h := hk12 hp
    refine g_aload_n (pc' := 10) 0 dX11_bars_9 rfl rfl ?_
    refine g_getR (pc' := 13) (o := some 51) fl_X11_57 rfl rfl rfl dX11_bars_10 rfl ?_
    refine g_iload_n (pc' := 14) 1 dX11_bars_13 rfl rfl ?_
    refine g_cVV (pc' := 17) (vs := [vI p0]) (st := []) (c := 1) h mv_X1_prepare lk_X11_284 rfl rfl rfl rfl (Nat.le_of_ble_eq_true rfl) (Nat.le_of_ble_eq_true rfl) rfl dX11_bars_14 rfl z2 (fun i5 l5 h => ?_)
    refine g_iconst (pc' := 18) dX11_bars_17 rfl ?_
    refine g_aload_n (pc' := 19) 0 dX11_bars_18 rfl rfl ?_
    refine g_getR (pc' := 22) (o := some 7) fl_X11_10 rfl rfl rfl dX11_bars_19 rfl ?_
    refine g_getI (pc' := 25) (z := 9) rfl fl_X11_138 rfl rfl dX11_bars_22 rfl (fun rg6 => ?_)
    refine g_ishl (pc' := 26) dX11_bars_25 rfl ?_
    refine g_iconst (pc' := 27) dX11_bars_26 rfl ?_
    refine g_isub (pc' := 28) dX11_bars_27 rfl ?_
    refine g_istore_n (pc' := 29) (L' := [(2, vI ((ishl 1 (i5 7 9)) - 1)), (0, vR (some 6)), (1, vI p0)]) dX11_bars_28 rfl (Nat.le_of_ble_eq_true rfl) rfl ?_
    refine g_aload_n (pc' := 30) 1 dX11_bars_29 rfl rfl ?_
    refine g_getR (pc' := 33) (o := some 73) fl_X11_70 rfl rfl rfl dX11_bars_30 rfl ?_
    refine g_iload_n (pc' := 34) 0 dX11_bars_33 rfl rfl ?_
    refine g_cVI (pc' := 37) (vs := [vI ((ishl 1 (i5 7 9)) - 1)]) (st := []) (c := 5) h mv_X5_finds lk_X11_297 rfl rfl rfl rfl (Nat.le_of_ble_eq_true rfl) (Nat.le_of_ble_eq_true rfl) rfl dX11_bars_34 rfl z2 (fun r7 i7 l7 rg7 h => ?_)
    obtain ⟨hk10, hk11⟩ := h
    refine g_if_eq (tgt := 42) (pc' := 40) rg7 Iff.rfl dX11_bars_37 rfl rfl (fun c9 => ?_) (fun c9 => ?_)
    · have h := hk10 c9
      refine g_iconst (pc' := 43) dX11_bars_42 rfl ?_
      refine g_istore_n (pc' := 44) (L' := [(3, vI 0), (2, vI ((ishl 1 (i5 7 9)) - 1)), (0, vR (some 6)), (1, vI p0)]) dX11_bars_43 rfl (Nat.le_of_ble_eq_true rfl) rfl ?_
      refine g_sub (L' := [(0, vR (some 6)), (2, vI ((ishl 1 (i5 7 9)) - 1)), (3, vI 0)]) [2, 1, 0] rfl ?_
      exact h
    · have h := hk11 c9
      refine g_iconst (pc' := 41) dX11_bars_40 rfl ?_
      exact g_retI rfl (rg_lit rfl) dX11_bars_41 h
  have hk13g : (¬ (1 ≤ p0 ∧ p0 ≤ 4095)) → gI w d X_X11_bars P i l 7 [(0, vR (some 6)), (1, vI p0)] [] := by
    intro hp
    have h := hk13 hp
    refine g_iconst (pc' := 8) dX11_bars_7 rfl ?_
    exact g_retI rfl (rg_lit rfl) dX11_bars_8 h
  refine g_if_ne (tgt := 9) (pc' := 7) rg2 (bI_eq _) dX11_bars_4 rfl rfl (fun c4n => ?_) (fun c4 => ?_)
  · have c4 := Decidable.of_not_not c4n
    exact hk12g c4
  · exact hk13g c4
theorem e_X11_bars {w : Wd} {d : Nat} {P : Int → IM → LM → Prop} {i : IM} {l : LM} {p0 : Int}  (h : gI w d X_X11_bars P i l 0 [(0, vR (some 6)), (1, vI p0)] []) : cI w (d + 1) X_X11_bars [vR (some 6), vI p0] i l P := CI_of (by decide +kernel) (Nat.le_of_ble_eq_true rfl) h
set_option maxRecDepth 20000 in
theorem s_X11_bars_44 {w : Wd} {d : Nat} {P : Int → IM → LM → Prop} {i : IM} {l : LM} (x2 : Int) (x3 : Int)  (h : ((rg x3) ∧ ((i 7 9 ≤ x3) → ((rg x2) ∧ P x2 i l)) ∧ ((¬ (i 7 9 ≤ x3)) → cI w d X_X5_finds [vR (some 73), vI (iand x2 (ixor (ishl 1 x3) (-1)))] i l (fun r19 i19 l19 => (((r19 = 0) → gI w d X_X11_bars P i19 l19 44 [(0, vR (some 6)), (2, vI (iand x2 (ixor (ishl 1 x3) (-1)))), (3, vI (x3 + 1))] []) ∧ ((¬ (r19 = 0)) → gI w d X_X11_bars P i19 l19 44 [(0, vR (some 6)), (2, vI x2), (3, vI (x3 + 1))] [])))))) : gI w d X_X11_bars P i l 44 [(0, vR (some 6)), (2, vI x2), (3, vI x3)] [] := by
  refine g_iload_n (pc' := 45) 2 dX11_bars_44 rfl rfl ?_
  refine g_aload_n (pc' := 46) 0 dX11_bars_45 rfl rfl ?_
  refine g_getR (pc' := 49) (o := some 7) fl_X11_10 rfl rfl rfl dX11_bars_46 rfl ?_
  refine g_getI (pc' := 52) (z := 9) rfl fl_X11_138 rfl rfl dX11_bars_49 rfl (fun rg14 => ?_)
  obtain ⟨hob16, hk24, hk25⟩ := h
  refine g_icmp_ge (tgt := 86) (pc' := 55) (hob16) rg14 Iff.rfl dX11_bars_52 rfl rfl (fun c17 => ?_) (fun c17 => ?_)
  · have h := hk24 c17
    obtain ⟨ob18, h⟩ := h
    refine g_iload_n (pc' := 87) 1 dX11_bars_86 rfl rfl ?_
    exact g_retI rfl ob18 dX11_bars_87 h
  · have h := hk25 c17
    refine g_aload_n (pc' := 56) 0 dX11_bars_55 rfl rfl ?_
    refine g_getR (pc' := 59) (o := some 73) fl_X11_70 rfl rfl rfl dX11_bars_56 rfl ?_
    refine g_iload_n (pc' := 60) 1 dX11_bars_59 rfl rfl ?_
    refine g_iconst (pc' := 61) dX11_bars_60 rfl ?_
    refine g_iload_n (pc' := 62) 2 dX11_bars_61 rfl rfl ?_
    refine g_ishl (pc' := 63) dX11_bars_62 rfl ?_
    refine g_iconst (pc' := 64) dX11_bars_63 rfl ?_
    refine g_ixor (pc' := 65) dX11_bars_64 rfl ?_
    refine g_iand (pc' := 66) dX11_bars_65 rfl ?_
    refine g_cVI (pc' := 69) (vs := [vI (iand x2 (ixor (ishl 1 x3) (-1)))]) (st := []) (c := 5) h mv_X5_finds lk_X11_297 rfl rfl rfl rfl (Nat.le_of_ble_eq_true rfl) (Nat.le_of_ble_eq_true rfl) rfl dX11_bars_66 rfl z2 (fun r19 i19 l19 rg19 h => ?_)
    obtain ⟨hk22, hk23⟩ := h
    refine g_if_ne (tgt := 80) (pc' := 72) rg19 Iff.rfl dX11_bars_69 rfl rfl (fun c21 => ?_) (fun c21 => ?_)
    · have h := hk23 c21
      refine g_iinc (pc' := 83) (L' := [(3, vI (x3 + 1)), (0, vR (some 6)), (2, vI x2)]) 2 dX11_bars_80 rfl (Nat.le_of_ble_eq_true rfl) rfl rfl ?_
      refine g_goto (tgt := 44) dX11_bars_83 rfl ?_
      refine g_sub (L' := [(0, vR (some 6)), (2, vI x2), (3, vI (x3 + 1))]) [1, 2, 0] rfl ?_
      exact h
    · have h := hk22 c21
      refine g_iload_n (pc' := 73) 1 dX11_bars_72 rfl rfl ?_
      refine g_iconst (pc' := 74) dX11_bars_73 rfl ?_
      refine g_iload_n (pc' := 75) 2 dX11_bars_74 rfl rfl ?_
      refine g_ishl (pc' := 76) dX11_bars_75 rfl ?_
      refine g_iconst (pc' := 77) dX11_bars_76 rfl ?_
      refine g_ixor (pc' := 78) dX11_bars_77 rfl ?_
      refine g_iand (pc' := 79) dX11_bars_78 rfl ?_
      refine g_istore_n (pc' := 80) (L' := [(2, vI (iand x2 (ixor (ishl 1 x3) (-1)))), (0, vR (some 6)), (3, vI x3)]) dX11_bars_79 rfl (Nat.le_of_ble_eq_true rfl) rfl ?_
      refine g_iinc (pc' := 83) (L' := [(3, vI (x3 + 1)), (2, vI (iand x2 (ixor (ishl 1 x3) (-1)))), (0, vR (some 6))]) 2 dX11_bars_80 rfl (Nat.le_of_ble_eq_true rfl) rfl rfl ?_
      refine g_goto (tgt := 44) dX11_bars_83 rfl ?_
      refine g_sub (L' := [(0, vR (some 6)), (2, vI (iand x2 (ixor (ishl 1 x3) (-1)))), (3, vI (x3 + 1))]) [2, 1, 0] rfl ?_
      exact h

theorem dX11_third_0 : decode cX11_third 0 = .ok (.iload_n 1, 1) := by decide +kernel
theorem dX11_third_1 : decode cX11_third 1 = .ok (.invokestatic 260, 3) := by decide +kernel
theorem dX11_third_4 : decode cX11_third 4 = .ok (.ifCond .eq 17, 3) := by decide +kernel
theorem dX11_third_7 : decode cX11_third 7 = .ok (.iload_n 2, 1) := by decide +kernel
theorem dX11_third_8 : decode cX11_third 8 = .ok (.aload_n 0, 1) := by decide +kernel
theorem dX11_third_9 : decode cX11_third 9 = .ok (.getfield 10, 3) := by decide +kernel
theorem dX11_third_12 : decode cX11_third 12 = .ok (.getfield 138, 3) := by decide +kernel
theorem dX11_third_15 : decode cX11_third 15 = .ok (.invokestatic 128, 3) := by decide +kernel
theorem dX11_third_18 : decode cX11_third 18 = .ok (.ifCond .ne 5, 3) := by decide +kernel
theorem dX11_third_21 : decode cX11_third 21 = .ok (.iconst (-1), 1) := by decide +kernel
theorem dX11_third_22 : decode cX11_third 22 = .ok (.ireturn, 1) := by decide +kernel
theorem dX11_third_23 : decode cX11_third 23 = .ok (.aload_n 0, 1) := by decide +kernel
theorem dX11_third_24 : decode cX11_third 24 = .ok (.iload_n 1, 1) := by decide +kernel
theorem dX11_third_25 : decode cX11_third 25 = .ok (.invokevirtual 263, 3) := by decide +kernel
theorem dX11_third_28 : decode cX11_third 28 = .ok (.aload_n 0, 1) := by decide +kernel
theorem dX11_third_29 : decode cX11_third 29 = .ok (.getfield 66, 3) := by decide +kernel
theorem dX11_third_32 : decode cX11_third 32 = .ok (.getfield 266, 3) := by decide +kernel
theorem dX11_third_35 : decode cX11_third 35 = .ok (.ifCond .ne 5, 3) := by decide +kernel
theorem dX11_third_38 : decode cX11_third 38 = .ok (.iconst (-1), 1) := by decide +kernel
theorem dX11_third_39 : decode cX11_third 39 = .ok (.ireturn, 1) := by decide +kernel
theorem dX11_third_40 : decode cX11_third 40 = .ok (.aload_n 0, 1) := by decide +kernel
theorem dX11_third_41 : decode cX11_third 41 = .ok (.getfield 70, 3) := by decide +kernel
theorem dX11_third_44 : decode cX11_third 44 = .ok (.iload_n 2, 1) := by decide +kernel
theorem dX11_third_45 : decode cX11_third 45 = .ok (.aload_n 0, 1) := by decide +kernel
theorem dX11_third_46 : decode cX11_third 46 = .ok (.getfield 66, 3) := by decide +kernel
theorem dX11_third_49 : decode cX11_third 49 = .ok (.getfield 272, 3) := by decide +kernel
theorem dX11_third_52 : decode cX11_third 52 = .ok (.invokevirtual 300, 3) := by decide +kernel
theorem dX11_third_55 : decode cX11_third 55 = .ok (.aload_n 0, 1) := by decide +kernel
theorem dX11_third_56 : decode cX11_third 56 = .ok (.getfield 66, 3) := by decide +kernel
theorem dX11_third_59 : decode cX11_third 59 = .ok (.getfield 272, 3) := by decide +kernel
theorem dX11_third_62 : decode cX11_third 62 = .ok (.isub, 1) := by decide +kernel
theorem dX11_third_63 : decode cX11_third 63 = .ok (.ireturn, 1) := by decide +kernel
set_option maxRecDepth 20000 in
theorem s_X11_third {w : Wd} {d : Nat} {P : Int → IM → LM → Prop} {i : IM} {l : LM} (p0 : Int) (p1 : Int)  (hd : 1 ≤ d) (h : ((rg p0) ∧ (((1 ≤ p0 ∧ p0 ≤ 4095) → rg p1) ∧ (((1 ≤ p0 ∧ p0 ≤ 4095) ∧ (0 ≤ p1 ∧ p1 < i 7 9)) → cVd w d X_X11_survey [vR (some 6), vI p0] i l (fun i9 l9 => (((i9 63 11 = 0) → P (-1) i9 l9) ∧ ((¬ (i9 63 11 = 0)) → cI w d X_X5_highest [vR (some 73), vI p1, vI (i9 63 13)] i9 l9 (fun r15 i15 l15 => ((rg (r15 - (i15 63 13))) ∧ P (r15 - (i15 63 13)) i15 l15)))))) ∧ ((¬ ((1 ≤ p0 ∧ p0 ≤ 4095) ∧ (0 ≤ p1 ∧ p1 < i 7 9))) → P (-1) i l)))) : gI w d X_X11_third P i l 0 [(0, vR (some 6)), (1, vI p0), (2, vI p1)] [] := by
  obtain ⟨ob1, h⟩ := h
  refine g_iload_n (pc' := 1) 1 dX11_third_0 rfl rfl ?_
  refine g_pSI (pc' := 4) (vs := [vI p0]) (st := []) (val := bI (1 ≤ p0 ∧ p0 ≤ 4095)) (sp_X11_areMonths (le_hd hd rfl) ob1) mk_X11_areMonths ms_X11_areMonths lk_X11_260 rfl (Nat.le_of_ble_eq_true rfl) (Nat.le_of_ble_eq_true rfl) rfl dX11_third_1 rfl z2 (fun rg2 => ?_)
  obtain ⟨hob6, hk20, hk21⟩ := h
  have hk20g : ((1 ≤ p0 ∧ p0 ≤ 4095) ∧ (0 ≤ p1 ∧ p1 < i 7 9)) → gI w d X_X11_third P i l 23 [(0, vR (some 6)), (1, vI p0), (2, vI p1)] [] := by
    intro hp
    have h := hk20 hp
    refine g_aload_n (pc' := 24) 0 dX11_third_23 rfl rfl ?_
    refine g_iload_n (pc' := 25) 1 dX11_third_24 rfl rfl ?_
    refine g_cVV (pc' := 28) (vs := [vI p0]) (st := []) (c := 11) h mv_X11_survey lk_X11_263 rfl rfl rfl rfl (Nat.le_of_ble_eq_true rfl) (Nat.le_of_ble_eq_true rfl) rfl dX11_third_25 rfl z2 (fun i9 l9 h => ?_)
    refine g_aload_n (pc' := 29) 0 dX11_third_28 rfl rfl ?_
    refine g_getR (pc' := 32) (o := some 63) fl_X11_66 rfl rfl rfl dX11_third_29 rfl ?_
    refine g_getI (pc' := 35) (z := 11) rfl fl_X11_266 rfl rfl dX11_third_32 rfl (fun rg10 => ?_)
    obtain ⟨hk18, hk19⟩ := h
    refine g_if_ne (tgt := 40) (pc' := 38) rg10 Iff.rfl dX11_third_35 rfl rfl (fun c12 => ?_) (fun c12 => ?_)
    · have h := hk19 c12
      refine g_aload_n (pc' := 41) 0 dX11_third_40 rfl rfl ?_
      refine g_getR (pc' := 44) (o := some 73) fl_X11_70 rfl rfl rfl dX11_third_41 rfl ?_
      refine g_iload_n (pc' := 45) 2 dX11_third_44 rfl rfl ?_
      refine g_aload_n (pc' := 46) 0 dX11_third_45 rfl rfl ?_
      refine g_getR (pc' := 49) (o := some 63) fl_X11_66 rfl rfl rfl dX11_third_46 rfl ?_
      refine g_getI (pc' := 52) (z := 13) rfl fl_X11_272 rfl rfl dX11_third_49 rfl (fun rg14 => ?_)
      refine g_cVI (pc' := 55) (vs := [vI p1, vI (i9 63 13)]) (st := []) (c := 5) h mv_X5_highest lk_X11_300 rfl rfl rfl rfl (Nat.le_of_ble_eq_true rfl) (Nat.le_of_ble_eq_true rfl) rfl dX11_third_52 rfl z2 (fun r15 i15 l15 rg15 h => ?_)
      obtain ⟨ob17, h⟩ := h
      refine g_aload_n (pc' := 56) 0 dX11_third_55 rfl rfl ?_
      refine g_getR (pc' := 59) (o := some 63) fl_X11_66 rfl rfl rfl dX11_third_56 rfl ?_
      refine g_getI (pc' := 62) (z := 13) rfl fl_X11_272 rfl rfl dX11_third_59 rfl (fun rg16 => ?_)
      refine g_isub (pc' := 63) dX11_third_62 rfl ?_
      exact g_retI rfl ob17 dX11_third_63 h
    · have h := hk18 c12
      refine g_iconst (pc' := 39) dX11_third_38 rfl ?_
      exact g_retI rfl (rg_lit rfl) dX11_third_39 h
  have hk21g : (¬ ((1 ≤ p0 ∧ p0 ≤ 4095) ∧ (0 ≤ p1 ∧ p1 < i 7 9))) → gI w d X_X11_third P i l 21 [(0, vR (some 6)), (1, vI p0), (2, vI p1)] [] := by
    intro hp
    have h := hk21 hp
    refine g_iconst (pc' := 22) dX11_third_21 rfl ?_
    exact g_retI rfl (rg_lit rfl) dX11_third_22 h
  refine g_if_eq (tgt := 21) (pc' := 7) rg2 (bI_eq _) dX11_third_4 rfl rfl (fun c4 => ?_) (fun c4n => ?_)
  · exact hk21g (fun q => c4 q.1)
  · have c4 := Decidable.of_not_not c4n
    refine g_iload_n (pc' := 8) 2 dX11_third_7 rfl rfl ?_
    refine g_aload_n (pc' := 9) 0 dX11_third_8 rfl rfl ?_
    refine g_getR (pc' := 12) (o := some 7) fl_X11_10 rfl rfl rfl dX11_third_9 rfl ?_
    refine g_getI (pc' := 15) (z := 9) rfl fl_X11_138 rfl rfl dX11_third_12 rfl (fun rg5 => ?_)
    refine g_pSI (pc' := 18) (vs := [vI p1, vI (i 7 9)]) (st := []) (val := bI (0 ≤ p1 ∧ p1 < i 7 9)) (sp_X11_below (le_hd hd rfl) (hob6 c4) rg5) mk_X11_below ms_X11_below lk_X11_128 rfl (Nat.le_of_ble_eq_true rfl) (Nat.le_of_ble_eq_true rfl) rfl dX11_third_15 rfl z2 (fun rg7 => ?_)
    refine g_if_ne (tgt := 23) (pc' := 21) rg7 (bI_eq _) dX11_third_18 rfl rfl (fun c8n => ?_) (fun c8 => ?_)
    · have c8 := Decidable.of_not_not c8n
      exact hk20g ⟨c4, c8⟩
    · exact hk21g (fun q => c8 q.2)
theorem e_X11_third {w : Wd} {d : Nat} {P : Int → IM → LM → Prop} {i : IM} {l : LM} {p0 : Int} {p1 : Int}  (h : gI w d X_X11_third P i l 0 [(0, vR (some 6)), (1, vI p0), (2, vI p1)] []) : cI w (d + 1) X_X11_third [vR (some 6), vI p0, vI p1] i l P := CI_of (by decide +kernel) (Nat.le_of_ble_eq_true rfl) h

theorem dX11_near_0 : decode cX11_near 0 = .ok (.iload_n 1, 1) := by decide +kernel
theorem dX11_near_1 : decode cX11_near 1 = .ok (.iconst 2, 1) := by decide +kernel
theorem dX11_near_2 : decode cX11_near 2 = .ok (.invokestatic 107, 3) := by decide +kernel
theorem dX11_near_5 : decode cX11_near 5 = .ok (.ifCond .ne 5, 3) := by decide +kernel
theorem dX11_near_8 : decode cX11_near 8 = .ok (.iconst (-1), 1) := by decide +kernel
theorem dX11_near_9 : decode cX11_near 9 = .ok (.ireturn, 1) := by decide +kernel
theorem dX11_near_10 : decode cX11_near 10 = .ok (.aload_n 0, 1) := by decide +kernel
theorem dX11_near_11 : decode cX11_near 11 = .ok (.getfield 50, 3) := by decide +kernel
theorem dX11_near_14 : decode cX11_near 14 = .ok (.invokevirtual 227, 3) := by decide +kernel
theorem dX11_near_17 : decode cX11_near 17 = .ok (.aload_n 0, 1) := by decide +kernel
theorem dX11_near_18 : decode cX11_near 18 = .ok (.getfield 50, 3) := by decide +kernel
theorem dX11_near_21 : decode cX11_near 21 = .ok (.invokevirtual 303, 3) := by decide +kernel
theorem dX11_near_24 : decode cX11_near 24 = .ok (.istore_n 2, 1) := by decide +kernel
theorem dX11_near_25 : decode cX11_near 25 = .ok (.iload_n 2, 1) := by decide +kernel
theorem dX11_near_26 : decode cX11_near 26 = .ok (.ifCond .ge 5, 3) := by decide +kernel
theorem dX11_near_29 : decode cX11_near 29 = .ok (.iconst (-1), 1) := by decide +kernel
theorem dX11_near_30 : decode cX11_near 30 = .ok (.ireturn, 1) := by decide +kernel
theorem dX11_near_31 : decode cX11_near 31 = .ok (.iload_n 1, 1) := by decide +kernel
theorem dX11_near_32 : decode cX11_near 32 = .ok (.ifCond .ne 11, 3) := by decide +kernel
theorem dX11_near_35 : decode cX11_near 35 = .ok (.iload_n 2, 1) := by decide +kernel
theorem dX11_near_36 : decode cX11_near 36 = .ok (.bipush 8, 2) := by decide +kernel
theorem dX11_near_38 : decode cX11_near 38 = .ok (.idiv, 1) := by decide +kernel
theorem dX11_near_39 : decode cX11_near 39 = .ok (.bipush 8, 2) := by decide +kernel
theorem dX11_near_41 : decode cX11_near 41 = .ok (.irem, 1) := by decide +kernel
theorem dX11_near_42 : decode cX11_near 42 = .ok (.ireturn, 1) := by decide +kernel
theorem dX11_near_43 : decode cX11_near 43 = .ok (.iload_n 1, 1) := by decide +kernel
theorem dX11_near_44 : decode cX11_near 44 = .ok (.iconst 1, 1) := by decide +kernel
theorem dX11_near_45 : decode cX11_near 45 = .ok (.if_icmp .ne 10, 3) := by decide +kernel
theorem dX11_near_48 : decode cX11_near 48 = .ok (.iload_n 2, 1) := by decide +kernel
theorem dX11_near_49 : decode cX11_near 49 = .ok (.bipush 8, 2) := by decide +kernel
theorem dX11_near_51 : decode cX11_near 51 = .ok (.irem, 1) := by decide +kernel
theorem dX11_near_52 : decode cX11_near 52 = .ok (.goto 7, 3) := by decide +kernel
theorem dX11_near_55 : decode cX11_near 55 = .ok (.iload_n 2, 1) := by decide +kernel
theorem dX11_near_56 : decode cX11_near 56 = .ok (.bipush 64, 2) := by decide +kernel
theorem dX11_near_58 : decode cX11_near 58 = .ok (.idiv, 1) := by decide +kernel
theorem dX11_near_59 : decode cX11_near 59 = .ok (.ireturn, 1) := by decide +kernel
set_option maxRecDepth 20000 in
theorem s_X11_near {w : Wd} {d : Nat} {P : Int → IM → LM → Prop} {i : IM} {l : LM} (p0 : Int)  (hd : 1 ≤ d) (h : ((rg p0) ∧ (((0 ≤ p0 ∧ p0 ≤ 2) → cVd w d X_X8_refresh [vR (some 44)] i l (fun i5 l5 => cI w d X_X8_nearest [vR (some 44)] i5 l5 (fun r6 i6 l6 => ((((0 ≤ r6) ∧ (¬ (p0 = 0))) → ((rg (if (p0 = 1) then Int.tmod r6 8 else Int.tdiv r6 64)) ∧ P (if (p0 = 1) then Int.tmod r6 8 else Int.tdiv r6 64) i6 l6)) ∧ (((0 ≤ r6) ∧ (p0 = 0)) → ((rg (Int.tdiv r6 8)) ∧ (rg (Int.tmod (Int.tdiv r6 8) 8)) ∧ P (Int.tmod (Int.tdiv r6 8) 8) i6 l6)) ∧ ((¬ (0 ≤ r6)) → P (-1) i6 l6))))) ∧ ((¬ (0 ≤ p0 ∧ p0 ≤ 2)) → P (-1) i l)))) : gI w d X_X11_near P i l 0 [(0, vR (some 6)), (1, vI p0)] [] := by
  obtain ⟨ob1, h⟩ := h
  refine g_iload_n (pc' := 1) 1 dX11_near_0 rfl rfl ?_
  refine g_iconst (pc' := 2) dX11_near_1 rfl ?_
  refine g_pSI (pc' := 5) (vs := [vI p0, vI 2]) (st := []) (val := bI (0 ≤ p0 ∧ p0 ≤ 2)) (sp_X11_upTo (le_hd hd rfl) ob1 (rg_lit rfl)) mk_X11_upTo ms_X11_upTo lk_X11_107 rfl (Nat.le_of_ble_eq_true rfl) (Nat.le_of_ble_eq_true rfl) rfl dX11_near_2 rfl z2 (fun rg2 => ?_)
  obtain ⟨hk31, hk32⟩ := h
  have hk31g : (0 ≤ p0 ∧ p0 ≤ 2) → gI w d X_X11_near P i l 10 [(0, vR (some 6)), (1, vI p0)] [] := by
    intro hp
    have h := hk31 hp
    refine g_aload_n (pc' := 11) 0 dX11_near_10 rfl rfl ?_
    refine g_getR (pc' := 14) (o := some 44) fl_X11_50 rfl rfl rfl dX11_near_11 rfl ?_
    refine g_cVV (pc' := 17) (vs := []) (st := []) (c := 8) h mv_X8_refresh lk_X11_227 rfl rfl rfl rfl (Nat.le_of_ble_eq_true rfl) (Nat.le_of_ble_eq_true rfl) rfl dX11_near_14 rfl z2 (fun i5 l5 h => ?_)
    refine g_aload_n (pc' := 18) 0 dX11_near_17 rfl rfl ?_
    refine g_getR (pc' := 21) (o := some 44) fl_X11_50 rfl rfl rfl dX11_near_18 rfl ?_
    refine g_cVI (pc' := 24) (vs := []) (st := []) (c := 8) h mv_X8_nearest lk_X11_303 rfl rfl rfl rfl (Nat.le_of_ble_eq_true rfl) (Nat.le_of_ble_eq_true rfl) rfl dX11_near_21 rfl z2 (fun r6 i6 l6 rg6 h => ?_)
    refine g_istore_n (pc' := 25) (L' := [(2, vI r6), (0, vR (some 6)), (1, vI p0)]) dX11_near_24 rfl (Nat.le_of_ble_eq_true rfl) rfl ?_
    refine g_iload_n (pc' := 26) 0 dX11_near_25 rfl rfl ?_
    obtain ⟨hk28, hk29, hk30⟩ := h
    have hk28g : ((0 ≤ r6) ∧ (¬ (p0 = 0))) → gI w d X_X11_near P i6 l6 43 [(2, vI r6), (0, vR (some 6)), (1, vI p0)] [] := by
      intro hp
      have h := hk28 hp
      refine g_iload_n (pc' := 44) 2 dX11_near_43 rfl rfl ?_
      refine g_iconst (pc' := 45) dX11_near_44 rfl ?_
      have hJ : gI w d X_X11_near P i6 l6 59 [(2, vI r6), (0, vR (some 6)), (1, vI p0)] [vI (if (p0 = 1) then Int.tmod r6 8 else Int.tdiv r6 64)] := by
        obtain ⟨ob25, h⟩ := h
        exact g_retI rfl ob25 dX11_near_59 h
      refine g_icmp_ne (tgt := 55) (pc' := 48) ob1 (rg_lit rfl) Iff.rfl dX11_near_45 rfl rfl (fun c24 => ?_) (fun c24 => ?_)
      · refine g_iload_n (pc' := 56) 0 dX11_near_55 rfl rfl ?_
        refine g_bipush (pc' := 58) dX11_near_56 rfl rfl ?_
        refine g_idiv (pc' := 59) dX11_near_58 rfl rg6 (rg_lit rfl) (by decide) ?_
        rw [if_neg c24 (α := Int) (t := Int.tmod r6 8) (e := Int.tdiv r6 64)] at hJ
        exact hJ
      · refine g_iload_n (pc' := 49) 0 dX11_near_48 rfl rfl ?_
        refine g_bipush (pc' := 51) dX11_near_49 rfl rfl ?_
        refine g_irem (pc' := 52) dX11_near_51 rfl rg6 (rg_lit rfl) (by decide) ?_
        refine g_goto (tgt := 59) dX11_near_52 rfl ?_
        rw [if_pos c24 (α := Int) (t := Int.tmod r6 8) (e := Int.tdiv r6 64)] at hJ
        exact hJ
    have hk29g : ((0 ≤ r6) ∧ (p0 = 0)) → gI w d X_X11_near P i6 l6 35 [(2, vI r6), (0, vR (some 6)), (1, vI p0)] [] := by
      intro hp
      have h := hk29 hp
      obtain ⟨ob26, ob27, h⟩ := h
      refine g_iload_n (pc' := 36) 0 dX11_near_35 rfl rfl ?_
      refine g_bipush (pc' := 38) dX11_near_36 rfl rfl ?_
      refine g_idiv (pc' := 39) dX11_near_38 rfl rg6 (rg_lit rfl) (by decide) ?_
      refine g_bipush (pc' := 41) dX11_near_39 rfl rfl ?_
      refine g_irem (pc' := 42) dX11_near_41 rfl ob26 (rg_lit rfl) (by decide) ?_
      exact g_retI rfl ob27 dX11_near_42 h
    have hk30g : (¬ (0 ≤ r6)) → gI w d X_X11_near P i6 l6 29 [(2, vI r6), (0, vR (some 6)), (1, vI p0)] [] := by
      intro hp
      have h := hk30 hp
      refine g_iconst (pc' := 30) dX11_near_29 rfl ?_
      exact g_retI rfl (rg_lit rfl) dX11_near_30 h
    refine g_if_ge (tgt := 31) (pc' := 29) rg6 Iff.rfl dX11_near_26 rfl rfl (fun c20 => ?_) (fun c20 => ?_)
    · refine g_iload_n (pc' := 32) 2 dX11_near_31 rfl rfl ?_
      refine g_if_ne (tgt := 43) (pc' := 35) ob1 Iff.rfl dX11_near_32 rfl rfl (fun c21 => ?_) (fun c21 => ?_)
      · exact hk28g ⟨c20, c21⟩
      · exact hk29g ⟨c20, c21⟩
    · exact hk30g c20
  have hk32g : (¬ (0 ≤ p0 ∧ p0 ≤ 2)) → gI w d X_X11_near P i l 8 [(0, vR (some 6)), (1, vI p0)] [] := by
    intro hp
    have h := hk32 hp
    refine g_iconst (pc' := 9) dX11_near_8 rfl ?_
    exact g_retI rfl (rg_lit rfl) dX11_near_9 h
  refine g_if_ne (tgt := 10) (pc' := 8) rg2 (bI_eq _) dX11_near_5 rfl rfl (fun c4n => ?_) (fun c4 => ?_)
  · have c4 := Decidable.of_not_not c4n
    exact hk31g c4
  · exact hk32g c4
theorem e_X11_near {w : Wd} {d : Nat} {P : Int → IM → LM → Prop} {i : IM} {l : LM} {p0 : Int}  (h : gI w d X_X11_near P i l 0 [(0, vR (some 6)), (1, vI p0)] []) : cI w (d + 1) X_X11_near [vR (some 6), vI p0] i l P := CI_of (by decide +kernel) (Nat.le_of_ble_eq_true rfl) h

theorem dX11_soon_0 : decode cX11_soon 0 = .ok (.iload_n 1, 1) := by decide +kernel
theorem dX11_soon_1 : decode cX11_soon 1 = .ok (.aload_n 0, 1) := by decide +kernel
theorem dX11_soon_2 : decode cX11_soon 2 = .ok (.getfield 10, 3) := by decide +kernel
theorem dX11_soon_5 : decode cX11_soon 5 = .ok (.getfield 167, 3) := by decide +kernel
theorem dX11_soon_8 : decode cX11_soon 8 = .ok (.invokestatic 128, 3) := by decide +kernel
theorem dX11_soon_11 : decode cX11_soon 11 = .ok (.ifCond .eq 31, 3) := by decide +kernel
theorem dX11_soon_14 : decode cX11_soon 14 = .ok (.iload_n 2, 1) := by decide +kernel
theorem dX11_soon_15 : decode cX11_soon 15 = .ok (.bipush 120, 2) := by decide +kernel
theorem dX11_soon_17 : decode cX11_soon 17 = .ok (.invokestatic 128, 3) := by decide +kernel
theorem dX11_soon_20 : decode cX11_soon 20 = .ok (.ifCond .eq 22, 3) := by decide +kernel
theorem dX11_soon_23 : decode cX11_soon 23 = .ok (.iload_n 3, 1) := by decide +kernel
theorem dX11_soon_24 : decode cX11_soon 24 = .ok (.bipush 10, 2) := by decide +kernel
theorem dX11_soon_26 : decode cX11_soon 26 = .ok (.invokestatic 128, 3) := by decide +kernel
theorem dX11_soon_29 : decode cX11_soon 29 = .ok (.ifCond .eq 13, 3) := by decide +kernel
theorem dX11_soon_32 : decode cX11_soon 32 = .ok (.iload 4, 2) := by decide +kernel
theorem dX11_soon_34 : decode cX11_soon 34 = .ok (.bipush 10, 2) := by decide +kernel
theorem dX11_soon_36 : decode cX11_soon 36 = .ok (.invokestatic 128, 3) := by decide +kernel
theorem dX11_soon_39 : decode cX11_soon 39 = .ok (.ifCond .ne 5, 3) := by decide +kernel
theorem dX11_soon_42 : decode cX11_soon 42 = .ok (.iconst (-1), 1) := by decide +kernel
theorem dX11_soon_43 : decode cX11_soon 43 = .ok (.ireturn, 1) := by decide +kernel
theorem dX11_soon_44 : decode cX11_soon 44 = .ok (.aload_n 0, 1) := by decide +kernel
theorem dX11_soon_45 : decode cX11_soon 45 = .ok (.getfield 85, 3) := by decide +kernel
theorem dX11_soon_48 : decode cX11_soon 48 = .ok (.iload_n 1, 1) := by decide +kernel
theorem dX11_soon_49 : decode cX11_soon 49 = .ok (.iload_n 2, 1) := by decide +kernel
theorem dX11_soon_50 : decode cX11_soon 50 = .ok (.iload_n 3, 1) := by decide +kernel
theorem dX11_soon_51 : decode cX11_soon 51 = .ok (.iload 4, 2) := by decide +kernel
theorem dX11_soon_53 : decode cX11_soon 53 = .ok (.invokevirtual 306, 3) := by decide +kernel
theorem dX11_soon_56 : decode cX11_soon 56 = .ok (.aload_n 0, 1) := by decide +kernel
theorem dX11_soon_57 : decode cX11_soon 57 = .ok (.getfield 85, 3) := by decide +kernel
theorem dX11_soon_60 : decode cX11_soon 60 = .ok (.getfield 310, 3) := by decide +kernel
theorem dX11_soon_63 : decode cX11_soon 63 = .ok (.ireturn, 1) := by decide +kernel
set_option maxRecDepth 20000 in
theorem s_X11_soon {w : Wd} {d : Nat} {P : Int → IM → LM → Prop} {i : IM} {l : LM} (p0 : Int) (p1 : Int) (p2 : Int) (p3 : Int)  (hd : 1 ≤ d) (h : ((rg p0) ∧ (((0 ≤ p0 ∧ p0 < i 7 10) → rg p1) ∧ ((0 ≤ p0 ∧ p0 < i 7 10) → (0 ≤ p1 ∧ p1 < 120) → rg p2) ∧ ((0 ≤ p0 ∧ p0 < i 7 10) → (0 ≤ p1 ∧ p1 < 120) → (0 ≤ p2 ∧ p2 < 10) → rg p3) ∧ (((0 ≤ p0 ∧ p0 < i 7 10) ∧ ((0 ≤ p1 ∧ p1 < 120) ∧ ((0 ≤ p2 ∧ p2 < 10) ∧ (0 ≤ p3 ∧ p3 < 10)))) → cVd w d X_X10_find [vR (some 90), vI p0, vI p1, vI p2, vI p3] i l (fun i15 l15 => P (i15 90 5) i15 l15)) ∧ ((¬ ((0 ≤ p0 ∧ p0 < i 7 10) ∧ ((0 ≤ p1 ∧ p1 < 120) ∧ ((0 ≤ p2 ∧ p2 < 10) ∧ (0 ≤ p3 ∧ p3 < 10))))) → P (-1) i l)))) : gI w d X_X11_soon P i l 0 [(0, vR (some 6)), (1, vI p0), (2, vI p1), (3, vI p2), (4, vI p3)] [] := by
  obtain ⟨ob2, h⟩ := h
  refine g_iload_n (pc' := 1) 1 dX11_soon_0 rfl rfl ?_
  refine g_aload_n (pc' := 2) 0 dX11_soon_1 rfl rfl ?_
  refine g_getR (pc' := 5) (o := some 7) fl_X11_10 rfl rfl rfl dX11_soon_2 rfl ?_
  refine g_getI (pc' := 8) (z := 10) rfl fl_X11_167 rfl rfl dX11_soon_5 rfl (fun rg1 => ?_)
  refine g_pSI (pc' := 11) (vs := [vI p0, vI (i 7 10)]) (st := []) (val := bI (0 ≤ p0 ∧ p0 < i 7 10)) (sp_X11_below (le_hd hd rfl) ob2 rg1) mk_X11_below ms_X11_below lk_X11_128 rfl (Nat.le_of_ble_eq_true rfl) (Nat.le_of_ble_eq_true rfl) rfl dX11_soon_8 rfl z2 (fun rg3 => ?_)
  obtain ⟨hob6, hob9, hob12, hk17, hk18⟩ := h
  have hk17g : ((0 ≤ p0 ∧ p0 < i 7 10) ∧ ((0 ≤ p1 ∧ p1 < 120) ∧ ((0 ≤ p2 ∧ p2 < 10) ∧ (0 ≤ p3 ∧ p3 < 10)))) → gI w d X_X11_soon P i l 44 [(0, vR (some 6)), (1, vI p0), (2, vI p1), (3, vI p2), (4, vI p3)] [] := by
    intro hp
    have h := hk17 hp
    refine g_aload_n (pc' := 45) 0 dX11_soon_44 rfl rfl ?_
    refine g_getR (pc' := 48) (o := some 90) fl_X11_85 rfl rfl rfl dX11_soon_45 rfl ?_
    refine g_iload_n (pc' := 49) 1 dX11_soon_48 rfl rfl ?_
    refine g_iload_n (pc' := 50) 2 dX11_soon_49 rfl rfl ?_
    refine g_iload_n (pc' := 51) 3 dX11_soon_50 rfl rfl ?_
    refine g_iload (pc' := 53) 4 dX11_soon_51 rfl rfl ?_
    refine g_cVV (pc' := 56) (vs := [vI p0, vI p1, vI p2, vI p3]) (st := []) (c := 10) h mv_X10_find lk_X11_306 rfl rfl rfl rfl (Nat.le_of_ble_eq_true rfl) (Nat.le_of_ble_eq_true rfl) rfl dX11_soon_53 rfl z2 (fun i15 l15 h => ?_)
    refine g_aload_n (pc' := 57) 0 dX11_soon_56 rfl rfl ?_
    refine g_getR (pc' := 60) (o := some 90) fl_X11_85 rfl rfl rfl dX11_soon_57 rfl ?_
    refine g_getI (pc' := 63) (z := 5) rfl fl_X11_310 rfl rfl dX11_soon_60 rfl (fun rg16 => ?_)
    exact g_retI rfl rg16 dX11_soon_63 h
  have hk18g : (¬ ((0 ≤ p0 ∧ p0 < i 7 10) ∧ ((0 ≤ p1 ∧ p1 < 120) ∧ ((0 ≤ p2 ∧ p2 < 10) ∧ (0 ≤ p3 ∧ p3 < 10))))) → gI w d X_X11_soon P i l 42 [(0, vR (some 6)), (1, vI p0), (2, vI p1), (3, vI p2), (4, vI p3)] [] := by
    intro hp
    have h := hk18 hp
    refine g_iconst (pc' := 43) dX11_soon_42 rfl ?_
    exact g_retI rfl (rg_lit rfl) dX11_soon_43 h
  refine g_if_eq (tgt := 42) (pc' := 14) rg3 (bI_eq _) dX11_soon_11 rfl rfl (fun c5 => ?_) (fun c5n => ?_)
  · exact hk18g (fun q => c5 q.1)
  · have c5 := Decidable.of_not_not c5n
    refine g_iload_n (pc' := 15) 2 dX11_soon_14 rfl rfl ?_
    refine g_bipush (pc' := 17) dX11_soon_15 rfl rfl ?_
    refine g_pSI (pc' := 20) (vs := [vI p1, vI 120]) (st := []) (val := bI (0 ≤ p1 ∧ p1 < 120)) (sp_X11_below (le_hd hd rfl) (hob6 c5) (rg_lit rfl)) mk_X11_below ms_X11_below lk_X11_128 rfl (Nat.le_of_ble_eq_true rfl) (Nat.le_of_ble_eq_true rfl) rfl dX11_soon_17 rfl z2 (fun rg7 => ?_)
    refine g_if_eq (tgt := 42) (pc' := 23) rg7 (bI_eq _) dX11_soon_20 rfl rfl (fun c8 => ?_) (fun c8n => ?_)
    · exact hk18g (fun q => (fun q => c8 q.1) q.2)
    · have c8 := Decidable.of_not_not c8n
      refine g_iload_n (pc' := 24) 3 dX11_soon_23 rfl rfl ?_
      refine g_bipush (pc' := 26) dX11_soon_24 rfl rfl ?_
      refine g_pSI (pc' := 29) (vs := [vI p2, vI 10]) (st := []) (val := bI (0 ≤ p2 ∧ p2 < 10)) (sp_X11_below (le_hd hd rfl) (hob9 c5 c8) (rg_lit rfl)) mk_X11_below ms_X11_below lk_X11_128 rfl (Nat.le_of_ble_eq_true rfl) (Nat.le_of_ble_eq_true rfl) rfl dX11_soon_26 rfl z2 (fun rg10 => ?_)
      refine g_if_eq (tgt := 42) (pc' := 32) rg10 (bI_eq _) dX11_soon_29 rfl rfl (fun c11 => ?_) (fun c11n => ?_)
      · exact hk18g (fun q => (fun q => (fun q => c11 q.1) q.2) q.2)
      · have c11 := Decidable.of_not_not c11n
        refine g_iload (pc' := 34) 4 dX11_soon_32 rfl rfl ?_
        refine g_bipush (pc' := 36) dX11_soon_34 rfl rfl ?_
        refine g_pSI (pc' := 39) (vs := [vI p3, vI 10]) (st := []) (val := bI (0 ≤ p3 ∧ p3 < 10)) (sp_X11_below (le_hd hd rfl) (hob12 c5 c8 c11) (rg_lit rfl)) mk_X11_below ms_X11_below lk_X11_128 rfl (Nat.le_of_ble_eq_true rfl) (Nat.le_of_ble_eq_true rfl) rfl dX11_soon_36 rfl z2 (fun rg13 => ?_)
        refine g_if_ne (tgt := 44) (pc' := 42) rg13 (bI_eq _) dX11_soon_39 rfl rfl (fun c14n => ?_) (fun c14 => ?_)
        · have c14 := Decidable.of_not_not c14n
          exact hk17g ⟨c5, ⟨c8, ⟨c11, c14⟩⟩⟩
        · exact hk18g (fun q => (fun q => (fun q => c14 q.2) q.2) q.2)
theorem e_X11_soon {w : Wd} {d : Nat} {P : Int → IM → LM → Prop} {i : IM} {l : LM} {p0 : Int} {p1 : Int} {p2 : Int} {p3 : Int}  (h : gI w d X_X11_soon P i l 0 [(0, vR (some 6)), (1, vI p0), (2, vI p1), (3, vI p2), (4, vI p3)] []) : cI w (d + 1) X_X11_soon [vR (some 6), vI p0, vI p1, vI p2, vI p3] i l P := CI_of (by decide +kernel) (Nat.le_of_ble_eq_true rfl) h

theorem dX11_way_0 : decode cX11_way 0 = .ok (.iload_n 1, 1) := by decide +kernel
theorem dX11_way_1 : decode cX11_way 1 = .ok (.aload_n 0, 1) := by decide +kernel
theorem dX11_way_2 : decode cX11_way 2 = .ok (.getfield 10, 3) := by decide +kernel
theorem dX11_way_5 : decode cX11_way 5 = .ok (.getfield 167, 3) := by decide +kernel
theorem dX11_way_8 : decode cX11_way 8 = .ok (.invokestatic 128, 3) := by decide +kernel
theorem dX11_way_11 : decode cX11_way 11 = .ok (.ifCond .eq 31, 3) := by decide +kernel
theorem dX11_way_14 : decode cX11_way 14 = .ok (.iload_n 2, 1) := by decide +kernel
theorem dX11_way_15 : decode cX11_way 15 = .ok (.bipush 120, 2) := by decide +kernel
theorem dX11_way_17 : decode cX11_way 17 = .ok (.invokestatic 128, 3) := by decide +kernel
theorem dX11_way_20 : decode cX11_way 20 = .ok (.ifCond .eq 22, 3) := by decide +kernel
theorem dX11_way_23 : decode cX11_way 23 = .ok (.iload_n 3, 1) := by decide +kernel
theorem dX11_way_24 : decode cX11_way 24 = .ok (.bipush 10, 2) := by decide +kernel
theorem dX11_way_26 : decode cX11_way 26 = .ok (.invokestatic 128, 3) := by decide +kernel
theorem dX11_way_29 : decode cX11_way 29 = .ok (.ifCond .eq 13, 3) := by decide +kernel
theorem dX11_way_32 : decode cX11_way 32 = .ok (.iload 4, 2) := by decide +kernel
theorem dX11_way_34 : decode cX11_way 34 = .ok (.bipush 10, 2) := by decide +kernel
theorem dX11_way_36 : decode cX11_way 36 = .ok (.invokestatic 128, 3) := by decide +kernel
theorem dX11_way_39 : decode cX11_way 39 = .ok (.ifCond .ne 5, 3) := by decide +kernel
theorem dX11_way_42 : decode cX11_way 42 = .ok (.iconst (-1), 1) := by decide +kernel
theorem dX11_way_43 : decode cX11_way 43 = .ok (.ireturn, 1) := by decide +kernel
theorem dX11_way_44 : decode cX11_way 44 = .ok (.aload_n 0, 1) := by decide +kernel
theorem dX11_way_45 : decode cX11_way 45 = .ok (.getfield 85, 3) := by decide +kernel
theorem dX11_way_48 : decode cX11_way 48 = .ok (.iload_n 1, 1) := by decide +kernel
theorem dX11_way_49 : decode cX11_way 49 = .ok (.iload_n 2, 1) := by decide +kernel
theorem dX11_way_50 : decode cX11_way 50 = .ok (.iload_n 3, 1) := by decide +kernel
theorem dX11_way_51 : decode cX11_way 51 = .ok (.iload 4, 2) := by decide +kernel
theorem dX11_way_53 : decode cX11_way 53 = .ok (.invokevirtual 306, 3) := by decide +kernel
theorem dX11_way_56 : decode cX11_way 56 = .ok (.iload 5, 2) := by decide +kernel
theorem dX11_way_58 : decode cX11_way 58 = .ok (.iload_n 2, 1) := by decide +kernel
theorem dX11_way_59 : decode cX11_way 59 = .ok (.if_icmp .lt 15, 3) := by decide +kernel
theorem dX11_way_62 : decode cX11_way 62 = .ok (.iload 5, 2) := by decide +kernel
theorem dX11_way_64 : decode cX11_way 64 = .ok (.aload_n 0, 1) := by decide +kernel
theorem dX11_way_65 : decode cX11_way 65 = .ok (.getfield 85, 3) := by decide +kernel
theorem dX11_way_68 : decode cX11_way 68 = .ok (.getfield 310, 3) := by decide +kernel
theorem dX11_way_71 : decode cX11_way 71 = .ok (.if_icmp .le 7, 3) := by decide +kernel
theorem dX11_way_74 : decode cX11_way 74 = .ok (.iconst (-1), 1) := by decide +kernel
theorem dX11_way_75 : decode cX11_way 75 = .ok (.goto 13, 3) := by decide +kernel
theorem dX11_way_78 : decode cX11_way 78 = .ok (.aload_n 0, 1) := by decide +kernel
theorem dX11_way_79 : decode cX11_way 79 = .ok (.getfield 85, 3) := by decide +kernel
theorem dX11_way_82 : decode cX11_way 82 = .ok (.getfield 313, 3) := by decide +kernel
theorem dX11_way_85 : decode cX11_way 85 = .ok (.iload 5, 2) := by decide +kernel
theorem dX11_way_87 : decode cX11_way 87 = .ok (.iaload, 1) := by decide +kernel
theorem dX11_way_88 : decode cX11_way 88 = .ok (.ireturn, 1) := by decide +kernel
set_option maxRecDepth 20000 in
theorem s_X11_way {w : Wd} {d : Nat} {P : Int → IM → LM → Prop} {i : IM} {l : LM} (p0 : Int) (p1 : Int) (p2 : Int) (p3 : Int) (p4 : Int)  (hd : 1 ≤ d) (h : ((rg p0) ∧ (((0 ≤ p0 ∧ p0 < i 7 10) → rg p1) ∧ ((0 ≤ p0 ∧ p0 < i 7 10) → (0 ≤ p1 ∧ p1 < 120) → rg p2) ∧ ((0 ≤ p0 ∧ p0 < i 7 10) → (0 ≤ p1 ∧ p1 < 120) → (0 ≤ p2 ∧ p2 < 10) → rg p3) ∧ (((0 ≤ p0 ∧ p0 < i 7 10) ∧ ((0 ≤ p1 ∧ p1 < 120) ∧ ((0 ≤ p2 ∧ p2 < 10) ∧ (0 ≤ p3 ∧ p3 < 10)))) → cVd w d X_X10_find [vR (some 90), vI p0, vI p1, vI p2, vI p3] i l (fun i15 l15 => ((rg p4) ∧ (rg p1) ∧ (¬ (p4 < p1) → (p4 ≤ i15 90 5) → 0 ≤ p4 ∧ p4 < 120) ∧ P (if (p4 < p1) then (-1) else (if (p4 ≤ i15 90 5) then i15 93 p4 else (-1))) i15 l15))) ∧ ((¬ ((0 ≤ p0 ∧ p0 < i 7 10) ∧ ((0 ≤ p1 ∧ p1 < 120) ∧ ((0 ≤ p2 ∧ p2 < 10) ∧ (0 ≤ p3 ∧ p3 < 10))))) → P (-1) i l)))) : gI w d X_X11_way P i l 0 [(0, vR (some 6)), (1, vI p0), (2, vI p1), (3, vI p2), (4, vI p3), (5, vI p4)] [] := by
  obtain ⟨ob2, h⟩ := h
  refine g_iload_n (pc' := 1) 1 dX11_way_0 rfl rfl ?_
  refine g_aload_n (pc' := 2) 0 dX11_way_1 rfl rfl ?_
  refine g_getR (pc' := 5) (o := some 7) fl_X11_10 rfl rfl rfl dX11_way_2 rfl ?_
  refine g_getI (pc' := 8) (z := 10) rfl fl_X11_167 rfl rfl dX11_way_5 rfl (fun rg1 => ?_)
  refine g_pSI (pc' := 11) (vs := [vI p0, vI (i 7 10)]) (st := []) (val := bI (0 ≤ p0 ∧ p0 < i 7 10)) (sp_X11_below (le_hd hd rfl) ob2 rg1) mk_X11_below ms_X11_below lk_X11_128 rfl (Nat.le_of_ble_eq_true rfl) (Nat.le_of_ble_eq_true rfl) rfl dX11_way_8 rfl z2 (fun rg3 => ?_)
  obtain ⟨hob6, hob9, hob12, hk24, hk25⟩ := h
  have hk24g : ((0 ≤ p0 ∧ p0 < i 7 10) ∧ ((0 ≤ p1 ∧ p1 < 120) ∧ ((0 ≤ p2 ∧ p2 < 10) ∧ (0 ≤ p3 ∧ p3 < 10)))) → gI w d X_X11_way P i l 44 [(0, vR (some 6)), (1, vI p0), (2, vI p1), (3, vI p2), (4, vI p3), (5, vI p4)] [] := by
    intro hp
    have h := hk24 hp
    refine g_aload_n (pc' := 45) 0 dX11_way_44 rfl rfl ?_
    refine g_getR (pc' := 48) (o := some 90) fl_X11_85 rfl rfl rfl dX11_way_45 rfl ?_
    refine g_iload_n (pc' := 49) 1 dX11_way_48 rfl rfl ?_
    refine g_iload_n (pc' := 50) 2 dX11_way_49 rfl rfl ?_
    refine g_iload_n (pc' := 51) 3 dX11_way_50 rfl rfl ?_
    refine g_iload (pc' := 53) 4 dX11_way_51 rfl rfl ?_
    refine g_cVV (pc' := 56) (vs := [vI p0, vI p1, vI p2, vI p3]) (st := []) (c := 10) h mv_X10_find lk_X11_306 rfl rfl rfl rfl (Nat.le_of_ble_eq_true rfl) (Nat.le_of_ble_eq_true rfl) rfl dX11_way_53 rfl z2 (fun i15 l15 h => ?_)
    refine g_iload (pc' := 58) 5 dX11_way_56 rfl rfl ?_
    refine g_iload_n (pc' := 59) 2 dX11_way_58 rfl rfl ?_
    refine g_rg (fun hRG16 => ?_)
    obtain ⟨hob17, hob18, hob22, h⟩ := h
    have hJ : gI w d X_X11_way P i15 l15 88 [(0, vR (some 6)), (1, vI p0), (2, vI p1), (3, vI p2), (4, vI p3), (5, vI p4)] [vI (if (p4 < p1) then (-1) else (if (p4 ≤ i15 90 5) then i15 93 p4 else (-1)))] := by
      exact g_retI rfl (rg_ite (rg_lit rfl) (rg_ite (hRG16 _ _) (rg_lit rfl))) dX11_way_88 h
    refine g_icmp_lt (tgt := 74) (pc' := 62) (hob17) (hob18) Iff.rfl dX11_way_59 rfl rfl (fun c19 => ?_) (fun c19 => ?_)
    · refine g_iconst (pc' := 75) dX11_way_74 rfl ?_
      refine g_goto (tgt := 88) dX11_way_75 rfl ?_
      rw [if_pos c19 (α := Int) (t := (-1)) (e := (if (p4 ≤ i15 90 5) then i15 93 p4 else (-1)))] at hJ
      exact hJ
    · refine g_iload (pc' := 64) 5 dX11_way_62 rfl rfl ?_
      refine g_aload_n (pc' := 65) 0 dX11_way_64 rfl rfl ?_
      refine g_getR (pc' := 68) (o := some 90) fl_X11_85 rfl rfl rfl dX11_way_65 rfl ?_
      refine g_getI (pc' := 71) (z := 5) rfl fl_X11_310 rfl rfl dX11_way_68 rfl (fun rg20 => ?_)
      refine g_icmp_le (tgt := 78) (pc' := 74) (hob17) rg20 Iff.rfl dX11_way_71 rfl rfl (fun c21 => ?_) (fun c21 => ?_)
      · refine g_aload_n (pc' := 79) 0 dX11_way_78 rfl rfl ?_
        refine g_getR (pc' := 82) (o := some 90) fl_X11_85 rfl rfl rfl dX11_way_79 rfl ?_
        refine g_getR (pc' := 85) (o := some 93) fl_X11_313 rfl rfl rfl dX11_way_82 rfl ?_
        refine g_iload (pc' := 87) 5 dX11_way_85 rfl rfl ?_
        refine g_iald (pc' := 88) (N := 120) rfl rfl (Nat.lt_of_lt_of_le (Nat.lt_succ_self _) (Nat.le_of_ble_eq_true rfl)) (hob22 c19 c21) dX11_way_87 rfl (fun rg23 => ?_)
        rw [if_neg c19 (α := Int) (t := (-1)) (e := (if (p4 ≤ i15 90 5) then i15 93 p4 else (-1))), if_pos c21 (α := Int) (t := i15 93 p4) (e := (-1))] at hJ
        exact hJ
      · refine g_iconst (pc' := 75) dX11_way_74 rfl ?_
        refine g_goto (tgt := 88) dX11_way_75 rfl ?_
        rw [if_neg c19 (α := Int) (t := (-1)) (e := (if (p4 ≤ i15 90 5) then i15 93 p4 else (-1))), if_neg c21 (α := Int) (t := i15 93 p4) (e := (-1))] at hJ
        exact hJ
  have hk25g : (¬ ((0 ≤ p0 ∧ p0 < i 7 10) ∧ ((0 ≤ p1 ∧ p1 < 120) ∧ ((0 ≤ p2 ∧ p2 < 10) ∧ (0 ≤ p3 ∧ p3 < 10))))) → gI w d X_X11_way P i l 42 [(0, vR (some 6)), (1, vI p0), (2, vI p1), (3, vI p2), (4, vI p3), (5, vI p4)] [] := by
    intro hp
    have h := hk25 hp
    refine g_iconst (pc' := 43) dX11_way_42 rfl ?_
    exact g_retI rfl (rg_lit rfl) dX11_way_43 h
  refine g_if_eq (tgt := 42) (pc' := 14) rg3 (bI_eq _) dX11_way_11 rfl rfl (fun c5 => ?_) (fun c5n => ?_)
  · exact hk25g (fun q => c5 q.1)
  · have c5 := Decidable.of_not_not c5n
    refine g_iload_n (pc' := 15) 2 dX11_way_14 rfl rfl ?_
    refine g_bipush (pc' := 17) dX11_way_15 rfl rfl ?_
    refine g_pSI (pc' := 20) (vs := [vI p1, vI 120]) (st := []) (val := bI (0 ≤ p1 ∧ p1 < 120)) (sp_X11_below (le_hd hd rfl) (hob6 c5) (rg_lit rfl)) mk_X11_below ms_X11_below lk_X11_128 rfl (Nat.le_of_ble_eq_true rfl) (Nat.le_of_ble_eq_true rfl) rfl dX11_way_17 rfl z2 (fun rg7 => ?_)
    refine g_if_eq (tgt := 42) (pc' := 23) rg7 (bI_eq _) dX11_way_20 rfl rfl (fun c8 => ?_) (fun c8n => ?_)
    · exact hk25g (fun q => (fun q => c8 q.1) q.2)
    · have c8 := Decidable.of_not_not c8n
      refine g_iload_n (pc' := 24) 3 dX11_way_23 rfl rfl ?_
      refine g_bipush (pc' := 26) dX11_way_24 rfl rfl ?_
      refine g_pSI (pc' := 29) (vs := [vI p2, vI 10]) (st := []) (val := bI (0 ≤ p2 ∧ p2 < 10)) (sp_X11_below (le_hd hd rfl) (hob9 c5 c8) (rg_lit rfl)) mk_X11_below ms_X11_below lk_X11_128 rfl (Nat.le_of_ble_eq_true rfl) (Nat.le_of_ble_eq_true rfl) rfl dX11_way_26 rfl z2 (fun rg10 => ?_)
      refine g_if_eq (tgt := 42) (pc' := 32) rg10 (bI_eq _) dX11_way_29 rfl rfl (fun c11 => ?_) (fun c11n => ?_)
      · exact hk25g (fun q => (fun q => (fun q => c11 q.1) q.2) q.2)
      · have c11 := Decidable.of_not_not c11n
        refine g_iload (pc' := 34) 4 dX11_way_32 rfl rfl ?_
        refine g_bipush (pc' := 36) dX11_way_34 rfl rfl ?_
        refine g_pSI (pc' := 39) (vs := [vI p3, vI 10]) (st := []) (val := bI (0 ≤ p3 ∧ p3 < 10)) (sp_X11_below (le_hd hd rfl) (hob12 c5 c8 c11) (rg_lit rfl)) mk_X11_below ms_X11_below lk_X11_128 rfl (Nat.le_of_ble_eq_true rfl) (Nat.le_of_ble_eq_true rfl) rfl dX11_way_36 rfl z2 (fun rg13 => ?_)
        refine g_if_ne (tgt := 44) (pc' := 42) rg13 (bI_eq _) dX11_way_39 rfl rfl (fun c14n => ?_) (fun c14 => ?_)
        · have c14 := Decidable.of_not_not c14n
          exact hk24g ⟨c5, ⟨c8, ⟨c11, c14⟩⟩⟩
        · exact hk25g (fun q => (fun q => (fun q => c14 q.2) q.2) q.2)
theorem e_X11_way {w : Wd} {d : Nat} {P : Int → IM → LM → Prop} {i : IM} {l : LM} {p0 : Int} {p1 : Int} {p2 : Int} {p3 : Int} {p4 : Int}  (h : gI w d X_X11_way P i l 0 [(0, vR (some 6)), (1, vI p0), (2, vI p1), (3, vI p2), (4, vI p3), (5, vI p4)] []) : cI w (d + 1) X_X11_way [vR (some 6), vI p0, vI p1, vI p2, vI p3, vI p4] i l P := CI_of (by decide +kernel) (Nat.le_of_ble_eq_true rfl) h

theorem dX11_file_0 : decode cX11_file 0 = .ok (.iload_n 1, 1) := by decide +kernel
theorem dX11_file_1 : decode cX11_file 1 = .ok (.iconst 1, 1) := by decide +kernel
theorem dX11_file_2 : decode cX11_file 2 = .ok (.if_icmp .lt 39, 3) := by decide +kernel
theorem dX11_file_5 : decode cX11_file 5 = .ok (.iload_n 1, 1) := by decide +kernel
theorem dX11_file_6 : decode cX11_file 6 = .ok (.bipush 8, 2) := by decide +kernel
theorem dX11_file_8 : decode cX11_file 8 = .ok (.if_icmp .gt 33, 3) := by decide +kernel
theorem dX11_file_11 : decode cX11_file 11 = .ok (.iload_n 2, 1) := by decide +kernel
theorem dX11_file_12 : decode cX11_file 12 = .ok (.iconst 1, 1) := by decide +kernel
theorem dX11_file_13 : decode cX11_file 13 = .ok (.if_icmp .lt 28, 3) := by decide +kernel
theorem dX11_file_16 : decode cX11_file 16 = .ok (.iload_n 2, 1) := by decide +kernel
theorem dX11_file_17 : decode cX11_file 17 = .ok (.bipush 8, 2) := by decide +kernel
theorem dX11_file_19 : decode cX11_file 19 = .ok (.if_icmp .gt 22, 3) := by decide +kernel
theorem dX11_file_22 : decode cX11_file 22 = .ok (.iload_n 3, 1) := by decide +kernel
theorem dX11_file_23 : decode cX11_file 23 = .ok (.iconst (-1), 1) := by decide +kernel
theorem dX11_file_24 : decode cX11_file 24 = .ok (.if_icmp .eq 19, 3) := by decide +kernel
theorem dX11_file_27 : decode cX11_file 27 = .ok (.iload_n 3, 1) := by decide +kernel
theorem dX11_file_28 : decode cX11_file 28 = .ok (.aload_n 0, 1) := by decide +kernel
theorem dX11_file_29 : decode cX11_file 29 = .ok (.getfield 10, 3) := by decide +kernel
theorem dX11_file_32 : decode cX11_file 32 = .ok (.getfield 167, 3) := by decide +kernel
theorem dX11_file_35 : decode cX11_file 35 = .ok (.invokestatic 128, 3) := by decide +kernel
theorem dX11_file_38 : decode cX11_file 38 = .ok (.ifCond .ne 5, 3) := by decide +kernel
theorem dX11_file_41 : decode cX11_file 41 = .ok (.iconst (-1), 1) := by decide +kernel
theorem dX11_file_42 : decode cX11_file 42 = .ok (.ireturn, 1) := by decide +kernel
theorem dX11_file_43 : decode cX11_file 43 = .ok (.aload_n 0, 1) := by decide +kernel
theorem dX11_file_44 : decode cX11_file 44 = .ok (.getfield 99, 3) := by decide +kernel
theorem dX11_file_47 : decode cX11_file 47 = .ok (.iload_n 1, 1) := by decide +kernel
theorem dX11_file_48 : decode cX11_file 48 = .ok (.iload_n 2, 1) := by decide +kernel
theorem dX11_file_49 : decode cX11_file 49 = .ok (.invokevirtual 316, 3) := by decide +kernel
theorem dX11_file_52 : decode cX11_file 52 = .ok (.iload_n 3, 1) := by decide +kernel
theorem dX11_file_53 : decode cX11_file 53 = .ok (.iconst (-1), 1) := by decide +kernel
theorem dX11_file_54 : decode cX11_file 54 = .ok (.if_icmp .ne 11, 3) := by decide +kernel
theorem dX11_file_57 : decode cX11_file 57 = .ok (.aload_n 0, 1) := by decide +kernel
theorem dX11_file_58 : decode cX11_file 58 = .ok (.getfield 99, 3) := by decide +kernel
theorem dX11_file_61 : decode cX11_file 61 = .ok (.getfield 319, 3) := by decide +kernel
theorem dX11_file_64 : decode cX11_file 64 = .ok (.ireturn, 1) := by decide +kernel
theorem dX11_file_65 : decode cX11_file 65 = .ok (.aload_n 0, 1) := by decide +kernel
theorem dX11_file_66 : decode cX11_file 66 = .ok (.getfield 99, 3) := by decide +kernel
theorem dX11_file_69 : decode cX11_file 69 = .ok (.getfield 319, 3) := by decide +kernel
theorem dX11_file_72 : decode cX11_file 72 = .ok (.ifCond .le 15, 3) := by decide +kernel
theorem dX11_file_75 : decode cX11_file 75 = .ok (.aload_n 0, 1) := by decide +kernel
theorem dX11_file_76 : decode cX11_file 76 = .ok (.getfield 99, 3) := by decide +kernel
theorem dX11_file_79 : decode cX11_file 79 = .ok (.getfield 322, 3) := by decide +kernel
theorem dX11_file_82 : decode cX11_file 82 = .ok (.iload_n 3, 1) := by decide +kernel
theorem dX11_file_83 : decode cX11_file 83 = .ok (.iaload, 1) := by decide +kernel
theorem dX11_file_84 : decode cX11_file 84 = .ok (.goto 4, 3) := by decide +kernel
theorem dX11_file_87 : decode cX11_file 87 = .ok (.iconst (-1), 1) := by decide +kernel
theorem dX11_file_88 : decode cX11_file 88 = .ok (.ireturn, 1) := by decide +kernel
set_option maxRecDepth 20000 in
theorem s_X11_file {w : Wd} {d : Nat} {P : Int → IM → LM → Prop} {i : IM} {l : LM} (p0 : Int) (p1 : Int) (p2 : Int)  (hd : 1 ≤ d) (h : ((rg p0) ∧ (¬ (p0 < 1) → ¬ (8 < p0) → rg p1) ∧ (¬ (p0 < 1) → ¬ (8 < p0) → ¬ (p1 < 1) → ¬ (8 < p1) → rg p2) ∧ (((p0 < 1) ∨ ((8 < p0) ∨ ((p1 < 1) ∨ ((8 < p1) ∨ (¬ (p2 = (-1)) ∧ (¬ (0 ≤ p2 ∧ p2 < i 7 10))))))) → P (-1) i l) ∧ ((¬ ((p0 < 1) ∨ ((8 < p0) ∨ ((p1 < 1) ∨ ((8 < p1) ∨ (¬ (p2 = (-1)) ∧ (¬ (0 ≤ p2 ∧ p2 < i 7 10)))))))) → gI w d X_X11_file P i l 43 [(0, vR (some 6)), (1, vI p0), (2, vI p1), (3, vI p2)] []))) : gI w d X_X11_file P i l 0 [(0, vR (some 6)), (1, vI p0), (2, vI p1), (3, vI p2)] [] := by
  refine g_iload_n (pc' := 1) 1 dX11_file_0 rfl rfl ?_
  refine g_iconst (pc' := 2) dX11_file_1 rfl ?_
  obtain ⟨hob2, hob5, hob8, hk13, hk14⟩ := h
  have hk13g : ((p0 < 1) ∨ ((8 < p0) ∨ ((p1 < 1) ∨ ((8 < p1) ∨ (¬ (p2 = (-1)) ∧ (¬ (0 ≤ p2 ∧ p2 < i 7 10))))))) → gI w d X_X11_file P i l 41 [(0, vR (some 6)), (1, vI p0), (2, vI p1), (3, vI p2)] [] := by
    intro hp
    have h := hk13 hp
    refine g_iconst (pc' := 42) dX11_file_41 rfl ?_
    exact g_retI rfl (rg_lit rfl) dX11_file_42 h
  have hk14g : (¬ ((p0 < 1) ∨ ((8 < p0) ∨ ((p1 < 1) ∨ ((8 < p1) ∨ (¬ (p2 = (-1)) ∧ (¬ (0 ≤ p2 ∧ p2 < i 7 10)))))))) → gI w d X_X11_file P i l 43 [(0, vR (some 6)), (1, vI p0), (2, vI p1), (3, vI p2)] [] := by
    intro hp
    have h := hk14 hp
    exact h
  refine g_icmp_lt (tgt := 41) (pc' := 5) (hob2) (rg_lit rfl) Iff.rfl dX11_file_2 rfl rfl (fun c3 => ?_) (fun c3 => ?_)
  · exact hk13g (Or.inl c3)
  · refine g_iload_n (pc' := 6) 1 dX11_file_5 rfl rfl ?_
    refine g_bipush (pc' := 8) dX11_file_6 rfl rfl ?_
    refine g_icmp_gt (tgt := 41) (pc' := 11) (hob2) (rg_lit rfl) Iff.rfl dX11_file_8 rfl rfl (fun c4 => ?_) (fun c4 => ?_)
    · exact hk13g (Or.inr (Or.inl c4))
    · refine g_iload_n (pc' := 12) 2 dX11_file_11 rfl rfl ?_
      refine g_iconst (pc' := 13) dX11_file_12 rfl ?_
      refine g_icmp_lt (tgt := 41) (pc' := 16) (hob5 c3 c4) (rg_lit rfl) Iff.rfl dX11_file_13 rfl rfl (fun c6 => ?_) (fun c6 => ?_)
      · exact hk13g (Or.inr (Or.inr (Or.inl c6)))
      · refine g_iload_n (pc' := 17) 2 dX11_file_16 rfl rfl ?_
        refine g_bipush (pc' := 19) dX11_file_17 rfl rfl ?_
        refine g_icmp_gt (tgt := 41) (pc' := 22) (hob5 c3 c4) (rg_lit rfl) Iff.rfl dX11_file_19 rfl rfl (fun c7 => ?_) (fun c7 => ?_)
        · exact hk13g (Or.inr (Or.inr (Or.inr (Or.inl c7))))
        · refine g_iload_n (pc' := 23) 3 dX11_file_22 rfl rfl ?_
          refine g_iconst (pc' := 24) dX11_file_23 rfl ?_
          refine g_icmp_eq (tgt := 43) (pc' := 27) (hob8 c3 c4 c6 c7) (rg_lit rfl) Iff.rfl dX11_file_24 rfl rfl (fun c9 => ?_) (fun c9 => ?_)
          · exact hk14g (fun q => q.elim c3 (fun q => q.elim c4 (fun q => q.elim c6 (fun q => q.elim c7 (fun q => q.1 c9)))))
          · refine g_iload_n (pc' := 28) 3 dX11_file_27 rfl rfl ?_
            refine g_aload_n (pc' := 29) 0 dX11_file_28 rfl rfl ?_
            refine g_getR (pc' := 32) (o := some 7) fl_X11_10 rfl rfl rfl dX11_file_29 rfl ?_
            refine g_getI (pc' := 35) (z := 10) rfl fl_X11_167 rfl rfl dX11_file_32 rfl (fun rg10 => ?_)
            refine g_pSI (pc' := 38) (vs := [vI p2, vI (i 7 10)]) (st := []) (val := bI (0 ≤ p2 ∧ p2 < i 7 10)) (sp_X11_below (le_hd hd rfl) (hob8 c3 c4 c6 c7) rg10) mk_X11_below ms_X11_below lk_X11_128 rfl (Nat.le_of_ble_eq_true rfl) (Nat.le_of_ble_eq_true rfl) rfl dX11_file_35 rfl z2 (fun rg11 => ?_)
            refine g_if_ne (tgt := 43) (pc' := 41) rg11 (bI_eq _) dX11_file_38 rfl rfl (fun c12n => ?_) (fun c12 => ?_)
            · have c12 := Decidable.of_not_not c12n
              exact hk14g (fun q => q.elim c3 (fun q => q.elim c4 (fun q => q.elim c6 (fun q => q.elim c7 (fun q => (fun q => q c12) q.2)))))
            · exact hk13g (Or.inr (Or.inr (Or.inr (Or.inr ⟨c9, c12⟩))))
theorem e_X11_file {w : Wd} {d : Nat} {P : Int → IM → LM → Prop} {i : IM} {l : LM} {p0 : Int} {p1 : Int} {p2 : Int}  (h : gI w d X_X11_file P i l 0 [(0, vR (some 6)), (1, vI p0), (2, vI p1), (3, vI p2)] []) : cI w (d + 1) X_X11_file [vR (some 6), vI p0, vI p1, vI p2] i l P := CI_of (by decide +kernel) (Nat.le_of_ble_eq_true rfl) h
set_option maxRecDepth 20000 in
theorem s_X11_file_43 {w : Wd} {d : Nat} {P : Int → IM → LM → Prop} {i : IM} {l : LM} (x1 : Int) (x2 : Int) (x3 : Int)  (h : cVd w d X_X6_arrange [vR (some 96), vI x1, vI x2] i l (fun i15 l15 => ((rg x3) ∧ ((x3 = (-1)) → P (i15 96 3) i15 l15) ∧ ((¬ (x3 = (-1))) → ((¬ (i15 96 3 ≤ 0) → 0 ≤ x3 ∧ x3 < 5) ∧ P (if (i15 96 3 ≤ 0) then (-1) else i15 98 x3) i15 l15))))) : gI w d X_X11_file P i l 43 [(0, vR (some 6)), (1, vI x1), (2, vI x2), (3, vI x3)] [] := by
  refine g_aload_n (pc' := 44) 0 dX11_file_43 rfl rfl ?_
  refine g_getR (pc' := 47) (o := some 96) fl_X11_99 rfl rfl rfl dX11_file_44 rfl ?_
  refine g_iload_n (pc' := 48) 1 dX11_file_47 rfl rfl ?_
  refine g_iload_n (pc' := 49) 2 dX11_file_48 rfl rfl ?_
  refine g_cVV (pc' := 52) (vs := [vI x1, vI x2]) (st := []) (c := 6) h mv_X6_arrange lk_X11_316 rfl rfl rfl rfl (Nat.le_of_ble_eq_true rfl) (Nat.le_of_ble_eq_true rfl) rfl dX11_file_49 rfl z2 (fun i15 l15 h => ?_)
  refine g_iload_n (pc' := 53) 3 dX11_file_52 rfl rfl ?_
  refine g_iconst (pc' := 54) dX11_file_53 rfl ?_
  obtain ⟨hob45, hk53, hk54⟩ := h
  refine g_icmp_ne (tgt := 65) (pc' := 57) (hob45) (rg_lit rfl) Iff.rfl dX11_file_54 rfl rfl (fun c46 => ?_) (fun c46 => ?_)
  · have h := hk54 c46
    refine g_aload_n (pc' := 66) 0 dX11_file_65 rfl rfl ?_
    refine g_getR (pc' := 69) (o := some 96) fl_X11_99 rfl rfl rfl dX11_file_66 rfl ?_
    refine g_getI (pc' := 72) (z := 3) rfl fl_X11_319 rfl rfl dX11_file_69 rfl (fun rg47 => ?_)
    refine g_rg (fun hRG48 => ?_)
    obtain ⟨hob50, h⟩ := h
    have hJ : gI w d X_X11_file P i15 l15 88 [(0, vR (some 6)), (1, vI x1), (2, vI x2), (3, vI x3)] [vI (if (i15 96 3 ≤ 0) then (-1) else i15 98 x3)] := by
      exact g_retI rfl (rg_ite (rg_lit rfl) (hRG48 _ _)) dX11_file_88 h
    refine g_if_le (tgt := 87) (pc' := 75) rg47 Iff.rfl dX11_file_72 rfl rfl (fun c49 => ?_) (fun c49 => ?_)
    · refine g_iconst (pc' := 88) dX11_file_87 rfl ?_
      rw [if_pos c49 (α := Int) (t := (-1)) (e := i15 98 x3)] at hJ
      exact hJ
    · refine g_aload_n (pc' := 76) 0 dX11_file_75 rfl rfl ?_
      refine g_getR (pc' := 79) (o := some 96) fl_X11_99 rfl rfl rfl dX11_file_76 rfl ?_
      refine g_getR (pc' := 82) (o := some 98) fl_X11_322 rfl rfl rfl dX11_file_79 rfl ?_
      refine g_iload_n (pc' := 83) 3 dX11_file_82 rfl rfl ?_
      refine g_iald (pc' := 84) (N := 5) rfl rfl (Nat.lt_of_lt_of_le (Nat.lt_succ_self _) (Nat.le_of_ble_eq_true rfl)) (hob50 c49) dX11_file_83 rfl (fun rg51 => ?_)
      refine g_goto (tgt := 88) dX11_file_84 rfl ?_
      rw [if_neg c49 (α := Int) (t := (-1)) (e := i15 98 x3)] at hJ
      exact hJ
  · have h := hk53 c46
    refine g_aload_n (pc' := 58) 0 dX11_file_57 rfl rfl ?_
    refine g_getR (pc' := 61) (o := some 96) fl_X11_99 rfl rfl rfl dX11_file_58 rfl ?_
    refine g_getI (pc' := 64) (z := 3) rfl fl_X11_319 rfl rfl dX11_file_61 rfl (fun rg52 => ?_)
    exact g_retI rfl rg52 dX11_file_64 h

theorem dX11_day_0 : decode cX11_day 0 = .ok (.iload_n 1, 1) := by decide +kernel
theorem dX11_day_1 : decode cX11_day 1 = .ok (.ldc_w 323, 3) := by decide +kernel
theorem dX11_day_4 : decode cX11_day 4 = .ok (.invokestatic 107, 3) := by decide +kernel
theorem dX11_day_7 : decode cX11_day 7 = .ok (.ifCond .ne 9, 3) := by decide +kernel
theorem dX11_day_10 : decode cX11_day 10 = .ok (.aload_n 0, 1) := by decide +kernel
theorem dX11_day_11 : decode cX11_day 11 = .ok (.iconst (-1), 1) := by decide +kernel
theorem dX11_day_12 : decode cX11_day 12 = .ok (.invokevirtual 111, 3) := by decide +kernel
theorem dX11_day_15 : decode cX11_day 15 = .ok (.ireturn, 1) := by decide +kernel
theorem dX11_day_16 : decode cX11_day 16 = .ok (.aload_n 0, 1) := by decide +kernel
theorem dX11_day_17 : decode cX11_day 17 = .ok (.aload_n 0, 1) := by decide +kernel
theorem dX11_day_18 : decode cX11_day 18 = .ok (.getfield 92, 3) := by decide +kernel
theorem dX11_day_21 : decode cX11_day 21 = .ok (.iload_n 1, 1) := by decide +kernel
theorem dX11_day_22 : decode cX11_day 22 = .ok (.invokevirtual 324, 3) := by decide +kernel
theorem dX11_day_25 : decode cX11_day 25 = .ok (.invokevirtual 327, 3) := by decide +kernel
theorem dX11_day_28 : decode cX11_day 28 = .ok (.ireturn, 1) := by decide +kernel
set_option maxRecDepth 20000 in
theorem s_X11_day {w : Wd} {d : Nat} {P : Int → IM → LM → Prop} {i : IM} {l : LM} (p0 : Int)  (hd : 1 ≤ d) (h : ((rg p0) ∧ (((0 ≤ p0 ∧ p0 ≤ 1000000) → cI w d X_X4_draw [vR (some 94), vI p0] i l (fun r5 i5 l5 => cI w d X_X11_granted [vR (some 6), vI r5] i5 l5 (fun r6 i6 l6 => P r6 i6 l6))) ∧ ((¬ (0 ≤ p0 ∧ p0 ≤ 1000000)) → cI w d X_X11_refuse [vR (some 6), vI (-1)] i l (fun r7 i7 l7 => P r7 i7 l7))))) : gI w d X_X11_day P i l 0 [(0, vR (some 6)), (1, vI p0)] [] := by
  obtain ⟨ob1, h⟩ := h
  refine g_iload_n (pc' := 1) 1 dX11_day_0 rfl rfl ?_
  refine g_ldcw (pc' := 4) dX11_day_1 rfl kc_X11_323 ?_
  refine g_pSI (pc' := 7) (vs := [vI p0, vI 1000000]) (st := []) (val := bI (0 ≤ p0 ∧ p0 ≤ 1000000)) (sp_X11_upTo (le_hd hd rfl) ob1 (rg_lit rfl)) mk_X11_upTo ms_X11_upTo lk_X11_107 rfl (Nat.le_of_ble_eq_true rfl) (Nat.le_of_ble_eq_true rfl) rfl dX11_day_4 rfl z2 (fun rg2 => ?_)
  obtain ⟨hk8, hk9⟩ := h
  have hk8g : (0 ≤ p0 ∧ p0 ≤ 1000000) → gI w d X_X11_day P i l 16 [(0, vR (some 6)), (1, vI p0)] [] := by
    intro hp
    have h := hk8 hp
    refine g_aload_n (pc' := 17) 0 dX11_day_16 rfl rfl ?_
    refine g_aload_n (pc' := 18) 0 dX11_day_17 rfl rfl ?_
    refine g_getR (pc' := 21) (o := some 94) fl_X11_92 rfl rfl rfl dX11_day_18 rfl ?_
    refine g_iload_n (pc' := 22) 1 dX11_day_21 rfl rfl ?_
    refine g_cVI (pc' := 25) (vs := [vI p0]) (st := [vR (some 6)]) (c := 4) h mv_X4_draw lk_X11_324 rfl rfl rfl rfl (Nat.le_of_ble_eq_true rfl) (Nat.le_of_ble_eq_true rfl) rfl dX11_day_22 rfl z2 (fun r5 i5 l5 rg5 h => ?_)
    refine g_cVI (pc' := 28) (vs := [vI r5]) (st := []) (c := 11) h mv_X11_granted lk_X11_327 rfl rfl rfl rfl (Nat.le_of_ble_eq_true rfl) (Nat.le_of_ble_eq_true rfl) rfl dX11_day_25 rfl z2 (fun r6 i6 l6 rg6 h => ?_)
    exact g_retI rfl rg6 dX11_day_28 h
  have hk9g : (¬ (0 ≤ p0 ∧ p0 ≤ 1000000)) → gI w d X_X11_day P i l 10 [(0, vR (some 6)), (1, vI p0)] [] := by
    intro hp
    have h := hk9 hp
    refine g_aload_n (pc' := 11) 0 dX11_day_10 rfl rfl ?_
    refine g_iconst (pc' := 12) dX11_day_11 rfl ?_
    refine g_cVI (pc' := 15) (vs := [vI (-1)]) (st := []) (c := 11) h mv_X11_refuse lk_X11_111 rfl rfl rfl rfl (Nat.le_of_ble_eq_true rfl) (Nat.le_of_ble_eq_true rfl) rfl dX11_day_12 rfl z2 (fun r7 i7 l7 rg7 h => ?_)
    exact g_retI rfl rg7 dX11_day_15 h
  refine g_if_ne (tgt := 16) (pc' := 10) rg2 (bI_eq _) dX11_day_7 rfl rfl (fun c4n => ?_) (fun c4 => ?_)
  · have c4 := Decidable.of_not_not c4n
    exact hk8g c4
  · exact hk9g c4
theorem e_X11_day {w : Wd} {d : Nat} {P : Int → IM → LM → Prop} {i : IM} {l : LM} {p0 : Int}  (h : gI w d X_X11_day P i l 0 [(0, vR (some 6)), (1, vI p0)] []) : cI w (d + 1) X_X11_day [vR (some 6), vI p0] i l P := CI_of (by decide +kernel) (Nat.le_of_ble_eq_true rfl) h

theorem dX11_drawn_0 : decode cX11_drawn 0 = .ok (.iload_n 1, 1) := by decide +kernel
theorem dX11_drawn_1 : decode cX11_drawn 1 = .ok (.aload_n 0, 1) := by decide +kernel
theorem dX11_drawn_2 : decode cX11_drawn 2 = .ok (.getfield 92, 3) := by decide +kernel
theorem dX11_drawn_5 : decode cX11_drawn 5 = .ok (.getfield 330, 3) := by decide +kernel
theorem dX11_drawn_8 : decode cX11_drawn 8 = .ok (.invokestatic 128, 3) := by decide +kernel
theorem dX11_drawn_11 : decode cX11_drawn 11 = .ok (.ifCond .eq 29, 3) := by decide +kernel
theorem dX11_drawn_14 : decode cX11_drawn 14 = .ok (.iload_n 2, 1) := by decide +kernel
theorem dX11_drawn_15 : decode cX11_drawn 15 = .ok (.bipush 120, 2) := by decide +kernel
theorem dX11_drawn_17 : decode cX11_drawn 17 = .ok (.invokestatic 128, 3) := by decide +kernel
theorem dX11_drawn_20 : decode cX11_drawn 20 = .ok (.ifCond .eq 20, 3) := by decide +kernel
theorem dX11_drawn_23 : decode cX11_drawn 23 = .ok (.aload_n 0, 1) := by decide +kernel
theorem dX11_drawn_24 : decode cX11_drawn 24 = .ok (.getfield 92, 3) := by decide +kernel
theorem dX11_drawn_27 : decode cX11_drawn 27 = .ok (.getfield 331, 3) := by decide +kernel
theorem dX11_drawn_30 : decode cX11_drawn 30 = .ok (.iload_n 1, 1) := by decide +kernel
theorem dX11_drawn_31 : decode cX11_drawn 31 = .ok (.bipush 120, 2) := by decide +kernel
theorem dX11_drawn_33 : decode cX11_drawn 33 = .ok (.imul, 1) := by decide +kernel
theorem dX11_drawn_34 : decode cX11_drawn 34 = .ok (.iload_n 2, 1) := by decide +kernel
theorem dX11_drawn_35 : decode cX11_drawn 35 = .ok (.iadd, 1) := by decide +kernel
theorem dX11_drawn_36 : decode cX11_drawn 36 = .ok (.iaload, 1) := by decide +kernel
theorem dX11_drawn_37 : decode cX11_drawn 37 = .ok (.goto 4, 3) := by decide +kernel
theorem dX11_drawn_40 : decode cX11_drawn 40 = .ok (.iconst (-1), 1) := by decide +kernel
theorem dX11_drawn_41 : decode cX11_drawn 41 = .ok (.ireturn, 1) := by decide +kernel
set_option maxRecDepth 20000 in
theorem s_X11_drawn {w : Wd} {d : Nat} {P : Int → IM → LM → Prop} {i : IM} {l : LM} (p0 : Int) (p1 : Int)  (hd : 1 ≤ d) (h : ((rg p0) ∧ (((0 ≤ p0 ∧ p0 < i 94 3) → rg p1) ∧ ((0 ≤ p0 ∧ p0 < i 94 3) → (0 ≤ p1 ∧ p1 < 120) → 0 ≤ (p0 * 120) + p1 ∧ (p0 * 120) + p1 < 600) ∧ P (if (0 ≤ p0 ∧ p0 < i 94 3) then (if (0 ≤ p1 ∧ p1 < 120) then i 95 ((p0 * 120) + p1) else (-1)) else (-1)) i l))) : gI w d X_X11_drawn P i l 0 [(0, vR (some 6)), (1, vI p0), (2, vI p1)] [] := by
  obtain ⟨ob2, h⟩ := h
  refine g_iload_n (pc' := 1) 1 dX11_drawn_0 rfl rfl ?_
  refine g_aload_n (pc' := 2) 0 dX11_drawn_1 rfl rfl ?_
  refine g_getR (pc' := 5) (o := some 94) fl_X11_92 rfl rfl rfl dX11_drawn_2 rfl ?_
  refine g_getI (pc' := 8) (z := 3) rfl fl_X11_330 rfl rfl dX11_drawn_5 rfl (fun rg1 => ?_)
  refine g_pSI (pc' := 11) (vs := [vI p0, vI (i 94 3)]) (st := []) (val := bI (0 ≤ p0 ∧ p0 < i 94 3)) (sp_X11_below (le_hd hd rfl) ob2 rg1) mk_X11_below ms_X11_below lk_X11_128 rfl (Nat.le_of_ble_eq_true rfl) (Nat.le_of_ble_eq_true rfl) rfl dX11_drawn_8 rfl z2 (fun rg3 => ?_)
  refine g_rg (fun hRG4 => ?_)
  obtain ⟨hob6, hob9, h⟩ := h
  have hJ : gI w d X_X11_drawn P i l 41 [(0, vR (some 6)), (1, vI p0), (2, vI p1)] [vI (if (0 ≤ p0 ∧ p0 < i 94 3) then (if (0 ≤ p1 ∧ p1 < 120) then i 95 ((p0 * 120) + p1) else (-1)) else (-1))] := by
    exact g_retI rfl (rg_ite (rg_ite (hRG4 _ _) (rg_lit rfl)) (rg_lit rfl)) dX11_drawn_41 h
  refine g_if_eq (tgt := 40) (pc' := 14) rg3 (bI_eq _) dX11_drawn_11 rfl rfl (fun c5 => ?_) (fun c5n => ?_)
  · refine g_iconst (pc' := 41) dX11_drawn_40 rfl ?_
    rw [if_neg c5 (α := Int) (t := (if (0 ≤ p1 ∧ p1 < 120) then i 95 ((p0 * 120) + p1) else (-1))) (e := (-1))] at hJ
    exact hJ
  · have c5 := Decidable.of_not_not c5n
    refine g_iload_n (pc' := 15) 2 dX11_drawn_14 rfl rfl ?_
    refine g_bipush (pc' := 17) dX11_drawn_15 rfl rfl ?_
    refine g_pSI (pc' := 20) (vs := [vI p1, vI 120]) (st := []) (val := bI (0 ≤ p1 ∧ p1 < 120)) (sp_X11_below (le_hd hd rfl) (hob6 c5) (rg_lit rfl)) mk_X11_below ms_X11_below lk_X11_128 rfl (Nat.le_of_ble_eq_true rfl) (Nat.le_of_ble_eq_true rfl) rfl dX11_drawn_17 rfl z2 (fun rg7 => ?_)
    refine g_if_eq (tgt := 40) (pc' := 23) rg7 (bI_eq _) dX11_drawn_20 rfl rfl (fun c8 => ?_) (fun c8n => ?_)
    · refine g_iconst (pc' := 41) dX11_drawn_40 rfl ?_
      rw [if_pos c5 (α := Int) (t := (if (0 ≤ p1 ∧ p1 < 120) then i 95 ((p0 * 120) + p1) else (-1))) (e := (-1)), if_neg c8 (α := Int) (t := i 95 ((p0 * 120) + p1)) (e := (-1))] at hJ
      exact hJ
    · have c8 := Decidable.of_not_not c8n
      refine g_aload_n (pc' := 24) 0 dX11_drawn_23 rfl rfl ?_
      refine g_getR (pc' := 27) (o := some 94) fl_X11_92 rfl rfl rfl dX11_drawn_24 rfl ?_
      refine g_getR (pc' := 30) (o := some 95) fl_X11_331 rfl rfl rfl dX11_drawn_27 rfl ?_
      refine g_iload_n (pc' := 31) 1 dX11_drawn_30 rfl rfl ?_
      refine g_bipush (pc' := 33) dX11_drawn_31 rfl rfl ?_
      refine g_imul (pc' := 34) dX11_drawn_33 rfl ?_
      refine g_iload_n (pc' := 35) 2 dX11_drawn_34 rfl rfl ?_
      refine g_iadd (pc' := 36) dX11_drawn_35 rfl ?_
      refine g_iald (pc' := 37) (N := 600) rfl rfl (Nat.lt_of_lt_of_le (Nat.lt_succ_self _) (Nat.le_of_ble_eq_true rfl)) (hob9 c5 c8) dX11_drawn_36 rfl (fun rg10 => ?_)
      refine g_goto (tgt := 41) dX11_drawn_37 rfl ?_
      rw [if_pos c5 (α := Int) (t := (if (0 ≤ p1 ∧ p1 < 120) then i 95 ((p0 * 120) + p1) else (-1))) (e := (-1)), if_pos c8 (α := Int) (t := i 95 ((p0 * 120) + p1)) (e := (-1))] at hJ
      exact hJ
theorem e_X11_drawn {w : Wd} {d : Nat} {P : Int → IM → LM → Prop} {i : IM} {l : LM} {p0 : Int} {p1 : Int}  (h : gI w d X_X11_drawn P i l 0 [(0, vR (some 6)), (1, vI p0), (2, vI p1)] []) : cI w (d + 1) X_X11_drawn [vR (some 6), vI p0, vI p1] i l P := CI_of (by decide +kernel) (Nat.le_of_ble_eq_true rfl) h

theorem dX11_count_0 : decode cX11_count 0 = .ok (.iload_n 1, 1) := by decide +kernel
theorem dX11_count_1 : decode cX11_count 1 = .ok (.bipush 6, 2) := by decide +kernel
theorem dX11_count_3 : decode cX11_count 3 = .ok (.if_icmp .lt 19, 3) := by decide +kernel
theorem dX11_count_6 : decode cX11_count 6 = .ok (.iload_n 1, 1) := by decide +kernel
theorem dX11_count_7 : decode cX11_count 7 = .ok (.bipush 10, 2) := by decide +kernel
theorem dX11_count_9 : decode cX11_count 9 = .ok (.if_icmp .gt 13, 3) := by decide +kernel
theorem dX11_count_12 : decode cX11_count 12 = .ok (.aload_n 0, 1) := by decide +kernel
theorem dX11_count_13 : decode cX11_count 13 = .ok (.getfield 24, 3) := by decide +kernel
theorem dX11_count_16 : decode cX11_count 16 = .ok (.iload_n 1, 1) := by decide +kernel
theorem dX11_count_17 : decode cX11_count 17 = .ok (.bipush 6, 2) := by decide +kernel
theorem dX11_count_19 : decode cX11_count 19 = .ok (.isub, 1) := by decide +kernel
theorem dX11_count_20 : decode cX11_count 20 = .ok (.iaload, 1) := by decide +kernel
theorem dX11_count_21 : decode cX11_count 21 = .ok (.ireturn, 1) := by decide +kernel
theorem dX11_count_22 : decode cX11_count 22 = .ok (.iload_n 1, 1) := by decide +kernel
theorem dX11_count_23 : decode cX11_count 23 = .ok (.tableswitch 126 0 12 #[65, 73, 81, 89, 97, 105, 126, 126, 126, 126, 126, 110, 118], 65) := by decide +kernel
theorem dX11_count_88 : decode cX11_count 88 = .ok (.aload_n 0, 1) := by decide +kernel
theorem dX11_count_89 : decode cX11_count 89 = .ok (.getfield 10, 3) := by decide +kernel
theorem dX11_count_92 : decode cX11_count 92 = .ok (.getfield 115, 3) := by decide +kernel
theorem dX11_count_95 : decode cX11_count 95 = .ok (.ireturn, 1) := by decide +kernel
theorem dX11_count_96 : decode cX11_count 96 = .ok (.aload_n 0, 1) := by decide +kernel
theorem dX11_count_97 : decode cX11_count 97 = .ok (.getfield 10, 3) := by decide +kernel
theorem dX11_count_100 : decode cX11_count 100 = .ok (.getfield 138, 3) := by decide +kernel
theorem dX11_count_103 : decode cX11_count 103 = .ok (.ireturn, 1) := by decide +kernel
theorem dX11_count_104 : decode cX11_count 104 = .ok (.aload_n 0, 1) := by decide +kernel
theorem dX11_count_105 : decode cX11_count 105 = .ok (.getfield 10, 3) := by decide +kernel
theorem dX11_count_108 : decode cX11_count 108 = .ok (.getfield 167, 3) := by decide +kernel
theorem dX11_count_111 : decode cX11_count 111 = .ok (.ireturn, 1) := by decide +kernel
theorem dX11_count_112 : decode cX11_count 112 = .ok (.aload_n 0, 1) := by decide +kernel
theorem dX11_count_113 : decode cX11_count 113 = .ok (.getfield 10, 3) := by decide +kernel
theorem dX11_count_116 : decode cX11_count 116 = .ok (.getfield 206, 3) := by decide +kernel
theorem dX11_count_119 : decode cX11_count 119 = .ok (.ireturn, 1) := by decide +kernel
theorem dX11_count_120 : decode cX11_count 120 = .ok (.aload_n 0, 1) := by decide +kernel
theorem dX11_count_121 : decode cX11_count 121 = .ok (.getfield 10, 3) := by decide +kernel
theorem dX11_count_124 : decode cX11_count 124 = .ok (.getfield 182, 3) := by decide +kernel
theorem dX11_count_127 : decode cX11_count 127 = .ok (.ireturn, 1) := by decide +kernel
theorem dX11_count_128 : decode cX11_count 128 = .ok (.aload_n 0, 1) := by decide +kernel
theorem dX11_count_129 : decode cX11_count 129 = .ok (.getfield 192, 3) := by decide +kernel
theorem dX11_count_132 : decode cX11_count 132 = .ok (.ireturn, 1) := by decide +kernel
theorem dX11_count_133 : decode cX11_count 133 = .ok (.aload_n 0, 1) := by decide +kernel
theorem dX11_count_134 : decode cX11_count 134 = .ok (.getfield 10, 3) := by decide +kernel
theorem dX11_count_137 : decode cX11_count 137 = .ok (.getfield 221, 3) := by decide +kernel
theorem dX11_count_140 : decode cX11_count 140 = .ok (.ireturn, 1) := by decide +kernel
theorem dX11_count_141 : decode cX11_count 141 = .ok (.aload_n 0, 1) := by decide +kernel
theorem dX11_count_142 : decode cX11_count 142 = .ok (.getfield 10, 3) := by decide +kernel
theorem dX11_count_145 : decode cX11_count 145 = .ok (.getfield 154, 3) := by decide +kernel
theorem dX11_count_148 : decode cX11_count 148 = .ok (.ireturn, 1) := by decide +kernel
theorem dX11_count_149 : decode cX11_count 149 = .ok (.iconst (-1), 1) := by decide +kernel
theorem dX11_count_150 : decode cX11_count 150 = .ok (.ireturn, 1) := by decide +kernel
set_option maxRecDepth 20000 in
theorem s_X11_count {w : Wd} {d : Nat} {P : Int → IM → LM → Prop} {i : IM} {l : LM} (p0 : Int)  (h : ((rg p0) ∧ (((p0 < 6) ∨ (10 < p0)) → gI w d X_X11_count P i l 22 [(0, vR (some 6)), (1, vI p0)] []) ∧ ((¬ ((p0 < 6) ∨ (10 < p0))) → ((0 ≤ p0 - 6 ∧ p0 - 6 < 5) ∧ P (i 36 (p0 - 6)) i l)))) : gI w d X_X11_count P i l 0 [(0, vR (some 6)), (1, vI p0)] [] := by
  refine g_iload_n (pc' := 1) 1 dX11_count_0 rfl rfl ?_
  refine g_bipush (pc' := 3) dX11_count_1 rfl rfl ?_
  obtain ⟨hob2, hk9, hk10⟩ := h
  have hk9g : ((p0 < 6) ∨ (10 < p0)) → gI w d X_X11_count P i l 22 [(0, vR (some 6)), (1, vI p0)] [] := by
    intro hp
    have h := hk9 hp
    exact h
  have hk10g : (¬ ((p0 < 6) ∨ (10 < p0))) → gI w d X_X11_count P i l 12 [(0, vR (some 6)), (1, vI p0)] [] := by
    intro hp
    have h := hk10 hp
    obtain ⟨ob7, h⟩ := h
    refine g_aload_n (pc' := 13) 0 dX11_count_12 rfl rfl ?_
    refine g_getR (pc' := 16) (o := some 36) fl_X11_24 rfl rfl rfl dX11_count_13 rfl ?_
    refine g_iload_n (pc' := 17) 1 dX11_count_16 rfl rfl ?_
    refine g_bipush (pc' := 19) dX11_count_17 rfl rfl ?_
    refine g_isub (pc' := 20) dX11_count_19 rfl ?_
    refine g_iald (pc' := 21) (N := 5) rfl rfl (Nat.lt_of_lt_of_le (Nat.lt_succ_self _) (Nat.le_of_ble_eq_true rfl)) ob7 dX11_count_20 rfl (fun rg8 => ?_)
    exact g_retI rfl rg8 dX11_count_21 h
  refine g_icmp_lt (tgt := 22) (pc' := 6) (hob2) (rg_lit rfl) Iff.rfl dX11_count_3 rfl rfl (fun c3 => ?_) (fun c3 => ?_)
  · exact hk9g (Or.inl c3)
  · refine g_iload_n (pc' := 7) 1 dX11_count_6 rfl rfl ?_
    refine g_bipush (pc' := 9) dX11_count_7 rfl rfl ?_
    refine g_icmp_gt (tgt := 22) (pc' := 12) (hob2) (rg_lit rfl) Iff.rfl dX11_count_9 rfl rfl (fun c4 => ?_) (fun c4 => ?_)
    · exact hk9g (Or.inr c4)
    · exact hk10g (fun q => q.elim c3 c4)
theorem e_X11_count {w : Wd} {d : Nat} {P : Int → IM → LM → Prop} {i : IM} {l : LM} {p0 : Int}  (h : gI w d X_X11_count P i l 0 [(0, vR (some 6)), (1, vI p0)] []) : cI w (d + 1) X_X11_count [vR (some 6), vI p0] i l P := CI_of (by decide +kernel) (Nat.le_of_ble_eq_true rfl) h
set_option maxRecDepth 20000 in
theorem s_X11_count_22 {w : Wd} {d : Nat} {P : Int → IM → LM → Prop} {i : IM} {l : LM} (x1 : Int)  (h : ((rg x1) ∧ ((x1 < 0 ∨ 12 < x1 → P (-1) i l) ∧ (x1 = 0 → P (i 7 8) i l) ∧ (x1 = 1 → P (i 7 9) i l) ∧ (x1 = 2 → P (i 7 10) i l) ∧ (x1 = 3 → P (i 7 12) i l) ∧ (x1 = 4 → P (i 7 11) i l) ∧ (x1 = 5 → P (i 6 15) i l) ∧ (x1 = 6 → P (-1) i l) ∧ (x1 = 7 → P (-1) i l) ∧ (x1 = 8 → P (-1) i l) ∧ (x1 = 9 → P (-1) i l) ∧ (x1 = 10 → P (-1) i l) ∧ (x1 = 11 → P (i 7 14) i l) ∧ (x1 = 12 → P (i 7 13) i l)))) : gI w d X_X11_count P i l 22 [(0, vR (some 6)), (1, vI x1)] [] := by
  obtain ⟨ob11, h⟩ := h
  refine g_iload_n (pc' := 23) 1 dX11_count_22 rfl rfl ?_
  obtain ⟨hs12, hs14, hs16, hs18, hs20, hs22, hs24, hs25, hs26, hs27, hs28, hs29, hs31, hs33⟩ := h
  rcases sw_cases x1 0 12 with c34 | c34
  · have h := hs12 c34
    refine g_tabOut (tgt := 149) ob11 dX11_count_23 c34 rfl ?_
    refine g_iconst (pc' := 150) dX11_count_149 rfl ?_
    exact g_retI rfl (rg_lit rfl) dX11_count_150 h
  · have c34z : x1 = 0 ∨ x1 = 1 ∨ x1 = 2 ∨ x1 = 3 ∨ x1 = 4 ∨ x1 = 5 ∨ x1 = 6 ∨ x1 = 7 ∨ x1 = 8 ∨ x1 = 9 ∨ x1 = 10 ∨ x1 = 11 ∨ x1 = 12 := by omega
    rcases c34z with c34 | c34 | c34 | c34 | c34 | c34 | c34 | c34 | c34 | c34 | c34 | c34 | c34
    · have h := hs14 c34
      refine g_tabIn (off := 65) (tgt := 88) ob11 dX11_count_23 (by omega) (by omega) (by rw [c34]; rfl) rfl ?_
      refine g_aload_n (pc' := 89) 0 dX11_count_88 rfl rfl ?_
      refine g_getR (pc' := 92) (o := some 7) fl_X11_10 rfl rfl rfl dX11_count_89 rfl ?_
      refine g_getI (pc' := 95) (z := 8) rfl fl_X11_115 rfl rfl dX11_count_92 rfl (fun rg13 => ?_)
      exact g_retI rfl rg13 dX11_count_95 h
    · have h := hs16 c34
      refine g_tabIn (off := 73) (tgt := 96) ob11 dX11_count_23 (by omega) (by omega) (by rw [c34]; rfl) rfl ?_
      refine g_aload_n (pc' := 97) 0 dX11_count_96 rfl rfl ?_
      refine g_getR (pc' := 100) (o := some 7) fl_X11_10 rfl rfl rfl dX11_count_97 rfl ?_
      refine g_getI (pc' := 103) (z := 9) rfl fl_X11_138 rfl rfl dX11_count_100 rfl (fun rg15 => ?_)
      exact g_retI rfl rg15 dX11_count_103 h
    · have h := hs18 c34
      refine g_tabIn (off := 81) (tgt := 104) ob11 dX11_count_23 (by omega) (by omega) (by rw [c34]; rfl) rfl ?_
      refine g_aload_n (pc' := 105) 0 dX11_count_104 rfl rfl ?_
      refine g_getR (pc' := 108) (o := some 7) fl_X11_10 rfl rfl rfl dX11_count_105 rfl ?_
      refine g_getI (pc' := 111) (z := 10) rfl fl_X11_167 rfl rfl dX11_count_108 rfl (fun rg17 => ?_)
      exact g_retI rfl rg17 dX11_count_111 h
    · have h := hs20 c34
      refine g_tabIn (off := 89) (tgt := 112) ob11 dX11_count_23 (by omega) (by omega) (by rw [c34]; rfl) rfl ?_
      refine g_aload_n (pc' := 113) 0 dX11_count_112 rfl rfl ?_
      refine g_getR (pc' := 116) (o := some 7) fl_X11_10 rfl rfl rfl dX11_count_113 rfl ?_
      refine g_getI (pc' := 119) (z := 12) rfl fl_X11_206 rfl rfl dX11_count_116 rfl (fun rg19 => ?_)
      exact g_retI rfl rg19 dX11_count_119 h
    · have h := hs22 c34
      refine g_tabIn (off := 97) (tgt := 120) ob11 dX11_count_23 (by omega) (by omega) (by rw [c34]; rfl) rfl ?_
      refine g_aload_n (pc' := 121) 0 dX11_count_120 rfl rfl ?_
      refine g_getR (pc' := 124) (o := some 7) fl_X11_10 rfl rfl rfl dX11_count_121 rfl ?_
      refine g_getI (pc' := 127) (z := 11) rfl fl_X11_182 rfl rfl dX11_count_124 rfl (fun rg21 => ?_)
      exact g_retI rfl rg21 dX11_count_127 h
    · have h := hs24 c34
      refine g_tabIn (off := 105) (tgt := 128) ob11 dX11_count_23 (by omega) (by omega) (by rw [c34]; rfl) rfl ?_
      refine g_aload_n (pc' := 129) 0 dX11_count_128 rfl rfl ?_
      refine g_getI (pc' := 132) (z := 15) rfl fl_X11_192 rfl rfl dX11_count_129 rfl (fun rg23 => ?_)
      exact g_retI rfl rg23 dX11_count_132 h
    · have h := hs25 c34
      refine g_tabIn (off := 126) (tgt := 149) ob11 dX11_count_23 (by omega) (by omega) (by rw [c34]; rfl) rfl ?_
      refine g_iconst (pc' := 150) dX11_count_149 rfl ?_
      exact g_retI rfl (rg_lit rfl) dX11_count_150 h
    · have h := hs26 c34
      refine g_tabIn (off := 126) (tgt := 149) ob11 dX11_count_23 (by omega) (by omega) (by rw [c34]; rfl) rfl ?_
      refine g_iconst (pc' := 150) dX11_count_149 rfl ?_
      exact g_retI rfl (rg_lit rfl) dX11_count_150 h
    · have h := hs27 c34
      refine g_tabIn (off := 126) (tgt := 149) ob11 dX11_count_23 (by omega) (by omega) (by rw [c34]; rfl) rfl ?_
      refine g_iconst (pc' := 150) dX11_count_149 rfl ?_
      exact g_retI rfl (rg_lit rfl) dX11_count_150 h
    · have h := hs28 c34
      refine g_tabIn (off := 126) (tgt := 149) ob11 dX11_count_23 (by omega) (by omega) (by rw [c34]; rfl) rfl ?_
      refine g_iconst (pc' := 150) dX11_count_149 rfl ?_
      exact g_retI rfl (rg_lit rfl) dX11_count_150 h
    · have h := hs29 c34
      refine g_tabIn (off := 126) (tgt := 149) ob11 dX11_count_23 (by omega) (by omega) (by rw [c34]; rfl) rfl ?_
      refine g_iconst (pc' := 150) dX11_count_149 rfl ?_
      exact g_retI rfl (rg_lit rfl) dX11_count_150 h
    · have h := hs31 c34
      refine g_tabIn (off := 110) (tgt := 133) ob11 dX11_count_23 (by omega) (by omega) (by rw [c34]; rfl) rfl ?_
      refine g_aload_n (pc' := 134) 0 dX11_count_133 rfl rfl ?_
      refine g_getR (pc' := 137) (o := some 7) fl_X11_10 rfl rfl rfl dX11_count_134 rfl ?_
      refine g_getI (pc' := 140) (z := 14) rfl fl_X11_221 rfl rfl dX11_count_137 rfl (fun rg30 => ?_)
      exact g_retI rfl rg30 dX11_count_140 h
    · have h := hs33 c34
      refine g_tabIn (off := 118) (tgt := 141) ob11 dX11_count_23 (by omega) (by omega) (by rw [c34]; rfl) rfl ?_
      refine g_aload_n (pc' := 142) 0 dX11_count_141 rfl rfl ?_
      refine g_getR (pc' := 145) (o := some 7) fl_X11_10 rfl rfl rfl dX11_count_142 rfl ?_
      refine g_getI (pc' := 148) (z := 13) rfl fl_X11_154 rfl rfl dX11_count_145 rfl (fun rg32 => ?_)
      exact g_retI rfl rg32 dX11_count_148 h

theorem dX11_status_0 : decode cX11_status 0 = .ok (.aload_n 0, 1) := by decide +kernel
theorem dX11_status_1 : decode cX11_status 1 = .ok (.getfield 340, 3) := by decide +kernel
theorem dX11_status_4 : decode cX11_status 4 = .ok (.ireturn, 1) := by decide +kernel
set_option maxRecDepth 20000 in
theorem s_X11_status {w : Wd} {d : Nat} {P : Int → IM → LM → Prop} {i : IM} {l : LM}   (h : P (i 6 18) i l) : gI w d X_X11_status P i l 0 [(0, vR (some 6))] [] := by
  refine g_aload_n (pc' := 1) 0 dX11_status_0 rfl rfl ?_
  refine g_getI (pc' := 4) (z := 18) rfl fl_X11_340 rfl rfl dX11_status_1 rfl (fun rg1 => ?_)
  exact g_retI rfl rg1 dX11_status_4 h
theorem e_X11_status {w : Wd} {d : Nat} {P : Int → IM → LM → Prop} {i : IM} {l : LM}   (h : gI w d X_X11_status P i l 0 [(0, vR (some 6))] []) : cI w (d + 1) X_X11_status [vR (some 6)] i l P := CI_of (by decide +kernel) (Nat.le_of_ble_eq_true rfl) h

theorem dX11_refuse_0 : decode cX11_refuse 0 = .ok (.aload_n 0, 1) := by decide +kernel
theorem dX11_refuse_1 : decode cX11_refuse 1 = .ok (.iload_n 1, 1) := by decide +kernel
theorem dX11_refuse_2 : decode cX11_refuse 2 = .ok (.putfield 340, 3) := by decide +kernel
theorem dX11_refuse_5 : decode cX11_refuse 5 = .ok (.aload_n 0, 1) := by decide +kernel
theorem dX11_refuse_6 : decode cX11_refuse 6 = .ok (.getfield 24, 3) := by decide +kernel
theorem dX11_refuse_9 : decode cX11_refuse 9 = .ok (.iload_n 1, 1) := by decide +kernel
theorem dX11_refuse_10 : decode cX11_refuse 10 = .ok (.bipush (-3), 2) := by decide +kernel
theorem dX11_refuse_12 : decode cX11_refuse 12 = .ok (.if_icmp .lt 10, 3) := by decide +kernel
theorem dX11_refuse_15 : decode cX11_refuse 15 = .ok (.iload_n 1, 1) := by decide +kernel
theorem dX11_refuse_16 : decode cX11_refuse 16 = .ok (.ineg, 1) := by decide +kernel
theorem dX11_refuse_17 : decode cX11_refuse 17 = .ok (.iconst 1, 1) := by decide +kernel
theorem dX11_refuse_18 : decode cX11_refuse 18 = .ok (.isub, 1) := by decide +kernel
theorem dX11_refuse_19 : decode cX11_refuse 19 = .ok (.goto 7, 3) := by decide +kernel
theorem dX11_refuse_22 : decode cX11_refuse 22 = .ok (.iload_n 1, 1) := by decide +kernel
theorem dX11_refuse_23 : decode cX11_refuse 23 = .ok (.ineg, 1) := by decide +kernel
theorem dX11_refuse_24 : decode cX11_refuse 24 = .ok (.iconst 2, 1) := by decide +kernel
theorem dX11_refuse_25 : decode cX11_refuse 25 = .ok (.isub, 1) := by decide +kernel
theorem dX11_refuse_26 : decode cX11_refuse 26 = .ok (.dup2, 1) := by decide +kernel
theorem dX11_refuse_27 : decode cX11_refuse 27 = .ok (.iaload, 1) := by decide +kernel
theorem dX11_refuse_28 : decode cX11_refuse 28 = .ok (.iconst 1, 1) := by decide +kernel
theorem dX11_refuse_29 : decode cX11_refuse 29 = .ok (.iadd, 1) := by decide +kernel
theorem dX11_refuse_30 : decode cX11_refuse 30 = .ok (.iastore, 1) := by decide +kernel
theorem dX11_refuse_31 : decode cX11_refuse 31 = .ok (.iload_n 1, 1) := by decide +kernel
theorem dX11_refuse_32 : decode cX11_refuse 32 = .ok (.ireturn, 1) := by decide +kernel
set_option maxRecDepth 20000 in
theorem s_X11_refuse {w : Wd} {d : Nat} {P : Int → IM → LM → Prop} {i : IM} {l : LM} (p0 : Int)  (h : ((rg p0) ∧ ((0 ≤ (if (p0 < (-3)) then (-p0) - 2 else (-p0) - 1) ∧ (if (p0 < (-3)) then (-p0) - 2 else (-p0) - 1) < 5) ∧ (rg (((u2 i 6 18 p0) 36 (if (p0 < (-3)) then (-p0) - 2 else (-p0) - 1)) + 1)) ∧ P p0 (u2 (u2 i 6 18 p0) 36 (if (p0 < (-3)) then (-p0) - 2 else (-p0) - 1) (((u2 i 6 18 p0) 36 (if (p0 < (-3)) then (-p0) - 2 else (-p0) - 1)) + 1)) l))) : gI w d X_X11_refuse P i l 0 [(0, vR (some 6)), (1, vI p0)] [] := by
  obtain ⟨ob1, h⟩ := h
  refine g_aload_n (pc' := 1) 0 dX11_refuse_0 rfl rfl ?_
  refine g_iload_n (pc' := 2) 1 dX11_refuse_1 rfl rfl ?_
  refine g_putI (pc' := 5) (z := 18) rfl fp_X11_340 rfl rfl ob1 dX11_refuse_2 rfl ?_
  refine g_aload_n (pc' := 6) 0 dX11_refuse_5 rfl rfl ?_
  refine g_getR (pc' := 9) (o := some 36) fl_X11_24 rfl rfl rfl dX11_refuse_6 rfl ?_
  refine g_iload_n (pc' := 10) 1 dX11_refuse_9 rfl rfl ?_
  refine g_bipush (pc' := 12) dX11_refuse_10 rfl rfl ?_
  have hJ : gI w d X_X11_refuse P (u2 i 6 18 p0) l 26 [(0, vR (some 6)), (1, vI p0)] [vI (if (p0 < (-3)) then (-p0) - 2 else (-p0) - 1), vR (some 36)] := by
    obtain ⟨ob4, ob6, h⟩ := h
    refine g_dup2_11 (pc' := 27) dX11_refuse_26 rfl rfl rfl ?_
    refine g_iald (pc' := 28) (N := 5) rfl rfl (Nat.lt_of_lt_of_le (Nat.lt_succ_self _) (Nat.le_of_ble_eq_true rfl)) ob4 dX11_refuse_27 rfl (fun rg5 => ?_)
    refine g_iconst (pc' := 29) dX11_refuse_28 rfl ?_
    refine g_iadd (pc' := 30) dX11_refuse_29 rfl ?_
    refine g_iast (pc' := 31) (N := 5) rfl rfl (Nat.lt_of_lt_of_le (Nat.lt_succ_self _) (Nat.le_of_ble_eq_true rfl)) ob4 ob6 dX11_refuse_30 rfl ?_
    refine g_iload_n (pc' := 32) 1 dX11_refuse_31 rfl rfl ?_
    exact g_retI rfl ob1 dX11_refuse_32 h
  refine g_icmp_lt (tgt := 22) (pc' := 15) ob1 (rg_lit rfl) Iff.rfl dX11_refuse_12 rfl rfl (fun c3 => ?_) (fun c3 => ?_)
  · refine g_iload_n (pc' := 23) 1 dX11_refuse_22 rfl rfl ?_
    refine g_ineg (pc' := 24) dX11_refuse_23 rfl ?_
    refine g_iconst (pc' := 25) dX11_refuse_24 rfl ?_
    refine g_isub (pc' := 26) dX11_refuse_25 rfl ?_
    rw [if_pos c3 (α := Int) (t := (-p0) - 2) (e := (-p0) - 1)] at hJ
    exact hJ
  · refine g_iload_n (pc' := 16) 1 dX11_refuse_15 rfl rfl ?_
    refine g_ineg (pc' := 17) dX11_refuse_16 rfl ?_
    refine g_iconst (pc' := 18) dX11_refuse_17 rfl ?_
    refine g_isub (pc' := 19) dX11_refuse_18 rfl ?_
    refine g_goto (tgt := 26) dX11_refuse_19 rfl ?_
    rw [if_neg c3 (α := Int) (t := (-p0) - 2) (e := (-p0) - 1)] at hJ
    exact hJ
theorem e_X11_refuse {w : Wd} {d : Nat} {P : Int → IM → LM → Prop} {i : IM} {l : LM} {p0 : Int}  (h : gI w d X_X11_refuse P i l 0 [(0, vR (some 6)), (1, vI p0)] []) : cI w (d + 1) X_X11_refuse [vR (some 6), vI p0] i l P := CI_of (by decide +kernel) (Nat.le_of_ble_eq_true rfl) h

theorem dX11_granted_0 : decode cX11_granted 0 = .ok (.aload_n 0, 1) := by decide +kernel
theorem dX11_granted_1 : decode cX11_granted 1 = .ok (.iconst 0, 1) := by decide +kernel
theorem dX11_granted_2 : decode cX11_granted 2 = .ok (.putfield 340, 3) := by decide +kernel
theorem dX11_granted_5 : decode cX11_granted 5 = .ok (.iload_n 1, 1) := by decide +kernel
theorem dX11_granted_6 : decode cX11_granted 6 = .ok (.ireturn, 1) := by decide +kernel
set_option maxRecDepth 20000 in
theorem s_X11_granted {w : Wd} {d : Nat} {P : Int → IM → LM → Prop} {i : IM} {l : LM} (p0 : Int)  (h : ((rg p0) ∧ P p0 (u2 i 6 18 0) l)) : gI w d X_X11_granted P i l 0 [(0, vR (some 6)), (1, vI p0)] [] := by
  obtain ⟨ob1, h⟩ := h
  refine g_aload_n (pc' := 1) 0 dX11_granted_0 rfl rfl ?_
  refine g_iconst (pc' := 2) dX11_granted_1 rfl ?_
  refine g_putI (pc' := 5) (z := 18) rfl fp_X11_340 rfl rfl (rg_lit rfl) dX11_granted_2 rfl ?_
  refine g_iload_n (pc' := 6) 1 dX11_granted_5 rfl rfl ?_
  exact g_retI rfl ob1 dX11_granted_6 h
theorem e_X11_granted {w : Wd} {d : Nat} {P : Int → IM → LM → Prop} {i : IM} {l : LM} {p0 : Int}  (h : gI w d X_X11_granted P i l 0 [(0, vR (some 6)), (1, vI p0)] []) : cI w (d + 1) X_X11_granted [vR (some 6), vI p0] i l P := CI_of (by decide +kernel) (Nat.le_of_ble_eq_true rfl) h

theorem dX11_changed_0 : decode cX11_changed 0 = .ok (.aload_n 0, 1) := by decide +kernel
theorem dX11_changed_1 : decode cX11_changed 1 = .ok (.getfield 10, 3) := by decide +kernel
theorem dX11_changed_4 : decode cX11_changed 4 = .ok (.dup, 1) := by decide +kernel
theorem dX11_changed_5 : decode cX11_changed 5 = .ok (.getfield 351, 3) := by decide +kernel
theorem dX11_changed_8 : decode cX11_changed 8 = .ok (.iconst 1, 1) := by decide +kernel
theorem dX11_changed_9 : decode cX11_changed 9 = .ok (.iadd, 1) := by decide +kernel
theorem dX11_changed_10 : decode cX11_changed 10 = .ok (.putfield 351, 3) := by decide +kernel
theorem dX11_changed_13 : decode cX11_changed 13 = .ok (.aload_n 0, 1) := by decide +kernel
theorem dX11_changed_14 : decode cX11_changed 14 = .ok (.iload_n 1, 1) := by decide +kernel
theorem dX11_changed_15 : decode cX11_changed 15 = .ok (.invokevirtual 327, 3) := by decide +kernel
theorem dX11_changed_18 : decode cX11_changed 18 = .ok (.ireturn, 1) := by decide +kernel
set_option maxRecDepth 20000 in
theorem s_X11_changed {w : Wd} {d : Nat} {P : Int → IM → LM → Prop} {i : IM} {l : LM} (p0 : Int)  (h : ((rg ((i 7 15) + 1)) ∧ cI w d X_X11_granted [vR (some 6), vI p0] (u2 i 7 15 ((i 7 15) + 1)) l (fun r3 i3 l3 => P r3 i3 l3))) : gI w d X_X11_changed P i l 0 [(0, vR (some 6)), (1, vI p0)] [] := by
  obtain ⟨ob2, h⟩ := h
  refine g_aload_n (pc' := 1) 0 dX11_changed_0 rfl rfl ?_
  refine g_getR (pc' := 4) (o := some 7) fl_X11_10 rfl rfl rfl dX11_changed_1 rfl ?_
  refine g_dup (pc' := 5) dX11_changed_4 rfl rfl ?_
  refine g_getI (pc' := 8) (z := 15) rfl fl_X11_351 rfl rfl dX11_changed_5 rfl (fun rg1 => ?_)
  refine g_iconst (pc' := 9) dX11_changed_8 rfl ?_
  refine g_iadd (pc' := 10) dX11_changed_9 rfl ?_
  refine g_putI (pc' := 13) (z := 15) rfl fp_X11_351 rfl rfl ob2 dX11_changed_10 rfl ?_
  refine g_aload_n (pc' := 14) 0 dX11_changed_13 rfl rfl ?_
  refine g_iload_n (pc' := 15) 1 dX11_changed_14 rfl rfl ?_
  refine g_cVI (pc' := 18) (vs := [vI p0]) (st := []) (c := 11) h mv_X11_granted lk_X11_327 rfl rfl rfl rfl (Nat.le_of_ble_eq_true rfl) (Nat.le_of_ble_eq_true rfl) rfl dX11_changed_15 rfl z2 (fun r3 i3 l3 rg3 h => ?_)
  exact g_retI rfl rg3 dX11_changed_18 h
theorem e_X11_changed {w : Wd} {d : Nat} {P : Int → IM → LM → Prop} {i : IM} {l : LM} {p0 : Int}  (h : gI w d X_X11_changed P i l 0 [(0, vR (some 6)), (1, vI p0)] []) : cI w (d + 1) X_X11_changed [vR (some 6), vI p0] i l P := CI_of (by decide +kernel) (Nat.le_of_ble_eq_true rfl) h

theorem dX11_append_0 : decode cX11_append 0 = .ok (.bipush 24, 2) := by decide +kernel
theorem dX11_append_2 : decode cX11_append 2 = .ok (.istore_n 2, 1) := by decide +kernel
theorem dX11_append_3 : decode cX11_append 3 = .ok (.iload_n 2, 1) := by decide +kernel
theorem dX11_append_4 : decode cX11_append 4 = .ok (.ifCond .lt 45, 3) := by decide +kernel
theorem dX11_append_7 : decode cX11_append 7 = .ok (.aload_n 0, 1) := by decide +kernel
theorem dX11_append_8 : decode cX11_append 8 = .ok (.getfield 192, 3) := by decide +kernel
theorem dX11_append_11 : decode cX11_append 11 = .ok (.sipush 400, 3) := by decide +kernel
theorem dX11_append_14 : decode cX11_append 14 = .ok (.if_icmp .ge 29, 3) := by decide +kernel
theorem dX11_append_17 : decode cX11_append 17 = .ok (.aload_n 0, 1) := by decide +kernel
theorem dX11_append_18 : decode cX11_append 18 = .ok (.getfield 20, 3) := by decide +kernel
theorem dX11_append_21 : decode cX11_append 21 = .ok (.aload_n 0, 1) := by decide +kernel
theorem dX11_append_22 : decode cX11_append 22 = .ok (.getfield 192, 3) := by decide +kernel
theorem dX11_append_25 : decode cX11_append 25 = .ok (.iload_n 1, 1) := by decide +kernel
theorem dX11_append_26 : decode cX11_append 26 = .ok (.iload_n 2, 1) := by decide +kernel
theorem dX11_append_27 : decode cX11_append 27 = .ok (.ishr, 1) := by decide +kernel
theorem dX11_append_28 : decode cX11_append 28 = .ok (.sipush 255, 3) := by decide +kernel
theorem dX11_append_31 : decode cX11_append 31 = .ok (.iand, 1) := by decide +kernel
theorem dX11_append_32 : decode cX11_append 32 = .ok (.iastore, 1) := by decide +kernel
theorem dX11_append_33 : decode cX11_append 33 = .ok (.aload_n 0, 1) := by decide +kernel
theorem dX11_append_34 : decode cX11_append 34 = .ok (.dup, 1) := by decide +kernel
theorem dX11_append_35 : decode cX11_append 35 = .ok (.getfield 192, 3) := by decide +kernel
theorem dX11_append_38 : decode cX11_append 38 = .ok (.iconst 1, 1) := by decide +kernel
theorem dX11_append_39 : decode cX11_append 39 = .ok (.iadd, 1) := by decide +kernel
theorem dX11_append_40 : decode cX11_append 40 = .ok (.putfield 192, 3) := by decide +kernel
theorem dX11_append_43 : decode cX11_append 43 = .ok (.iinc 2 (-8), 3) := by decide +kernel
theorem dX11_append_46 : decode cX11_append 46 = .ok (.goto (-43), 3) := by decide +kernel
theorem dX11_append_49 : decode cX11_append 49 = .ok (.return_, 1) := by decide +kernel
set_option maxRecDepth 20000 in
theorem s_X11_append {w : Wd} {d : Nat} {P : IM → LM → Prop} {i : IM} {l : LM} (p0 : Int)  (h : gV w d X_X11_append P i l 3 [(0, vR (some 6)), (1, vI p0), (2, vI 24)] []) : gV w d X_X11_append P i l 0 [(0, vR (some 6)), (1, vI p0)] [] := by
  refine g_bipush (pc' := 2) dX11_append_0 rfl rfl ?_
  refine g_istore_n (pc' := 3) (L' := [(2, vI 24), (0, vR (some 6)), (1, vI p0)]) dX11_append_2 rfl (Nat.le_of_ble_eq_true rfl) rfl ?_
  refine g_sub (L' := [(0, vR (some 6)), (1, vI p0), (2, vI 24)]) [1, 2, 0] rfl ?_
  exact h
theorem e_X11_append {w : Wd} {d : Nat} {P : IM → LM → Prop} {i : IM} {l : LM} {p0 : Int}  (h : gV w d X_X11_append P i l 0 [(0, vR (some 6)), (1, vI p0)] []) : cVd w (d + 1) X_X11_append [vR (some 6), vI p0] i l P := CV_of (by decide +kernel) (Nat.le_of_ble_eq_true rfl) h
set_option maxRecDepth 20000 in
theorem s_X11_append_3 {w : Wd} {d : Nat} {P : IM → LM → Prop} {i : IM} {l : LM} (x1 : Int) (x2 : Int)  (h : ((rg x2) ∧ ((x2 < 0) → P i l) ∧ ((¬ (x2 < 0) ∧ (400 ≤ i 6 15)) → gV w d X_X11_append P i l 3 [(0, vR (some 6)), (1, vI x1), (2, vI (x2 + (-8)))] []) ∧ ((¬ (x2 < 0) ∧ (¬ (400 ≤ i 6 15))) → ((0 ≤ i 6 15 ∧ i 6 15 < 400) ∧ (rg (((u2 i 35 (i 6 15) (iand (ishr x1 x2) 255)) 6 15) + 1)) ∧ gV w d X_X11_append P (u2 (u2 i 35 (i 6 15) (iand (ishr x1 x2) 255)) 6 15 (((u2 i 35 (i 6 15) (iand (ishr x1 x2) 255)) 6 15) + 1)) l 3 [(0, vR (some 6)), (1, vI x1), (2, vI (x2 + (-8)))] [])))) : gV w d X_X11_append P i l 3 [(0, vR (some 6)), (1, vI x1), (2, vI x2)] [] := by
  refine g_iload_n (pc' := 4) 2 dX11_append_3 rfl rfl ?_
  obtain ⟨hob2, hk11, hk12, hk13⟩ := h
  have hk11g : (x2 < 0) → gV w d X_X11_append P i l 49 [(0, vR (some 6)), (1, vI x1), (2, vI x2)] [] := by
    intro hp
    have h := hk11 hp
    exact g_retV rfl dX11_append_49 h
  have hk12g : (¬ (x2 < 0) ∧ (400 ≤ i 6 15)) → gV w d X_X11_append P i l 43 [(0, vR (some 6)), (1, vI x1), (2, vI x2)] [] := by
    intro hp
    have h := hk12 hp
    refine g_iinc (pc' := 46) (L' := [(2, vI (x2 + (-8))), (0, vR (some 6)), (1, vI x1)]) 2 dX11_append_43 rfl (Nat.le_of_ble_eq_true rfl) rfl rfl ?_
    refine g_goto (tgt := 3) dX11_append_46 rfl ?_
    refine g_sub (L' := [(0, vR (some 6)), (1, vI x1), (2, vI (x2 + (-8)))]) [1, 2, 0] rfl ?_
    exact h
  have hk13g : (¬ (x2 < 0) ∧ (¬ (400 ≤ i 6 15))) → gV w d X_X11_append P i l 17 [(0, vR (some 6)), (1, vI x1), (2, vI x2)] [] := by
    intro hp
    have h := hk13 hp
    obtain ⟨ob8, ob10, h⟩ := h
    refine g_aload_n (pc' := 18) 0 dX11_append_17 rfl rfl ?_
    refine g_getR (pc' := 21) (o := some 35) fl_X11_20 rfl rfl rfl dX11_append_18 rfl ?_
    refine g_aload_n (pc' := 22) 0 dX11_append_21 rfl rfl ?_
    refine g_getI (pc' := 25) (z := 15) rfl fl_X11_192 rfl rfl dX11_append_22 rfl (fun rg7 => ?_)
    refine g_iload_n (pc' := 26) 1 dX11_append_25 rfl rfl ?_
    refine g_iload_n (pc' := 27) 2 dX11_append_26 rfl rfl ?_
    refine g_ishr (pc' := 28) dX11_append_27 rfl ?_
    refine g_sipush (pc' := 31) dX11_append_28 rfl rfl ?_
    refine g_iand (pc' := 32) dX11_append_31 rfl ?_
    refine g_iast (pc' := 33) (N := 400) rfl rfl (Nat.lt_of_lt_of_le (Nat.lt_succ_self _) (Nat.le_of_ble_eq_true rfl)) ob8 (rg_iand _ _) dX11_append_32 rfl ?_
    refine g_aload_n (pc' := 34) 0 dX11_append_33 rfl rfl ?_
    refine g_dup (pc' := 35) dX11_append_34 rfl rfl ?_
    refine g_getI (pc' := 38) (z := 15) rfl fl_X11_192 rfl rfl dX11_append_35 rfl (fun rg9 => ?_)
    refine g_iconst (pc' := 39) dX11_append_38 rfl ?_
    refine g_iadd (pc' := 40) dX11_append_39 rfl ?_
    refine g_putI (pc' := 43) (z := 15) rfl fp_X11_192 rfl rfl ob10 dX11_append_40 rfl ?_
    refine g_iinc (pc' := 46) (L' := [(2, vI (x2 + (-8))), (0, vR (some 6)), (1, vI x1)]) 2 dX11_append_43 rfl (Nat.le_of_ble_eq_true rfl) rfl rfl ?_
    refine g_goto (tgt := 3) dX11_append_46 rfl ?_
    refine g_sub (L' := [(0, vR (some 6)), (1, vI x1), (2, vI (x2 + (-8)))]) [1, 2, 0] rfl ?_
    exact h
  refine g_if_lt (tgt := 49) (pc' := 7) (hob2) Iff.rfl dX11_append_4 rfl rfl (fun c3 => ?_) (fun c3 => ?_)
  · exact hk11g c3
  · refine g_aload_n (pc' := 8) 0 dX11_append_7 rfl rfl ?_
    refine g_getI (pc' := 11) (z := 15) rfl fl_X11_192 rfl rfl dX11_append_8 rfl (fun rg4 => ?_)
    refine g_sipush (pc' := 14) dX11_append_11 rfl rfl ?_
    refine g_icmp_ge (tgt := 43) (pc' := 17) rg4 (rg_lit rfl) Iff.rfl dX11_append_14 rfl rfl (fun c5 => ?_) (fun c5 => ?_)
    · exact hk12g ⟨c3, c5⟩
    · exact hk13g ⟨c3, c5⟩

theorem dX11_comes_0 : decode cX11_comes 0 = .ok (.iload_n 1, 1) := by decide +kernel
theorem dX11_comes_1 : decode cX11_comes 1 = .ok (.iconst 2, 1) := by decide +kernel
theorem dX11_comes_2 : decode cX11_comes 2 = .ok (.iadd, 1) := by decide +kernel
theorem dX11_comes_3 : decode cX11_comes 3 = .ok (.aload_n 0, 1) := by decide +kernel
theorem dX11_comes_4 : decode cX11_comes 4 = .ok (.getfield 192, 3) := by decide +kernel
theorem dX11_comes_7 : decode cX11_comes 7 = .ok (.if_icmp .ge 15, 3) := by decide +kernel
theorem dX11_comes_10 : decode cX11_comes 10 = .ok (.aload_n 0, 1) := by decide +kernel
theorem dX11_comes_11 : decode cX11_comes 11 = .ok (.getfield 10, 3) := by decide +kernel
theorem dX11_comes_14 : decode cX11_comes 14 = .ok (.getfield 182, 3) := by decide +kernel
theorem dX11_comes_17 : decode cX11_comes 17 = .ok (.bipush 60, 2) := by decide +kernel
theorem dX11_comes_19 : decode cX11_comes 19 = .ok (.if_icmp .lt 5, 3) := by decide +kernel
theorem dX11_comes_22 : decode cX11_comes 22 = .ok (.iconst 0, 1) := by decide +kernel
theorem dX11_comes_23 : decode cX11_comes 23 = .ok (.ireturn, 1) := by decide +kernel
theorem dX11_comes_24 : decode cX11_comes 24 = .ok (.aload_n 0, 1) := by decide +kernel
theorem dX11_comes_25 : decode cX11_comes 25 = .ok (.getfield 20, 3) := by decide +kernel
theorem dX11_comes_28 : decode cX11_comes 28 = .ok (.iload_n 1, 1) := by decide +kernel
theorem dX11_comes_29 : decode cX11_comes 29 = .ok (.iconst 2, 1) := by decide +kernel
theorem dX11_comes_30 : decode cX11_comes 30 = .ok (.iadd, 1) := by decide +kernel
theorem dX11_comes_31 : decode cX11_comes 31 = .ok (.iaload, 1) := by decide +kernel
theorem dX11_comes_32 : decode cX11_comes 32 = .ok (.sipush 255, 3) := by decide +kernel
theorem dX11_comes_35 : decode cX11_comes 35 = .ok (.if_icmp .ne 7, 3) := by decide +kernel
theorem dX11_comes_38 : decode cX11_comes 38 = .ok (.iconst (-1), 1) := by decide +kernel
theorem dX11_comes_39 : decode cX11_comes 39 = .ok (.goto 11, 3) := by decide +kernel
theorem dX11_comes_42 : decode cX11_comes 42 = .ok (.aload_n 0, 1) := by decide +kernel
theorem dX11_comes_43 : decode cX11_comes 43 = .ok (.getfield 20, 3) := by decide +kernel
theorem dX11_comes_46 : decode cX11_comes 46 = .ok (.iload_n 1, 1) := by decide +kernel
theorem dX11_comes_47 : decode cX11_comes 47 = .ok (.iconst 2, 1) := by decide +kernel
theorem dX11_comes_48 : decode cX11_comes 48 = .ok (.iadd, 1) := by decide +kernel
theorem dX11_comes_49 : decode cX11_comes 49 = .ok (.iaload, 1) := by decide +kernel
theorem dX11_comes_50 : decode cX11_comes 50 = .ok (.istore_n 2, 1) := by decide +kernel
theorem dX11_comes_51 : decode cX11_comes 51 = .ok (.aload_n 0, 1) := by decide +kernel
theorem dX11_comes_52 : decode cX11_comes 52 = .ok (.getfield 20, 3) := by decide +kernel
theorem dX11_comes_55 : decode cX11_comes 55 = .ok (.iload_n 1, 1) := by decide +kernel
theorem dX11_comes_56 : decode cX11_comes 56 = .ok (.iaload, 1) := by decide +kernel
theorem dX11_comes_57 : decode cX11_comes 57 = .ok (.aload_n 0, 1) := by decide +kernel
theorem dX11_comes_58 : decode cX11_comes 58 = .ok (.getfield 10, 3) := by decide +kernel
theorem dX11_comes_61 : decode cX11_comes 61 = .ok (.getfield 167, 3) := by decide +kernel
theorem dX11_comes_64 : decode cX11_comes 64 = .ok (.if_icmp .ge 22, 3) := by decide +kernel
theorem dX11_comes_67 : decode cX11_comes 67 = .ok (.aload_n 0, 1) := by decide +kernel
theorem dX11_comes_68 : decode cX11_comes 68 = .ok (.getfield 20, 3) := by decide +kernel
theorem dX11_comes_71 : decode cX11_comes 71 = .ok (.iload_n 1, 1) := by decide +kernel
theorem dX11_comes_72 : decode cX11_comes 72 = .ok (.iconst 1, 1) := by decide +kernel
theorem dX11_comes_73 : decode cX11_comes 73 = .ok (.iadd, 1) := by decide +kernel
theorem dX11_comes_74 : decode cX11_comes 74 = .ok (.iaload, 1) := by decide +kernel
theorem dX11_comes_75 : decode cX11_comes 75 = .ok (.bipush 120, 2) := by decide +kernel
theorem dX11_comes_77 : decode cX11_comes 77 = .ok (.if_icmp .ge 9, 3) := by decide +kernel
theorem dX11_comes_80 : decode cX11_comes 80 = .ok (.iload_n 2, 1) := by decide +kernel
theorem dX11_comes_81 : decode cX11_comes 81 = .ok (.bipush 10, 2) := by decide +kernel
theorem dX11_comes_83 : decode cX11_comes 83 = .ok (.if_icmp .lt 5, 3) := by decide +kernel
theorem dX11_comes_86 : decode cX11_comes 86 = .ok (.iconst 0, 1) := by decide +kernel
theorem dX11_comes_87 : decode cX11_comes 87 = .ok (.ireturn, 1) := by decide +kernel
theorem dX11_comes_88 : decode cX11_comes 88 = .ok (.aload_n 0, 1) := by decide +kernel
theorem dX11_comes_89 : decode cX11_comes 89 = .ok (.getfield 10, 3) := by decide +kernel
theorem dX11_comes_92 : decode cX11_comes 92 = .ok (.aload_n 0, 1) := by decide +kernel
theorem dX11_comes_93 : decode cX11_comes 93 = .ok (.getfield 20, 3) := by decide +kernel
theorem dX11_comes_96 : decode cX11_comes 96 = .ok (.iload_n 1, 1) := by decide +kernel
theorem dX11_comes_97 : decode cX11_comes 97 = .ok (.iaload, 1) := by decide +kernel
theorem dX11_comes_98 : decode cX11_comes 98 = .ok (.aload_n 0, 1) := by decide +kernel
theorem dX11_comes_99 : decode cX11_comes 99 = .ok (.getfield 20, 3) := by decide +kernel
theorem dX11_comes_102 : decode cX11_comes 102 = .ok (.iload_n 1, 1) := by decide +kernel
theorem dX11_comes_103 : decode cX11_comes 103 = .ok (.iconst 1, 1) := by decide +kernel
theorem dX11_comes_104 : decode cX11_comes 104 = .ok (.iadd, 1) := by decide +kernel
theorem dX11_comes_105 : decode cX11_comes 105 = .ok (.iaload, 1) := by decide +kernel
theorem dX11_comes_106 : decode cX11_comes 106 = .ok (.iload_n 2, 1) := by decide +kernel
theorem dX11_comes_107 : decode cX11_comes 107 = .ok (.invokevirtual 185, 3) := by decide +kernel
theorem dX11_comes_110 : decode cX11_comes 110 = .ok (.iconst 1, 1) := by decide +kernel
theorem dX11_comes_111 : decode cX11_comes 111 = .ok (.ireturn, 1) := by decide +kernel
set_option maxRecDepth 20000 in
theorem s_X11_comes {w : Wd} {d : Nat} {P : Int → IM → LM → Prop} {i : IM} {l : LM} (p0 : Int)  (h : ((rg (p0 + 2)) ∧ (((i 6 15 ≤ p0 + 2) ∨ (¬ (i 7 11 < 60))) → P 0 i l) ∧ ((¬ ((i 6 15 ≤ p0 + 2) ∨ (¬ (i 7 11 < 60)))) → ((0 ≤ p0 + 2 ∧ p0 + 2 < 400) ∧ ((¬ (i 35 (p0 + 2) = 255) → 0 ≤ p0 + 2 ∧ p0 + 2 < 400) ∧ ((0 ≤ p0 ∧ p0 < 400) ∧ ((¬ (i 7 10 ≤ i 35 p0) → 0 ≤ p0 + 1 ∧ p0 + 1 < 400) ∧ (((i 7 10 ≤ i 35 p0) ∨ ((120 ≤ i 35 (p0 + 1)) ∨ (¬ ((if (i 35 (p0 + 2) = 255) then (-1) else i 35 (p0 + 2)) < 10)))) → P 0 i l) ∧ ((¬ ((i 7 10 ≤ i 35 p0) ∨ ((120 ≤ i 35 (p0 + 1)) ∨ (¬ ((if (i 35 (p0 + 2) = 255) then (-1) else i 35 (p0 + 2)) < 10))))) → ((0 ≤ p0 ∧ p0 < 400) ∧ (0 ≤ p0 + 1 ∧ p0 + 1 < 400) ∧ cVd w d X_X9_addWalk [vR (some 7), vI (i 35 p0), vI (i 35 (p0 + 1)), vI (if (i 35 (p0 + 2) = 255) then (-1) else i 35 (p0 + 2))] i l (fun i55 l55 => P 1 i55 l55)))))))))) : gI w d X_X11_comes P i l 0 [(0, vR (some 6)), (1, vI p0)] [] := by
  refine g_iload_n (pc' := 1) 1 dX11_comes_0 rfl rfl ?_
  refine g_iconst (pc' := 2) dX11_comes_1 rfl ?_
  refine g_iadd (pc' := 3) dX11_comes_2 rfl ?_
  refine g_aload_n (pc' := 4) 0 dX11_comes_3 rfl rfl ?_
  refine g_getI (pc' := 7) (z := 15) rfl fl_X11_192 rfl rfl dX11_comes_4 rfl (fun rg1 => ?_)
  obtain ⟨hob27, hk58, hk59⟩ := h
  have hk58g : ((i 6 15 ≤ p0 + 2) ∨ (¬ (i 7 11 < 60))) → gI w d X_X11_comes P i l 22 [(0, vR (some 6)), (1, vI p0)] [] := by
    intro hp
    have h := hk58 hp
    refine g_iconst (pc' := 23) dX11_comes_22 rfl ?_
    exact g_retZ rfl (by decide) dX11_comes_23 h
  have hk59g : (¬ ((i 6 15 ≤ p0 + 2) ∨ (¬ (i 7 11 < 60)))) → gI w d X_X11_comes P i l 24 [(0, vR (some 6)), (1, vI p0)] [] := by
    intro hp
    have h := hk59 hp
    obtain ⟨ob33, h⟩ := h
    refine g_aload_n (pc' := 25) 0 dX11_comes_24 rfl rfl ?_
    refine g_getR (pc' := 28) (o := some 35) fl_X11_20 rfl rfl rfl dX11_comes_25 rfl ?_
    refine g_iload_n (pc' := 29) 1 dX11_comes_28 rfl rfl ?_
    refine g_iconst (pc' := 30) dX11_comes_29 rfl ?_
    refine g_iadd (pc' := 31) dX11_comes_30 rfl ?_
    refine g_iald (pc' := 32) (N := 400) rfl rfl (Nat.lt_of_lt_of_le (Nat.lt_succ_self _) (Nat.le_of_ble_eq_true rfl)) ob33 dX11_comes_31 rfl (fun rg34 => ?_)
    refine g_sipush (pc' := 35) dX11_comes_32 rfl rfl ?_
    refine g_rg (fun hRG35 => ?_)
    obtain ⟨hob37, h⟩ := h
    have hJ : gI w d X_X11_comes P i l 50 [(0, vR (some 6)), (1, vI p0)] [vI (if (i 35 (p0 + 2) = 255) then (-1) else i 35 (p0 + 2))] := by
      obtain ⟨ob39, h⟩ := h
      refine g_istore_n (pc' := 51) (L' := [(2, vI (if (i 35 (p0 + 2) = 255) then (-1) else i 35 (p0 + 2))), (0, vR (some 6)), (1, vI p0)]) dX11_comes_50 rfl (Nat.le_of_ble_eq_true rfl) rfl ?_
      refine g_aload_n (pc' := 52) 1 dX11_comes_51 rfl rfl ?_
      refine g_getR (pc' := 55) (o := some 35) fl_X11_20 rfl rfl rfl dX11_comes_52 rfl ?_
      refine g_iload_n (pc' := 56) 2 dX11_comes_55 rfl rfl ?_
      refine g_iald (pc' := 57) (N := 400) rfl rfl (Nat.lt_of_lt_of_le (Nat.lt_succ_self _) (Nat.le_of_ble_eq_true rfl)) ob39 dX11_comes_56 rfl (fun rg40 => ?_)
      refine g_aload_n (pc' := 58) 1 dX11_comes_57 rfl rfl ?_
      refine g_getR (pc' := 61) (o := some 7) fl_X11_10 rfl rfl rfl dX11_comes_58 rfl ?_
      refine g_getI (pc' := 64) (z := 10) rfl fl_X11_167 rfl rfl dX11_comes_61 rfl (fun rg41 => ?_)
      obtain ⟨hob44, hk56, hk57⟩ := h
      have hk56g : ((i 7 10 ≤ i 35 p0) ∨ ((120 ≤ i 35 (p0 + 1)) ∨ (¬ ((if (i 35 (p0 + 2) = 255) then (-1) else i 35 (p0 + 2)) < 10)))) → gI w d X_X11_comes P i l 86 [(2, vI (if (i 35 (p0 + 2) = 255) then (-1) else i 35 (p0 + 2))), (0, vR (some 6)), (1, vI p0)] [] := by
        intro hp
        have h := hk56 hp
        refine g_iconst (pc' := 87) dX11_comes_86 rfl ?_
        exact g_retZ rfl (by decide) dX11_comes_87 h
      have hk57g : (¬ ((i 7 10 ≤ i 35 p0) ∨ ((120 ≤ i 35 (p0 + 1)) ∨ (¬ ((if (i 35 (p0 + 2) = 255) then (-1) else i 35 (p0 + 2)) < 10))))) → gI w d X_X11_comes P i l 88 [(2, vI (if (i 35 (p0 + 2) = 255) then (-1) else i 35 (p0 + 2))), (0, vR (some 6)), (1, vI p0)] [] := by
        intro hp
        have h := hk57 hp
        obtain ⟨ob51, ob53, h⟩ := h
        refine g_aload_n (pc' := 89) 1 dX11_comes_88 rfl rfl ?_
        refine g_getR (pc' := 92) (o := some 7) fl_X11_10 rfl rfl rfl dX11_comes_89 rfl ?_
        refine g_aload_n (pc' := 93) 1 dX11_comes_92 rfl rfl ?_
        refine g_getR (pc' := 96) (o := some 35) fl_X11_20 rfl rfl rfl dX11_comes_93 rfl ?_
        refine g_iload_n (pc' := 97) 2 dX11_comes_96 rfl rfl ?_
        refine g_iald (pc' := 98) (N := 400) rfl rfl (Nat.lt_of_lt_of_le (Nat.lt_succ_self _) (Nat.le_of_ble_eq_true rfl)) ob51 dX11_comes_97 rfl (fun rg52 => ?_)
        refine g_aload_n (pc' := 99) 1 dX11_comes_98 rfl rfl ?_
        refine g_getR (pc' := 102) (o := some 35) fl_X11_20 rfl rfl rfl dX11_comes_99 rfl ?_
        refine g_iload_n (pc' := 103) 2 dX11_comes_102 rfl rfl ?_
        refine g_iconst (pc' := 104) dX11_comes_103 rfl ?_
        refine g_iadd (pc' := 105) dX11_comes_104 rfl ?_
        refine g_iald (pc' := 106) (N := 400) rfl rfl (Nat.lt_of_lt_of_le (Nat.lt_succ_self _) (Nat.le_of_ble_eq_true rfl)) ob53 dX11_comes_105 rfl (fun rg54 => ?_)
        refine g_iload_n (pc' := 107) 0 dX11_comes_106 rfl rfl ?_
        refine g_cVV (pc' := 110) (vs := [vI (i 35 p0), vI (i 35 (p0 + 1)), vI (if (i 35 (p0 + 2) = 255) then (-1) else i 35 (p0 + 2))]) (st := []) (c := 9) h mv_X9_addWalk lk_X11_185 rfl rfl rfl rfl (Nat.le_of_ble_eq_true rfl) (Nat.le_of_ble_eq_true rfl) rfl dX11_comes_107 rfl z2 (fun i55 l55 h => ?_)
        refine g_iconst (pc' := 111) dX11_comes_110 rfl ?_
        exact g_retZ rfl (by decide) dX11_comes_111 h
      refine g_icmp_ge (tgt := 86) (pc' := 67) rg40 rg41 Iff.rfl dX11_comes_64 rfl rfl (fun c43 => ?_) (fun c43 => ?_)
      · exact hk56g (Or.inl c43)
      · refine g_aload_n (pc' := 68) 1 dX11_comes_67 rfl rfl ?_
        refine g_getR (pc' := 71) (o := some 35) fl_X11_20 rfl rfl rfl dX11_comes_68 rfl ?_
        refine g_iload_n (pc' := 72) 2 dX11_comes_71 rfl rfl ?_
        refine g_iconst (pc' := 73) dX11_comes_72 rfl ?_
        refine g_iadd (pc' := 74) dX11_comes_73 rfl ?_
        refine g_iald (pc' := 75) (N := 400) rfl rfl (Nat.lt_of_lt_of_le (Nat.lt_succ_self _) (Nat.le_of_ble_eq_true rfl)) (hob44 c43) dX11_comes_74 rfl (fun rg45 => ?_)
        refine g_bipush (pc' := 77) dX11_comes_75 rfl rfl ?_
        refine g_icmp_ge (tgt := 86) (pc' := 80) rg45 (rg_lit rfl) Iff.rfl dX11_comes_77 rfl rfl (fun c46 => ?_) (fun c46 => ?_)
        · exact hk56g (Or.inr (Or.inl c46))
        · refine g_iload_n (pc' := 81) 0 dX11_comes_80 rfl rfl ?_
          refine g_bipush (pc' := 83) dX11_comes_81 rfl rfl ?_
          refine g_icmp_lt (tgt := 88) (pc' := 86) (rg_ite (rg_lit rfl) (hRG35 _ _)) (rg_lit rfl) Iff.rfl dX11_comes_83 rfl rfl (fun c47 => ?_) (fun c47 => ?_)
          · exact hk57g (fun q => q.elim c43 (fun q => q.elim c46 (fun q => q c47)))
          · exact hk56g (Or.inr (Or.inr c47))
    refine g_icmp_ne (tgt := 42) (pc' := 38) rg34 (rg_lit rfl) Iff.rfl dX11_comes_35 rfl rfl (fun c36 => ?_) (fun c36 => ?_)
    · refine g_aload_n (pc' := 43) 0 dX11_comes_42 rfl rfl ?_
      refine g_getR (pc' := 46) (o := some 35) fl_X11_20 rfl rfl rfl dX11_comes_43 rfl ?_
      refine g_iload_n (pc' := 47) 1 dX11_comes_46 rfl rfl ?_
      refine g_iconst (pc' := 48) dX11_comes_47 rfl ?_
      refine g_iadd (pc' := 49) dX11_comes_48 rfl ?_
      refine g_iald (pc' := 50) (N := 400) rfl rfl (Nat.lt_of_lt_of_le (Nat.lt_succ_self _) (Nat.le_of_ble_eq_true rfl)) (hob37 c36) dX11_comes_49 rfl (fun rg38 => ?_)
      rw [if_neg c36 (α := Int) (t := (-1)) (e := i 35 (p0 + 2))] at hJ
      exact hJ
    · refine g_iconst (pc' := 39) dX11_comes_38 rfl ?_
      refine g_goto (tgt := 50) dX11_comes_39 rfl ?_
      rw [if_pos c36 (α := Int) (t := (-1)) (e := i 35 (p0 + 2))] at hJ
      exact hJ
  refine g_icmp_ge (tgt := 22) (pc' := 10) (hob27) rg1 Iff.rfl dX11_comes_7 rfl rfl (fun c28 => ?_) (fun c28 => ?_)
  · exact hk58g (Or.inl c28)
  · refine g_aload_n (pc' := 11) 0 dX11_comes_10 rfl rfl ?_
    refine g_getR (pc' := 14) (o := some 7) fl_X11_10 rfl rfl rfl dX11_comes_11 rfl ?_
    refine g_getI (pc' := 17) (z := 11) rfl fl_X11_182 rfl rfl dX11_comes_14 rfl (fun rg29 => ?_)
    refine g_bipush (pc' := 19) dX11_comes_17 rfl rfl ?_
    refine g_icmp_lt (tgt := 24) (pc' := 22) rg29 (rg_lit rfl) Iff.rfl dX11_comes_19 rfl rfl (fun c30 => ?_) (fun c30 => ?_)
    · exact hk59g (fun q => q.elim c28 (fun q => q c30))
    · exact hk58g (Or.inr c30)
theorem e_X11_comes {w : Wd} {d : Nat} {P : Int → IM → LM → Prop} {i : IM} {l : LM} {p0 : Int}  (h : gI w d X_X11_comes P i l 0 [(0, vR (some 6)), (1, vI p0)] []) : cI w (d + 1) X_X11_comes [vR (some 6), vI p0] i l P := CI_of (by decide +kernel) (Nat.le_of_ble_eq_true rfl) h

theorem dX11_survey_0 : decode cX11_survey 0 = .ok (.aload_n 0, 1) := by decide +kernel
theorem dX11_survey_1 : decode cX11_survey 1 = .ok (.getfield 57, 3) := by decide +kernel
theorem dX11_survey_4 : decode cX11_survey 4 = .ok (.iload_n 1, 1) := by decide +kernel
theorem dX11_survey_5 : decode cX11_survey 5 = .ok (.invokevirtual 284, 3) := by decide +kernel
theorem dX11_survey_8 : decode cX11_survey 8 = .ok (.aload_n 0, 1) := by decide +kernel
theorem dX11_survey_9 : decode cX11_survey 9 = .ok (.getfield 66, 3) := by decide +kernel
theorem dX11_survey_12 : decode cX11_survey 12 = .ok (.iload_n 1, 1) := by decide +kernel
theorem dX11_survey_13 : decode cX11_survey 13 = .ok (.invokevirtual 354, 3) := by decide +kernel
theorem dX11_survey_16 : decode cX11_survey 16 = .ok (.return_, 1) := by decide +kernel
set_option maxRecDepth 20000 in
theorem s_X11_survey {w : Wd} {d : Nat} {P : IM → LM → Prop} {i : IM} {l : LM} (p0 : Int)  (h : cVd w d X_X1_prepare [vR (some 51), vI p0] i l (fun i1 l1 => cVd w d X_X5_survey [vR (some 63), vI p0] i1 l1 (fun i2 l2 => P i2 l2))) : gV w d X_X11_survey P i l 0 [(0, vR (some 6)), (1, vI p0)] [] := by
  refine g_aload_n (pc' := 1) 0 dX11_survey_0 rfl rfl ?_
  refine g_getR (pc' := 4) (o := some 51) fl_X11_57 rfl rfl rfl dX11_survey_1 rfl ?_
  refine g_iload_n (pc' := 5) 1 dX11_survey_4 rfl rfl ?_
  refine g_cVV (pc' := 8) (vs := [vI p0]) (st := []) (c := 1) h mv_X1_prepare lk_X11_284 rfl rfl rfl rfl (Nat.le_of_ble_eq_true rfl) (Nat.le_of_ble_eq_true rfl) rfl dX11_survey_5 rfl z2 (fun i1 l1 h => ?_)
  refine g_aload_n (pc' := 9) 0 dX11_survey_8 rfl rfl ?_
  refine g_getR (pc' := 12) (o := some 63) fl_X11_66 rfl rfl rfl dX11_survey_9 rfl ?_
  refine g_iload_n (pc' := 13) 1 dX11_survey_12 rfl rfl ?_
  refine g_cVV (pc' := 16) (vs := [vI p0]) (st := []) (c := 5) h mv_X5_survey lk_X11_354 rfl rfl rfl rfl (Nat.le_of_ble_eq_true rfl) (Nat.le_of_ble_eq_true rfl) rfl dX11_survey_13 rfl z2 (fun i2 l2 h => ?_)
  exact g_retV rfl dX11_survey_16 h
theorem e_X11_survey {w : Wd} {d : Nat} {P : IM → LM → Prop} {i : IM} {l : LM} {p0 : Int}  (h : gV w d X_X11_survey P i l 0 [(0, vR (some 6)), (1, vI p0)] []) : cVd w (d + 1) X_X11_survey [vR (some 6), vI p0] i l P := CV_of (by decide +kernel) (Nat.le_of_ble_eq_true rfl) h
