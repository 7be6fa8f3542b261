theorem dX7_place_0 : decode cX7_place 0 = .ok (.aload_n 0, 1) := by decide +kernel
theorem dX7_place_1 : decode cX7_place 1 = .ok (.getfield 26, 3) := by decide +kernel
theorem dX7_place_4 : decode cX7_place 4 = .ok (.ireturn, 1) := by decide +kernel
set_option maxRecDepth 20000 in
theorem s_X7_place {w : Wd} {d : Nat} {P : Int → IM → LM → Prop} {i : IM} {l : LM}   (h : P (i 37 5) i l) : gI w d X_X7_place P i l 0 [(0, vR (some 37))] [] := by
  refine g_aload_n (pc' := 1) 0 dX7_place_0 rfl rfl ?_
  refine g_getI (pc' := 4) (z := 5) rfl fl_X7_26 rfl rfl dX7_place_1 rfl (fun rg1 => ?_)
  exact g_retI rfl rg1 dX7_place_4 h
theorem e_X7_place {w : Wd} {d : Nat} {P : Int → IM → LM → Prop} {i : IM} {l : LM}   (h : gI w d X_X7_place P i l 0 [(0, vR (some 37))] []) : cI w (d + 1) X_X7_place [vR (some 37)] i l P := CI_of (by decide +kernel) (Nat.le_of_ble_eq_true rfl) h

theorem dX7_readClause_0 : decode cX7_readClause 0 = .ok (.aload_n 0, 1) := by decide +kernel
theorem dX7_readClause_1 : decode cX7_readClause 1 = .ok (.getfield 55, 3) := by decide +kernel
theorem dX7_readClause_4 : decode cX7_readClause 4 = .ok (.sipush 309, 3) := by decide +kernel
theorem dX7_readClause_7 : decode cX7_readClause 7 = .ok (.isub, 1) := by decide +kernel
theorem dX7_readClause_8 : decode cX7_readClause 8 = .ok (.istore_n 2, 1) := by decide +kernel
theorem dX7_readClause_9 : decode cX7_readClause 9 = .ok (.iload_n 2, 1) := by decide +kernel
theorem dX7_readClause_10 : decode cX7_readClause 10 = .ok (.ifCond .lt 8, 3) := by decide +kernel
theorem dX7_readClause_13 : decode cX7_readClause 13 = .ok (.iload_n 2, 1) := by decide +kernel
theorem dX7_readClause_14 : decode cX7_readClause 14 = .ok (.iconst 4, 1) := by decide +kernel
theorem dX7_readClause_15 : decode cX7_readClause 15 = .ok (.if_icmp .lt 5, 3) := by decide +kernel
theorem dX7_readClause_18 : decode cX7_readClause 18 = .ok (.iconst 0, 1) := by decide +kernel
theorem dX7_readClause_19 : decode cX7_readClause 19 = .ok (.ireturn, 1) := by decide +kernel
theorem dX7_readClause_20 : decode cX7_readClause 20 = .ok (.aload_n 0, 1) := by decide +kernel
theorem dX7_readClause_21 : decode cX7_readClause 21 = .ok (.iconst 0, 1) := by decide +kernel
theorem dX7_readClause_22 : decode cX7_readClause 22 = .ok (.putfield 65, 3) := by decide +kernel
theorem dX7_readClause_25 : decode cX7_readClause 25 = .ok (.aload_n 0, 1) := by decide +kernel
theorem dX7_readClause_26 : decode cX7_readClause 26 = .ok (.getfield 17, 3) := by decide +kernel
theorem dX7_readClause_29 : decode cX7_readClause 29 = .ok (.iload_n 1, 1) := by decide +kernel
theorem dX7_readClause_30 : decode cX7_readClause 30 = .ok (.iload_n 2, 1) := by decide +kernel
theorem dX7_readClause_31 : decode cX7_readClause 31 = .ok (.iastore, 1) := by decide +kernel
theorem dX7_readClause_32 : decode cX7_readClause 32 = .ok (.aload_n 0, 1) := by decide +kernel
theorem dX7_readClause_33 : decode cX7_readClause 33 = .ok (.getfield 17, 3) := by decide +kernel
theorem dX7_readClause_36 : decode cX7_readClause 36 = .ok (.iload_n 1, 1) := by decide +kernel
theorem dX7_readClause_37 : decode cX7_readClause 37 = .ok (.iconst 1, 1) := by decide +kernel
theorem dX7_readClause_38 : decode cX7_readClause 38 = .ok (.iadd, 1) := by decide +kernel
theorem dX7_readClause_39 : decode cX7_readClause 39 = .ok (.aload_n 0, 1) := by decide +kernel
theorem dX7_readClause_40 : decode cX7_readClause 40 = .ok (.getfield 36, 3) := by decide +kernel
theorem dX7_readClause_43 : decode cX7_readClause 43 = .ok (.iastore, 1) := by decide +kernel
theorem dX7_readClause_44 : decode cX7_readClause 44 = .ok (.aload_n 0, 1) := by decide +kernel
theorem dX7_readClause_45 : decode cX7_readClause 45 = .ok (.invokevirtual 48, 3) := by decide +kernel
theorem dX7_readClause_48 : decode cX7_readClause 48 = .ok (.iload_n 2, 1) := by decide +kernel
theorem dX7_readClause_49 : decode cX7_readClause 49 = .ok (.ifCond .eq 8, 3) := by decide +kernel
theorem dX7_readClause_52 : decode cX7_readClause 52 = .ok (.iload_n 2, 1) := by decide +kernel
theorem dX7_readClause_53 : decode cX7_readClause 53 = .ok (.iconst 1, 1) := by decide +kernel
theorem dX7_readClause_54 : decode cX7_readClause 54 = .ok (.if_icmp .ne 13, 3) := by decide +kernel
theorem dX7_readClause_57 : decode cX7_readClause 57 = .ok (.aload_n 0, 1) := by decide +kernel
theorem dX7_readClause_58 : decode cX7_readClause 58 = .ok (.iconst 0, 1) := by decide +kernel
theorem dX7_readClause_59 : decode cX7_readClause 59 = .ok (.invokevirtual 68, 3) := by decide +kernel
theorem dX7_readClause_62 : decode cX7_readClause 62 = .ok (.ifCond .ne 5, 3) := by decide +kernel
theorem dX7_readClause_65 : decode cX7_readClause 65 = .ok (.iconst 0, 1) := by decide +kernel
theorem dX7_readClause_66 : decode cX7_readClause 66 = .ok (.ireturn, 1) := by decide +kernel
theorem dX7_readClause_67 : decode cX7_readClause 67 = .ok (.aload_n 0, 1) := by decide +kernel
theorem dX7_readClause_68 : decode cX7_readClause 68 = .ok (.getfield 17, 3) := by decide +kernel
theorem dX7_readClause_71 : decode cX7_readClause 71 = .ok (.iload_n 1, 1) := by decide +kernel
theorem dX7_readClause_72 : decode cX7_readClause 72 = .ok (.iconst 2, 1) := by decide +kernel
theorem dX7_readClause_73 : decode cX7_readClause 73 = .ok (.iadd, 1) := by decide +kernel
theorem dX7_readClause_74 : decode cX7_readClause 74 = .ok (.aload_n 0, 1) := by decide +kernel
theorem dX7_readClause_75 : decode cX7_readClause 75 = .ok (.getfield 36, 3) := by decide +kernel
theorem dX7_readClause_78 : decode cX7_readClause 78 = .ok (.iastore, 1) := by decide +kernel
theorem dX7_readClause_79 : decode cX7_readClause 79 = .ok (.aload_n 0, 1) := by decide +kernel
theorem dX7_readClause_80 : decode cX7_readClause 80 = .ok (.getfield 55, 3) := by decide +kernel
theorem dX7_readClause_83 : decode cX7_readClause 83 = .ok (.sipush 313, 3) := by decide +kernel
theorem dX7_readClause_86 : decode cX7_readClause 86 = .ok (.if_icmp .ne 17, 3) := by decide +kernel
theorem dX7_readClause_89 : decode cX7_readClause 89 = .ok (.aload_n 0, 1) := by decide +kernel
theorem dX7_readClause_90 : decode cX7_readClause 90 = .ok (.invokevirtual 48, 3) := by decide +kernel
theorem dX7_readClause_93 : decode cX7_readClause 93 = .ok (.aload_n 0, 1) := by decide +kernel
theorem dX7_readClause_94 : decode cX7_readClause 94 = .ok (.iconst 0, 1) := by decide +kernel
theorem dX7_readClause_95 : decode cX7_readClause 95 = .ok (.invokevirtual 71, 3) := by decide +kernel
theorem dX7_readClause_98 : decode cX7_readClause 98 = .ok (.ifCond .ne 5, 3) := by decide +kernel
theorem dX7_readClause_101 : decode cX7_readClause 101 = .ok (.iconst 0, 1) := by decide +kernel
theorem dX7_readClause_102 : decode cX7_readClause 102 = .ok (.ireturn, 1) := by decide +kernel
theorem dX7_readClause_103 : decode cX7_readClause 103 = .ok (.aload_n 0, 1) := by decide +kernel
theorem dX7_readClause_104 : decode cX7_readClause 104 = .ok (.getfield 17, 3) := by decide +kernel
theorem dX7_readClause_107 : decode cX7_readClause 107 = .ok (.iload_n 1, 1) := by decide +kernel
theorem dX7_readClause_108 : decode cX7_readClause 108 = .ok (.iconst 3, 1) := by decide +kernel
theorem dX7_readClause_109 : decode cX7_readClause 109 = .ok (.iadd, 1) := by decide +kernel
theorem dX7_readClause_110 : decode cX7_readClause 110 = .ok (.aload_n 0, 1) := by decide +kernel
theorem dX7_readClause_111 : decode cX7_readClause 111 = .ok (.getfield 36, 3) := by decide +kernel
theorem dX7_readClause_114 : decode cX7_readClause 114 = .ok (.iastore, 1) := by decide +kernel
theorem dX7_readClause_115 : decode cX7_readClause 115 = .ok (.aload_n 0, 1) := by decide +kernel
theorem dX7_readClause_116 : decode cX7_readClause 116 = .ok (.getfield 20, 3) := by decide +kernel
theorem dX7_readClause_119 : decode cX7_readClause 119 = .ok (.iload_n 2, 1) := by decide +kernel
theorem dX7_readClause_120 : decode cX7_readClause 120 = .ok (.aload_n 0, 1) := by decide +kernel
theorem dX7_readClause_121 : decode cX7_readClause 121 = .ok (.getfield 20, 3) := by decide +kernel
theorem dX7_readClause_124 : decode cX7_readClause 124 = .ok (.iload_n 2, 1) := by decide +kernel
theorem dX7_readClause_125 : decode cX7_readClause 125 = .ok (.iaload, 1) := by decide +kernel
theorem dX7_readClause_126 : decode cX7_readClause 126 = .ok (.iconst 0, 1) := by decide +kernel
theorem dX7_readClause_127 : decode cX7_readClause 127 = .ok (.invokestatic 74, 3) := by decide +kernel
theorem dX7_readClause_130 : decode cX7_readClause 130 = .ok (.aload_n 0, 1) := by decide +kernel
theorem dX7_readClause_131 : decode cX7_readClause 131 = .ok (.getfield 65, 3) := by decide +kernel
theorem dX7_readClause_134 : decode cX7_readClause 134 = .ok (.ior, 1) := by decide +kernel
theorem dX7_readClause_135 : decode cX7_readClause 135 = .ok (.iastore, 1) := by decide +kernel
theorem dX7_readClause_136 : decode cX7_readClause 136 = .ok (.iconst 1, 1) := by decide +kernel
theorem dX7_readClause_137 : decode cX7_readClause 137 = .ok (.ireturn, 1) := by decide +kernel
set_option maxRecDepth 20000 in
theorem s_X7_readClause {w : Wd} {d : Nat} {P : Int → IM → LM → Prop} {i : IM} {l : LM} (p0 : Int)  (h : ((rg ((i 37 7) - 309)) ∧ ((((i 37 7) - 309 < 0) ∨ (¬ ((i 37 7) - 309 < 4))) → P 0 i l) ∧ ((¬ (((i 37 7) - 309 < 0) ∨ (¬ ((i 37 7) - 309 < 4)))) → ((0 ≤ p0 ∧ p0 < 48) ∧ (rg ((i 37 7) - 309)) ∧ (0 ≤ p0 + 1 ∧ p0 + 1 < 48) ∧ cVd w d X_X7_step [vR (some 37)] (u2 (u2 (u2 i 37 11 0) 39 p0 ((i 37 7) - 309)) 39 (p0 + 1) ((u2 (u2 i 37 11 0) 39 p0 ((i 37 7) - 309)) 37 9)) l (fun i10 l10 => (((((i 37 7) - 309 = 0) ∨ ((i 37 7) - 309 = 1)) → gI w d X_X7_readClause P i10 l10 57 [(0, vR (some 37)), (1, vI p0), (2, vI ((i 37 7) - 309))] []) ∧ ((¬ (((i 37 7) - 309 = 0) ∨ ((i 37 7) - 309 = 1))) → gI w d X_X7_readClause P i10 l10 67 [(0, vR (some 37)), (1, vI p0), (2, vI ((i 37 7) - 309))] []))))))) : gI w d X_X7_readClause P i l 0 [(0, vR (some 37)), (1, vI p0)] [] := by
  refine g_aload_n (pc' := 1) 0 dX7_readClause_0 rfl rfl ?_
  refine g_getI (pc' := 4) (z := 7) rfl fl_X7_55 rfl rfl dX7_readClause_1 rfl (fun rg1 => ?_)
  refine g_sipush (pc' := 7) dX7_readClause_4 rfl rfl ?_
  refine g_isub (pc' := 8) dX7_readClause_7 rfl ?_
  refine g_istore_n (pc' := 9) (L' := [(2, vI ((i 37 7) - 309)), (0, vR (some 37)), (1, vI p0)]) dX7_readClause_8 rfl (Nat.le_of_ble_eq_true rfl) rfl ?_
  refine g_iload_n (pc' := 10) 0 dX7_readClause_9 rfl rfl ?_
  obtain ⟨hob3, hk16, hk17⟩ := h
  have hk16g : (((i 37 7) - 309 < 0) ∨ (¬ ((i 37 7) - 309 < 4))) → gI w d X_X7_readClause P i l 18 [(2, vI ((i 37 7) - 309)), (0, vR (some 37)), (1, vI p0)] [] := by
    intro hp
    have h := hk16 hp
    refine g_iconst (pc' := 19) dX7_readClause_18 rfl ?_
    exact g_retZ rfl (by decide) dX7_readClause_19 h
  have hk17g : (¬ (((i 37 7) - 309 < 0) ∨ (¬ ((i 37 7) - 309 < 4)))) → gI w d X_X7_readClause P i l 20 [(2, vI ((i 37 7) - 309)), (0, vR (some 37)), (1, vI p0)] [] := by
    intro hp
    have h := hk17 hp
    obtain ⟨ob6, ob7, ob9, h⟩ := h
    refine g_aload_n (pc' := 21) 1 dX7_readClause_20 rfl rfl ?_
    refine g_iconst (pc' := 22) dX7_readClause_21 rfl ?_
    refine g_putI (pc' := 25) (z := 11) rfl fp_X7_65 rfl rfl (rg_lit rfl) dX7_readClause_22 rfl ?_
    refine g_aload_n (pc' := 26) 1 dX7_readClause_25 rfl rfl ?_
    refine g_getR (pc' := 29) (o := some 39) fl_X7_17 rfl rfl rfl dX7_readClause_26 rfl ?_
    refine g_iload_n (pc' := 30) 2 dX7_readClause_29 rfl rfl ?_
    refine g_iload_n (pc' := 31) 0 dX7_readClause_30 rfl rfl ?_
    refine g_iast (pc' := 32) (N := 48) rfl rfl (Nat.lt_of_lt_of_le (Nat.lt_succ_self _) (Nat.le_of_ble_eq_true rfl)) ob6 ob7 dX7_readClause_31 rfl ?_
    refine g_aload_n (pc' := 33) 1 dX7_readClause_32 rfl rfl ?_
    refine g_getR (pc' := 36) (o := some 39) fl_X7_17 rfl rfl rfl dX7_readClause_33 rfl ?_
    refine g_iload_n (pc' := 37) 2 dX7_readClause_36 rfl rfl ?_
    refine g_iconst (pc' := 38) dX7_readClause_37 rfl ?_
    refine g_iadd (pc' := 39) dX7_readClause_38 rfl ?_
    refine g_aload_n (pc' := 40) 1 dX7_readClause_39 rfl rfl ?_
    refine g_getI (pc' := 43) (z := 9) rfl fl_X7_36 rfl rfl dX7_readClause_40 rfl (fun rg8 => ?_)
    refine g_iast (pc' := 44) (N := 48) rfl rfl (Nat.lt_of_lt_of_le (Nat.lt_succ_self _) (Nat.le_of_ble_eq_true rfl)) ob9 rg8 dX7_readClause_43 rfl ?_
    refine g_aload_n (pc' := 45) 1 dX7_readClause_44 rfl rfl ?_
    refine g_cVV (pc' := 48) (vs := []) (st := []) (c := 7) h mv_X7_step lk_X7_48 rfl rfl rfl rfl (Nat.le_of_ble_eq_true rfl) (Nat.le_of_ble_eq_true rfl) rfl dX7_readClause_45 rfl z2 (fun i10 l10 h => ?_)
    refine g_iload_n (pc' := 49) 0 dX7_readClause_48 rfl rfl ?_
    obtain ⟨hk14, hk15⟩ := h
    have hk14g : (((i 37 7) - 309 = 0) ∨ ((i 37 7) - 309 = 1)) → gI w d X_X7_readClause P i10 l10 57 [(2, vI ((i 37 7) - 309)), (0, vR (some 37)), (1, vI p0)] [] := by
      intro hp
      have h := hk14 hp
      refine g_sub (L' := [(0, vR (some 37)), (1, vI p0), (2, vI ((i 37 7) - 309))]) [1, 2, 0] rfl ?_
      exact h
    have hk15g : (¬ (((i 37 7) - 309 = 0) ∨ ((i 37 7) - 309 = 1))) → gI w d X_X7_readClause P i10 l10 67 [(2, vI ((i 37 7) - 309)), (0, vR (some 37)), (1, vI p0)] [] := by
      intro hp
      have h := hk15 hp
      refine g_sub (L' := [(0, vR (some 37)), (1, vI p0), (2, vI ((i 37 7) - 309))]) [1, 2, 0] rfl ?_
      exact h
    refine g_if_eq (tgt := 57) (pc' := 52) ob7 Iff.rfl dX7_readClause_49 rfl rfl (fun c12 => ?_) (fun c12 => ?_)
    · exact hk14g (Or.inl c12)
    · refine g_iload_n (pc' := 53) 0 dX7_readClause_52 rfl rfl ?_
      refine g_iconst (pc' := 54) dX7_readClause_53 rfl ?_
      refine g_icmp_ne (tgt := 67) (pc' := 57) ob7 (rg_lit rfl) Iff.rfl dX7_readClause_54 rfl rfl (fun c13 => ?_) (fun c13 => ?_)
      · exact hk15g (fun q => q.elim c12 c13)
      · exact hk14g (Or.inr c13)
  refine g_if_lt (tgt := 18) (pc' := 13) (hob3) Iff.rfl dX7_readClause_10 rfl rfl (fun c4 => ?_) (fun c4 => ?_)
  · exact hk16g (Or.inl c4)
  · refine g_iload_n (pc' := 14) 0 dX7_readClause_13 rfl rfl ?_
    refine g_iconst (pc' := 15) dX7_readClause_14 rfl ?_
    refine g_icmp_lt (tgt := 20) (pc' := 18) (hob3) (rg_lit rfl) Iff.rfl dX7_readClause_15 rfl rfl (fun c5 => ?_) (fun c5 => ?_)
    · exact hk17g (fun q => q.elim c4 (fun q => q c5))
    · exact hk16g (Or.inr c5)
theorem e_X7_readClause {w : Wd} {d : Nat} {P : Int → IM → LM → Prop} {i : IM} {l : LM} {p0 : Int}  (h : gI w d X_X7_readClause P i l 0 [(0, vR (some 37)), (1, vI p0)] []) : cI w (d + 1) X_X7_readClause [vR (some 37), vI p0] i l P := CI_of (by decide +kernel) (Nat.le_of_ble_eq_true rfl) h
set_option maxRecDepth 20000 in
theorem s_X7_readClause_57 {w : Wd} {d : Nat} {P : Int → IM → LM → Prop} {i : IM} {l : LM} (x1 : Int) (x2 : Int)  (h : cI w d X_X7_readSum [vR (some 37), vI 0] i l (fun r18 i18 l18 => (((r18 = 0) → P 0 i18 l18) ∧ ((¬ (r18 = 0)) → gI w d X_X7_readClause P i18 l18 67 [(0, vR (some 37)), (1, vI x1), (2, vI x2)] [])))) : gI w d X_X7_readClause P i l 57 [(0, vR (some 37)), (1, vI x1), (2, vI x2)] [] := by
  refine g_aload_n (pc' := 58) 0 dX7_readClause_57 rfl rfl ?_
  refine g_iconst (pc' := 59) dX7_readClause_58 rfl ?_
  refine g_cVI (pc' := 62) (vs := [vI 0]) (st := []) (c := 7) h mv_X7_readSum lk_X7_68 rfl rfl rfl rfl (Nat.le_of_ble_eq_true rfl) (Nat.le_of_ble_eq_true rfl) rfl dX7_readClause_59 rfl z2 (fun r18 i18 l18 rg18 h => ?_)
  obtain ⟨hk21, hk22⟩ := h
  refine g_if_ne (tgt := 67) (pc' := 65) rg18 Iff.rfl dX7_readClause_62 rfl rfl (fun c20 => ?_) (fun c20 => ?_)
  · have h := hk22 c20
    exact h
  · have h := hk21 c20
    refine g_iconst (pc' := 66) dX7_readClause_65 rfl ?_
    exact g_retZ rfl (by decide) dX7_readClause_66 h
set_option maxRecDepth 20000 in
theorem s_X7_readClause_67 {w : Wd} {d : Nat} {P : Int → IM → LM → Prop} {i : IM} {l : LM} (x1 : Int) (x2 : Int)  (h : ((0 ≤ x1 + 2 ∧ x1 + 2 < 48) ∧ ((((u2 i 39 (x1 + 2) (i 37 9)) 37 7 = 313) → cVd w d X_X7_step [vR (some 37)] (u2 i 39 (x1 + 2) (i 37 9)) l (fun i28 l28 => cI w d X_X7_readTest [vR (some 37), vI 0] i28 l28 (fun r29 i29 l29 => (((r29 = 0) → P 0 i29 l29) ∧ ((¬ (r29 = 0)) → gI w d X_X7_readClause P i29 l29 103 [(0, vR (some 37)), (1, vI x1), (2, vI x2)] []))))) ∧ ((¬ ((u2 i 39 (x1 + 2) (i 37 9)) 37 7 = 313)) → gI w d X_X7_readClause P (u2 i 39 (x1 + 2) (i 37 9)) l 103 [(0, vR (some 37)), (1, vI x1), (2, vI x2)] [])))) : gI w d X_X7_readClause P i l 67 [(0, vR (some 37)), (1, vI x1), (2, vI x2)] [] := by
  obtain ⟨ob24, h⟩ := h
  refine g_aload_n (pc' := 68) 0 dX7_readClause_67 rfl rfl ?_
  refine g_getR (pc' := 71) (o := some 39) fl_X7_17 rfl rfl rfl dX7_readClause_68 rfl ?_
  refine g_iload_n (pc' := 72) 1 dX7_readClause_71 rfl rfl ?_
  refine g_iconst (pc' := 73) dX7_readClause_72 rfl ?_
  refine g_iadd (pc' := 74) dX7_readClause_73 rfl ?_
  refine g_aload_n (pc' := 75) 0 dX7_readClause_74 rfl rfl ?_
  refine g_getI (pc' := 78) (z := 9) rfl fl_X7_36 rfl rfl dX7_readClause_75 rfl (fun rg23 => ?_)
  refine g_iast (pc' := 79) (N := 48) rfl rfl (Nat.lt_of_lt_of_le (Nat.lt_succ_self _) (Nat.le_of_ble_eq_true rfl)) ob24 rg23 dX7_readClause_78 rfl ?_
  refine g_aload_n (pc' := 80) 0 dX7_readClause_79 rfl rfl ?_
  refine g_getI (pc' := 83) (z := 7) rfl fl_X7_55 rfl rfl dX7_readClause_80 rfl (fun rg25 => ?_)
  refine g_sipush (pc' := 86) dX7_readClause_83 rfl rfl ?_
  obtain ⟨hk34, hk35⟩ := h
  refine g_icmp_ne (tgt := 103) (pc' := 89) rg25 (rg_lit rfl) Iff.rfl dX7_readClause_86 rfl rfl (fun c27 => ?_) (fun c27 => ?_)
  · have h := hk35 c27
    exact h
  · have h := hk34 c27
    refine g_aload_n (pc' := 90) 0 dX7_readClause_89 rfl rfl ?_
    refine g_cVV (pc' := 93) (vs := []) (st := []) (c := 7) h mv_X7_step lk_X7_48 rfl rfl rfl rfl (Nat.le_of_ble_eq_true rfl) (Nat.le_of_ble_eq_true rfl) rfl dX7_readClause_90 rfl z2 (fun i28 l28 h => ?_)
    refine g_aload_n (pc' := 94) 0 dX7_readClause_93 rfl rfl ?_
    refine g_iconst (pc' := 95) dX7_readClause_94 rfl ?_
    refine g_cVI (pc' := 98) (vs := [vI 0]) (st := []) (c := 7) h mv_X7_readTest lk_X7_71 rfl rfl rfl rfl (Nat.le_of_ble_eq_true rfl) (Nat.le_of_ble_eq_true rfl) rfl dX7_readClause_95 rfl z2 (fun r29 i29 l29 rg29 h => ?_)
    obtain ⟨hk32, hk33⟩ := h
    refine g_if_ne (tgt := 103) (pc' := 101) rg29 Iff.rfl dX7_readClause_98 rfl rfl (fun c31 => ?_) (fun c31 => ?_)
    · have h := hk33 c31
      exact h
    · have h := hk32 c31
      refine g_iconst (pc' := 102) dX7_readClause_101 rfl ?_
      exact g_retZ rfl (by decide) dX7_readClause_102 h
set_option maxRecDepth 20000 in
theorem s_X7_readClause_103 {w : Wd} {d : Nat} {P : Int → IM → LM → Prop} {i : IM} {l : LM} (x1 : Int) (x2 : Int)  (hd : 1 ≤ d) (h : ((0 ≤ x1 + 3 ∧ x1 + 3 < 48) ∧ (0 ≤ x2 ∧ x2 < 4) ∧ P 1 (u2 (u2 i 39 (x1 + 3) (i 37 9)) 40 x2 (ior (max ((u2 i 39 (x1 + 3) (i 37 9)) 40 x2) 0) ((u2 i 39 (x1 + 3) (i 37 9)) 37 11))) l)) : gI w d X_X7_readClause P i l 103 [(0, vR (some 37)), (1, vI x1), (2, vI x2)] [] := by
  obtain ⟨ob37, ob38, h⟩ := h
  refine g_aload_n (pc' := 104) 0 dX7_readClause_103 rfl rfl ?_
  refine g_getR (pc' := 107) (o := some 39) fl_X7_17 rfl rfl rfl dX7_readClause_104 rfl ?_
  refine g_iload_n (pc' := 108) 1 dX7_readClause_107 rfl rfl ?_
  refine g_iconst (pc' := 109) dX7_readClause_108 rfl ?_
  refine g_iadd (pc' := 110) dX7_readClause_109 rfl ?_
  refine g_aload_n (pc' := 111) 0 dX7_readClause_110 rfl rfl ?_
  refine g_getI (pc' := 114) (z := 9) rfl fl_X7_36 rfl rfl dX7_readClause_111 rfl (fun rg36 => ?_)
  refine g_iast (pc' := 115) (N := 48) rfl rfl (Nat.lt_of_lt_of_le (Nat.lt_succ_self _) (Nat.le_of_ble_eq_true rfl)) ob37 rg36 dX7_readClause_114 rfl ?_
  refine g_aload_n (pc' := 116) 0 dX7_readClause_115 rfl rfl ?_
  refine g_getR (pc' := 119) (o := some 40) fl_X7_20 rfl rfl rfl dX7_readClause_116 rfl ?_
  refine g_iload_n (pc' := 120) 2 dX7_readClause_119 rfl rfl ?_
  refine g_aload_n (pc' := 121) 0 dX7_readClause_120 rfl rfl ?_
  refine g_getR (pc' := 124) (o := some 40) fl_X7_20 rfl rfl rfl dX7_readClause_121 rfl ?_
  refine g_iload_n (pc' := 125) 2 dX7_readClause_124 rfl rfl ?_
  refine g_iald (pc' := 126) (N := 4) rfl rfl (Nat.lt_of_lt_of_le (Nat.lt_succ_self _) (Nat.le_of_ble_eq_true rfl)) ob38 dX7_readClause_125 rfl (fun rg39 => ?_)
  refine g_iconst (pc' := 127) dX7_readClause_126 rfl ?_
  refine g_pSI (pc' := 130) (vs := [vI ((u2 i 39 (x1 + 3) (i 37 9)) 40 x2), vI 0]) (st := [vI x2, vR (some 40)]) (val := max ((u2 i 39 (x1 + 3) (i 37 9)) 40 x2) 0) (sp_max (le_hd hd rfl) rg39 (rg_lit rfl)) mk_J9_max_7cf53 ms_J9_max_7cf53 lk_X7_74 rfl (Nat.le_of_ble_eq_true rfl) (Nat.le_of_ble_eq_true rfl) rfl dX7_readClause_127 rfl z2 (fun rg40 => ?_)
  refine g_aload_n (pc' := 131) 0 dX7_readClause_130 rfl rfl ?_
  refine g_getI (pc' := 134) (z := 11) rfl fl_X7_65 rfl rfl dX7_readClause_131 rfl (fun rg41 => ?_)
  refine g_ior (pc' := 135) dX7_readClause_134 rfl ?_
  refine g_iast (pc' := 136) (N := 4) rfl rfl (Nat.lt_of_lt_of_le (Nat.lt_succ_self _) (Nat.le_of_ble_eq_true rfl)) ob38 (rg_ior _ _) dX7_readClause_135 rfl ?_
  refine g_iconst (pc' := 137) dX7_readClause_136 rfl ?_
  exact g_retZ rfl (by decide) dX7_readClause_137 h

theorem dX7_readTest_0 : decode cX7_readTest 0 = .ok (.aload_n 0, 1) := by decide +kernel
theorem dX7_readTest_1 : decode cX7_readTest 1 = .ok (.iload_n 1, 1) := by decide +kernel
theorem dX7_readTest_2 : decode cX7_readTest 2 = .ok (.invokevirtual 80, 3) := by decide +kernel
theorem dX7_readTest_5 : decode cX7_readTest 5 = .ok (.ifCond .ne 5, 3) := by decide +kernel
theorem dX7_readTest_8 : decode cX7_readTest 8 = .ok (.iconst 0, 1) := by decide +kernel
theorem dX7_readTest_9 : decode cX7_readTest 9 = .ok (.ireturn, 1) := by decide +kernel
theorem dX7_readTest_10 : decode cX7_readTest 10 = .ok (.iconst 0, 1) := by decide +kernel
theorem dX7_readTest_11 : decode cX7_readTest 11 = .ok (.istore_n 2, 1) := by decide +kernel
theorem dX7_readTest_12 : decode cX7_readTest 12 = .ok (.iload_n 2, 1) := by decide +kernel
theorem dX7_readTest_13 : decode cX7_readTest 13 = .ok (.sipush 400, 3) := by decide +kernel
theorem dX7_readTest_16 : decode cX7_readTest 16 = .ok (.if_icmp .ge 50, 3) := by decide +kernel
theorem dX7_readTest_19 : decode cX7_readTest 19 = .ok (.aload_n 0, 1) := by decide +kernel
theorem dX7_readTest_20 : decode cX7_readTest 20 = .ok (.getfield 55, 3) := by decide +kernel
theorem dX7_readTest_23 : decode cX7_readTest 23 = .ok (.sipush 314, 3) := by decide +kernel
theorem dX7_readTest_26 : decode cX7_readTest 26 = .ok (.if_icmp .ne 40, 3) := by decide +kernel
theorem dX7_readTest_29 : decode cX7_readTest 29 = .ok (.aload_n 0, 1) := by decide +kernel
theorem dX7_readTest_30 : decode cX7_readTest 30 = .ok (.getfield 36, 3) := by decide +kernel
theorem dX7_readTest_33 : decode cX7_readTest 33 = .ok (.istore_n 3, 1) := by decide +kernel
theorem dX7_readTest_34 : decode cX7_readTest 34 = .ok (.aload_n 0, 1) := by decide +kernel
theorem dX7_readTest_35 : decode cX7_readTest 35 = .ok (.bipush 10, 2) := by decide +kernel
theorem dX7_readTest_37 : decode cX7_readTest 37 = .ok (.iconst 0, 1) := by decide +kernel
theorem dX7_readTest_38 : decode cX7_readTest 38 = .ok (.invokevirtual 83, 3) := by decide +kernel
theorem dX7_readTest_41 : decode cX7_readTest 41 = .ok (.aload_n 0, 1) := by decide +kernel
theorem dX7_readTest_42 : decode cX7_readTest 42 = .ok (.invokevirtual 48, 3) := by decide +kernel
theorem dX7_readTest_45 : decode cX7_readTest 45 = .ok (.aload_n 0, 1) := by decide +kernel
theorem dX7_readTest_46 : decode cX7_readTest 46 = .ok (.iload_n 1, 1) := by decide +kernel
theorem dX7_readTest_47 : decode cX7_readTest 47 = .ok (.invokevirtual 80, 3) := by decide +kernel
theorem dX7_readTest_50 : decode cX7_readTest 50 = .ok (.ifCond .ne 5, 3) := by decide +kernel
theorem dX7_readTest_53 : decode cX7_readTest 53 = .ok (.iconst 0, 1) := by decide +kernel
theorem dX7_readTest_54 : decode cX7_readTest 54 = .ok (.ireturn, 1) := by decide +kernel
theorem dX7_readTest_55 : decode cX7_readTest 55 = .ok (.aload_n 0, 1) := by decide +kernel
theorem dX7_readTest_56 : decode cX7_readTest 56 = .ok (.iload_n 3, 1) := by decide +kernel
theorem dX7_readTest_57 : decode cX7_readTest 57 = .ok (.invokevirtual 87, 3) := by decide +kernel
theorem dX7_readTest_60 : decode cX7_readTest 60 = .ok (.iinc 2 1, 3) := by decide +kernel
theorem dX7_readTest_63 : decode cX7_readTest 63 = .ok (.goto (-51), 3) := by decide +kernel
theorem dX7_readTest_66 : decode cX7_readTest 66 = .ok (.iconst 1, 1) := by decide +kernel
theorem dX7_readTest_67 : decode cX7_readTest 67 = .ok (.ireturn, 1) := by decide +kernel
set_option maxRecDepth 20000 in
theorem s_X7_readTest {w : Wd} {d : Nat} {P : Int → IM → LM → Prop} {i : IM} {l : LM} (p0 : Int)  (h : cI w d X_X7_readBoth [vR (some 37), vI p0] i l (fun r1 i1 l1 => (((r1 = 0) → P 0 i1 l1) ∧ ((¬ (r1 = 0)) → gI w d X_X7_readTest P i1 l1 12 [(0, vR (some 37)), (1, vI p0), (2, vI 0)] [])))) : gI w d X_X7_readTest P i l 0 [(0, vR (some 37)), (1, vI p0)] [] := by
  refine g_aload_n (pc' := 1) 0 dX7_readTest_0 rfl rfl ?_
  refine g_iload_n (pc' := 2) 1 dX7_readTest_1 rfl rfl ?_
  refine g_cVI (pc' := 5) (vs := [vI p0]) (st := []) (c := 7) h mv_X7_readBoth lk_X7_80 rfl rfl rfl rfl (Nat.le_of_ble_eq_true rfl) (Nat.le_of_ble_eq_true rfl) rfl dX7_readTest_2 rfl z2 (fun r1 i1 l1 rg1 h => ?_)
  obtain ⟨hk4, hk5⟩ := h
  refine g_if_ne (tgt := 10) (pc' := 8) rg1 Iff.rfl dX7_readTest_5 rfl rfl (fun c3 => ?_) (fun c3 => ?_)
  · have h := hk5 c3
    refine g_iconst (pc' := 11) dX7_readTest_10 rfl ?_
    refine g_istore_n (pc' := 12) (L' := [(2, vI 0), (0, vR (some 37)), (1, vI p0)]) dX7_readTest_11 rfl (Nat.le_of_ble_eq_true rfl) rfl ?_
    refine g_sub (L' := [(0, vR (some 37)), (1, vI p0), (2, vI 0)]) [1, 2, 0] rfl ?_
    exact h
  · have h := hk4 c3
    refine g_iconst (pc' := 9) dX7_readTest_8 rfl ?_
    exact g_retZ rfl (by decide) dX7_readTest_9 h
theorem e_X7_readTest {w : Wd} {d : Nat} {P : Int → IM → LM → Prop} {i : IM} {l : LM} {p0 : Int}  (h : gI w d X_X7_readTest P i l 0 [(0, vR (some 37)), (1, vI p0)] []) : cI w (d + 1) X_X7_readTest [vR (some 37), vI p0] i l P := CI_of (by decide +kernel) (Nat.le_of_ble_eq_true rfl) h
set_option maxRecDepth 20000 in
theorem s_X7_readTest_12 {w : Wd} {d : Nat} {P : Int → IM → LM → Prop} {i : IM} {l : LM} (x1 : Int) (x2 : Int)  (h : ((rg x2) ∧ (((400 ≤ x2) ∨ (¬ (i 37 7 = 314))) → P 1 i l) ∧ ((¬ ((400 ≤ x2) ∨ (¬ (i 37 7 = 314)))) → cVd w d X_X7_write [vR (some 37), vI 10, vI 0] i l (fun i13 l13 => cVd w d X_X7_step [vR (some 37)] i13 l13 (fun i14 l14 => cI w d X_X7_readBoth [vR (some 37), vI x1] i14 l14 (fun r15 i15 l15 => (((r15 = 0) → P 0 i15 l15) ∧ ((¬ (r15 = 0)) → cVd w d X_X7_aim [vR (some 37), vI (i 37 9)] i15 l15 (fun i18 l18 => gI w d X_X7_readTest P i18 l18 12 [(0, vR (some 37)), (1, vI x1), (2, vI (x2 + 1))] []))))))))) : gI w d X_X7_readTest P i l 12 [(0, vR (some 37)), (1, vI x1), (2, vI x2)] [] := by
  refine g_iload_n (pc' := 13) 2 dX7_readTest_12 rfl rfl ?_
  refine g_sipush (pc' := 16) dX7_readTest_13 rfl rfl ?_
  obtain ⟨hob7, hk21, hk22⟩ := h
  have hk21g : ((400 ≤ x2) ∨ (¬ (i 37 7 = 314))) → gI w d X_X7_readTest P i l 66 [(0, vR (some 37)), (1, vI x1), (2, vI x2)] [] := by
    intro hp
    have h := hk21 hp
    refine g_iconst (pc' := 67) dX7_readTest_66 rfl ?_
    exact g_retZ rfl (by decide) dX7_readTest_67 h
  have hk22g : (¬ ((400 ≤ x2) ∨ (¬ (i 37 7 = 314)))) → gI w d X_X7_readTest P i l 29 [(0, vR (some 37)), (1, vI x1), (2, vI x2)] [] := by
    intro hp
    have h := hk22 hp
    refine g_aload_n (pc' := 30) 0 dX7_readTest_29 rfl rfl ?_
    refine g_getI (pc' := 33) (z := 9) rfl fl_X7_36 rfl rfl dX7_readTest_30 rfl (fun rg12 => ?_)
    refine g_istore_n (pc' := 34) (L' := [(3, vI (i 37 9)), (0, vR (some 37)), (1, vI x1), (2, vI x2)]) dX7_readTest_33 rfl (Nat.le_of_ble_eq_true rfl) rfl ?_
    refine g_aload_n (pc' := 35) 1 dX7_readTest_34 rfl rfl ?_
    refine g_bipush (pc' := 37) dX7_readTest_35 rfl rfl ?_
    refine g_iconst (pc' := 38) dX7_readTest_37 rfl ?_
    refine g_cVV (pc' := 41) (vs := [vI 10, vI 0]) (st := []) (c := 7) h mv_X7_write lk_X7_83 rfl rfl rfl rfl (Nat.le_of_ble_eq_true rfl) (Nat.le_of_ble_eq_true rfl) rfl dX7_readTest_38 rfl z2 (fun i13 l13 h => ?_)
    refine g_aload_n (pc' := 42) 1 dX7_readTest_41 rfl rfl ?_
    refine g_cVV (pc' := 45) (vs := []) (st := []) (c := 7) h mv_X7_step lk_X7_48 rfl rfl rfl rfl (Nat.le_of_ble_eq_true rfl) (Nat.le_of_ble_eq_true rfl) rfl dX7_readTest_42 rfl z2 (fun i14 l14 h => ?_)
    refine g_aload_n (pc' := 46) 1 dX7_readTest_45 rfl rfl ?_
    refine g_iload_n (pc' := 47) 2 dX7_readTest_46 rfl rfl ?_
    refine g_cVI (pc' := 50) (vs := [vI x1]) (st := []) (c := 7) h mv_X7_readBoth lk_X7_80 rfl rfl rfl rfl (Nat.le_of_ble_eq_true rfl) (Nat.le_of_ble_eq_true rfl) rfl dX7_readTest_47 rfl z2 (fun r15 i15 l15 rg15 h => ?_)
    obtain ⟨hk19, hk20⟩ := h
    refine g_if_ne (tgt := 55) (pc' := 53) rg15 Iff.rfl dX7_readTest_50 rfl rfl (fun c17 => ?_) (fun c17 => ?_)
    · have h := hk20 c17
      refine g_aload_n (pc' := 56) 1 dX7_readTest_55 rfl rfl ?_
      refine g_iload_n (pc' := 57) 0 dX7_readTest_56 rfl rfl ?_
      refine g_cVV (pc' := 60) (vs := [vI (i 37 9)]) (st := []) (c := 7) h mv_X7_aim lk_X7_87 rfl rfl rfl rfl (Nat.le_of_ble_eq_true rfl) (Nat.le_of_ble_eq_true rfl) rfl dX7_readTest_57 rfl z2 (fun i18 l18 h => ?_)
      refine g_iinc (pc' := 63) (L' := [(2, vI (x2 + 1)), (3, vI (i 37 9)), (0, vR (some 37)), (1, vI x1)]) 3 dX7_readTest_60 rfl (Nat.le_of_ble_eq_true rfl) rfl rfl ?_
      refine g_goto (tgt := 12) dX7_readTest_63 rfl ?_
      refine g_sub (L' := [(0, vR (some 37)), (1, vI x1), (2, vI (x2 + 1))]) [2, 3, 0] rfl ?_
      exact h
    · have h := hk19 c17
      refine g_iconst (pc' := 54) dX7_readTest_53 rfl ?_
      exact g_retZ rfl (by decide) dX7_readTest_54 h
  refine g_icmp_ge (tgt := 66) (pc' := 19) (hob7) (rg_lit rfl) Iff.rfl dX7_readTest_16 rfl rfl (fun c8 => ?_) (fun c8 => ?_)
  · exact hk21g (Or.inl c8)
  · refine g_aload_n (pc' := 20) 0 dX7_readTest_19 rfl rfl ?_
    refine g_getI (pc' := 23) (z := 7) rfl fl_X7_55 rfl rfl dX7_readTest_20 rfl (fun rg9 => ?_)
    refine g_sipush (pc' := 26) dX7_readTest_23 rfl rfl ?_
    refine g_icmp_ne (tgt := 66) (pc' := 29) rg9 (rg_lit rfl) Iff.rfl dX7_readTest_26 rfl rfl (fun c10 => ?_) (fun c10 => ?_)
    · exact hk21g (Or.inr c10)
    · exact hk22g (fun q => q.elim c8 (fun q => q c10))

theorem dX7_readBoth_0 : decode cX7_readBoth 0 = .ok (.aload_n 0, 1) := by decide +kernel
theorem dX7_readBoth_1 : decode cX7_readBoth 1 = .ok (.iload_n 1, 1) := by decide +kernel
theorem dX7_readBoth_2 : decode cX7_readBoth 2 = .ok (.invokevirtual 91, 3) := by decide +kernel
theorem dX7_readBoth_5 : decode cX7_readBoth 5 = .ok (.ifCond .ne 5, 3) := by decide +kernel
theorem dX7_readBoth_8 : decode cX7_readBoth 8 = .ok (.iconst 0, 1) := by decide +kernel
theorem dX7_readBoth_9 : decode cX7_readBoth 9 = .ok (.ireturn, 1) := by decide +kernel
theorem dX7_readBoth_10 : decode cX7_readBoth 10 = .ok (.iconst 0, 1) := by decide +kernel
theorem dX7_readBoth_11 : decode cX7_readBoth 11 = .ok (.istore_n 2, 1) := by decide +kernel
theorem dX7_readBoth_12 : decode cX7_readBoth 12 = .ok (.iload_n 2, 1) := by decide +kernel
theorem dX7_readBoth_13 : decode cX7_readBoth 13 = .ok (.sipush 400, 3) := by decide +kernel
theorem dX7_readBoth_16 : decode cX7_readBoth 16 = .ok (.if_icmp .ge 50, 3) := by decide +kernel
theorem dX7_readBoth_19 : decode cX7_readBoth 19 = .ok (.aload_n 0, 1) := by decide +kernel
theorem dX7_readBoth_20 : decode cX7_readBoth 20 = .ok (.getfield 55, 3) := by decide +kernel
theorem dX7_readBoth_23 : decode cX7_readBoth 23 = .ok (.sipush 315, 3) := by decide +kernel
theorem dX7_readBoth_26 : decode cX7_readBoth 26 = .ok (.if_icmp .ne 40, 3) := by decide +kernel
theorem dX7_readBoth_29 : decode cX7_readBoth 29 = .ok (.aload_n 0, 1) := by decide +kernel
theorem dX7_readBoth_30 : decode cX7_readBoth 30 = .ok (.getfield 36, 3) := by decide +kernel
theorem dX7_readBoth_33 : decode cX7_readBoth 33 = .ok (.istore_n 3, 1) := by decide +kernel
theorem dX7_readBoth_34 : decode cX7_readBoth 34 = .ok (.aload_n 0, 1) := by decide +kernel
theorem dX7_readBoth_35 : decode cX7_readBoth 35 = .ok (.bipush 11, 2) := by decide +kernel
theorem dX7_readBoth_37 : decode cX7_readBoth 37 = .ok (.iconst 0, 1) := by decide +kernel
theorem dX7_readBoth_38 : decode cX7_readBoth 38 = .ok (.invokevirtual 83, 3) := by decide +kernel
theorem dX7_readBoth_41 : decode cX7_readBoth 41 = .ok (.aload_n 0, 1) := by decide +kernel
theorem dX7_readBoth_42 : decode cX7_readBoth 42 = .ok (.invokevirtual 48, 3) := by decide +kernel
theorem dX7_readBoth_45 : decode cX7_readBoth 45 = .ok (.aload_n 0, 1) := by decide +kernel
theorem dX7_readBoth_46 : decode cX7_readBoth 46 = .ok (.iload_n 1, 1) := by decide +kernel
theorem dX7_readBoth_47 : decode cX7_readBoth 47 = .ok (.invokevirtual 91, 3) := by decide +kernel
theorem dX7_readBoth_50 : decode cX7_readBoth 50 = .ok (.ifCond .ne 5, 3) := by decide +kernel
theorem dX7_readBoth_53 : decode cX7_readBoth 53 = .ok (.iconst 0, 1) := by decide +kernel
theorem dX7_readBoth_54 : decode cX7_readBoth 54 = .ok (.ireturn, 1) := by decide +kernel
theorem dX7_readBoth_55 : decode cX7_readBoth 55 = .ok (.aload_n 0, 1) := by decide +kernel
theorem dX7_readBoth_56 : decode cX7_readBoth 56 = .ok (.iload_n 3, 1) := by decide +kernel
theorem dX7_readBoth_57 : decode cX7_readBoth 57 = .ok (.invokevirtual 87, 3) := by decide +kernel
theorem dX7_readBoth_60 : decode cX7_readBoth 60 = .ok (.iinc 2 1, 3) := by decide +kernel
theorem dX7_readBoth_63 : decode cX7_readBoth 63 = .ok (.goto (-51), 3) := by decide +kernel
theorem dX7_readBoth_66 : decode cX7_readBoth 66 = .ok (.iconst 1, 1) := by decide +kernel
theorem dX7_readBoth_67 : decode cX7_readBoth 67 = .ok (.ireturn, 1) := by decide +kernel
set_option maxRecDepth 20000 in
theorem s_X7_readBoth {w : Wd} {d : Nat} {P : Int → IM → LM → Prop} {i : IM} {l : LM} (p0 : Int)  (h : cI w d X_X7_readPlain [vR (some 37), vI p0] i l (fun r1 i1 l1 => (((r1 = 0) → P 0 i1 l1) ∧ ((¬ (r1 = 0)) → gI w d X_X7_readBoth P i1 l1 12 [(0, vR (some 37)), (1, vI p0), (2, vI 0)] [])))) : gI w d X_X7_readBoth P i l 0 [(0, vR (some 37)), (1, vI p0)] [] := by
  refine g_aload_n (pc' := 1) 0 dX7_readBoth_0 rfl rfl ?_
  refine g_iload_n (pc' := 2) 1 dX7_readBoth_1 rfl rfl ?_
  refine g_cVI (pc' := 5) (vs := [vI p0]) (st := []) (c := 7) h mv_X7_readPlain lk_X7_91 rfl rfl rfl rfl (Nat.le_of_ble_eq_true rfl) (Nat.le_of_ble_eq_true rfl) rfl dX7_readBoth_2 rfl z2 (fun r1 i1 l1 rg1 h => ?_)
  obtain ⟨hk4, hk5⟩ := h
  refine g_if_ne (tgt := 10) (pc' := 8) rg1 Iff.rfl dX7_readBoth_5 rfl rfl (fun c3 => ?_) (fun c3 => ?_)
  · have h := hk5 c3
    refine g_iconst (pc' := 11) dX7_readBoth_10 rfl ?_
    refine g_istore_n (pc' := 12) (L' := [(2, vI 0), (0, vR (some 37)), (1, vI p0)]) dX7_readBoth_11 rfl (Nat.le_of_ble_eq_true rfl) rfl ?_
    refine g_sub (L' := [(0, vR (some 37)), (1, vI p0), (2, vI 0)]) [1, 2, 0] rfl ?_
    exact h
  · have h := hk4 c3
    refine g_iconst (pc' := 9) dX7_readBoth_8 rfl ?_
    exact g_retZ rfl (by decide) dX7_readBoth_9 h
theorem e_X7_readBoth {w : Wd} {d : Nat} {P : Int → IM → LM → Prop} {i : IM} {l : LM} {p0 : Int}  (h : gI w d X_X7_readBoth P i l 0 [(0, vR (some 37)), (1, vI p0)] []) : cI w (d + 1) X_X7_readBoth [vR (some 37), vI p0] i l P := CI_of (by decide +kernel) (Nat.le_of_ble_eq_true rfl) h
set_option maxRecDepth 20000 in
theorem s_X7_readBoth_12 {w : Wd} {d : Nat} {P : Int → IM → LM → Prop} {i : IM} {l : LM} (x1 : Int) (x2 : Int)  (h : ((rg x2) ∧ (((400 ≤ x2) ∨ (¬ (i 37 7 = 315))) → P 1 i l) ∧ ((¬ ((400 ≤ x2) ∨ (¬ (i 37 7 = 315)))) → cVd w d X_X7_write [vR (some 37), vI 11, vI 0] i l (fun i13 l13 => cVd w d X_X7_step [vR (some 37)] i13 l13 (fun i14 l14 => cI w d X_X7_readPlain [vR (some 37), vI x1] i14 l14 (fun r15 i15 l15 => (((r15 = 0) → P 0 i15 l15) ∧ ((¬ (r15 = 0)) → cVd w d X_X7_aim [vR (some 37), vI (i 37 9)] i15 l15 (fun i18 l18 => gI w d X_X7_readBoth P i18 l18 12 [(0, vR (some 37)), (1, vI x1), (2, vI (x2 + 1))] []))))))))) : gI w d X_X7_readBoth P i l 12 [(0, vR (some 37)), (1, vI x1), (2, vI x2)] [] := by
  refine g_iload_n (pc' := 13) 2 dX7_readBoth_12 rfl rfl ?_
  refine g_sipush (pc' := 16) dX7_readBoth_13 rfl rfl ?_
  obtain ⟨hob7, hk21, hk22⟩ := h
  have hk21g : ((400 ≤ x2) ∨ (¬ (i 37 7 = 315))) → gI w d X_X7_readBoth P i l 66 [(0, vR (some 37)), (1, vI x1), (2, vI x2)] [] := by
    intro hp
    have h := hk21 hp
    refine g_iconst (pc' := 67) dX7_readBoth_66 rfl ?_
    exact g_retZ rfl (by decide) dX7_readBoth_67 h
  have hk22g : (¬ ((400 ≤ x2) ∨ (¬ (i 37 7 = 315)))) → gI w d X_X7_readBoth P i l 29 [(0, vR (some 37)), (1, vI x1), (2, vI x2)] [] := by
    intro hp
    have h := hk22 hp
    refine g_aload_n (pc' := 30) 0 dX7_readBoth_29 rfl rfl ?_
    refine g_getI (pc' := 33) (z := 9) rfl fl_X7_36 rfl rfl dX7_readBoth_30 rfl (fun rg12 => ?_)
    refine g_istore_n (pc' := 34) (L' := [(3, vI (i 37 9)), (0, vR (some 37)), (1, vI x1), (2, vI x2)]) dX7_readBoth_33 rfl (Nat.le_of_ble_eq_true rfl) rfl ?_
    refine g_aload_n (pc' := 35) 1 dX7_readBoth_34 rfl rfl ?_
    refine g_bipush (pc' := 37) dX7_readBoth_35 rfl rfl ?_
    refine g_iconst (pc' := 38) dX7_readBoth_37 rfl ?_
    refine g_cVV (pc' := 41) (vs := [vI 11, vI 0]) (st := []) (c := 7) h mv_X7_write lk_X7_83 rfl rfl rfl rfl (Nat.le_of_ble_eq_true rfl) (Nat.le_of_ble_eq_true rfl) rfl dX7_readBoth_38 rfl z2 (fun i13 l13 h => ?_)
    refine g_aload_n (pc' := 42) 1 dX7_readBoth_41 rfl rfl ?_
    refine g_cVV (pc' := 45) (vs := []) (st := []) (c := 7) h mv_X7_step lk_X7_48 rfl rfl rfl rfl (Nat.le_of_ble_eq_true rfl) (Nat.le_of_ble_eq_true rfl) rfl dX7_readBoth_42 rfl z2 (fun i14 l14 h => ?_)
    refine g_aload_n (pc' := 46) 1 dX7_readBoth_45 rfl rfl ?_
    refine g_iload_n (pc' := 47) 2 dX7_readBoth_46 rfl rfl ?_
    refine g_cVI (pc' := 50) (vs := [vI x1]) (st := []) (c := 7) h mv_X7_readPlain lk_X7_91 rfl rfl rfl rfl (Nat.le_of_ble_eq_true rfl) (Nat.le_of_ble_eq_true rfl) rfl dX7_readBoth_47 rfl z2 (fun r15 i15 l15 rg15 h => ?_)
    obtain ⟨hk19, hk20⟩ := h
    refine g_if_ne (tgt := 55) (pc' := 53) rg15 Iff.rfl dX7_readBoth_50 rfl rfl (fun c17 => ?_) (fun c17 => ?_)
    · have h := hk20 c17
      refine g_aload_n (pc' := 56) 1 dX7_readBoth_55 rfl rfl ?_
      refine g_iload_n (pc' := 57) 0 dX7_readBoth_56 rfl rfl ?_
      refine g_cVV (pc' := 60) (vs := [vI (i 37 9)]) (st := []) (c := 7) h mv_X7_aim lk_X7_87 rfl rfl rfl rfl (Nat.le_of_ble_eq_true rfl) (Nat.le_of_ble_eq_true rfl) rfl dX7_readBoth_57 rfl z2 (fun i18 l18 h => ?_)
      refine g_iinc (pc' := 63) (L' := [(2, vI (x2 + 1)), (3, vI (i 37 9)), (0, vR (some 37)), (1, vI x1)]) 3 dX7_readBoth_60 rfl (Nat.le_of_ble_eq_true rfl) rfl rfl ?_
      refine g_goto (tgt := 12) dX7_readBoth_63 rfl ?_
      refine g_sub (L' := [(0, vR (some 37)), (1, vI x1), (2, vI (x2 + 1))]) [2, 3, 0] rfl ?_
      exact h
    · have h := hk19 c17
      refine g_iconst (pc' := 54) dX7_readBoth_53 rfl ?_
      exact g_retZ rfl (by decide) dX7_readBoth_54 h
  refine g_icmp_ge (tgt := 66) (pc' := 19) (hob7) (rg_lit rfl) Iff.rfl dX7_readBoth_16 rfl rfl (fun c8 => ?_) (fun c8 => ?_)
  · exact hk21g (Or.inl c8)
  · refine g_aload_n (pc' := 20) 0 dX7_readBoth_19 rfl rfl ?_
    refine g_getI (pc' := 23) (z := 7) rfl fl_X7_55 rfl rfl dX7_readBoth_20 rfl (fun rg9 => ?_)
    refine g_sipush (pc' := 26) dX7_readBoth_23 rfl rfl ?_
    refine g_icmp_ne (tgt := 66) (pc' := 29) rg9 (rg_lit rfl) Iff.rfl dX7_readBoth_26 rfl rfl (fun c10 => ?_) (fun c10 => ?_)
    · exact hk21g (Or.inr c10)
    · exact hk22g (fun q => q.elim c8 (fun q => q c10))

theorem dX7_readPlain_0 : decode cX7_readPlain 0 = .ok (.iconst 0, 1) := by decide +kernel
theorem dX7_readPlain_1 : decode cX7_readPlain 1 = .ok (.istore_n 2, 1) := by decide +kernel
theorem dX7_readPlain_2 : decode cX7_readPlain 2 = .ok (.iconst 0, 1) := by decide +kernel
theorem dX7_readPlain_3 : decode cX7_readPlain 3 = .ok (.istore_n 3, 1) := by decide +kernel
theorem dX7_readPlain_4 : decode cX7_readPlain 4 = .ok (.iload_n 3, 1) := by decide +kernel
theorem dX7_readPlain_5 : decode cX7_readPlain 5 = .ok (.sipush 400, 3) := by decide +kernel
theorem dX7_readPlain_8 : decode cX7_readPlain 8 = .ok (.if_icmp .ge 33, 3) := by decide +kernel
theorem dX7_readPlain_11 : decode cX7_readPlain 11 = .ok (.aload_n 0, 1) := by decide +kernel
theorem dX7_readPlain_12 : decode cX7_readPlain 12 = .ok (.getfield 55, 3) := by decide +kernel
theorem dX7_readPlain_15 : decode cX7_readPlain 15 = .ok (.sipush 316, 3) := by decide +kernel
theorem dX7_readPlain_18 : decode cX7_readPlain 18 = .ok (.if_icmp .ne 23, 3) := by decide +kernel
theorem dX7_readPlain_21 : decode cX7_readPlain 21 = .ok (.iload_n 2, 1) := by decide +kernel
theorem dX7_readPlain_22 : decode cX7_readPlain 22 = .ok (.ifCond .ne 7, 3) := by decide +kernel
theorem dX7_readPlain_25 : decode cX7_readPlain 25 = .ok (.iconst 1, 1) := by decide +kernel
theorem dX7_readPlain_26 : decode cX7_readPlain 26 = .ok (.goto 4, 3) := by decide +kernel
theorem dX7_readPlain_29 : decode cX7_readPlain 29 = .ok (.iconst 0, 1) := by decide +kernel
theorem dX7_readPlain_30 : decode cX7_readPlain 30 = .ok (.istore_n 2, 1) := by decide +kernel
theorem dX7_readPlain_31 : decode cX7_readPlain 31 = .ok (.aload_n 0, 1) := by decide +kernel
theorem dX7_readPlain_32 : decode cX7_readPlain 32 = .ok (.invokevirtual 48, 3) := by decide +kernel
theorem dX7_readPlain_35 : decode cX7_readPlain 35 = .ok (.iinc 3 1, 3) := by decide +kernel
theorem dX7_readPlain_38 : decode cX7_readPlain 38 = .ok (.goto (-34), 3) := by decide +kernel
theorem dX7_readPlain_41 : decode cX7_readPlain 41 = .ok (.aload_n 0, 1) := by decide +kernel
theorem dX7_readPlain_42 : decode cX7_readPlain 42 = .ok (.getfield 55, 3) := by decide +kernel
theorem dX7_readPlain_45 : decode cX7_readPlain 45 = .ok (.bipush 40, 2) := by decide +kernel
theorem dX7_readPlain_47 : decode cX7_readPlain 47 = .ok (.if_icmp .ne 43, 3) := by decide +kernel
theorem dX7_readPlain_50 : decode cX7_readPlain 50 = .ok (.iload_n 1, 1) := by decide +kernel
theorem dX7_readPlain_51 : decode cX7_readPlain 51 = .ok (.bipush 8, 2) := by decide +kernel
theorem dX7_readPlain_53 : decode cX7_readPlain 53 = .ok (.if_icmp .lt 5, 3) := by decide +kernel
theorem dX7_readPlain_56 : decode cX7_readPlain 56 = .ok (.iconst 0, 1) := by decide +kernel
theorem dX7_readPlain_57 : decode cX7_readPlain 57 = .ok (.ireturn, 1) := by decide +kernel
theorem dX7_readPlain_58 : decode cX7_readPlain 58 = .ok (.aload_n 0, 1) := by decide +kernel
theorem dX7_readPlain_59 : decode cX7_readPlain 59 = .ok (.invokevirtual 48, 3) := by decide +kernel
theorem dX7_readPlain_62 : decode cX7_readPlain 62 = .ok (.aload_n 0, 1) := by decide +kernel
theorem dX7_readPlain_63 : decode cX7_readPlain 63 = .ok (.iload_n 1, 1) := by decide +kernel
theorem dX7_readPlain_64 : decode cX7_readPlain 64 = .ok (.iconst 1, 1) := by decide +kernel
theorem dX7_readPlain_65 : decode cX7_readPlain 65 = .ok (.iadd, 1) := by decide +kernel
theorem dX7_readPlain_66 : decode cX7_readPlain 66 = .ok (.invokevirtual 71, 3) := by decide +kernel
theorem dX7_readPlain_69 : decode cX7_readPlain 69 = .ok (.ifCond .eq 12, 3) := by decide +kernel
theorem dX7_readPlain_72 : decode cX7_readPlain 72 = .ok (.aload_n 0, 1) := by decide +kernel
theorem dX7_readPlain_73 : decode cX7_readPlain 73 = .ok (.getfield 55, 3) := by decide +kernel
theorem dX7_readPlain_76 : decode cX7_readPlain 76 = .ok (.bipush 41, 2) := by decide +kernel
theorem dX7_readPlain_78 : decode cX7_readPlain 78 = .ok (.if_icmp .eq 5, 3) := by decide +kernel
theorem dX7_readPlain_81 : decode cX7_readPlain 81 = .ok (.iconst 0, 1) := by decide +kernel
theorem dX7_readPlain_82 : decode cX7_readPlain 82 = .ok (.ireturn, 1) := by decide +kernel
theorem dX7_readPlain_83 : decode cX7_readPlain 83 = .ok (.aload_n 0, 1) := by decide +kernel
theorem dX7_readPlain_84 : decode cX7_readPlain 84 = .ok (.invokevirtual 48, 3) := by decide +kernel
theorem dX7_readPlain_87 : decode cX7_readPlain 87 = .ok (.goto 81, 3) := by decide +kernel
theorem dX7_readPlain_90 : decode cX7_readPlain 90 = .ok (.aload_n 0, 1) := by decide +kernel
theorem dX7_readPlain_91 : decode cX7_readPlain 91 = .ok (.iload_n 1, 1) := by decide +kernel
theorem dX7_readPlain_92 : decode cX7_readPlain 92 = .ok (.invokevirtual 68, 3) := by decide +kernel
theorem dX7_readPlain_95 : decode cX7_readPlain 95 = .ok (.ifCond .ne 5, 3) := by decide +kernel
theorem dX7_readPlain_98 : decode cX7_readPlain 98 = .ok (.iconst 0, 1) := by decide +kernel
theorem dX7_readPlain_99 : decode cX7_readPlain 99 = .ok (.ireturn, 1) := by decide +kernel
theorem dX7_readPlain_100 : decode cX7_readPlain 100 = .ok (.aload_n 0, 1) := by decide +kernel
theorem dX7_readPlain_101 : decode cX7_readPlain 101 = .ok (.getfield 55, 3) := by decide +kernel
theorem dX7_readPlain_104 : decode cX7_readPlain 104 = .ok (.bipush 60, 2) := by decide +kernel
theorem dX7_readPlain_106 : decode cX7_readPlain 106 = .ok (.if_icmp .ne 8, 3) := by decide +kernel
theorem dX7_readPlain_109 : decode cX7_readPlain 109 = .ok (.bipush 6, 2) := by decide +kernel
theorem dX7_readPlain_111 : decode cX7_readPlain 111 = .ok (.goto 19, 3) := by decide +kernel
theorem dX7_readPlain_114 : decode cX7_readPlain 114 = .ok (.aload_n 0, 1) := by decide +kernel
theorem dX7_readPlain_115 : decode cX7_readPlain 115 = .ok (.getfield 55, 3) := by decide +kernel
theorem dX7_readPlain_118 : decode cX7_readPlain 118 = .ok (.bipush 62, 2) := by decide +kernel
theorem dX7_readPlain_120 : decode cX7_readPlain 120 = .ok (.if_icmp .ne 8, 3) := by decide +kernel
theorem dX7_readPlain_123 : decode cX7_readPlain 123 = .ok (.bipush 7, 2) := by decide +kernel
theorem dX7_readPlain_125 : decode cX7_readPlain 125 = .ok (.goto 5, 3) := by decide +kernel
theorem dX7_readPlain_128 : decode cX7_readPlain 128 = .ok (.bipush 8, 2) := by decide +kernel
theorem dX7_readPlain_130 : decode cX7_readPlain 130 = .ok (.istore_n 3, 1) := by decide +kernel
theorem dX7_readPlain_131 : decode cX7_readPlain 131 = .ok (.iload_n 3, 1) := by decide +kernel
theorem dX7_readPlain_132 : decode cX7_readPlain 132 = .ok (.bipush 8, 2) := by decide +kernel
theorem dX7_readPlain_134 : decode cX7_readPlain 134 = .ok (.if_icmp .ne 14, 3) := by decide +kernel
theorem dX7_readPlain_137 : decode cX7_readPlain 137 = .ok (.aload_n 0, 1) := by decide +kernel
theorem dX7_readPlain_138 : decode cX7_readPlain 138 = .ok (.getfield 55, 3) := by decide +kernel
theorem dX7_readPlain_141 : decode cX7_readPlain 141 = .ok (.bipush 61, 2) := by decide +kernel
theorem dX7_readPlain_143 : decode cX7_readPlain 143 = .ok (.if_icmp .eq 5, 3) := by decide +kernel
theorem dX7_readPlain_146 : decode cX7_readPlain 146 = .ok (.iconst 0, 1) := by decide +kernel
theorem dX7_readPlain_147 : decode cX7_readPlain 147 = .ok (.ireturn, 1) := by decide +kernel
theorem dX7_readPlain_148 : decode cX7_readPlain 148 = .ok (.aload_n 0, 1) := by decide +kernel
theorem dX7_readPlain_149 : decode cX7_readPlain 149 = .ok (.invokevirtual 48, 3) := by decide +kernel
theorem dX7_readPlain_152 : decode cX7_readPlain 152 = .ok (.aload_n 0, 1) := by decide +kernel
theorem dX7_readPlain_153 : decode cX7_readPlain 153 = .ok (.iload_n 1, 1) := by decide +kernel
theorem dX7_readPlain_154 : decode cX7_readPlain 154 = .ok (.invokevirtual 68, 3) := by decide +kernel
theorem dX7_readPlain_157 : decode cX7_readPlain 157 = .ok (.ifCond .ne 5, 3) := by decide +kernel
theorem dX7_readPlain_160 : decode cX7_readPlain 160 = .ok (.iconst 0, 1) := by decide +kernel
theorem dX7_readPlain_161 : decode cX7_readPlain 161 = .ok (.ireturn, 1) := by decide +kernel
theorem dX7_readPlain_162 : decode cX7_readPlain 162 = .ok (.aload_n 0, 1) := by decide +kernel
theorem dX7_readPlain_163 : decode cX7_readPlain 163 = .ok (.iload_n 3, 1) := by decide +kernel
theorem dX7_readPlain_164 : decode cX7_readPlain 164 = .ok (.iconst 0, 1) := by decide +kernel
theorem dX7_readPlain_165 : decode cX7_readPlain 165 = .ok (.invokevirtual 83, 3) := by decide +kernel
theorem dX7_readPlain_168 : decode cX7_readPlain 168 = .ok (.iload_n 2, 1) := by decide +kernel
theorem dX7_readPlain_169 : decode cX7_readPlain 169 = .ok (.ifCond .eq 10, 3) := by decide +kernel
theorem dX7_readPlain_172 : decode cX7_readPlain 172 = .ok (.aload_n 0, 1) := by decide +kernel
theorem dX7_readPlain_173 : decode cX7_readPlain 173 = .ok (.bipush 9, 2) := by decide +kernel
theorem dX7_readPlain_175 : decode cX7_readPlain 175 = .ok (.iconst 0, 1) := by decide +kernel
theorem dX7_readPlain_176 : decode cX7_readPlain 176 = .ok (.invokevirtual 83, 3) := by decide +kernel
theorem dX7_readPlain_179 : decode cX7_readPlain 179 = .ok (.iconst 1, 1) := by decide +kernel
theorem dX7_readPlain_180 : decode cX7_readPlain 180 = .ok (.ireturn, 1) := by decide +kernel
set_option maxRecDepth 20000 in
theorem s_X7_readPlain {w : Wd} {d : Nat} {P : Int → IM → LM → Prop} {i : IM} {l : LM} (p0 : Int)  (h : gI w d X_X7_readPlain P i l 4 [(0, vR (some 37)), (1, vI p0), (2, vI 0), (3, vI 0)] []) : gI w d X_X7_readPlain P i l 0 [(0, vR (some 37)), (1, vI p0)] [] := by
  refine g_iconst (pc' := 1) dX7_readPlain_0 rfl ?_
  refine g_istore_n (pc' := 2) (L' := [(2, vI 0), (0, vR (some 37)), (1, vI p0)]) dX7_readPlain_1 rfl (Nat.le_of_ble_eq_true rfl) rfl ?_
  refine g_iconst (pc' := 3) dX7_readPlain_2 rfl ?_
  refine g_istore_n (pc' := 4) (L' := [(3, vI 0), (2, vI 0), (0, vR (some 37)), (1, vI p0)]) dX7_readPlain_3 rfl (Nat.le_of_ble_eq_true rfl) rfl ?_
  refine g_sub (L' := [(0, vR (some 37)), (1, vI p0), (2, vI 0), (3, vI 0)]) [2, 3, 1, 0] rfl ?_
  exact h
theorem e_X7_readPlain {w : Wd} {d : Nat} {P : Int → IM → LM → Prop} {i : IM} {l : LM} {p0 : Int}  (h : gI w d X_X7_readPlain P i l 0 [(0, vR (some 37)), (1, vI p0)] []) : cI w (d + 1) X_X7_readPlain [vR (some 37), vI p0] i l P := CI_of (by decide +kernel) (Nat.le_of_ble_eq_true rfl) h
set_option maxRecDepth 20000 in
theorem s_X7_readPlain_4 {w : Wd} {d : Nat} {P : Int → IM → LM → Prop} {i : IM} {l : LM} (x1 : Int) (x2 : Int) (x3 : Int)  (h : ((rg x3) ∧ (((400 ≤ x3) ∨ (¬ (i 37 7 = 316))) → gI w d X_X7_readPlain P i l 41 [(0, vR (some 37)), (1, vI x1), (2, vI x2)] []) ∧ ((¬ ((400 ≤ x3) ∨ (¬ (i 37 7 = 316)))) → ((rg x2) ∧ cVd w d X_X7_step [vR (some 37)] i l (fun i27 l27 => gI w d X_X7_readPlain P i27 l27 4 [(0, vR (some 37)), (1, vI x1), (2, vI (bI (x2 = 0))), (3, vI (x3 + 1))] []))))) : gI w d X_X7_readPlain P i l 4 [(0, vR (some 37)), (1, vI x1), (2, vI x2), (3, vI x3)] [] := by
  refine g_iload_n (pc' := 5) 3 dX7_readPlain_4 rfl rfl ?_
  refine g_sipush (pc' := 8) dX7_readPlain_5 rfl rfl ?_
  obtain ⟨hob20, hk28, hk29⟩ := h
  have hk28g : ((400 ≤ x3) ∨ (¬ (i 37 7 = 316))) → gI w d X_X7_readPlain P i l 41 [(0, vR (some 37)), (1, vI x1), (2, vI x2), (3, vI x3)] [] := by
    intro hp
    have h := hk28 hp
    refine g_sub (L' := [(0, vR (some 37)), (1, vI x1), (2, vI x2)]) [0, 1, 2] rfl ?_
    exact h
  have hk29g : (¬ ((400 ≤ x3) ∨ (¬ (i 37 7 = 316)))) → gI w d X_X7_readPlain P i l 21 [(0, vR (some 37)), (1, vI x1), (2, vI x2), (3, vI x3)] [] := by
    intro hp
    have h := hk29 hp
    refine g_iload_n (pc' := 22) 2 dX7_readPlain_21 rfl rfl ?_
    obtain ⟨hob25, h⟩ := h
    have hJ : gI w d X_X7_readPlain P i l 30 [(0, vR (some 37)), (1, vI x1), (2, vI x2), (3, vI x3)] [vI (bI (x2 = 0))] := by
      refine g_istore_n (pc' := 31) (L' := [(2, vI (bI (x2 = 0))), (0, vR (some 37)), (1, vI x1), (3, vI x3)]) dX7_readPlain_30 rfl (Nat.le_of_ble_eq_true rfl) rfl ?_
      refine g_aload_n (pc' := 32) 1 dX7_readPlain_31 rfl rfl ?_
      refine g_cVV (pc' := 35) (vs := []) (st := []) (c := 7) h mv_X7_step lk_X7_48 rfl rfl rfl rfl (Nat.le_of_ble_eq_true rfl) (Nat.le_of_ble_eq_true rfl) rfl dX7_readPlain_32 rfl z2 (fun i27 l27 h => ?_)
      refine g_iinc (pc' := 38) (L' := [(3, vI (x3 + 1)), (2, vI (bI (x2 = 0))), (0, vR (some 37)), (1, vI x1)]) 3 dX7_readPlain_35 rfl (Nat.le_of_ble_eq_true rfl) rfl rfl ?_
      refine g_goto (tgt := 4) dX7_readPlain_38 rfl ?_
      refine g_sub (L' := [(0, vR (some 37)), (1, vI x1), (2, vI (bI (x2 = 0))), (3, vI (x3 + 1))]) [2, 3, 1, 0] rfl ?_
      exact h
    refine g_if_ne (tgt := 29) (pc' := 25) (hob25) Iff.rfl dX7_readPlain_22 rfl rfl (fun c26 => ?_) (fun c26 => ?_)
    · refine g_iconst (pc' := 30) dX7_readPlain_29 rfl ?_
      rw [bI_f (p := (x2 = 0)) c26] at hJ
      exact hJ
    · refine g_iconst (pc' := 26) dX7_readPlain_25 rfl ?_
      refine g_goto (tgt := 30) dX7_readPlain_26 rfl ?_
      rw [bI_t (p := (x2 = 0)) c26] at hJ
      exact hJ
  refine g_icmp_ge (tgt := 41) (pc' := 11) (hob20) (rg_lit rfl) Iff.rfl dX7_readPlain_8 rfl rfl (fun c21 => ?_) (fun c21 => ?_)
  · exact hk28g (Or.inl c21)
  · refine g_aload_n (pc' := 12) 0 dX7_readPlain_11 rfl rfl ?_
    refine g_getI (pc' := 15) (z := 7) rfl fl_X7_55 rfl rfl dX7_readPlain_12 rfl (fun rg22 => ?_)
    refine g_sipush (pc' := 18) dX7_readPlain_15 rfl rfl ?_
    refine g_icmp_ne (tgt := 41) (pc' := 21) rg22 (rg_lit rfl) Iff.rfl dX7_readPlain_18 rfl rfl (fun c23 => ?_) (fun c23 => ?_)
    · exact hk28g (Or.inr c23)
    · exact hk29g (fun q => q.elim c21 (fun q => q c23))
set_option maxRecDepth 20000 in
theorem s_X7_readPlain_41 {w : Wd} {d : Nat} {P : Int → IM → LM → Prop} {i : IM} {l : LM} (x1 : Int) (x2 : Int)  (h : (((i 37 7 = 40) → rg x1) ∧ ((¬ (i 37 7 = 40)) → cI w d X_X7_readSum [vR (some 37), vI x1] i l (fun r35 i35 l35 => (((¬ (r35 = 0) ∧ (¬ (i35 37 7 = 60))) → (((((if (i35 37 7 = 62) then (7 : Int) else 8) = 8) ∧ (¬ (i35 37 7 = 61))) → P 0 i35 l35) ∧ ((¬ (((if (i35 37 7 = 62) then (7 : Int) else 8) = 8) ∧ (¬ (i35 37 7 = 61)))) → gI w d X_X7_readPlain P i35 l35 148 [(0, vR (some 37)), (1, vI x1), (2, vI x2), (3, vI (if (i35 37 7 = 62) then (7 : Int) else 8))] []))) ∧ ((¬ (r35 = 0) ∧ (i35 37 7 = 60)) → gI w d X_X7_readPlain P i35 l35 148 [(0, vR (some 37)), (1, vI x1), (2, vI x2), (3, vI 6)] []) ∧ ((r35 = 0) → P 0 i35 l35)))) ∧ (((i 37 7 = 40) ∧ (x1 < 8)) → cVd w d X_X7_step [vR (some 37)] i l (fun i68 l68 => cI w d X_X7_readTest [vR (some 37), vI (x1 + 1)] i68 l68 (fun r69 i69 l69 => ((((r69 = 0) ∨ (¬ (i69 37 7 = 41))) → P 0 i69 l69) ∧ ((¬ ((r69 = 0) ∨ (¬ (i69 37 7 = 41)))) → cVd w d X_X7_step [vR (some 37)] i69 l69 (fun i74 l74 => ((rg x2) ∧ ((x2 = 0) → P 1 i74 l74) ∧ ((¬ (x2 = 0)) → cVd w d X_X7_write [vR (some 37), vI 9, vI 0] i74 l74 (fun i78 l78 => P 1 i78 l78))))))))) ∧ (((i 37 7 = 40) ∧ (¬ (x1 < 8))) → P 0 i l))) : gI w d X_X7_readPlain P i l 41 [(0, vR (some 37)), (1, vI x1), (2, vI x2)] [] := by
  refine g_aload_n (pc' := 42) 0 dX7_readPlain_41 rfl rfl ?_
  refine g_getI (pc' := 45) (z := 7) rfl fl_X7_55 rfl rfl dX7_readPlain_42 rfl (fun rg30 => ?_)
  refine g_bipush (pc' := 47) dX7_readPlain_45 rfl rfl ?_
  obtain ⟨hob33, hk83, hk84, hk85⟩ := h
  have hk83g : (¬ (i 37 7 = 40)) → gI w d X_X7_readPlain P i l 90 [(0, vR (some 37)), (1, vI x1), (2, vI x2)] [] := by
    intro hp
    have h := hk83 hp
    refine g_aload_n (pc' := 91) 0 dX7_readPlain_90 rfl rfl ?_
    refine g_iload_n (pc' := 92) 1 dX7_readPlain_91 rfl rfl ?_
    refine g_cVI (pc' := 95) (vs := [vI x1]) (st := []) (c := 7) h mv_X7_readSum lk_X7_68 rfl rfl rfl rfl (Nat.le_of_ble_eq_true rfl) (Nat.le_of_ble_eq_true rfl) rfl dX7_readPlain_92 rfl z2 (fun r35 i35 l35 rg35 h => ?_)
    obtain ⟨hk65, hk66, hk67⟩ := h
    have hk65g : (¬ (r35 = 0) ∧ (¬ (i35 37 7 = 60))) → gI w d X_X7_readPlain P i35 l35 114 [(0, vR (some 37)), (1, vI x1), (2, vI x2)] [] := by
      intro hp
      have h := hk65 hp
      refine g_aload_n (pc' := 115) 0 dX7_readPlain_114 rfl rfl ?_
      refine g_getI (pc' := 118) (z := 7) rfl fl_X7_55 rfl rfl dX7_readPlain_115 rfl (fun rg56 => ?_)
      refine g_bipush (pc' := 120) dX7_readPlain_118 rfl rfl ?_
      have hJ : gI w d X_X7_readPlain P i35 l35 130 [(0, vR (some 37)), (1, vI x1), (2, vI x2)] [vI (if (i35 37 7 = 62) then (7 : Int) else 8)] := by
        refine g_istore_n (pc' := 131) (L' := [(3, vI (if (i35 37 7 = 62) then (7 : Int) else 8)), (0, vR (some 37)), (1, vI x1), (2, vI x2)]) dX7_readPlain_130 rfl (Nat.le_of_ble_eq_true rfl) rfl ?_
        refine g_iload_n (pc' := 132) 0 dX7_readPlain_131 rfl rfl ?_
        refine g_bipush (pc' := 134) dX7_readPlain_132 rfl rfl ?_
        obtain ⟨hk63, hk64⟩ := h
        have hk63g : (((if (i35 37 7 = 62) then (7 : Int) else 8) = 8) ∧ (¬ (i35 37 7 = 61))) → gI w d X_X7_readPlain P i35 l35 146 [(3, vI (if (i35 37 7 = 62) then (7 : Int) else 8)), (0, vR (some 37)), (1, vI x1), (2, vI x2)] [] := by
          intro hp
          have h := hk63 hp
          refine g_iconst (pc' := 147) dX7_readPlain_146 rfl ?_
          exact g_retZ rfl (by decide) dX7_readPlain_147 h
        have hk64g : (¬ (((if (i35 37 7 = 62) then (7 : Int) else 8) = 8) ∧ (¬ (i35 37 7 = 61)))) → gI w d X_X7_readPlain P i35 l35 148 [(3, vI (if (i35 37 7 = 62) then (7 : Int) else 8)), (0, vR (some 37)), (1, vI x1), (2, vI x2)] [] := by
          intro hp
          have h := hk64 hp
          refine g_sub (L' := [(0, vR (some 37)), (1, vI x1), (2, vI x2), (3, vI (if (i35 37 7 = 62) then (7 : Int) else 8))]) [1, 2, 3, 0] rfl ?_
          exact h
        refine g_icmp_ne (tgt := 148) (pc' := 137) (rg_ite (rg_lit rfl) (rg_lit rfl)) (rg_lit rfl) Iff.rfl dX7_readPlain_134 rfl rfl (fun c60 => ?_) (fun c60 => ?_)
        · exact hk64g (fun q => c60 q.1)
        · refine g_aload_n (pc' := 138) 1 dX7_readPlain_137 rfl rfl ?_
          refine g_getI (pc' := 141) (z := 7) rfl fl_X7_55 rfl rfl dX7_readPlain_138 rfl (fun rg61 => ?_)
          refine g_bipush (pc' := 143) dX7_readPlain_141 rfl rfl ?_
          refine g_icmp_eq (tgt := 148) (pc' := 146) rg61 (rg_lit rfl) Iff.rfl dX7_readPlain_143 rfl rfl (fun c62 => ?_) (fun c62 => ?_)
          · exact hk64g (fun q => (fun q => q c62) q.2)
          · exact hk63g ⟨c60, c62⟩
      refine g_icmp_ne (tgt := 128) (pc' := 123) rg56 (rg_lit rfl) Iff.rfl dX7_readPlain_120 rfl rfl (fun c58 => ?_) (fun c58 => ?_)
      · refine g_bipush (pc' := 130) dX7_readPlain_128 rfl rfl ?_
        rw [if_neg c58 (α := Int) (t := 7) (e := 8)] at hJ
        exact hJ
      · refine g_bipush (pc' := 125) dX7_readPlain_123 rfl rfl ?_
        refine g_goto (tgt := 130) dX7_readPlain_125 rfl ?_
        rw [if_pos c58 (α := Int) (t := 7) (e := 8)] at hJ
        exact hJ
    have hk66g : (¬ (r35 = 0) ∧ (i35 37 7 = 60)) → gI w d X_X7_readPlain P i35 l35 130 [(0, vR (some 37)), (1, vI x1), (2, vI x2)] [vI 6] := by
      intro hp
      have h := hk66 hp
      refine g_istore_n (pc' := 131) (L' := [(3, vI 6), (0, vR (some 37)), (1, vI x1), (2, vI x2)]) dX7_readPlain_130 rfl (Nat.le_of_ble_eq_true rfl) rfl ?_
      refine g_iload_n (pc' := 132) 0 dX7_readPlain_131 rfl rfl ?_
      refine g_bipush (pc' := 134) dX7_readPlain_132 rfl rfl ?_
      refine g_icmp_ne (tgt := 148) (pc' := 137) (rg_lit rfl) (rg_lit rfl) Iff.rfl dX7_readPlain_134 rfl rfl (fun _ => ?_) (fun c => absurd c (by decide))
      refine g_sub (L' := [(0, vR (some 37)), (1, vI x1), (2, vI x2), (3, vI 6)]) [1, 2, 3, 0] rfl ?_
      exact h
    have hk67g : (r35 = 0) → gI w d X_X7_readPlain P i35 l35 98 [(0, vR (some 37)), (1, vI x1), (2, vI x2)] [] := by
      intro hp
      have h := hk67 hp
      refine g_iconst (pc' := 99) dX7_readPlain_98 rfl ?_
      exact g_retZ rfl (by decide) dX7_readPlain_99 h
    refine g_if_ne (tgt := 100) (pc' := 98) rg35 Iff.rfl dX7_readPlain_95 rfl rfl (fun c52 => ?_) (fun c52 => ?_)
    · refine g_aload_n (pc' := 101) 0 dX7_readPlain_100 rfl rfl ?_
      refine g_getI (pc' := 104) (z := 7) rfl fl_X7_55 rfl rfl dX7_readPlain_101 rfl (fun rg53 => ?_)
      refine g_bipush (pc' := 106) dX7_readPlain_104 rfl rfl ?_
      refine g_icmp_ne (tgt := 114) (pc' := 109) rg53 (rg_lit rfl) Iff.rfl dX7_readPlain_106 rfl rfl (fun c54 => ?_) (fun c54 => ?_)
      · exact hk65g ⟨c52, c54⟩
      · refine g_bipush (pc' := 111) dX7_readPlain_109 rfl rfl ?_
        refine g_goto (tgt := 130) dX7_readPlain_111 rfl ?_
        exact hk66g ⟨c52, c54⟩
    · exact hk67g c52
  have hk84g : ((i 37 7 = 40) ∧ (x1 < 8)) → gI w d X_X7_readPlain P i l 58 [(0, vR (some 37)), (1, vI x1), (2, vI x2)] [] := by
    intro hp
    have h := hk84 hp
    refine g_aload_n (pc' := 59) 0 dX7_readPlain_58 rfl rfl ?_
    refine g_cVV (pc' := 62) (vs := []) (st := []) (c := 7) h mv_X7_step lk_X7_48 rfl rfl rfl rfl (Nat.le_of_ble_eq_true rfl) (Nat.le_of_ble_eq_true rfl) rfl dX7_readPlain_59 rfl z2 (fun i68 l68 h => ?_)
    refine g_aload_n (pc' := 63) 0 dX7_readPlain_62 rfl rfl ?_
    refine g_iload_n (pc' := 64) 1 dX7_readPlain_63 rfl rfl ?_
    refine g_iconst (pc' := 65) dX7_readPlain_64 rfl ?_
    refine g_iadd (pc' := 66) dX7_readPlain_65 rfl ?_
    refine g_cVI (pc' := 69) (vs := [vI (x1 + 1)]) (st := []) (c := 7) h mv_X7_readTest lk_X7_71 rfl rfl rfl rfl (Nat.le_of_ble_eq_true rfl) (Nat.le_of_ble_eq_true rfl) rfl dX7_readPlain_66 rfl z2 (fun r69 i69 l69 rg69 h => ?_)
    obtain ⟨hk81, hk82⟩ := h
    have hk81g : ((r69 = 0) ∨ (¬ (i69 37 7 = 41))) → gI w d X_X7_readPlain P i69 l69 81 [(0, vR (some 37)), (1, vI x1), (2, vI x2)] [] := by
      intro hp
      have h := hk81 hp
      refine g_iconst (pc' := 82) dX7_readPlain_81 rfl ?_
      exact g_retZ rfl (by decide) dX7_readPlain_82 h
    have hk82g : (¬ ((r69 = 0) ∨ (¬ (i69 37 7 = 41)))) → gI w d X_X7_readPlain P i69 l69 83 [(0, vR (some 37)), (1, vI x1), (2, vI x2)] [] := by
      intro hp
      have h := hk82 hp
      refine g_aload_n (pc' := 84) 0 dX7_readPlain_83 rfl rfl ?_
      refine g_cVV (pc' := 87) (vs := []) (st := []) (c := 7) h mv_X7_step lk_X7_48 rfl rfl rfl rfl (Nat.le_of_ble_eq_true rfl) (Nat.le_of_ble_eq_true rfl) rfl dX7_readPlain_84 rfl z2 (fun i74 l74 h => ?_)
      refine g_goto (tgt := 168) dX7_readPlain_87 rfl ?_
      refine g_iload_n (pc' := 169) 2 dX7_readPlain_168 rfl rfl ?_
      obtain ⟨hob76, hk79, hk80⟩ := h
      refine g_if_eq (tgt := 179) (pc' := 172) (hob76) Iff.rfl dX7_readPlain_169 rfl rfl (fun c77 => ?_) (fun c77 => ?_)
      · have h := hk79 c77
        refine g_iconst (pc' := 180) dX7_readPlain_179 rfl ?_
        exact g_retZ rfl (by decide) dX7_readPlain_180 h
      · have h := hk80 c77
        refine g_aload_n (pc' := 173) 0 dX7_readPlain_172 rfl rfl ?_
        refine g_bipush (pc' := 175) dX7_readPlain_173 rfl rfl ?_
        refine g_iconst (pc' := 176) dX7_readPlain_175 rfl ?_
        refine g_cVV (pc' := 179) (vs := [vI 9, vI 0]) (st := []) (c := 7) h mv_X7_write lk_X7_83 rfl rfl rfl rfl (Nat.le_of_ble_eq_true rfl) (Nat.le_of_ble_eq_true rfl) rfl dX7_readPlain_176 rfl z2 (fun i78 l78 h => ?_)
        refine g_iconst (pc' := 180) dX7_readPlain_179 rfl ?_
        exact g_retZ rfl (by decide) dX7_readPlain_180 h
    refine g_if_eq (tgt := 81) (pc' := 72) rg69 Iff.rfl dX7_readPlain_69 rfl rfl (fun c71 => ?_) (fun c71 => ?_)
    · exact hk81g (Or.inl c71)
    · refine g_aload_n (pc' := 73) 0 dX7_readPlain_72 rfl rfl ?_
      refine g_getI (pc' := 76) (z := 7) rfl fl_X7_55 rfl rfl dX7_readPlain_73 rfl (fun rg72 => ?_)
      refine g_bipush (pc' := 78) dX7_readPlain_76 rfl rfl ?_
      refine g_icmp_eq (tgt := 83) (pc' := 81) rg72 (rg_lit rfl) Iff.rfl dX7_readPlain_78 rfl rfl (fun c73 => ?_) (fun c73 => ?_)
      · exact hk82g (fun q => q.elim c71 (fun q => q c73))
      · exact hk81g (Or.inr c73)
  have hk85g : ((i 37 7 = 40) ∧ (¬ (x1 < 8))) → gI w d X_X7_readPlain P i l 56 [(0, vR (some 37)), (1, vI x1), (2, vI x2)] [] := by
    intro hp
    have h := hk85 hp
    refine g_iconst (pc' := 57) dX7_readPlain_56 rfl ?_
    exact g_retZ rfl (by decide) dX7_readPlain_57 h
  refine g_icmp_ne (tgt := 90) (pc' := 50) rg30 (rg_lit rfl) Iff.rfl dX7_readPlain_47 rfl rfl (fun c32 => ?_) (fun c32 => ?_)
  · exact hk83g c32
  · refine g_iload_n (pc' := 51) 1 dX7_readPlain_50 rfl rfl ?_
    refine g_bipush (pc' := 53) dX7_readPlain_51 rfl rfl ?_
    refine g_icmp_lt (tgt := 58) (pc' := 56) (hob33 c32) (rg_lit rfl) Iff.rfl dX7_readPlain_53 rfl rfl (fun c34 => ?_) (fun c34 => ?_)
    · exact hk84g ⟨c32, c34⟩
    · exact hk85g ⟨c32, c34⟩
set_option maxRecDepth 20000 in
theorem s_X7_readPlain_148 {w : Wd} {d : Nat} {P : Int → IM → LM → Prop} {i : IM} {l : LM} (x1 : Int) (x2 : Int) (x3 : Int)  (h : cVd w d X_X7_step [vR (some 37)] i l (fun i86 l86 => cI w d X_X7_readSum [vR (some 37), vI x1] i86 l86 (fun r87 i87 l87 => (((r87 = 0) → P 0 i87 l87) ∧ ((¬ (r87 = 0)) → cVd w d X_X7_write [vR (some 37), vI x3, vI 0] i87 l87 (fun i90 l90 => ((rg x2) ∧ ((x2 = 0) → P 1 i90 l90) ∧ ((¬ (x2 = 0)) → cVd w d X_X7_write [vR (some 37), vI 9, vI 0] i90 l90 (fun i94 l94 => P 1 i94 l94))))))))) : gI w d X_X7_readPlain P i l 148 [(0, vR (some 37)), (1, vI x1), (2, vI x2), (3, vI x3)] [] := by
  refine g_aload_n (pc' := 149) 0 dX7_readPlain_148 rfl rfl ?_
  refine g_cVV (pc' := 152) (vs := []) (st := []) (c := 7) h mv_X7_step lk_X7_48 rfl rfl rfl rfl (Nat.le_of_ble_eq_true rfl) (Nat.le_of_ble_eq_true rfl) rfl dX7_readPlain_149 rfl z2 (fun i86 l86 h => ?_)
  refine g_aload_n (pc' := 153) 0 dX7_readPlain_152 rfl rfl ?_
  refine g_iload_n (pc' := 154) 1 dX7_readPlain_153 rfl rfl ?_
  refine g_cVI (pc' := 157) (vs := [vI x1]) (st := []) (c := 7) h mv_X7_readSum lk_X7_68 rfl rfl rfl rfl (Nat.le_of_ble_eq_true rfl) (Nat.le_of_ble_eq_true rfl) rfl dX7_readPlain_154 rfl z2 (fun r87 i87 l87 rg87 h => ?_)
  obtain ⟨hk97, hk98⟩ := h
  refine g_if_ne (tgt := 162) (pc' := 160) rg87 Iff.rfl dX7_readPlain_157 rfl rfl (fun c89 => ?_) (fun c89 => ?_)
  · have h := hk98 c89
    refine g_aload_n (pc' := 163) 0 dX7_readPlain_162 rfl rfl ?_
    refine g_iload_n (pc' := 164) 3 dX7_readPlain_163 rfl rfl ?_
    refine g_iconst (pc' := 165) dX7_readPlain_164 rfl ?_
    refine g_cVV (pc' := 168) (vs := [vI x3, vI 0]) (st := []) (c := 7) h mv_X7_write lk_X7_83 rfl rfl rfl rfl (Nat.le_of_ble_eq_true rfl) (Nat.le_of_ble_eq_true rfl) rfl dX7_readPlain_165 rfl z2 (fun i90 l90 h => ?_)
    refine g_iload_n (pc' := 169) 2 dX7_readPlain_168 rfl rfl ?_
    obtain ⟨hob92, hk95, hk96⟩ := h
    refine g_if_eq (tgt := 179) (pc' := 172) (hob92) Iff.rfl dX7_readPlain_169 rfl rfl (fun c93 => ?_) (fun c93 => ?_)
    · have h := hk95 c93
      refine g_iconst (pc' := 180) dX7_readPlain_179 rfl ?_
      exact g_retZ rfl (by decide) dX7_readPlain_180 h
    · have h := hk96 c93
      refine g_aload_n (pc' := 173) 0 dX7_readPlain_172 rfl rfl ?_
      refine g_bipush (pc' := 175) dX7_readPlain_173 rfl rfl ?_
      refine g_iconst (pc' := 176) dX7_readPlain_175 rfl ?_
      refine g_cVV (pc' := 179) (vs := [vI 9, vI 0]) (st := []) (c := 7) h mv_X7_write lk_X7_83 rfl rfl rfl rfl (Nat.le_of_ble_eq_true rfl) (Nat.le_of_ble_eq_true rfl) rfl dX7_readPlain_176 rfl z2 (fun i94 l94 h => ?_)
      refine g_iconst (pc' := 180) dX7_readPlain_179 rfl ?_
      exact g_retZ rfl (by decide) dX7_readPlain_180 h
  · have h := hk97 c89
    refine g_iconst (pc' := 161) dX7_readPlain_160 rfl ?_
    exact g_retZ rfl (by decide) dX7_readPlain_161 h

theorem dX7_readSum_0 : decode cX7_readSum 0 = .ok (.aload_n 0, 1) := by decide +kernel
theorem dX7_readSum_1 : decode cX7_readSum 1 = .ok (.iload_n 1, 1) := by decide +kernel
theorem dX7_readSum_2 : decode cX7_readSum 2 = .ok (.invokevirtual 94, 3) := by decide +kernel
theorem dX7_readSum_5 : decode cX7_readSum 5 = .ok (.ifCond .ne 5, 3) := by decide +kernel
theorem dX7_readSum_8 : decode cX7_readSum 8 = .ok (.iconst 0, 1) := by decide +kernel
theorem dX7_readSum_9 : decode cX7_readSum 9 = .ok (.ireturn, 1) := by decide +kernel
theorem dX7_readSum_10 : decode cX7_readSum 10 = .ok (.iconst 0, 1) := by decide +kernel
theorem dX7_readSum_11 : decode cX7_readSum 11 = .ok (.istore_n 2, 1) := by decide +kernel
theorem dX7_readSum_12 : decode cX7_readSum 12 = .ok (.iload_n 2, 1) := by decide +kernel
theorem dX7_readSum_13 : decode cX7_readSum 13 = .ok (.sipush 400, 3) := by decide +kernel
theorem dX7_readSum_16 : decode cX7_readSum 16 = .ok (.if_icmp .ge 62, 3) := by decide +kernel
theorem dX7_readSum_19 : decode cX7_readSum 19 = .ok (.aload_n 0, 1) := by decide +kernel
theorem dX7_readSum_20 : decode cX7_readSum 20 = .ok (.getfield 55, 3) := by decide +kernel
theorem dX7_readSum_23 : decode cX7_readSum 23 = .ok (.bipush 43, 2) := by decide +kernel
theorem dX7_readSum_25 : decode cX7_readSum 25 = .ok (.if_icmp .eq 12, 3) := by decide +kernel
theorem dX7_readSum_28 : decode cX7_readSum 28 = .ok (.aload_n 0, 1) := by decide +kernel
theorem dX7_readSum_29 : decode cX7_readSum 29 = .ok (.getfield 55, 3) := by decide +kernel
theorem dX7_readSum_32 : decode cX7_readSum 32 = .ok (.bipush 45, 2) := by decide +kernel
theorem dX7_readSum_34 : decode cX7_readSum 34 = .ok (.if_icmp .ne 44, 3) := by decide +kernel
theorem dX7_readSum_37 : decode cX7_readSum 37 = .ok (.aload_n 0, 1) := by decide +kernel
theorem dX7_readSum_38 : decode cX7_readSum 38 = .ok (.getfield 55, 3) := by decide +kernel
theorem dX7_readSum_41 : decode cX7_readSum 41 = .ok (.bipush 43, 2) := by decide +kernel
theorem dX7_readSum_43 : decode cX7_readSum 43 = .ok (.if_icmp .ne 7, 3) := by decide +kernel
theorem dX7_readSum_46 : decode cX7_readSum 46 = .ok (.iconst 2, 1) := by decide +kernel
theorem dX7_readSum_47 : decode cX7_readSum 47 = .ok (.goto 4, 3) := by decide +kernel
theorem dX7_readSum_50 : decode cX7_readSum 50 = .ok (.iconst 3, 1) := by decide +kernel
theorem dX7_readSum_51 : decode cX7_readSum 51 = .ok (.istore_n 3, 1) := by decide +kernel
theorem dX7_readSum_52 : decode cX7_readSum 52 = .ok (.aload_n 0, 1) := by decide +kernel
theorem dX7_readSum_53 : decode cX7_readSum 53 = .ok (.invokevirtual 48, 3) := by decide +kernel
theorem dX7_readSum_56 : decode cX7_readSum 56 = .ok (.aload_n 0, 1) := by decide +kernel
theorem dX7_readSum_57 : decode cX7_readSum 57 = .ok (.iload_n 1, 1) := by decide +kernel
theorem dX7_readSum_58 : decode cX7_readSum 58 = .ok (.invokevirtual 94, 3) := by decide +kernel
theorem dX7_readSum_61 : decode cX7_readSum 61 = .ok (.ifCond .ne 5, 3) := by decide +kernel
theorem dX7_readSum_64 : decode cX7_readSum 64 = .ok (.iconst 0, 1) := by decide +kernel
theorem dX7_readSum_65 : decode cX7_readSum 65 = .ok (.ireturn, 1) := by decide +kernel
theorem dX7_readSum_66 : decode cX7_readSum 66 = .ok (.aload_n 0, 1) := by decide +kernel
theorem dX7_readSum_67 : decode cX7_readSum 67 = .ok (.iload_n 3, 1) := by decide +kernel
theorem dX7_readSum_68 : decode cX7_readSum 68 = .ok (.iconst 0, 1) := by decide +kernel
theorem dX7_readSum_69 : decode cX7_readSum 69 = .ok (.invokevirtual 83, 3) := by decide +kernel
theorem dX7_readSum_72 : decode cX7_readSum 72 = .ok (.iinc 2 1, 3) := by decide +kernel
theorem dX7_readSum_75 : decode cX7_readSum 75 = .ok (.goto (-63), 3) := by decide +kernel
theorem dX7_readSum_78 : decode cX7_readSum 78 = .ok (.iconst 1, 1) := by decide +kernel
theorem dX7_readSum_79 : decode cX7_readSum 79 = .ok (.ireturn, 1) := by decide +kernel
set_option maxRecDepth 20000 in
theorem s_X7_readSum {w : Wd} {d : Nat} {P : Int → IM → LM → Prop} {i : IM} {l : LM} (p0 : Int)  (h : cI w d X_X7_readTerm [vR (some 37), vI p0] i l (fun r1 i1 l1 => (((r1 = 0) → P 0 i1 l1) ∧ ((¬ (r1 = 0)) → gI w d X_X7_readSum P i1 l1 12 [(0, vR (some 37)), (1, vI p0), (2, vI 0)] [])))) : gI w d X_X7_readSum P i l 0 [(0, vR (some 37)), (1, vI p0)] [] := by
  refine g_aload_n (pc' := 1) 0 dX7_readSum_0 rfl rfl ?_
  refine g_iload_n (pc' := 2) 1 dX7_readSum_1 rfl rfl ?_
  refine g_cVI (pc' := 5) (vs := [vI p0]) (st := []) (c := 7) h mv_X7_readTerm lk_X7_94 rfl rfl rfl rfl (Nat.le_of_ble_eq_true rfl) (Nat.le_of_ble_eq_true rfl) rfl dX7_readSum_2 rfl z2 (fun r1 i1 l1 rg1 h => ?_)
  obtain ⟨hk4, hk5⟩ := h
  refine g_if_ne (tgt := 10) (pc' := 8) rg1 Iff.rfl dX7_readSum_5 rfl rfl (fun c3 => ?_) (fun c3 => ?_)
  · have h := hk5 c3
    refine g_iconst (pc' := 11) dX7_readSum_10 rfl ?_
    refine g_istore_n (pc' := 12) (L' := [(2, vI 0), (0, vR (some 37)), (1, vI p0)]) dX7_readSum_11 rfl (Nat.le_of_ble_eq_true rfl) rfl ?_
    refine g_sub (L' := [(0, vR (some 37)), (1, vI p0), (2, vI 0)]) [1, 2, 0] rfl ?_
    exact h
  · have h := hk4 c3
    refine g_iconst (pc' := 9) dX7_readSum_8 rfl ?_
    exact g_retZ rfl (by decide) dX7_readSum_9 h
theorem e_X7_readSum {w : Wd} {d : Nat} {P : Int → IM → LM → Prop} {i : IM} {l : LM} {p0 : Int}  (h : gI w d X_X7_readSum P i l 0 [(0, vR (some 37)), (1, vI p0)] []) : cI w (d + 1) X_X7_readSum [vR (some 37), vI p0] i l P := CI_of (by decide +kernel) (Nat.le_of_ble_eq_true rfl) h
set_option maxRecDepth 20000 in
theorem s_X7_readSum_12 {w : Wd} {d : Nat} {P : Int → IM → LM → Prop} {i : IM} {l : LM} (x1 : Int) (x2 : Int)  (h : ((rg x2) ∧ (((400 ≤ x2) ∨ (¬ (i 37 7 = 43) ∧ (¬ (i 37 7 = 45)))) → P 1 i l) ∧ ((¬ ((400 ≤ x2) ∨ (¬ (i 37 7 = 43) ∧ (¬ (i 37 7 = 45))))) → gI w d X_X7_readSum P i l 37 [(0, vR (some 37)), (1, vI x1), (2, vI x2)] []))) : gI w d X_X7_readSum P i l 12 [(0, vR (some 37)), (1, vI x1), (2, vI x2)] [] := by
  refine g_iload_n (pc' := 13) 2 dX7_readSum_12 rfl rfl ?_
  refine g_sipush (pc' := 16) dX7_readSum_13 rfl rfl ?_
  obtain ⟨hob7, hk13, hk14⟩ := h
  have hk13g : ((400 ≤ x2) ∨ (¬ (i 37 7 = 43) ∧ (¬ (i 37 7 = 45)))) → gI w d X_X7_readSum P i l 78 [(0, vR (some 37)), (1, vI x1), (2, vI x2)] [] := by
    intro hp
    have h := hk13 hp
    refine g_iconst (pc' := 79) dX7_readSum_78 rfl ?_
    exact g_retZ rfl (by decide) dX7_readSum_79 h
  have hk14g : (¬ ((400 ≤ x2) ∨ (¬ (i 37 7 = 43) ∧ (¬ (i 37 7 = 45))))) → gI w d X_X7_readSum P i l 37 [(0, vR (some 37)), (1, vI x1), (2, vI x2)] [] := by
    intro hp
    have h := hk14 hp
    exact h
  refine g_icmp_ge (tgt := 78) (pc' := 19) (hob7) (rg_lit rfl) Iff.rfl dX7_readSum_16 rfl rfl (fun c8 => ?_) (fun c8 => ?_)
  · exact hk13g (Or.inl c8)
  · refine g_aload_n (pc' := 20) 0 dX7_readSum_19 rfl rfl ?_
    refine g_getI (pc' := 23) (z := 7) rfl fl_X7_55 rfl rfl dX7_readSum_20 rfl (fun rg9 => ?_)
    refine g_bipush (pc' := 25) dX7_readSum_23 rfl rfl ?_
    refine g_icmp_eq (tgt := 37) (pc' := 28) rg9 (rg_lit rfl) Iff.rfl dX7_readSum_25 rfl rfl (fun c10 => ?_) (fun c10 => ?_)
    · exact hk14g (fun q => q.elim c8 (fun q => q.1 c10))
    · refine g_aload_n (pc' := 29) 0 dX7_readSum_28 rfl rfl ?_
      refine g_getI (pc' := 32) (z := 7) rfl fl_X7_55 rfl rfl dX7_readSum_29 rfl (fun rg11 => ?_)
      refine g_bipush (pc' := 34) dX7_readSum_32 rfl rfl ?_
      refine g_icmp_ne (tgt := 78) (pc' := 37) rg11 (rg_lit rfl) Iff.rfl dX7_readSum_34 rfl rfl (fun c12 => ?_) (fun c12 => ?_)
      · exact hk13g (Or.inr ⟨c10, c12⟩)
      · exact hk14g (fun q => q.elim c8 (fun q => (fun q => q c12) q.2))
set_option maxRecDepth 20000 in
theorem s_X7_readSum_37 {w : Wd} {d : Nat} {P : Int → IM → LM → Prop} {i : IM} {l : LM} (x1 : Int) (x2 : Int)  (h : cVd w d X_X7_step [vR (some 37)] i l (fun i18 l18 => cI w d X_X7_readTerm [vR (some 37), vI x1] i18 l18 (fun r19 i19 l19 => (((r19 = 0) → P 0 i19 l19) ∧ ((¬ (r19 = 0)) → cVd w d X_X7_write [vR (some 37), vI (if (i 37 7 = 43) then (2 : Int) else 3), vI 0] i19 l19 (fun i22 l22 => gI w d X_X7_readSum P i22 l22 12 [(0, vR (some 37)), (1, vI x1), (2, vI (x2 + 1))] [])))))) : gI w d X_X7_readSum P i l 37 [(0, vR (some 37)), (1, vI x1), (2, vI x2)] [] := by
  refine g_aload_n (pc' := 38) 0 dX7_readSum_37 rfl rfl ?_
  refine g_getI (pc' := 41) (z := 7) rfl fl_X7_55 rfl rfl dX7_readSum_38 rfl (fun rg15 => ?_)
  refine g_bipush (pc' := 43) dX7_readSum_41 rfl rfl ?_
  have hJ : gI w d X_X7_readSum P i l 51 [(0, vR (some 37)), (1, vI x1), (2, vI x2)] [vI (if (i 37 7 = 43) then (2 : Int) else 3)] := by
    refine g_istore_n (pc' := 52) (L' := [(3, vI (if (i 37 7 = 43) then (2 : Int) else 3)), (0, vR (some 37)), (1, vI x1), (2, vI x2)]) dX7_readSum_51 rfl (Nat.le_of_ble_eq_true rfl) rfl ?_
    refine g_aload_n (pc' := 53) 1 dX7_readSum_52 rfl rfl ?_
    refine g_cVV (pc' := 56) (vs := []) (st := []) (c := 7) h mv_X7_step lk_X7_48 rfl rfl rfl rfl (Nat.le_of_ble_eq_true rfl) (Nat.le_of_ble_eq_true rfl) rfl dX7_readSum_53 rfl z2 (fun i18 l18 h => ?_)
    refine g_aload_n (pc' := 57) 1 dX7_readSum_56 rfl rfl ?_
    refine g_iload_n (pc' := 58) 2 dX7_readSum_57 rfl rfl ?_
    refine g_cVI (pc' := 61) (vs := [vI x1]) (st := []) (c := 7) h mv_X7_readTerm lk_X7_94 rfl rfl rfl rfl (Nat.le_of_ble_eq_true rfl) (Nat.le_of_ble_eq_true rfl) rfl dX7_readSum_58 rfl z2 (fun r19 i19 l19 rg19 h => ?_)
    obtain ⟨hk23, hk24⟩ := h
    refine g_if_ne (tgt := 66) (pc' := 64) rg19 Iff.rfl dX7_readSum_61 rfl rfl (fun c21 => ?_) (fun c21 => ?_)
    · have h := hk24 c21
      refine g_aload_n (pc' := 67) 1 dX7_readSum_66 rfl rfl ?_
      refine g_iload_n (pc' := 68) 0 dX7_readSum_67 rfl rfl ?_
      refine g_iconst (pc' := 69) dX7_readSum_68 rfl ?_
      refine g_cVV (pc' := 72) (vs := [vI (if (i 37 7 = 43) then (2 : Int) else 3), vI 0]) (st := []) (c := 7) h mv_X7_write lk_X7_83 rfl rfl rfl rfl (Nat.le_of_ble_eq_true rfl) (Nat.le_of_ble_eq_true rfl) rfl dX7_readSum_69 rfl z2 (fun i22 l22 h => ?_)
      refine g_iinc (pc' := 75) (L' := [(2, vI (x2 + 1)), (3, vI (if (i 37 7 = 43) then (2 : Int) else 3)), (0, vR (some 37)), (1, vI x1)]) 3 dX7_readSum_72 rfl (Nat.le_of_ble_eq_true rfl) rfl rfl ?_
      refine g_goto (tgt := 12) dX7_readSum_75 rfl ?_
      refine g_sub (L' := [(0, vR (some 37)), (1, vI x1), (2, vI (x2 + 1))]) [2, 3, 0] rfl ?_
      exact h
    · have h := hk23 c21
      refine g_iconst (pc' := 65) dX7_readSum_64 rfl ?_
      exact g_retZ rfl (by decide) dX7_readSum_65 h
  refine g_icmp_ne (tgt := 50) (pc' := 46) rg15 (rg_lit rfl) Iff.rfl dX7_readSum_43 rfl rfl (fun c17 => ?_) (fun c17 => ?_)
  · refine g_iconst (pc' := 51) dX7_readSum_50 rfl ?_
    rw [if_neg c17 (α := Int) (t := 2) (e := 3)] at hJ
    exact hJ
  · refine g_iconst (pc' := 47) dX7_readSum_46 rfl ?_
    refine g_goto (tgt := 51) dX7_readSum_47 rfl ?_
    rw [if_pos c17 (α := Int) (t := 2) (e := 3)] at hJ
    exact hJ

theorem dX7_readTerm_0 : decode cX7_readTerm 0 = .ok (.aload_n 0, 1) := by decide +kernel
theorem dX7_readTerm_1 : decode cX7_readTerm 1 = .ok (.iload_n 1, 1) := by decide +kernel
theorem dX7_readTerm_2 : decode cX7_readTerm 2 = .ok (.invokevirtual 97, 3) := by decide +kernel
theorem dX7_readTerm_5 : decode cX7_readTerm 5 = .ok (.ifCond .ne 5, 3) := by decide +kernel
theorem dX7_readTerm_8 : decode cX7_readTerm 8 = .ok (.iconst 0, 1) := by decide +kernel
theorem dX7_readTerm_9 : decode cX7_readTerm 9 = .ok (.ireturn, 1) := by decide +kernel
theorem dX7_readTerm_10 : decode cX7_readTerm 10 = .ok (.iconst 0, 1) := by decide +kernel
theorem dX7_readTerm_11 : decode cX7_readTerm 11 = .ok (.istore_n 2, 1) := by decide +kernel
theorem dX7_readTerm_12 : decode cX7_readTerm 12 = .ok (.iload_n 2, 1) := by decide +kernel
theorem dX7_readTerm_13 : decode cX7_readTerm 13 = .ok (.sipush 400, 3) := by decide +kernel
theorem dX7_readTerm_16 : decode cX7_readTerm 16 = .ok (.if_icmp .ge 62, 3) := by decide +kernel
theorem dX7_readTerm_19 : decode cX7_readTerm 19 = .ok (.aload_n 0, 1) := by decide +kernel
theorem dX7_readTerm_20 : decode cX7_readTerm 20 = .ok (.getfield 55, 3) := by decide +kernel
theorem dX7_readTerm_23 : decode cX7_readTerm 23 = .ok (.bipush 42, 2) := by decide +kernel
theorem dX7_readTerm_25 : decode cX7_readTerm 25 = .ok (.if_icmp .eq 12, 3) := by decide +kernel
theorem dX7_readTerm_28 : decode cX7_readTerm 28 = .ok (.aload_n 0, 1) := by decide +kernel
theorem dX7_readTerm_29 : decode cX7_readTerm 29 = .ok (.getfield 55, 3) := by decide +kernel
theorem dX7_readTerm_32 : decode cX7_readTerm 32 = .ok (.bipush 47, 2) := by decide +kernel
theorem dX7_readTerm_34 : decode cX7_readTerm 34 = .ok (.if_icmp .ne 44, 3) := by decide +kernel
theorem dX7_readTerm_37 : decode cX7_readTerm 37 = .ok (.aload_n 0, 1) := by decide +kernel
theorem dX7_readTerm_38 : decode cX7_readTerm 38 = .ok (.getfield 55, 3) := by decide +kernel
theorem dX7_readTerm_41 : decode cX7_readTerm 41 = .ok (.bipush 42, 2) := by decide +kernel
theorem dX7_readTerm_43 : decode cX7_readTerm 43 = .ok (.if_icmp .ne 7, 3) := by decide +kernel
theorem dX7_readTerm_46 : decode cX7_readTerm 46 = .ok (.iconst 4, 1) := by decide +kernel
theorem dX7_readTerm_47 : decode cX7_readTerm 47 = .ok (.goto 4, 3) := by decide +kernel
theorem dX7_readTerm_50 : decode cX7_readTerm 50 = .ok (.iconst 5, 1) := by decide +kernel
theorem dX7_readTerm_51 : decode cX7_readTerm 51 = .ok (.istore_n 3, 1) := by decide +kernel
theorem dX7_readTerm_52 : decode cX7_readTerm 52 = .ok (.aload_n 0, 1) := by decide +kernel
theorem dX7_readTerm_53 : decode cX7_readTerm 53 = .ok (.invokevirtual 48, 3) := by decide +kernel
theorem dX7_readTerm_56 : decode cX7_readTerm 56 = .ok (.aload_n 0, 1) := by decide +kernel
theorem dX7_readTerm_57 : decode cX7_readTerm 57 = .ok (.iload_n 1, 1) := by decide +kernel
theorem dX7_readTerm_58 : decode cX7_readTerm 58 = .ok (.invokevirtual 97, 3) := by decide +kernel
theorem dX7_readTerm_61 : decode cX7_readTerm 61 = .ok (.ifCond .ne 5, 3) := by decide +kernel
theorem dX7_readTerm_64 : decode cX7_readTerm 64 = .ok (.iconst 0, 1) := by decide +kernel
theorem dX7_readTerm_65 : decode cX7_readTerm 65 = .ok (.ireturn, 1) := by decide +kernel
theorem dX7_readTerm_66 : decode cX7_readTerm 66 = .ok (.aload_n 0, 1) := by decide +kernel
theorem dX7_readTerm_67 : decode cX7_readTerm 67 = .ok (.iload_n 3, 1) := by decide +kernel
theorem dX7_readTerm_68 : decode cX7_readTerm 68 = .ok (.iconst 0, 1) := by decide +kernel
theorem dX7_readTerm_69 : decode cX7_readTerm 69 = .ok (.invokevirtual 83, 3) := by decide +kernel
theorem dX7_readTerm_72 : decode cX7_readTerm 72 = .ok (.iinc 2 1, 3) := by decide +kernel
theorem dX7_readTerm_75 : decode cX7_readTerm 75 = .ok (.goto (-63), 3) := by decide +kernel
theorem dX7_readTerm_78 : decode cX7_readTerm 78 = .ok (.iconst 1, 1) := by decide +kernel
theorem dX7_readTerm_79 : decode cX7_readTerm 79 = .ok (.ireturn, 1) := by decide +kernel
set_option maxRecDepth 20000 in
theorem s_X7_readTerm {w : Wd} {d : Nat} {P : Int → IM → LM → Prop} {i : IM} {l : LM} (p0 : Int)  (h : cI w d X_X7_readPart [vR (some 37), vI p0] i l (fun r1 i1 l1 => (((r1 = 0) → P 0 i1 l1) ∧ ((¬ (r1 = 0)) → gI w d X_X7_readTerm P i1 l1 12 [(0, vR (some 37)), (1, vI p0), (2, vI 0)] [])))) : gI w d X_X7_readTerm P i l 0 [(0, vR (some 37)), (1, vI p0)] [] := by
  refine g_aload_n (pc' := 1) 0 dX7_readTerm_0 rfl rfl ?_
  refine g_iload_n (pc' := 2) 1 dX7_readTerm_1 rfl rfl ?_
  refine g_cVI (pc' := 5) (vs := [vI p0]) (st := []) (c := 7) h mv_X7_readPart lk_X7_97 rfl rfl rfl rfl (Nat.le_of_ble_eq_true rfl) (Nat.le_of_ble_eq_true rfl) rfl dX7_readTerm_2 rfl z2 (fun r1 i1 l1 rg1 h => ?_)
  obtain ⟨hk4, hk5⟩ := h
  refine g_if_ne (tgt := 10) (pc' := 8) rg1 Iff.rfl dX7_readTerm_5 rfl rfl (fun c3 => ?_) (fun c3 => ?_)
  · have h := hk5 c3
    refine g_iconst (pc' := 11) dX7_readTerm_10 rfl ?_
    refine g_istore_n (pc' := 12) (L' := [(2, vI 0), (0, vR (some 37)), (1, vI p0)]) dX7_readTerm_11 rfl (Nat.le_of_ble_eq_true rfl) rfl ?_
    refine g_sub (L' := [(0, vR (some 37)), (1, vI p0), (2, vI 0)]) [1, 2, 0] rfl ?_
    exact h
  · have h := hk4 c3
    refine g_iconst (pc' := 9) dX7_readTerm_8 rfl ?_
    exact g_retZ rfl (by decide) dX7_readTerm_9 h
theorem e_X7_readTerm {w : Wd} {d : Nat} {P : Int → IM → LM → Prop} {i : IM} {l : LM} {p0 : Int}  (h : gI w d X_X7_readTerm P i l 0 [(0, vR (some 37)), (1, vI p0)] []) : cI w (d + 1) X_X7_readTerm [vR (some 37), vI p0] i l P := CI_of (by decide +kernel) (Nat.le_of_ble_eq_true rfl) h
set_option maxRecDepth 20000 in
theorem s_X7_readTerm_12 {w : Wd} {d : Nat} {P : Int → IM → LM → Prop} {i : IM} {l : LM} (x1 : Int) (x2 : Int)  (h : ((rg x2) ∧ (((400 ≤ x2) ∨ (¬ (i 37 7 = 42) ∧ (¬ (i 37 7 = 47)))) → P 1 i l) ∧ ((¬ ((400 ≤ x2) ∨ (¬ (i 37 7 = 42) ∧ (¬ (i 37 7 = 47))))) → gI w d X_X7_readTerm P i l 37 [(0, vR (some 37)), (1, vI x1), (2, vI x2)] []))) : gI w d X_X7_readTerm P i l 12 [(0, vR (some 37)), (1, vI x1), (2, vI x2)] [] := by
  refine g_iload_n (pc' := 13) 2 dX7_readTerm_12 rfl rfl ?_
  refine g_sipush (pc' := 16) dX7_readTerm_13 rfl rfl ?_
  obtain ⟨hob7, hk13, hk14⟩ := h
  have hk13g : ((400 ≤ x2) ∨ (¬ (i 37 7 = 42) ∧ (¬ (i 37 7 = 47)))) → gI w d X_X7_readTerm P i l 78 [(0, vR (some 37)), (1, vI x1), (2, vI x2)] [] := by
    intro hp
    have h := hk13 hp
    refine g_iconst (pc' := 79) dX7_readTerm_78 rfl ?_
    exact g_retZ rfl (by decide) dX7_readTerm_79 h
  have hk14g : (¬ ((400 ≤ x2) ∨ (¬ (i 37 7 = 42) ∧ (¬ (i 37 7 = 47))))) → gI w d X_X7_readTerm P i l 37 [(0, vR (some 37)), (1, vI x1), (2, vI x2)] [] := by
    intro hp
    have h := hk14 hp
    exact h
  refine g_icmp_ge (tgt := 78) (pc' := 19) (hob7) (rg_lit rfl) Iff.rfl dX7_readTerm_16 rfl rfl (fun c8 => ?_) (fun c8 => ?_)
  · exact hk13g (Or.inl c8)
  · refine g_aload_n (pc' := 20) 0 dX7_readTerm_19 rfl rfl ?_
    refine g_getI (pc' := 23) (z := 7) rfl fl_X7_55 rfl rfl dX7_readTerm_20 rfl (fun rg9 => ?_)
    refine g_bipush (pc' := 25) dX7_readTerm_23 rfl rfl ?_
    refine g_icmp_eq (tgt := 37) (pc' := 28) rg9 (rg_lit rfl) Iff.rfl dX7_readTerm_25 rfl rfl (fun c10 => ?_) (fun c10 => ?_)
    · exact hk14g (fun q => q.elim c8 (fun q => q.1 c10))
    · refine g_aload_n (pc' := 29) 0 dX7_readTerm_28 rfl rfl ?_
      refine g_getI (pc' := 32) (z := 7) rfl fl_X7_55 rfl rfl dX7_readTerm_29 rfl (fun rg11 => ?_)
      refine g_bipush (pc' := 34) dX7_readTerm_32 rfl rfl ?_
      refine g_icmp_ne (tgt := 78) (pc' := 37) rg11 (rg_lit rfl) Iff.rfl dX7_readTerm_34 rfl rfl (fun c12 => ?_) (fun c12 => ?_)
      · exact hk13g (Or.inr ⟨c10, c12⟩)
      · exact hk14g (fun q => q.elim c8 (fun q => (fun q => q c12) q.2))
set_option maxRecDepth 20000 in
theorem s_X7_readTerm_37 {w : Wd} {d : Nat} {P : Int → IM → LM → Prop} {i : IM} {l : LM} (x1 : Int) (x2 : Int)  (h : cVd w d X_X7_step [vR (some 37)] i l (fun i18 l18 => cI w d X_X7_readPart [vR (some 37), vI x1] i18 l18 (fun r19 i19 l19 => (((r19 = 0) → P 0 i19 l19) ∧ ((¬ (r19 = 0)) → cVd w d X_X7_write [vR (some 37), vI (if (i 37 7 = 42) then (4 : Int) else 5), vI 0] i19 l19 (fun i22 l22 => gI w d X_X7_readTerm P i22 l22 12 [(0, vR (some 37)), (1, vI x1), (2, vI (x2 + 1))] [])))))) : gI w d X_X7_readTerm P i l 37 [(0, vR (some 37)), (1, vI x1), (2, vI x2)] [] := by
  refine g_aload_n (pc' := 38) 0 dX7_readTerm_37 rfl rfl ?_
  refine g_getI (pc' := 41) (z := 7) rfl fl_X7_55 rfl rfl dX7_readTerm_38 rfl (fun rg15 => ?_)
  refine g_bipush (pc' := 43) dX7_readTerm_41 rfl rfl ?_
  have hJ : gI w d X_X7_readTerm P i l 51 [(0, vR (some 37)), (1, vI x1), (2, vI x2)] [vI (if (i 37 7 = 42) then (4 : Int) else 5)] := by
    refine g_istore_n (pc' := 52) (L' := [(3, vI (if (i 37 7 = 42) then (4 : Int) else 5)), (0, vR (some 37)), (1, vI x1), (2, vI x2)]) dX7_readTerm_51 rfl (Nat.le_of_ble_eq_true rfl) rfl ?_
    refine g_aload_n (pc' := 53) 1 dX7_readTerm_52 rfl rfl ?_
    refine g_cVV (pc' := 56) (vs := []) (st := []) (c := 7) h mv_X7_step lk_X7_48 rfl rfl rfl rfl (Nat.le_of_ble_eq_true rfl) (Nat.le_of_ble_eq_true rfl) rfl dX7_readTerm_53 rfl z2 (fun i18 l18 h => ?_)
    refine g_aload_n (pc' := 57) 1 dX7_readTerm_56 rfl rfl ?_
    refine g_iload_n (pc' := 58) 2 dX7_readTerm_57 rfl rfl ?_
    refine g_cVI (pc' := 61) (vs := [vI x1]) (st := []) (c := 7) h mv_X7_readPart lk_X7_97 rfl rfl rfl rfl (Nat.le_of_ble_eq_true rfl) (Nat.le_of_ble_eq_true rfl) rfl dX7_readTerm_58 rfl z2 (fun r19 i19 l19 rg19 h => ?_)
    obtain ⟨hk23, hk24⟩ := h
    refine g_if_ne (tgt := 66) (pc' := 64) rg19 Iff.rfl dX7_readTerm_61 rfl rfl (fun c21 => ?_) (fun c21 => ?_)
    · have h := hk24 c21
      refine g_aload_n (pc' := 67) 1 dX7_readTerm_66 rfl rfl ?_
      refine g_iload_n (pc' := 68) 0 dX7_readTerm_67 rfl rfl ?_
      refine g_iconst (pc' := 69) dX7_readTerm_68 rfl ?_
      refine g_cVV (pc' := 72) (vs := [vI (if (i 37 7 = 42) then (4 : Int) else 5), vI 0]) (st := []) (c := 7) h mv_X7_write lk_X7_83 rfl rfl rfl rfl (Nat.le_of_ble_eq_true rfl) (Nat.le_of_ble_eq_true rfl) rfl dX7_readTerm_69 rfl z2 (fun i22 l22 h => ?_)
      refine g_iinc (pc' := 75) (L' := [(2, vI (x2 + 1)), (3, vI (if (i 37 7 = 42) then (4 : Int) else 5)), (0, vR (some 37)), (1, vI x1)]) 3 dX7_readTerm_72 rfl (Nat.le_of_ble_eq_true rfl) rfl rfl ?_
      refine g_goto (tgt := 12) dX7_readTerm_75 rfl ?_
      refine g_sub (L' := [(0, vR (some 37)), (1, vI x1), (2, vI (x2 + 1))]) [2, 3, 0] rfl ?_
      exact h
    · have h := hk23 c21
      refine g_iconst (pc' := 65) dX7_readTerm_64 rfl ?_
      exact g_retZ rfl (by decide) dX7_readTerm_65 h
  refine g_icmp_ne (tgt := 50) (pc' := 46) rg15 (rg_lit rfl) Iff.rfl dX7_readTerm_43 rfl rfl (fun c17 => ?_) (fun c17 => ?_)
  · refine g_iconst (pc' := 51) dX7_readTerm_50 rfl ?_
    rw [if_neg c17 (α := Int) (t := 4) (e := 5)] at hJ
    exact hJ
  · refine g_iconst (pc' := 47) dX7_readTerm_46 rfl ?_
    refine g_goto (tgt := 51) dX7_readTerm_47 rfl ?_
    rw [if_pos c17 (α := Int) (t := 4) (e := 5)] at hJ
    exact hJ

theorem dX7_readPart_0 : decode cX7_readPart 0 = .ok (.aload_n 0, 1) := by decide +kernel
theorem dX7_readPart_1 : decode cX7_readPart 1 = .ok (.getfield 55, 3) := by decide +kernel
theorem dX7_readPart_4 : decode cX7_readPart 4 = .ok (.bipush 91, 2) := by decide +kernel
theorem dX7_readPart_6 : decode cX7_readPart 6 = .ok (.if_icmp .ne 42, 3) := by decide +kernel
theorem dX7_readPart_9 : decode cX7_readPart 9 = .ok (.iload_n 1, 1) := by decide +kernel
theorem dX7_readPart_10 : decode cX7_readPart 10 = .ok (.bipush 8, 2) := by decide +kernel
theorem dX7_readPart_12 : decode cX7_readPart 12 = .ok (.if_icmp .lt 5, 3) := by decide +kernel
theorem dX7_readPart_15 : decode cX7_readPart 15 = .ok (.iconst 0, 1) := by decide +kernel
theorem dX7_readPart_16 : decode cX7_readPart 16 = .ok (.ireturn, 1) := by decide +kernel
theorem dX7_readPart_17 : decode cX7_readPart 17 = .ok (.aload_n 0, 1) := by decide +kernel
theorem dX7_readPart_18 : decode cX7_readPart 18 = .ok (.invokevirtual 48, 3) := by decide +kernel
theorem dX7_readPart_21 : decode cX7_readPart 21 = .ok (.aload_n 0, 1) := by decide +kernel
theorem dX7_readPart_22 : decode cX7_readPart 22 = .ok (.iload_n 1, 1) := by decide +kernel
theorem dX7_readPart_23 : decode cX7_readPart 23 = .ok (.iconst 1, 1) := by decide +kernel
theorem dX7_readPart_24 : decode cX7_readPart 24 = .ok (.iadd, 1) := by decide +kernel
theorem dX7_readPart_25 : decode cX7_readPart 25 = .ok (.invokevirtual 68, 3) := by decide +kernel
theorem dX7_readPart_28 : decode cX7_readPart 28 = .ok (.ifCond .eq 12, 3) := by decide +kernel
theorem dX7_readPart_31 : decode cX7_readPart 31 = .ok (.aload_n 0, 1) := by decide +kernel
theorem dX7_readPart_32 : decode cX7_readPart 32 = .ok (.getfield 55, 3) := by decide +kernel
theorem dX7_readPart_35 : decode cX7_readPart 35 = .ok (.bipush 93, 2) := by decide +kernel
theorem dX7_readPart_37 : decode cX7_readPart 37 = .ok (.if_icmp .eq 5, 3) := by decide +kernel
theorem dX7_readPart_40 : decode cX7_readPart 40 = .ok (.iconst 0, 1) := by decide +kernel
theorem dX7_readPart_41 : decode cX7_readPart 41 = .ok (.ireturn, 1) := by decide +kernel
theorem dX7_readPart_42 : decode cX7_readPart 42 = .ok (.aload_n 0, 1) := by decide +kernel
theorem dX7_readPart_43 : decode cX7_readPart 43 = .ok (.invokevirtual 48, 3) := by decide +kernel
theorem dX7_readPart_46 : decode cX7_readPart 46 = .ok (.iconst 1, 1) := by decide +kernel
theorem dX7_readPart_47 : decode cX7_readPart 47 = .ok (.ireturn, 1) := by decide +kernel
theorem dX7_readPart_48 : decode cX7_readPart 48 = .ok (.aload_n 0, 1) := by decide +kernel
theorem dX7_readPart_49 : decode cX7_readPart 49 = .ok (.getfield 55, 3) := by decide +kernel
theorem dX7_readPart_52 : decode cX7_readPart 52 = .ok (.sipush 300, 3) := by decide +kernel
theorem dX7_readPart_55 : decode cX7_readPart 55 = .ok (.isub, 1) := by decide +kernel
theorem dX7_readPart_56 : decode cX7_readPart 56 = .ok (.istore_n 2, 1) := by decide +kernel
theorem dX7_readPart_57 : decode cX7_readPart 57 = .ok (.iload_n 2, 1) := by decide +kernel
theorem dX7_readPart_58 : decode cX7_readPart 58 = .ok (.ifCond .lt 13, 3) := by decide +kernel
theorem dX7_readPart_61 : decode cX7_readPart 61 = .ok (.iload_n 2, 1) := by decide +kernel
theorem dX7_readPart_62 : decode cX7_readPart 62 = .ok (.bipush 9, 2) := by decide +kernel
theorem dX7_readPart_64 : decode cX7_readPart 64 = .ok (.if_icmp .ge 7, 3) := by decide +kernel
theorem dX7_readPart_67 : decode cX7_readPart 67 = .ok (.iconst 1, 1) := by decide +kernel
theorem dX7_readPart_68 : decode cX7_readPart 68 = .ok (.goto 4, 3) := by decide +kernel
theorem dX7_readPart_71 : decode cX7_readPart 71 = .ok (.iconst 0, 1) := by decide +kernel
theorem dX7_readPart_72 : decode cX7_readPart 72 = .ok (.istore_n 3, 1) := by decide +kernel
theorem dX7_readPart_73 : decode cX7_readPart 73 = .ok (.aload_n 0, 1) := by decide +kernel
theorem dX7_readPart_74 : decode cX7_readPart 74 = .ok (.getfield 55, 3) := by decide +kernel
theorem dX7_readPart_77 : decode cX7_readPart 77 = .ok (.sipush 256, 3) := by decide +kernel
theorem dX7_readPart_80 : decode cX7_readPart 80 = .ok (.if_icmp .ne 17, 3) := by decide +kernel
theorem dX7_readPart_83 : decode cX7_readPart 83 = .ok (.aload_n 0, 1) := by decide +kernel
theorem dX7_readPart_84 : decode cX7_readPart 84 = .ok (.getfield 100, 3) := by decide +kernel
theorem dX7_readPart_87 : decode cX7_readPart 87 = .ok (.sipush 1000, 3) := by decide +kernel
theorem dX7_readPart_90 : decode cX7_readPart 90 = .ok (.if_icmp .gt 7, 3) := by decide +kernel
theorem dX7_readPart_93 : decode cX7_readPart 93 = .ok (.iconst 1, 1) := by decide +kernel
theorem dX7_readPart_94 : decode cX7_readPart 94 = .ok (.goto 4, 3) := by decide +kernel
theorem dX7_readPart_97 : decode cX7_readPart 97 = .ok (.iconst 0, 1) := by decide +kernel
theorem dX7_readPart_98 : decode cX7_readPart 98 = .ok (.istore 4, 2) := by decide +kernel
theorem dX7_readPart_100 : decode cX7_readPart 100 = .ok (.iload_n 3, 1) := by decide +kernel
theorem dX7_readPart_101 : decode cX7_readPart 101 = .ok (.ifCond .ne 8, 3) := by decide +kernel
theorem dX7_readPart_104 : decode cX7_readPart 104 = .ok (.iload 4, 2) := by decide +kernel
theorem dX7_readPart_106 : decode cX7_readPart 106 = .ok (.ifCond .eq 12, 3) := by decide +kernel
theorem dX7_readPart_109 : decode cX7_readPart 109 = .ok (.aload_n 0, 1) := by decide +kernel
theorem dX7_readPart_110 : decode cX7_readPart 110 = .ok (.getfield 39, 3) := by decide +kernel
theorem dX7_readPart_113 : decode cX7_readPart 113 = .ok (.bipush 50, 2) := by decide +kernel
theorem dX7_readPart_115 : decode cX7_readPart 115 = .ok (.if_icmp .lt 5, 3) := by decide +kernel
theorem dX7_readPart_118 : decode cX7_readPart 118 = .ok (.iconst 0, 1) := by decide +kernel
theorem dX7_readPart_119 : decode cX7_readPart 119 = .ok (.ireturn, 1) := by decide +kernel
theorem dX7_readPart_120 : decode cX7_readPart 120 = .ok (.aload_n 0, 1) := by decide +kernel
theorem dX7_readPart_121 : decode cX7_readPart 121 = .ok (.dup, 1) := by decide +kernel
theorem dX7_readPart_122 : decode cX7_readPart 122 = .ok (.getfield 39, 3) := by decide +kernel
theorem dX7_readPart_125 : decode cX7_readPart 125 = .ok (.iconst 1, 1) := by decide +kernel
theorem dX7_readPart_126 : decode cX7_readPart 126 = .ok (.iadd, 1) := by decide +kernel
theorem dX7_readPart_127 : decode cX7_readPart 127 = .ok (.putfield 39, 3) := by decide +kernel
theorem dX7_readPart_130 : decode cX7_readPart 130 = .ok (.iload_n 3, 1) := by decide +kernel
theorem dX7_readPart_131 : decode cX7_readPart 131 = .ok (.ifCond .eq 24, 3) := by decide +kernel
theorem dX7_readPart_134 : decode cX7_readPart 134 = .ok (.aload_n 0, 1) := by decide +kernel
theorem dX7_readPart_135 : decode cX7_readPart 135 = .ok (.dup, 1) := by decide +kernel
theorem dX7_readPart_136 : decode cX7_readPart 136 = .ok (.getfield 65, 3) := by decide +kernel
theorem dX7_readPart_139 : decode cX7_readPart 139 = .ok (.iconst 1, 1) := by decide +kernel
theorem dX7_readPart_140 : decode cX7_readPart 140 = .ok (.iload_n 2, 1) := by decide +kernel
theorem dX7_readPart_141 : decode cX7_readPart 141 = .ok (.ishl, 1) := by decide +kernel
theorem dX7_readPart_142 : decode cX7_readPart 142 = .ok (.ior, 1) := by decide +kernel
theorem dX7_readPart_143 : decode cX7_readPart 143 = .ok (.putfield 65, 3) := by decide +kernel
theorem dX7_readPart_146 : decode cX7_readPart 146 = .ok (.aload_n 0, 1) := by decide +kernel
theorem dX7_readPart_147 : decode cX7_readPart 147 = .ok (.iconst 1, 1) := by decide +kernel
theorem dX7_readPart_148 : decode cX7_readPart 148 = .ok (.iload_n 2, 1) := by decide +kernel
theorem dX7_readPart_149 : decode cX7_readPart 149 = .ok (.invokevirtual 83, 3) := by decide +kernel
theorem dX7_readPart_152 : decode cX7_readPart 152 = .ok (.goto 12, 3) := by decide +kernel
theorem dX7_readPart_155 : decode cX7_readPart 155 = .ok (.aload_n 0, 1) := by decide +kernel
theorem dX7_readPart_156 : decode cX7_readPart 156 = .ok (.iconst 0, 1) := by decide +kernel
theorem dX7_readPart_157 : decode cX7_readPart 157 = .ok (.aload_n 0, 1) := by decide +kernel
theorem dX7_readPart_158 : decode cX7_readPart 158 = .ok (.getfield 100, 3) := by decide +kernel
theorem dX7_readPart_161 : decode cX7_readPart 161 = .ok (.invokevirtual 83, 3) := by decide +kernel
theorem dX7_readPart_164 : decode cX7_readPart 164 = .ok (.aload_n 0, 1) := by decide +kernel
theorem dX7_readPart_165 : decode cX7_readPart 165 = .ok (.invokevirtual 48, 3) := by decide +kernel
theorem dX7_readPart_168 : decode cX7_readPart 168 = .ok (.iconst 1, 1) := by decide +kernel
theorem dX7_readPart_169 : decode cX7_readPart 169 = .ok (.ireturn, 1) := by decide +kernel
set_option maxRecDepth 20000 in
theorem s_X7_readPart {w : Wd} {d : Nat} {P : Int → IM → LM → Prop} {i : IM} {l : LM} (p0 : Int)  (h : (((i 37 7 = 91) → rg p0) ∧ ((¬ (i 37 7 = 91)) → ((rg ((i 37 7) - 300)) ∧ ((((i 37 7) - 300 < 0) ∨ (9 ≤ (i 37 7) - 300)) → gI w d X_X7_readPart P i l 71 [(0, vR (some 37)), (2, vI ((i 37 7) - 300))] []) ∧ ((¬ (((i 37 7) - 300 < 0) ∨ (9 ≤ (i 37 7) - 300))) → ((((i 37 7 = 256) ∧ (¬ (1000 < i 37 8))) → gI w d X_X7_readPart P i l 109 [(0, vR (some 37)), (2, vI ((i 37 7) - 300)), (3, vI 1)] []) ∧ ((¬ ((i 37 7 = 256) ∧ (¬ (1000 < i 37 8)))) → gI w d X_X7_readPart P i l 97 [(0, vR (some 37)), (2, vI ((i 37 7) - 300)), (3, vI 1)] []))))) ∧ (((i 37 7 = 91) ∧ (p0 < 8)) → cVd w d X_X7_step [vR (some 37)] i l (fun i21 l21 => cI w d X_X7_readSum [vR (some 37), vI (p0 + 1)] i21 l21 (fun r22 i22 l22 => ((((r22 = 0) ∨ (¬ (i22 37 7 = 93))) → P 0 i22 l22) ∧ ((¬ ((r22 = 0) ∨ (¬ (i22 37 7 = 93)))) → cVd w d X_X7_step [vR (some 37)] i22 l22 (fun i27 l27 => P 1 i27 l27)))))) ∧ (((i 37 7 = 91) ∧ (¬ (p0 < 8))) → P 0 i l))) : gI w d X_X7_readPart P i l 0 [(0, vR (some 37)), (1, vI p0)] [] := by
  refine g_aload_n (pc' := 1) 0 dX7_readPart_0 rfl rfl ?_
  refine g_getI (pc' := 4) (z := 7) rfl fl_X7_55 rfl rfl dX7_readPart_1 rfl (fun rg1 => ?_)
  refine g_bipush (pc' := 6) dX7_readPart_4 rfl rfl ?_
  obtain ⟨hob5, hk30, hk31, hk32⟩ := h
  have hk30g : (¬ (i 37 7 = 91)) → gI w d X_X7_readPart P i l 48 [(0, vR (some 37)), (1, vI p0)] [] := by
    intro hp
    have h := hk30 hp
    refine g_aload_n (pc' := 49) 0 dX7_readPart_48 rfl rfl ?_
    refine g_getI (pc' := 52) (z := 7) rfl fl_X7_55 rfl rfl dX7_readPart_49 rfl (fun rg7 => ?_)
    refine g_sipush (pc' := 55) dX7_readPart_52 rfl rfl ?_
    refine g_isub (pc' := 56) dX7_readPart_55 rfl ?_
    refine g_istore_n (pc' := 57) (L' := [(2, vI ((i 37 7) - 300)), (0, vR (some 37)), (1, vI p0)]) dX7_readPart_56 rfl (Nat.le_of_ble_eq_true rfl) rfl ?_
    refine g_iload_n (pc' := 58) 0 dX7_readPart_57 rfl rfl ?_
    obtain ⟨hob9, hk19, hk20⟩ := h
    have hk19g : (((i 37 7) - 300 < 0) ∨ (9 ≤ (i 37 7) - 300)) → gI w d X_X7_readPart P i l 71 [(2, vI ((i 37 7) - 300)), (0, vR (some 37)), (1, vI p0)] [] := by
      intro hp
      have h := hk19 hp
      refine g_sub (L' := [(0, vR (some 37)), (2, vI ((i 37 7) - 300))]) [1, 0] rfl ?_
      exact h
    have hk20g : (¬ (((i 37 7) - 300 < 0) ∨ (9 ≤ (i 37 7) - 300))) → gI w d X_X7_readPart P i l 72 [(2, vI ((i 37 7) - 300)), (0, vR (some 37)), (1, vI p0)] [vI 1] := by
      intro hp
      have h := hk20 hp
      refine g_istore_n (pc' := 73) (L' := [(3, vI 1), (2, vI ((i 37 7) - 300)), (0, vR (some 37)), (1, vI p0)]) dX7_readPart_72 rfl (Nat.le_of_ble_eq_true rfl) rfl ?_
      refine g_aload_n (pc' := 74) 2 dX7_readPart_73 rfl rfl ?_
      refine g_getI (pc' := 77) (z := 7) rfl fl_X7_55 rfl rfl dX7_readPart_74 rfl (fun rg12 => ?_)
      refine g_sipush (pc' := 80) dX7_readPart_77 rfl rfl ?_
      obtain ⟨hk17, hk18⟩ := h
      have hk17g : ((i 37 7 = 256) ∧ (¬ (1000 < i 37 8))) → gI w d X_X7_readPart P i l 98 [(3, vI 1), (2, vI ((i 37 7) - 300)), (0, vR (some 37)), (1, vI p0)] [vI 1] := by
        intro hp
        have h := hk17 hp
        refine g_istore (pc' := 100) (L' := [(4, vI 1), (3, vI 1), (2, vI ((i 37 7) - 300)), (0, vR (some 37)), (1, vI p0)]) dX7_readPart_98 rfl (Nat.le_of_ble_eq_true rfl) rfl ?_
        refine g_iload_n (pc' := 101) 1 dX7_readPart_100 rfl rfl ?_
        refine g_if_ne (tgt := 109) (pc' := 104) (rg_lit rfl) Iff.rfl dX7_readPart_101 rfl rfl (fun _ => ?_) (fun c => absurd c (by decide))
        refine g_sub (L' := [(0, vR (some 37)), (2, vI ((i 37 7) - 300)), (3, vI 1)]) [3, 2, 1] rfl ?_
        exact h
      have hk18g : (¬ ((i 37 7 = 256) ∧ (¬ (1000 < i 37 8)))) → gI w d X_X7_readPart P i l 97 [(3, vI 1), (2, vI ((i 37 7) - 300)), (0, vR (some 37)), (1, vI p0)] [] := by
        intro hp
        have h := hk18 hp
        refine g_sub (L' := [(0, vR (some 37)), (2, vI ((i 37 7) - 300)), (3, vI 1)]) [2, 1, 0] rfl ?_
        exact h
      refine g_icmp_ne (tgt := 97) (pc' := 83) rg12 (rg_lit rfl) Iff.rfl dX7_readPart_80 rfl rfl (fun c14 => ?_) (fun c14 => ?_)
      · exact hk18g (fun q => c14 q.1)
      · refine g_aload_n (pc' := 84) 2 dX7_readPart_83 rfl rfl ?_
        refine g_getI (pc' := 87) (z := 8) rfl fl_X7_100 rfl rfl dX7_readPart_84 rfl (fun rg15 => ?_)
        refine g_sipush (pc' := 90) dX7_readPart_87 rfl rfl ?_
        refine g_icmp_gt (tgt := 97) (pc' := 93) rg15 (rg_lit rfl) Iff.rfl dX7_readPart_90 rfl rfl (fun c16 => ?_) (fun c16 => ?_)
        · exact hk18g (fun q => (fun q => q c16) q.2)
        · refine g_iconst (pc' := 94) dX7_readPart_93 rfl ?_
          refine g_goto (tgt := 98) dX7_readPart_94 rfl ?_
          exact hk17g ⟨c14, c16⟩
    refine g_if_lt (tgt := 71) (pc' := 61) (hob9) Iff.rfl dX7_readPart_58 rfl rfl (fun c10 => ?_) (fun c10 => ?_)
    · exact hk19g (Or.inl c10)
    · refine g_iload_n (pc' := 62) 0 dX7_readPart_61 rfl rfl ?_
      refine g_bipush (pc' := 64) dX7_readPart_62 rfl rfl ?_
      refine g_icmp_ge (tgt := 71) (pc' := 67) (hob9) (rg_lit rfl) Iff.rfl dX7_readPart_64 rfl rfl (fun c11 => ?_) (fun c11 => ?_)
      · exact hk19g (Or.inr c11)
      · refine g_iconst (pc' := 68) dX7_readPart_67 rfl ?_
        refine g_goto (tgt := 72) dX7_readPart_68 rfl ?_
        exact hk20g (fun q => q.elim c10 c11)
  have hk31g : ((i 37 7 = 91) ∧ (p0 < 8)) → gI w d X_X7_readPart P i l 17 [(0, vR (some 37)), (1, vI p0)] [] := by
    intro hp
    have h := hk31 hp
    refine g_aload_n (pc' := 18) 0 dX7_readPart_17 rfl rfl ?_
    refine g_cVV (pc' := 21) (vs := []) (st := []) (c := 7) h mv_X7_step lk_X7_48 rfl rfl rfl rfl (Nat.le_of_ble_eq_true rfl) (Nat.le_of_ble_eq_true rfl) rfl dX7_readPart_18 rfl z2 (fun i21 l21 h => ?_)
    refine g_aload_n (pc' := 22) 0 dX7_readPart_21 rfl rfl ?_
    refine g_iload_n (pc' := 23) 1 dX7_readPart_22 rfl rfl ?_
    refine g_iconst (pc' := 24) dX7_readPart_23 rfl ?_
    refine g_iadd (pc' := 25) dX7_readPart_24 rfl ?_
    refine g_cVI (pc' := 28) (vs := [vI (p0 + 1)]) (st := []) (c := 7) h mv_X7_readSum lk_X7_68 rfl rfl rfl rfl (Nat.le_of_ble_eq_true rfl) (Nat.le_of_ble_eq_true rfl) rfl dX7_readPart_25 rfl z2 (fun r22 i22 l22 rg22 h => ?_)
    obtain ⟨hk28, hk29⟩ := h
    have hk28g : ((r22 = 0) ∨ (¬ (i22 37 7 = 93))) → gI w d X_X7_readPart P i22 l22 40 [(0, vR (some 37)), (1, vI p0)] [] := by
      intro hp
      have h := hk28 hp
      refine g_iconst (pc' := 41) dX7_readPart_40 rfl ?_
      exact g_retZ rfl (by decide) dX7_readPart_41 h
    have hk29g : (¬ ((r22 = 0) ∨ (¬ (i22 37 7 = 93)))) → gI w d X_X7_readPart P i22 l22 42 [(0, vR (some 37)), (1, vI p0)] [] := by
      intro hp
      have h := hk29 hp
      refine g_aload_n (pc' := 43) 0 dX7_readPart_42 rfl rfl ?_
      refine g_cVV (pc' := 46) (vs := []) (st := []) (c := 7) h mv_X7_step lk_X7_48 rfl rfl rfl rfl (Nat.le_of_ble_eq_true rfl) (Nat.le_of_ble_eq_true rfl) rfl dX7_readPart_43 rfl z2 (fun i27 l27 h => ?_)
      refine g_iconst (pc' := 47) dX7_readPart_46 rfl ?_
      exact g_retZ rfl (by decide) dX7_readPart_47 h
    refine g_if_eq (tgt := 40) (pc' := 31) rg22 Iff.rfl dX7_readPart_28 rfl rfl (fun c24 => ?_) (fun c24 => ?_)
    · exact hk28g (Or.inl c24)
    · refine g_aload_n (pc' := 32) 0 dX7_readPart_31 rfl rfl ?_
      refine g_getI (pc' := 35) (z := 7) rfl fl_X7_55 rfl rfl dX7_readPart_32 rfl (fun rg25 => ?_)
      refine g_bipush (pc' := 37) dX7_readPart_35 rfl rfl ?_
      refine g_icmp_eq (tgt := 42) (pc' := 40) rg25 (rg_lit rfl) Iff.rfl dX7_readPart_37 rfl rfl (fun c26 => ?_) (fun c26 => ?_)
      · exact hk29g (fun q => q.elim c24 (fun q => q c26))
      · exact hk28g (Or.inr c26)
  have hk32g : ((i 37 7 = 91) ∧ (¬ (p0 < 8))) → gI w d X_X7_readPart P i l 15 [(0, vR (some 37)), (1, vI p0)] [] := by
    intro hp
    have h := hk32 hp
    refine g_iconst (pc' := 16) dX7_readPart_15 rfl ?_
    exact g_retZ rfl (by decide) dX7_readPart_16 h
  refine g_icmp_ne (tgt := 48) (pc' := 9) rg1 (rg_lit rfl) Iff.rfl dX7_readPart_6 rfl rfl (fun c3 => ?_) (fun c3 => ?_)
  · exact hk30g c3
  · refine g_iload_n (pc' := 10) 1 dX7_readPart_9 rfl rfl ?_
    refine g_bipush (pc' := 12) dX7_readPart_10 rfl rfl ?_
    refine g_icmp_lt (tgt := 17) (pc' := 15) (hob5 c3) (rg_lit rfl) Iff.rfl dX7_readPart_12 rfl rfl (fun c6 => ?_) (fun c6 => ?_)
    · exact hk31g ⟨c3, c6⟩
    · exact hk32g ⟨c3, c6⟩
theorem e_X7_readPart {w : Wd} {d : Nat} {P : Int → IM → LM → Prop} {i : IM} {l : LM} {p0 : Int}  (h : gI w d X_X7_readPart P i l 0 [(0, vR (some 37)), (1, vI p0)] []) : cI w (d + 1) X_X7_readPart [vR (some 37), vI p0] i l P := CI_of (by decide +kernel) (Nat.le_of_ble_eq_true rfl) h
set_option maxRecDepth 20000 in
theorem s_X7_readPart_71 {w : Wd} {d : Nat} {P : Int → IM → LM → Prop} {i : IM} {l : LM} (x2 : Int)  (h : ((((i 37 7 = 256) ∧ (¬ (1000 < i 37 8))) → gI w d X_X7_readPart P i l 109 [(0, vR (some 37)), (2, vI x2), (3, vI 0)] []) ∧ ((¬ ((i 37 7 = 256) ∧ (¬ (1000 < i 37 8)))) → gI w d X_X7_readPart P i l 97 [(0, vR (some 37)), (2, vI x2), (3, vI 0)] []))) : gI w d X_X7_readPart P i l 71 [(0, vR (some 37)), (2, vI x2)] [] := by
  refine g_iconst (pc' := 72) dX7_readPart_71 rfl ?_
  refine g_istore_n (pc' := 73) (L' := [(3, vI 0), (0, vR (some 37)), (2, vI x2)]) dX7_readPart_72 rfl (Nat.le_of_ble_eq_true rfl) rfl ?_
  refine g_aload_n (pc' := 74) 1 dX7_readPart_73 rfl rfl ?_
  refine g_getI (pc' := 77) (z := 7) rfl fl_X7_55 rfl rfl dX7_readPart_74 rfl (fun rg33 => ?_)
  refine g_sipush (pc' := 80) dX7_readPart_77 rfl rfl ?_
  obtain ⟨hk38, hk39⟩ := h
  have hk38g : ((i 37 7 = 256) ∧ (¬ (1000 < i 37 8))) → gI w d X_X7_readPart P i l 98 [(3, vI 0), (0, vR (some 37)), (2, vI x2)] [vI 1] := by
    intro hp
    have h := hk38 hp
    refine g_istore (pc' := 100) (L' := [(4, vI 1), (3, vI 0), (0, vR (some 37)), (2, vI x2)]) dX7_readPart_98 rfl (Nat.le_of_ble_eq_true rfl) rfl ?_
    refine g_iload_n (pc' := 101) 1 dX7_readPart_100 rfl rfl ?_
    refine g_if_ne (tgt := 109) (pc' := 104) (rg_lit rfl) Iff.rfl dX7_readPart_101 rfl rfl (fun c => absurd (by decide) c) (fun _ => ?_)
    refine g_iload (pc' := 106) 0 dX7_readPart_104 rfl rfl ?_
    refine g_if_eq (tgt := 118) (pc' := 109) (rg_lit rfl) Iff.rfl dX7_readPart_106 rfl rfl (fun c => absurd c (by decide)) (fun _ => ?_)
    refine g_sub (L' := [(0, vR (some 37)), (2, vI x2), (3, vI 0)]) [2, 3, 1] rfl ?_
    exact h
  have hk39g : (¬ ((i 37 7 = 256) ∧ (¬ (1000 < i 37 8)))) → gI w d X_X7_readPart P i l 97 [(3, vI 0), (0, vR (some 37)), (2, vI x2)] [] := by
    intro hp
    have h := hk39 hp
    refine g_sub (L' := [(0, vR (some 37)), (2, vI x2), (3, vI 0)]) [1, 2, 0] rfl ?_
    exact h
  refine g_icmp_ne (tgt := 97) (pc' := 83) rg33 (rg_lit rfl) Iff.rfl dX7_readPart_80 rfl rfl (fun c35 => ?_) (fun c35 => ?_)
  · exact hk39g (fun q => c35 q.1)
  · refine g_aload_n (pc' := 84) 1 dX7_readPart_83 rfl rfl ?_
    refine g_getI (pc' := 87) (z := 8) rfl fl_X7_100 rfl rfl dX7_readPart_84 rfl (fun rg36 => ?_)
    refine g_sipush (pc' := 90) dX7_readPart_87 rfl rfl ?_
    refine g_icmp_gt (tgt := 97) (pc' := 93) rg36 (rg_lit rfl) Iff.rfl dX7_readPart_90 rfl rfl (fun c37 => ?_) (fun c37 => ?_)
    · exact hk39g (fun q => (fun q => q c37) q.2)
    · refine g_iconst (pc' := 94) dX7_readPart_93 rfl ?_
      refine g_goto (tgt := 98) dX7_readPart_94 rfl ?_
      exact hk38g ⟨c35, c37⟩
set_option maxRecDepth 20000 in
theorem s_X7_readPart_97 {w : Wd} {d : Nat} {P : Int → IM → LM → Prop} {i : IM} {l : LM} (x2 : Int) (x3 : Int)  (h : ((rg x3) ∧ ((x3 = 0) → P 0 i l) ∧ ((¬ (x3 = 0)) → gI w d X_X7_readPart P i l 109 [(0, vR (some 37)), (2, vI x2), (3, vI x3)] []))) : gI w d X_X7_readPart P i l 97 [(0, vR (some 37)), (2, vI x2), (3, vI x3)] [] := by
  refine g_iconst (pc' := 98) dX7_readPart_97 rfl ?_
  refine g_istore (pc' := 100) (L' := [(4, vI 0), (0, vR (some 37)), (2, vI x2), (3, vI x3)]) dX7_readPart_98 rfl (Nat.le_of_ble_eq_true rfl) rfl ?_
  refine g_iload_n (pc' := 101) 3 dX7_readPart_100 rfl rfl ?_
  obtain ⟨hob41, hk43, hk44⟩ := h
  refine g_if_ne (tgt := 109) (pc' := 104) (hob41) Iff.rfl dX7_readPart_101 rfl rfl (fun c42 => ?_) (fun c42 => ?_)
  · have h := hk44 c42
    refine g_sub (L' := [(0, vR (some 37)), (2, vI x2), (3, vI x3)]) [1, 2, 3] rfl ?_
    exact h
  · refine g_iload (pc' := 106) 0 dX7_readPart_104 rfl rfl ?_
    refine g_if_eq (tgt := 118) (pc' := 109) (rg_lit rfl) Iff.rfl dX7_readPart_106 rfl rfl (fun _ => ?_) (fun c => absurd (by decide) c)
    have h := hk43 c42
    refine g_iconst (pc' := 119) dX7_readPart_118 rfl ?_
    exact g_retZ rfl (by decide) dX7_readPart_119 h
set_option maxRecDepth 20000 in
theorem s_X7_readPart_109 {w : Wd} {d : Nat} {P : Int → IM → LM → Prop} {i : IM} {l : LM} (x2 : Int) (x3 : Int)  (h : (((i 37 10 < 50) → ((rg ((i 37 10) + 1)) ∧ ((rg x3) ∧ ((x3 = 0) → cVd w d X_X7_write [vR (some 37), vI 0, vI ((u2 i 37 10 ((i 37 10) + 1)) 37 8)] (u2 i 37 10 ((i 37 10) + 1)) l (fun i57 l57 => cVd w d X_X7_step [vR (some 37)] i57 l57 (fun i58 l58 => P 1 i58 l58))) ∧ ((¬ (x3 = 0)) → cVd w d X_X7_write [vR (some 37), vI 1, vI x2] (u2 (u2 i 37 10 ((i 37 10) + 1)) 37 11 (ior ((u2 i 37 10 ((i 37 10) + 1)) 37 11) (ishl 1 x2))) l (fun i60 l60 => cVd w d X_X7_step [vR (some 37)] i60 l60 (fun i61 l61 => P 1 i61 l61)))))) ∧ ((¬ (i 37 10 < 50)) → P 0 i l))) : gI w d X_X7_readPart P i l 109 [(0, vR (some 37)), (2, vI x2), (3, vI x3)] [] := by
  refine g_aload_n (pc' := 110) 0 dX7_readPart_109 rfl rfl ?_
  refine g_getI (pc' := 113) (z := 10) rfl fl_X7_39 rfl rfl dX7_readPart_110 rfl (fun rg45 => ?_)
  refine g_bipush (pc' := 115) dX7_readPart_113 rfl rfl ?_
  obtain ⟨hk64, hk65⟩ := h
  refine g_icmp_lt (tgt := 120) (pc' := 118) rg45 (rg_lit rfl) Iff.rfl dX7_readPart_115 rfl rfl (fun c47 => ?_) (fun c47 => ?_)
  · have h := hk64 c47
    obtain ⟨ob50, h⟩ := h
    refine g_aload_n (pc' := 121) 0 dX7_readPart_120 rfl rfl ?_
    refine g_dup (pc' := 122) dX7_readPart_121 rfl rfl ?_
    refine g_getI (pc' := 125) (z := 10) rfl fl_X7_39 rfl rfl dX7_readPart_122 rfl (fun rg49 => ?_)
    refine g_iconst (pc' := 126) dX7_readPart_125 rfl ?_
    refine g_iadd (pc' := 127) dX7_readPart_126 rfl ?_
    refine g_putI (pc' := 130) (z := 10) rfl fp_X7_39 rfl rfl ob50 dX7_readPart_127 rfl ?_
    refine g_iload_n (pc' := 131) 2 dX7_readPart_130 rfl rfl ?_
    obtain ⟨hob52, hk62, hk63⟩ := h
    refine g_if_eq (tgt := 155) (pc' := 134) (hob52) Iff.rfl dX7_readPart_131 rfl rfl (fun c53 => ?_) (fun c53 => ?_)
    · have h := hk62 c53
      refine g_aload_n (pc' := 156) 0 dX7_readPart_155 rfl rfl ?_
      refine g_iconst (pc' := 157) dX7_readPart_156 rfl ?_
      refine g_aload_n (pc' := 158) 0 dX7_readPart_157 rfl rfl ?_
      refine g_getI (pc' := 161) (z := 8) rfl fl_X7_100 rfl rfl dX7_readPart_158 rfl (fun rg56 => ?_)
      refine g_cVV (pc' := 164) (vs := [vI 0, vI ((u2 i 37 10 ((i 37 10) + 1)) 37 8)]) (st := []) (c := 7) h mv_X7_write lk_X7_83 rfl rfl rfl rfl (Nat.le_of_ble_eq_true rfl) (Nat.le_of_ble_eq_true rfl) rfl dX7_readPart_161 rfl z2 (fun i57 l57 h => ?_)
      refine g_aload_n (pc' := 165) 0 dX7_readPart_164 rfl rfl ?_
      refine g_cVV (pc' := 168) (vs := []) (st := []) (c := 7) h mv_X7_step lk_X7_48 rfl rfl rfl rfl (Nat.le_of_ble_eq_true rfl) (Nat.le_of_ble_eq_true rfl) rfl dX7_readPart_165 rfl z2 (fun i58 l58 h => ?_)
      refine g_iconst (pc' := 169) dX7_readPart_168 rfl ?_
      exact g_retZ rfl (by decide) dX7_readPart_169 h
    · have h := hk63 c53
      refine g_aload_n (pc' := 135) 0 dX7_readPart_134 rfl rfl ?_
      refine g_dup (pc' := 136) dX7_readPart_135 rfl rfl ?_
      refine g_getI (pc' := 139) (z := 11) rfl fl_X7_65 rfl rfl dX7_readPart_136 rfl (fun rg59 => ?_)
      refine g_iconst (pc' := 140) dX7_readPart_139 rfl ?_
      refine g_iload_n (pc' := 141) 1 dX7_readPart_140 rfl rfl ?_
      refine g_ishl (pc' := 142) dX7_readPart_141 rfl ?_
      refine g_ior (pc' := 143) dX7_readPart_142 rfl ?_
      refine g_putI (pc' := 146) (z := 11) rfl fp_X7_65 rfl rfl (rg_ior _ _) dX7_readPart_143 rfl ?_
      refine g_aload_n (pc' := 147) 0 dX7_readPart_146 rfl rfl ?_
      refine g_iconst (pc' := 148) dX7_readPart_147 rfl ?_
      refine g_iload_n (pc' := 149) 1 dX7_readPart_148 rfl rfl ?_
      refine g_cVV (pc' := 152) (vs := [vI 1, vI x2]) (st := []) (c := 7) h mv_X7_write lk_X7_83 rfl rfl rfl rfl (Nat.le_of_ble_eq_true rfl) (Nat.le_of_ble_eq_true rfl) rfl dX7_readPart_149 rfl z2 (fun i60 l60 h => ?_)
      refine g_goto (tgt := 164) dX7_readPart_152 rfl ?_
      refine g_aload_n (pc' := 165) 0 dX7_readPart_164 rfl rfl ?_
      refine g_cVV (pc' := 168) (vs := []) (st := []) (c := 7) h mv_X7_step lk_X7_48 rfl rfl rfl rfl (Nat.le_of_ble_eq_true rfl) (Nat.le_of_ble_eq_true rfl) rfl dX7_readPart_165 rfl z2 (fun i61 l61 h => ?_)
      refine g_iconst (pc' := 169) dX7_readPart_168 rfl ?_
      exact g_retZ rfl (by decide) dX7_readPart_169 h
  · have h := hk65 c47
    refine g_iconst (pc' := 119) dX7_readPart_118 rfl ?_
    exact g_retZ rfl (by decide) dX7_readPart_119 h

theorem dX7_write_0 : decode cX7_write 0 = .ok (.aload_n 0, 1) := by decide +kernel
theorem dX7_write_1 : decode cX7_write 1 = .ok (.getfield 36, 3) := by decide +kernel
theorem dX7_write_4 : decode cX7_write 4 = .ok (.aload_n 0, 1) := by decide +kernel
theorem dX7_write_5 : decode cX7_write 5 = .ok (.getfield 11, 3) := by decide +kernel
theorem dX7_write_8 : decode cX7_write 8 = .ok (.arraylength, 1) := by decide +kernel
theorem dX7_write_9 : decode cX7_write 9 = .ok (.if_icmp .ge 27, 3) := by decide +kernel
theorem dX7_write_12 : decode cX7_write 12 = .ok (.aload_n 0, 1) := by decide +kernel
theorem dX7_write_13 : decode cX7_write 13 = .ok (.getfield 11, 3) := by decide +kernel
theorem dX7_write_16 : decode cX7_write 16 = .ok (.aload_n 0, 1) := by decide +kernel
theorem dX7_write_17 : decode cX7_write 17 = .ok (.getfield 36, 3) := by decide +kernel
theorem dX7_write_20 : decode cX7_write 20 = .ok (.iload_n 1, 1) := by decide +kernel
theorem dX7_write_21 : decode cX7_write 21 = .ok (.iload_n 2, 1) := by decide +kernel
theorem dX7_write_22 : decode cX7_write 22 = .ok (.iconst 4, 1) := by decide +kernel
theorem dX7_write_23 : decode cX7_write 23 = .ok (.ishl, 1) := by decide +kernel
theorem dX7_write_24 : decode cX7_write 24 = .ok (.ior, 1) := by decide +kernel
theorem dX7_write_25 : decode cX7_write 25 = .ok (.iastore, 1) := by decide +kernel
theorem dX7_write_26 : decode cX7_write 26 = .ok (.aload_n 0, 1) := by decide +kernel
theorem dX7_write_27 : decode cX7_write 27 = .ok (.dup, 1) := by decide +kernel
theorem dX7_write_28 : decode cX7_write 28 = .ok (.getfield 36, 3) := by decide +kernel
theorem dX7_write_31 : decode cX7_write 31 = .ok (.iconst 1, 1) := by decide +kernel
theorem dX7_write_32 : decode cX7_write 32 = .ok (.iadd, 1) := by decide +kernel
theorem dX7_write_33 : decode cX7_write 33 = .ok (.putfield 36, 3) := by decide +kernel
theorem dX7_write_36 : decode cX7_write 36 = .ok (.return_, 1) := by decide +kernel
set_option maxRecDepth 20000 in
theorem s_X7_write {w : Wd} {d : Nat} {P : IM → LM → Prop} {i : IM} {l : LM} (p0 : Int) (p1 : Int)  (h : (((400 ≤ i 37 9) → P i l) ∧ ((¬ (400 ≤ i 37 9)) → ((0 ≤ i 37 9 ∧ i 37 9 < 400) ∧ (rg (((u2 i 38 (i 37 9) (ior p0 (ishl p1 4))) 37 9) + 1)) ∧ P (u2 (u2 i 38 (i 37 9) (ior p0 (ishl p1 4))) 37 9 (((u2 i 38 (i 37 9) (ior p0 (ishl p1 4))) 37 9) + 1)) l)))) : gV w d X_X7_write P i l 0 [(0, vR (some 37)), (1, vI p0), (2, vI p1)] [] := by
  refine g_aload_n (pc' := 1) 0 dX7_write_0 rfl rfl ?_
  refine g_getI (pc' := 4) (z := 9) rfl fl_X7_36 rfl rfl dX7_write_1 rfl (fun rg1 => ?_)
  refine g_aload_n (pc' := 5) 0 dX7_write_4 rfl rfl ?_
  refine g_getR (pc' := 8) (o := some 38) fl_X7_11 rfl rfl rfl dX7_write_5 rfl ?_
  refine g_alen (pc' := 9) (N := 400) rfl rfl (by decide) dX7_write_8 rfl ?_
  obtain ⟨hk9, hk10⟩ := h
  refine g_icmp_ge (tgt := 36) (pc' := 12) rg1 (rg_lit rfl) Iff.rfl dX7_write_9 rfl rfl (fun c3 => ?_) (fun c3 => ?_)
  · have h := hk9 c3
    exact g_retV rfl dX7_write_36 h
  · have h := hk10 c3
    obtain ⟨ob6, ob8, h⟩ := h
    refine g_aload_n (pc' := 13) 0 dX7_write_12 rfl rfl ?_
    refine g_getR (pc' := 16) (o := some 38) fl_X7_11 rfl rfl rfl dX7_write_13 rfl ?_
    refine g_aload_n (pc' := 17) 0 dX7_write_16 rfl rfl ?_
    refine g_getI (pc' := 20) (z := 9) rfl fl_X7_36 rfl rfl dX7_write_17 rfl (fun rg5 => ?_)
    refine g_iload_n (pc' := 21) 1 dX7_write_20 rfl rfl ?_
    refine g_iload_n (pc' := 22) 2 dX7_write_21 rfl rfl ?_
    refine g_iconst (pc' := 23) dX7_write_22 rfl ?_
    refine g_ishl (pc' := 24) dX7_write_23 rfl ?_
    refine g_ior (pc' := 25) dX7_write_24 rfl ?_
    refine g_iast (pc' := 26) (N := 400) rfl rfl (Nat.lt_of_lt_of_le (Nat.lt_succ_self _) (Nat.le_of_ble_eq_true rfl)) ob6 (rg_ior _ _) dX7_write_25 rfl ?_
    refine g_aload_n (pc' := 27) 0 dX7_write_26 rfl rfl ?_
    refine g_dup (pc' := 28) dX7_write_27 rfl rfl ?_
    refine g_getI (pc' := 31) (z := 9) rfl fl_X7_36 rfl rfl dX7_write_28 rfl (fun rg7 => ?_)
    refine g_iconst (pc' := 32) dX7_write_31 rfl ?_
    refine g_iadd (pc' := 33) dX7_write_32 rfl ?_
    refine g_putI (pc' := 36) (z := 9) rfl fp_X7_36 rfl rfl ob8 dX7_write_33 rfl ?_
    exact g_retV rfl dX7_write_36 h
theorem e_X7_write {w : Wd} {d : Nat} {P : IM → LM → Prop} {i : IM} {l : LM} {p0 : Int} {p1 : Int}  (h : gV w d X_X7_write P i l 0 [(0, vR (some 37)), (1, vI p0), (2, vI p1)] []) : cVd w (d + 1) X_X7_write [vR (some 37), vI p0, vI p1] i l P := CV_of (by decide +kernel) (Nat.le_of_ble_eq_true rfl) h

theorem dX7_aim_0 : decode cX7_aim 0 = .ok (.iload_n 1, 1) := by decide +kernel
theorem dX7_aim_1 : decode cX7_aim 1 = .ok (.aload_n 0, 1) := by decide +kernel
theorem dX7_aim_2 : decode cX7_aim 2 = .ok (.getfield 11, 3) := by decide +kernel
theorem dX7_aim_5 : decode cX7_aim 5 = .ok (.arraylength, 1) := by decide +kernel
theorem dX7_aim_6 : decode cX7_aim 6 = .ok (.if_icmp .ge 25, 3) := by decide +kernel
theorem dX7_aim_9 : decode cX7_aim 9 = .ok (.aload_n 0, 1) := by decide +kernel
theorem dX7_aim_10 : decode cX7_aim 10 = .ok (.getfield 11, 3) := by decide +kernel
theorem dX7_aim_13 : decode cX7_aim 13 = .ok (.iload_n 1, 1) := by decide +kernel
theorem dX7_aim_14 : decode cX7_aim 14 = .ok (.aload_n 0, 1) := by decide +kernel
theorem dX7_aim_15 : decode cX7_aim 15 = .ok (.getfield 11, 3) := by decide +kernel
theorem dX7_aim_18 : decode cX7_aim 18 = .ok (.iload_n 1, 1) := by decide +kernel
theorem dX7_aim_19 : decode cX7_aim 19 = .ok (.iaload, 1) := by decide +kernel
theorem dX7_aim_20 : decode cX7_aim 20 = .ok (.bipush 15, 2) := by decide +kernel
theorem dX7_aim_22 : decode cX7_aim 22 = .ok (.iand, 1) := by decide +kernel
theorem dX7_aim_23 : decode cX7_aim 23 = .ok (.aload_n 0, 1) := by decide +kernel
theorem dX7_aim_24 : decode cX7_aim 24 = .ok (.getfield 36, 3) := by decide +kernel
theorem dX7_aim_27 : decode cX7_aim 27 = .ok (.iconst 4, 1) := by decide +kernel
theorem dX7_aim_28 : decode cX7_aim 28 = .ok (.ishl, 1) := by decide +kernel
theorem dX7_aim_29 : decode cX7_aim 29 = .ok (.ior, 1) := by decide +kernel
theorem dX7_aim_30 : decode cX7_aim 30 = .ok (.iastore, 1) := by decide +kernel
theorem dX7_aim_31 : decode cX7_aim 31 = .ok (.return_, 1) := by decide +kernel
set_option maxRecDepth 20000 in
theorem s_X7_aim {w : Wd} {d : Nat} {P : IM → LM → Prop} {i : IM} {l : LM} (p0 : Int)  (h : ((rg p0) ∧ ((400 ≤ p0) → P i l) ∧ ((¬ (400 ≤ p0)) → ((0 ≤ p0 ∧ p0 < 400) ∧ P (u2 i 38 p0 (ior (iand (i 38 p0) 15) (ishl (i 37 9) 4))) l)))) : gV w d X_X7_aim P i l 0 [(0, vR (some 37)), (1, vI p0)] [] := by
  refine g_iload_n (pc' := 1) 1 dX7_aim_0 rfl rfl ?_
  refine g_aload_n (pc' := 2) 0 dX7_aim_1 rfl rfl ?_
  refine g_getR (pc' := 5) (o := some 38) fl_X7_11 rfl rfl rfl dX7_aim_2 rfl ?_
  refine g_alen (pc' := 6) (N := 400) rfl rfl (by decide) dX7_aim_5 rfl ?_
  obtain ⟨hob2, hk10, hk11⟩ := h
  refine g_icmp_ge (tgt := 31) (pc' := 9) (hob2) (rg_lit rfl) Iff.rfl dX7_aim_6 rfl rfl (fun c3 => ?_) (fun c3 => ?_)
  · have h := hk10 c3
    exact g_retV rfl dX7_aim_31 h
  · have h := hk11 c3
    obtain ⟨ob7, h⟩ := h
    refine g_aload_n (pc' := 10) 0 dX7_aim_9 rfl rfl ?_
    refine g_getR (pc' := 13) (o := some 38) fl_X7_11 rfl rfl rfl dX7_aim_10 rfl ?_
    refine g_iload_n (pc' := 14) 1 dX7_aim_13 rfl rfl ?_
    refine g_aload_n (pc' := 15) 0 dX7_aim_14 rfl rfl ?_
    refine g_getR (pc' := 18) (o := some 38) fl_X7_11 rfl rfl rfl dX7_aim_15 rfl ?_
    refine g_iload_n (pc' := 19) 1 dX7_aim_18 rfl rfl ?_
    refine g_iald (pc' := 20) (N := 400) rfl rfl (Nat.lt_of_lt_of_le (Nat.lt_succ_self _) (Nat.le_of_ble_eq_true rfl)) ob7 dX7_aim_19 rfl (fun rg8 => ?_)
    refine g_bipush (pc' := 22) dX7_aim_20 rfl rfl ?_
    refine g_iand (pc' := 23) dX7_aim_22 rfl ?_
    refine g_aload_n (pc' := 24) 0 dX7_aim_23 rfl rfl ?_
    refine g_getI (pc' := 27) (z := 9) rfl fl_X7_36 rfl rfl dX7_aim_24 rfl (fun rg9 => ?_)
    refine g_iconst (pc' := 28) dX7_aim_27 rfl ?_
    refine g_ishl (pc' := 29) dX7_aim_28 rfl ?_
    refine g_ior (pc' := 30) dX7_aim_29 rfl ?_
    refine g_iast (pc' := 31) (N := 400) rfl rfl (Nat.lt_of_lt_of_le (Nat.lt_succ_self _) (Nat.le_of_ble_eq_true rfl)) ob7 (rg_ior _ _) dX7_aim_30 rfl ?_
    exact g_retV rfl dX7_aim_31 h
theorem e_X7_aim {w : Wd} {d : Nat} {P : IM → LM → Prop} {i : IM} {l : LM} {p0 : Int}  (h : gV w d X_X7_aim P i l 0 [(0, vR (some 37)), (1, vI p0)] []) : cVd w (d + 1) X_X7_aim [vR (some 37), vI p0] i l P := CV_of (by decide +kernel) (Nat.le_of_ble_eq_true rfl) h

theorem dX7_step_0 : decode cX7_step 0 = .ok (.aload_n 0, 1) := by decide +kernel
theorem dX7_step_1 : decode cX7_step 1 = .ok (.aload_n 0, 1) := by decide +kernel
theorem dX7_step_2 : decode cX7_step 2 = .ok (.getfield 33, 3) := by decide +kernel
theorem dX7_step_5 : decode cX7_step 5 = .ok (.putfield 26, 3) := by decide +kernel
theorem dX7_step_8 : decode cX7_step 8 = .ok (.aload_n 0, 1) := by decide +kernel
theorem dX7_step_9 : decode cX7_step 9 = .ok (.getfield 26, 3) := by decide +kernel
theorem dX7_step_12 : decode cX7_step 12 = .ok (.aload_n 0, 1) := by decide +kernel
theorem dX7_step_13 : decode cX7_step 13 = .ok (.getfield 30, 3) := by decide +kernel
theorem dX7_step_16 : decode cX7_step 16 = .ok (.if_icmp .ge 30, 3) := by decide +kernel
theorem dX7_step_19 : decode cX7_step 19 = .ok (.aload_n 0, 1) := by decide +kernel
theorem dX7_step_20 : decode cX7_step 20 = .ok (.getfield 23, 3) := by decide +kernel
theorem dX7_step_23 : decode cX7_step 23 = .ok (.aload_n 0, 1) := by decide +kernel
theorem dX7_step_24 : decode cX7_step 24 = .ok (.getfield 26, 3) := by decide +kernel
theorem dX7_step_27 : decode cX7_step 27 = .ok (.iaload, 1) := by decide +kernel
theorem dX7_step_28 : decode cX7_step 28 = .ok (.bipush 32, 2) := by decide +kernel
theorem dX7_step_30 : decode cX7_step 30 = .ok (.if_icmp .ne 16, 3) := by decide +kernel
theorem dX7_step_33 : decode cX7_step 33 = .ok (.aload_n 0, 1) := by decide +kernel
theorem dX7_step_34 : decode cX7_step 34 = .ok (.dup, 1) := by decide +kernel
theorem dX7_step_35 : decode cX7_step 35 = .ok (.getfield 26, 3) := by decide +kernel
theorem dX7_step_38 : decode cX7_step 38 = .ok (.iconst 1, 1) := by decide +kernel
theorem dX7_step_39 : decode cX7_step 39 = .ok (.iadd, 1) := by decide +kernel
theorem dX7_step_40 : decode cX7_step 40 = .ok (.putfield 26, 3) := by decide +kernel
theorem dX7_step_43 : decode cX7_step 43 = .ok (.goto (-35), 3) := by decide +kernel
theorem dX7_step_46 : decode cX7_step 46 = .ok (.aload_n 0, 1) := by decide +kernel
theorem dX7_step_47 : decode cX7_step 47 = .ok (.aload_n 0, 1) := by decide +kernel
theorem dX7_step_48 : decode cX7_step 48 = .ok (.getfield 26, 3) := by decide +kernel
theorem dX7_step_51 : decode cX7_step 51 = .ok (.putfield 33, 3) := by decide +kernel
theorem dX7_step_54 : decode cX7_step 54 = .ok (.aload_n 0, 1) := by decide +kernel
theorem dX7_step_55 : decode cX7_step 55 = .ok (.getfield 26, 3) := by decide +kernel
theorem dX7_step_58 : decode cX7_step 58 = .ok (.aload_n 0, 1) := by decide +kernel
theorem dX7_step_59 : decode cX7_step 59 = .ok (.getfield 30, 3) := by decide +kernel
theorem dX7_step_62 : decode cX7_step 62 = .ok (.if_icmp .lt 11, 3) := by decide +kernel
theorem dX7_step_65 : decode cX7_step 65 = .ok (.aload_n 0, 1) := by decide +kernel
theorem dX7_step_66 : decode cX7_step 66 = .ok (.iconst (-1), 1) := by decide +kernel
theorem dX7_step_67 : decode cX7_step 67 = .ok (.putfield 55, 3) := by decide +kernel
theorem dX7_step_70 : decode cX7_step 70 = .ok (.goto 190, 3) := by decide +kernel
theorem dX7_step_73 : decode cX7_step 73 = .ok (.aload_n 0, 1) := by decide +kernel
theorem dX7_step_74 : decode cX7_step 74 = .ok (.getfield 23, 3) := by decide +kernel
theorem dX7_step_77 : decode cX7_step 77 = .ok (.aload_n 0, 1) := by decide +kernel
theorem dX7_step_78 : decode cX7_step 78 = .ok (.getfield 26, 3) := by decide +kernel
theorem dX7_step_81 : decode cX7_step 81 = .ok (.iaload, 1) := by decide +kernel
theorem dX7_step_82 : decode cX7_step 82 = .ok (.invokestatic 103, 3) := by decide +kernel
theorem dX7_step_85 : decode cX7_step 85 = .ok (.ifCond .eq 53, 3) := by decide +kernel
theorem dX7_step_88 : decode cX7_step 88 = .ok (.aload_n 0, 1) := by decide +kernel
theorem dX7_step_89 : decode cX7_step 89 = .ok (.getfield 33, 3) := by decide +kernel
theorem dX7_step_92 : decode cX7_step 92 = .ok (.aload_n 0, 1) := by decide +kernel
theorem dX7_step_93 : decode cX7_step 93 = .ok (.getfield 30, 3) := by decide +kernel
theorem dX7_step_96 : decode cX7_step 96 = .ok (.if_icmp .ge 31, 3) := by decide +kernel
theorem dX7_step_99 : decode cX7_step 99 = .ok (.aload_n 0, 1) := by decide +kernel
theorem dX7_step_100 : decode cX7_step 100 = .ok (.getfield 23, 3) := by decide +kernel
theorem dX7_step_103 : decode cX7_step 103 = .ok (.aload_n 0, 1) := by decide +kernel
theorem dX7_step_104 : decode cX7_step 104 = .ok (.getfield 33, 3) := by decide +kernel
theorem dX7_step_107 : decode cX7_step 107 = .ok (.iaload, 1) := by decide +kernel
theorem dX7_step_108 : decode cX7_step 108 = .ok (.invokestatic 103, 3) := by decide +kernel
theorem dX7_step_111 : decode cX7_step 111 = .ok (.ifCond .eq 16, 3) := by decide +kernel
theorem dX7_step_114 : decode cX7_step 114 = .ok (.aload_n 0, 1) := by decide +kernel
theorem dX7_step_115 : decode cX7_step 115 = .ok (.dup, 1) := by decide +kernel
theorem dX7_step_116 : decode cX7_step 116 = .ok (.getfield 33, 3) := by decide +kernel
theorem dX7_step_119 : decode cX7_step 119 = .ok (.iconst 1, 1) := by decide +kernel
theorem dX7_step_120 : decode cX7_step 120 = .ok (.iadd, 1) := by decide +kernel
theorem dX7_step_121 : decode cX7_step 121 = .ok (.putfield 33, 3) := by decide +kernel
theorem dX7_step_124 : decode cX7_step 124 = .ok (.goto (-36), 3) := by decide +kernel
theorem dX7_step_127 : decode cX7_step 127 = .ok (.aload_n 0, 1) := by decide +kernel
theorem dX7_step_128 : decode cX7_step 128 = .ok (.aload_n 0, 1) := by decide +kernel
theorem dX7_step_129 : decode cX7_step 129 = .ok (.invokevirtual 106, 3) := by decide +kernel
theorem dX7_step_132 : decode cX7_step 132 = .ok (.putfield 55, 3) := by decide +kernel
theorem dX7_step_135 : decode cX7_step 135 = .ok (.goto 125, 3) := by decide +kernel
theorem dX7_step_138 : decode cX7_step 138 = .ok (.aload_n 0, 1) := by decide +kernel
theorem dX7_step_139 : decode cX7_step 139 = .ok (.getfield 23, 3) := by decide +kernel
theorem dX7_step_142 : decode cX7_step 142 = .ok (.aload_n 0, 1) := by decide +kernel
theorem dX7_step_143 : decode cX7_step 143 = .ok (.getfield 26, 3) := by decide +kernel
theorem dX7_step_146 : decode cX7_step 146 = .ok (.iaload, 1) := by decide +kernel
theorem dX7_step_147 : decode cX7_step 147 = .ok (.invokestatic 110, 3) := by decide +kernel
theorem dX7_step_150 : decode cX7_step 150 = .ok (.ifCond .eq 87, 3) := by decide +kernel
theorem dX7_step_153 : decode cX7_step 153 = .ok (.aload_n 0, 1) := by decide +kernel
theorem dX7_step_154 : decode cX7_step 154 = .ok (.iconst 0, 1) := by decide +kernel
theorem dX7_step_155 : decode cX7_step 155 = .ok (.putfield 100, 3) := by decide +kernel
theorem dX7_step_158 : decode cX7_step 158 = .ok (.aload_n 0, 1) := by decide +kernel
theorem dX7_step_159 : decode cX7_step 159 = .ok (.getfield 33, 3) := by decide +kernel
theorem dX7_step_162 : decode cX7_step 162 = .ok (.aload_n 0, 1) := by decide +kernel
theorem dX7_step_163 : decode cX7_step 163 = .ok (.getfield 30, 3) := by decide +kernel
theorem dX7_step_166 : decode cX7_step 166 = .ok (.if_icmp .ge 61, 3) := by decide +kernel
theorem dX7_step_169 : decode cX7_step 169 = .ok (.aload_n 0, 1) := by decide +kernel
theorem dX7_step_170 : decode cX7_step 170 = .ok (.getfield 23, 3) := by decide +kernel
theorem dX7_step_173 : decode cX7_step 173 = .ok (.aload_n 0, 1) := by decide +kernel
theorem dX7_step_174 : decode cX7_step 174 = .ok (.getfield 33, 3) := by decide +kernel
theorem dX7_step_177 : decode cX7_step 177 = .ok (.iaload, 1) := by decide +kernel
theorem dX7_step_178 : decode cX7_step 178 = .ok (.invokestatic 110, 3) := by decide +kernel
theorem dX7_step_181 : decode cX7_step 181 = .ok (.ifCond .eq 46, 3) := by decide +kernel
theorem dX7_step_184 : decode cX7_step 184 = .ok (.aload_n 0, 1) := by decide +kernel
theorem dX7_step_185 : decode cX7_step 185 = .ok (.aload_n 0, 1) := by decide +kernel
theorem dX7_step_186 : decode cX7_step 186 = .ok (.getfield 100, 3) := by decide +kernel
theorem dX7_step_189 : decode cX7_step 189 = .ok (.bipush 10, 2) := by decide +kernel
theorem dX7_step_191 : decode cX7_step 191 = .ok (.imul, 1) := by decide +kernel
theorem dX7_step_192 : decode cX7_step 192 = .ok (.aload_n 0, 1) := by decide +kernel
theorem dX7_step_193 : decode cX7_step 193 = .ok (.getfield 23, 3) := by decide +kernel
theorem dX7_step_196 : decode cX7_step 196 = .ok (.aload_n 0, 1) := by decide +kernel
theorem dX7_step_197 : decode cX7_step 197 = .ok (.getfield 33, 3) := by decide +kernel
theorem dX7_step_200 : decode cX7_step 200 = .ok (.iaload, 1) := by decide +kernel
theorem dX7_step_201 : decode cX7_step 201 = .ok (.iadd, 1) := by decide +kernel
theorem dX7_step_202 : decode cX7_step 202 = .ok (.bipush 48, 2) := by decide +kernel
theorem dX7_step_204 : decode cX7_step 204 = .ok (.isub, 1) := by decide +kernel
theorem dX7_step_205 : decode cX7_step 205 = .ok (.sipush 1001, 3) := by decide +kernel
theorem dX7_step_208 : decode cX7_step 208 = .ok (.invokestatic 113, 3) := by decide +kernel
theorem dX7_step_211 : decode cX7_step 211 = .ok (.putfield 100, 3) := by decide +kernel
theorem dX7_step_214 : decode cX7_step 214 = .ok (.aload_n 0, 1) := by decide +kernel
theorem dX7_step_215 : decode cX7_step 215 = .ok (.dup, 1) := by decide +kernel
theorem dX7_step_216 : decode cX7_step 216 = .ok (.getfield 33, 3) := by decide +kernel
theorem dX7_step_219 : decode cX7_step 219 = .ok (.iconst 1, 1) := by decide +kernel
theorem dX7_step_220 : decode cX7_step 220 = .ok (.iadd, 1) := by decide +kernel
theorem dX7_step_221 : decode cX7_step 221 = .ok (.putfield 33, 3) := by decide +kernel
theorem dX7_step_224 : decode cX7_step 224 = .ok (.goto (-66), 3) := by decide +kernel
theorem dX7_step_227 : decode cX7_step 227 = .ok (.aload_n 0, 1) := by decide +kernel
theorem dX7_step_228 : decode cX7_step 228 = .ok (.sipush 256, 3) := by decide +kernel
theorem dX7_step_231 : decode cX7_step 231 = .ok (.putfield 55, 3) := by decide +kernel
theorem dX7_step_234 : decode cX7_step 234 = .ok (.goto 26, 3) := by decide +kernel
theorem dX7_step_237 : decode cX7_step 237 = .ok (.aload_n 0, 1) := by decide +kernel
theorem dX7_step_238 : decode cX7_step 238 = .ok (.aload_n 0, 1) := by decide +kernel
theorem dX7_step_239 : decode cX7_step 239 = .ok (.getfield 23, 3) := by decide +kernel
theorem dX7_step_242 : decode cX7_step 242 = .ok (.aload_n 0, 1) := by decide +kernel
theorem dX7_step_243 : decode cX7_step 243 = .ok (.getfield 26, 3) := by decide +kernel
theorem dX7_step_246 : decode cX7_step 246 = .ok (.iaload, 1) := by decide +kernel
theorem dX7_step_247 : decode cX7_step 247 = .ok (.putfield 55, 3) := by decide +kernel
theorem dX7_step_250 : decode cX7_step 250 = .ok (.aload_n 0, 1) := by decide +kernel
theorem dX7_step_251 : decode cX7_step 251 = .ok (.dup, 1) := by decide +kernel
theorem dX7_step_252 : decode cX7_step 252 = .ok (.getfield 33, 3) := by decide +kernel
theorem dX7_step_255 : decode cX7_step 255 = .ok (.iconst 1, 1) := by decide +kernel
theorem dX7_step_256 : decode cX7_step 256 = .ok (.iadd, 1) := by decide +kernel
theorem dX7_step_257 : decode cX7_step 257 = .ok (.putfield 33, 3) := by decide +kernel
theorem dX7_step_260 : decode cX7_step 260 = .ok (.return_, 1) := by decide +kernel
set_option maxRecDepth 20000 in
theorem s_X7_step {w : Wd} {d : Nat} {P : IM → LM → Prop} {i : IM} {l : LM}   (h : gV w d X_X7_step P (u2 i 37 5 (i 37 6)) l 8 [(0, vR (some 37))] []) : gV w d X_X7_step P i l 0 [(0, vR (some 37))] [] := by
  refine g_aload_n (pc' := 1) 0 dX7_step_0 rfl rfl ?_
  refine g_aload_n (pc' := 2) 0 dX7_step_1 rfl rfl ?_
  refine g_getI (pc' := 5) (z := 6) rfl fl_X7_33 rfl rfl dX7_step_2 rfl (fun rg1 => ?_)
  refine g_putI (pc' := 8) (z := 5) rfl fp_X7_26 rfl rfl rg1 dX7_step_5 rfl ?_
  exact h
theorem e_X7_step {w : Wd} {d : Nat} {P : IM → LM → Prop} {i : IM} {l : LM}   (h : gV w d X_X7_step P i l 0 [(0, vR (some 37))] []) : cVd w (d + 1) X_X7_step [vR (some 37)] i l P := CV_of (by decide +kernel) (Nat.le_of_ble_eq_true rfl) h
set_option maxRecDepth 20000 in
theorem s_X7_step_8 {w : Wd} {d : Nat} {P : IM → LM → Prop} {i : IM} {l : LM}   (h : ((¬ (i 37 4 ≤ i 37 5) → 0 ≤ i 37 5 ∧ i 37 5 < 400) ∧ (((i 37 4 ≤ i 37 5) ∨ (¬ (i 35 (i 37 5) = 32))) → gV w d X_X7_step P i l 46 [(0, vR (some 37))] []) ∧ ((¬ ((i 37 4 ≤ i 37 5) ∨ (¬ (i 35 (i 37 5) = 32)))) → ((rg ((i 37 5) + 1)) ∧ gV w d X_X7_step P (u2 i 37 5 ((i 37 5) + 1)) l 8 [(0, vR (some 37))] [])))) : gV w d X_X7_step P i l 8 [(0, vR (some 37))] [] := by
  refine g_aload_n (pc' := 9) 0 dX7_step_8 rfl rfl ?_
  refine g_getI (pc' := 12) (z := 5) rfl fl_X7_26 rfl rfl dX7_step_9 rfl (fun rg2 => ?_)
  refine g_aload_n (pc' := 13) 0 dX7_step_12 rfl rfl ?_
  refine g_getI (pc' := 16) (z := 4) rfl fl_X7_30 rfl rfl dX7_step_13 rfl (fun rg3 => ?_)
  obtain ⟨hob7, hk13, hk14⟩ := h
  have hk13g : ((i 37 4 ≤ i 37 5) ∨ (¬ (i 35 (i 37 5) = 32))) → gV w d X_X7_step P i l 46 [(0, vR (some 37))] [] := by
    intro hp
    have h := hk13 hp
    exact h
  have hk14g : (¬ ((i 37 4 ≤ i 37 5) ∨ (¬ (i 35 (i 37 5) = 32)))) → gV w d X_X7_step P i l 33 [(0, vR (some 37))] [] := by
    intro hp
    have h := hk14 hp
    obtain ⟨ob12, h⟩ := h
    refine g_aload_n (pc' := 34) 0 dX7_step_33 rfl rfl ?_
    refine g_dup (pc' := 35) dX7_step_34 rfl rfl ?_
    refine g_getI (pc' := 38) (z := 5) rfl fl_X7_26 rfl rfl dX7_step_35 rfl (fun rg11 => ?_)
    refine g_iconst (pc' := 39) dX7_step_38 rfl ?_
    refine g_iadd (pc' := 40) dX7_step_39 rfl ?_
    refine g_putI (pc' := 43) (z := 5) rfl fp_X7_26 rfl rfl ob12 dX7_step_40 rfl ?_
    refine g_goto (tgt := 8) dX7_step_43 rfl ?_
    exact h
  refine g_icmp_ge (tgt := 46) (pc' := 19) rg2 rg3 Iff.rfl dX7_step_16 rfl rfl (fun c5 => ?_) (fun c5 => ?_)
  · exact hk13g (Or.inl c5)
  · refine g_aload_n (pc' := 20) 0 dX7_step_19 rfl rfl ?_
    refine g_getR (pc' := 23) (o := some 35) fl_X7_23 rfl rfl rfl dX7_step_20 rfl ?_
    refine g_aload_n (pc' := 24) 0 dX7_step_23 rfl rfl ?_
    refine g_getI (pc' := 27) (z := 5) rfl fl_X7_26 rfl rfl dX7_step_24 rfl (fun rg6 => ?_)
    refine g_iald (pc' := 28) (N := 400) rfl rfl (Nat.lt_of_lt_of_le (Nat.lt_succ_self _) (Nat.le_of_ble_eq_true rfl)) (hob7 c5) dX7_step_27 rfl (fun rg8 => ?_)
    refine g_bipush (pc' := 30) dX7_step_28 rfl rfl ?_
    refine g_icmp_ne (tgt := 46) (pc' := 33) rg8 (rg_lit rfl) Iff.rfl dX7_step_30 rfl rfl (fun c9 => ?_) (fun c9 => ?_)
    · exact hk13g (Or.inr c9)
    · exact hk14g (fun q => q.elim c5 (fun q => q c9))
set_option maxRecDepth 20000 in
theorem s_X7_step_46 {w : Wd} {d : Nat} {P : IM → LM → Prop} {i : IM} {l : LM}   (hd : 1 ≤ d) (h : ((((u2 i 37 6 (i 37 5)) 37 5 < (u2 i 37 6 (i 37 5)) 37 4) → 0 ≤ (u2 i 37 6 (i 37 5)) 37 5 ∧ (u2 i 37 6 (i 37 5)) 37 5 < 400) ∧ ((((u2 i 37 6 (i 37 5)) 37 5 < (u2 i 37 6 (i 37 5)) 37 4) ∧ (¬ (97 ≤ (u2 i 37 6 (i 37 5)) 35 ((u2 i 37 6 (i 37 5)) 37 5) ∧ (u2 i 37 6 (i 37 5)) 35 ((u2 i 37 6 (i 37 5)) 37 5) ≤ 122) ∧ (¬ (48 ≤ (u2 i 37 6 (i 37 5)) 35 ((u2 i 37 6 (i 37 5)) 37 5) ∧ (u2 i 37 6 (i 37 5)) 35 ((u2 i 37 6 (i 37 5)) 37 5) ≤ 57)))) → ((0 ≤ (u2 i 37 6 (i 37 5)) 37 5 ∧ (u2 i 37 6 (i 37 5)) 37 5 < 400) ∧ (rg (((u2 (u2 i 37 6 (i 37 5)) 37 7 ((u2 i 37 6 (i 37 5)) 35 ((u2 i 37 6 (i 37 5)) 37 5))) 37 6) + 1)) ∧ P (u2 (u2 (u2 i 37 6 (i 37 5)) 37 7 ((u2 i 37 6 (i 37 5)) 35 ((u2 i 37 6 (i 37 5)) 37 5))) 37 6 (((u2 (u2 i 37 6 (i 37 5)) 37 7 ((u2 i 37 6 (i 37 5)) 35 ((u2 i 37 6 (i 37 5)) 37 5))) 37 6) + 1)) l)) ∧ ((((u2 i 37 6 (i 37 5)) 37 5 < (u2 i 37 6 (i 37 5)) 37 4) ∧ (¬ (97 ≤ (u2 i 37 6 (i 37 5)) 35 ((u2 i 37 6 (i 37 5)) 37 5) ∧ (u2 i 37 6 (i 37 5)) 35 ((u2 i 37 6 (i 37 5)) 37 5) ≤ 122) ∧ (48 ≤ (u2 i 37 6 (i 37 5)) 35 ((u2 i 37 6 (i 37 5)) 37 5) ∧ (u2 i 37 6 (i 37 5)) 35 ((u2 i 37 6 (i 37 5)) 37 5) ≤ 57))) → gV w d X_X7_step P (u2 (u2 i 37 6 (i 37 5)) 37 8 0) l 158 [(0, vR (some 37))] []) ∧ ((((u2 i 37 6 (i 37 5)) 37 5 < (u2 i 37 6 (i 37 5)) 37 4) ∧ (97 ≤ (u2 i 37 6 (i 37 5)) 35 ((u2 i 37 6 (i 37 5)) 37 5) ∧ (u2 i 37 6 (i 37 5)) 35 ((u2 i 37 6 (i 37 5)) 37 5) ≤ 122)) → gV w d X_X7_step P (u2 i 37 6 (i 37 5)) l 88 [(0, vR (some 37))] []) ∧ ((¬ ((u2 i 37 6 (i 37 5)) 37 5 < (u2 i 37 6 (i 37 5)) 37 4)) → P (u2 (u2 i 37 6 (i 37 5)) 37 7 (-1)) l))) : gV w d X_X7_step P i l 46 [(0, vR (some 37))] [] := by
  refine g_aload_n (pc' := 47) 0 dX7_step_46 rfl rfl ?_
  refine g_aload_n (pc' := 48) 0 dX7_step_47 rfl rfl ?_
  refine g_getI (pc' := 51) (z := 5) rfl fl_X7_26 rfl rfl dX7_step_48 rfl (fun rg15 => ?_)
  refine g_putI (pc' := 54) (z := 6) rfl fp_X7_33 rfl rfl rg15 dX7_step_51 rfl ?_
  refine g_aload_n (pc' := 55) 0 dX7_step_54 rfl rfl ?_
  refine g_getI (pc' := 58) (z := 5) rfl fl_X7_26 rfl rfl dX7_step_55 rfl (fun rg16 => ?_)
  refine g_aload_n (pc' := 59) 0 dX7_step_58 rfl rfl ?_
  refine g_getI (pc' := 62) (z := 4) rfl fl_X7_30 rfl rfl dX7_step_59 rfl (fun rg17 => ?_)
  obtain ⟨hob21, hk36, hk37, hk38, hk39⟩ := h
  have hk36g : (((u2 i 37 6 (i 37 5)) 37 5 < (u2 i 37 6 (i 37 5)) 37 4) ∧ (¬ (97 ≤ (u2 i 37 6 (i 37 5)) 35 ((u2 i 37 6 (i 37 5)) 37 5) ∧ (u2 i 37 6 (i 37 5)) 35 ((u2 i 37 6 (i 37 5)) 37 5) ≤ 122) ∧ (¬ (48 ≤ (u2 i 37 6 (i 37 5)) 35 ((u2 i 37 6 (i 37 5)) 37 5) ∧ (u2 i 37 6 (i 37 5)) 35 ((u2 i 37 6 (i 37 5)) 37 5) ≤ 57)))) → gV w d X_X7_step P (u2 i 37 6 (i 37 5)) l 237 [(0, vR (some 37))] [] := by
    intro hp
    have h := hk36 hp
    obtain ⟨ob32, ob35, h⟩ := h
    refine g_aload_n (pc' := 238) 0 dX7_step_237 rfl rfl ?_
    refine g_aload_n (pc' := 239) 0 dX7_step_238 rfl rfl ?_
    refine g_getR (pc' := 242) (o := some 35) fl_X7_23 rfl rfl rfl dX7_step_239 rfl ?_
    refine g_aload_n (pc' := 243) 0 dX7_step_242 rfl rfl ?_
    refine g_getI (pc' := 246) (z := 5) rfl fl_X7_26 rfl rfl dX7_step_243 rfl (fun rg31 => ?_)
    refine g_iald (pc' := 247) (N := 400) rfl rfl (Nat.lt_of_lt_of_le (Nat.lt_succ_self _) (Nat.le_of_ble_eq_true rfl)) ob32 dX7_step_246 rfl (fun rg33 => ?_)
    refine g_putI (pc' := 250) (z := 7) rfl fp_X7_55 rfl rfl rg33 dX7_step_247 rfl ?_
    refine g_aload_n (pc' := 251) 0 dX7_step_250 rfl rfl ?_
    refine g_dup (pc' := 252) dX7_step_251 rfl rfl ?_
    refine g_getI (pc' := 255) (z := 6) rfl fl_X7_33 rfl rfl dX7_step_252 rfl (fun rg34 => ?_)
    refine g_iconst (pc' := 256) dX7_step_255 rfl ?_
    refine g_iadd (pc' := 257) dX7_step_256 rfl ?_
    refine g_putI (pc' := 260) (z := 6) rfl fp_X7_33 rfl rfl ob35 dX7_step_257 rfl ?_
    exact g_retV rfl dX7_step_260 h
  have hk37g : (((u2 i 37 6 (i 37 5)) 37 5 < (u2 i 37 6 (i 37 5)) 37 4) ∧ (¬ (97 ≤ (u2 i 37 6 (i 37 5)) 35 ((u2 i 37 6 (i 37 5)) 37 5) ∧ (u2 i 37 6 (i 37 5)) 35 ((u2 i 37 6 (i 37 5)) 37 5) ≤ 122) ∧ (48 ≤ (u2 i 37 6 (i 37 5)) 35 ((u2 i 37 6 (i 37 5)) 37 5) ∧ (u2 i 37 6 (i 37 5)) 35 ((u2 i 37 6 (i 37 5)) 37 5) ≤ 57))) → gV w d X_X7_step P (u2 i 37 6 (i 37 5)) l 153 [(0, vR (some 37))] [] := by
    intro hp
    have h := hk37 hp
    refine g_aload_n (pc' := 154) 0 dX7_step_153 rfl rfl ?_
    refine g_iconst (pc' := 155) dX7_step_154 rfl ?_
    refine g_putI (pc' := 158) (z := 8) rfl fp_X7_100 rfl rfl (rg_lit rfl) dX7_step_155 rfl ?_
    exact h
  have hk38g : (((u2 i 37 6 (i 37 5)) 37 5 < (u2 i 37 6 (i 37 5)) 37 4) ∧ (97 ≤ (u2 i 37 6 (i 37 5)) 35 ((u2 i 37 6 (i 37 5)) 37 5) ∧ (u2 i 37 6 (i 37 5)) 35 ((u2 i 37 6 (i 37 5)) 37 5) ≤ 122)) → gV w d X_X7_step P (u2 i 37 6 (i 37 5)) l 88 [(0, vR (some 37))] [] := by
    intro hp
    have h := hk38 hp
    exact h
  have hk39g : (¬ ((u2 i 37 6 (i 37 5)) 37 5 < (u2 i 37 6 (i 37 5)) 37 4)) → gV w d X_X7_step P (u2 i 37 6 (i 37 5)) l 65 [(0, vR (some 37))] [] := by
    intro hp
    have h := hk39 hp
    refine g_aload_n (pc' := 66) 0 dX7_step_65 rfl rfl ?_
    refine g_iconst (pc' := 67) dX7_step_66 rfl ?_
    refine g_putI (pc' := 70) (z := 7) rfl fp_X7_55 rfl rfl (rg_lit rfl) dX7_step_67 rfl ?_
    refine g_goto (tgt := 260) dX7_step_70 rfl ?_
    exact g_retV rfl dX7_step_260 h
  refine g_icmp_lt (tgt := 73) (pc' := 65) rg16 rg17 Iff.rfl dX7_step_62 rfl rfl (fun c19 => ?_) (fun c19 => ?_)
  · refine g_aload_n (pc' := 74) 0 dX7_step_73 rfl rfl ?_
    refine g_getR (pc' := 77) (o := some 35) fl_X7_23 rfl rfl rfl dX7_step_74 rfl ?_
    refine g_aload_n (pc' := 78) 0 dX7_step_77 rfl rfl ?_
    refine g_getI (pc' := 81) (z := 5) rfl fl_X7_26 rfl rfl dX7_step_78 rfl (fun rg20 => ?_)
    refine g_iald (pc' := 82) (N := 400) rfl rfl (Nat.lt_of_lt_of_le (Nat.lt_succ_self _) (Nat.le_of_ble_eq_true rfl)) (hob21 c19) dX7_step_81 rfl (fun rg22 => ?_)
    refine g_pSI (pc' := 85) (vs := [vI ((u2 i 37 6 (i 37 5)) 35 ((u2 i 37 6 (i 37 5)) 37 5))]) (st := []) (val := bI (97 ≤ (u2 i 37 6 (i 37 5)) 35 ((u2 i 37 6 (i 37 5)) 37 5) ∧ (u2 i 37 6 (i 37 5)) 35 ((u2 i 37 6 (i 37 5)) 37 5) ≤ 122)) (sp_X7_isLetter (le_hd hd rfl) rg22) mk_X7_isLetter ms_X7_isLetter lk_X7_103 rfl (Nat.le_of_ble_eq_true rfl) (Nat.le_of_ble_eq_true rfl) rfl dX7_step_82 rfl z2 (fun rg23 => ?_)
    refine g_if_eq (tgt := 138) (pc' := 88) rg23 (bI_eq _) dX7_step_85 rfl rfl (fun c24 => ?_) (fun c24n => ?_)
    · refine g_aload_n (pc' := 139) 0 dX7_step_138 rfl rfl ?_
      refine g_getR (pc' := 142) (o := some 35) fl_X7_23 rfl rfl rfl dX7_step_139 rfl ?_
      refine g_aload_n (pc' := 143) 0 dX7_step_142 rfl rfl ?_
      refine g_getI (pc' := 146) (z := 5) rfl fl_X7_26 rfl rfl dX7_step_143 rfl (fun rg25 => ?_)
      refine g_iald (pc' := 147) (N := 400) rfl rfl (Nat.lt_of_lt_of_le (Nat.lt_succ_self _) (Nat.le_of_ble_eq_true rfl)) (hob21 c19) dX7_step_146 rfl (fun rg26 => ?_)
      refine g_pSI (pc' := 150) (vs := [vI ((u2 i 37 6 (i 37 5)) 35 ((u2 i 37 6 (i 37 5)) 37 5))]) (st := []) (val := bI (48 ≤ (u2 i 37 6 (i 37 5)) 35 ((u2 i 37 6 (i 37 5)) 37 5) ∧ (u2 i 37 6 (i 37 5)) 35 ((u2 i 37 6 (i 37 5)) 37 5) ≤ 57)) (sp_X7_isDigit (le_hd hd rfl) rg26) mk_X7_isDigit ms_X7_isDigit lk_X7_110 rfl (Nat.le_of_ble_eq_true rfl) (Nat.le_of_ble_eq_true rfl) rfl dX7_step_147 rfl z2 (fun rg27 => ?_)
      refine g_if_eq (tgt := 237) (pc' := 153) rg27 (bI_eq _) dX7_step_150 rfl rfl (fun c28 => ?_) (fun c28n => ?_)
      · exact hk36g ⟨c19, ⟨c24, c28⟩⟩
      · have c28 := Decidable.of_not_not c28n
        exact hk37g ⟨c19, ⟨c24, c28⟩⟩
    · have c24 := Decidable.of_not_not c24n
      exact hk38g ⟨c19, c24⟩
  · exact hk39g c19
set_option maxRecDepth 20000 in
theorem s_X7_step_158 {w : Wd} {d : Nat} {P : IM → LM → Prop} {i : IM} {l : LM}   (hd : 1 ≤ d) (h : ((¬ (i 37 4 ≤ i 37 6) → 0 ≤ i 37 6 ∧ i 37 6 < 400) ∧ (((i 37 4 ≤ i 37 6) ∨ (¬ (48 ≤ i 35 (i 37 6) ∧ i 35 (i 37 6) ≤ 57))) → P (u2 i 37 7 256) l) ∧ ((¬ ((i 37 4 ≤ i 37 6) ∨ (¬ (48 ≤ i 35 (i 37 6) ∧ i 35 (i 37 6) ≤ 57)))) → ((0 ≤ i 37 6 ∧ i 37 6 < 400) ∧ (rg ((((i 37 8) * 10) + (i 35 (i 37 6))) - 48)) ∧ (rg (((u2 i 37 8 (min ((((i 37 8) * 10) + (i 35 (i 37 6))) - 48) 1001)) 37 6) + 1)) ∧ gV w d X_X7_step P (u2 (u2 i 37 8 (min ((((i 37 8) * 10) + (i 35 (i 37 6))) - 48) 1001)) 37 6 (((u2 i 37 8 (min ((((i 37 8) * 10) + (i 35 (i 37 6))) - 48) 1001)) 37 6) + 1)) l 158 [(0, vR (some 37))] [])))) : gV w d X_X7_step P i l 158 [(0, vR (some 37))] [] := by
  refine g_aload_n (pc' := 159) 0 dX7_step_158 rfl rfl ?_
  refine g_getI (pc' := 162) (z := 6) rfl fl_X7_33 rfl rfl dX7_step_159 rfl (fun rg40 => ?_)
  refine g_aload_n (pc' := 163) 0 dX7_step_162 rfl rfl ?_
  refine g_getI (pc' := 166) (z := 4) rfl fl_X7_30 rfl rfl dX7_step_163 rfl (fun rg41 => ?_)
  obtain ⟨hob45, hk62, hk63⟩ := h
  have hk62g : ((i 37 4 ≤ i 37 6) ∨ (¬ (48 ≤ i 35 (i 37 6) ∧ i 35 (i 37 6) ≤ 57))) → gV w d X_X7_step P i l 227 [(0, vR (some 37))] [] := by
    intro hp
    have h := hk62 hp
    refine g_aload_n (pc' := 228) 0 dX7_step_227 rfl rfl ?_
    refine g_sipush (pc' := 231) dX7_step_228 rfl rfl ?_
    refine g_putI (pc' := 234) (z := 7) rfl fp_X7_55 rfl rfl (rg_lit rfl) dX7_step_231 rfl ?_
    refine g_goto (tgt := 260) dX7_step_234 rfl ?_
    exact g_retV rfl dX7_step_260 h
  have hk63g : (¬ ((i 37 4 ≤ i 37 6) ∨ (¬ (48 ≤ i 35 (i 37 6) ∧ i 35 (i 37 6) ≤ 57)))) → gV w d X_X7_step P i l 184 [(0, vR (some 37))] [] := by
    intro hp
    have h := hk63 hp
    obtain ⟨ob56, ob58, ob61, h⟩ := h
    refine g_aload_n (pc' := 185) 0 dX7_step_184 rfl rfl ?_
    refine g_aload_n (pc' := 186) 0 dX7_step_185 rfl rfl ?_
    refine g_getI (pc' := 189) (z := 8) rfl fl_X7_100 rfl rfl dX7_step_186 rfl (fun rg54 => ?_)
    refine g_bipush (pc' := 191) dX7_step_189 rfl rfl ?_
    refine g_imul (pc' := 192) dX7_step_191 rfl ?_
    refine g_aload_n (pc' := 193) 0 dX7_step_192 rfl rfl ?_
    refine g_getR (pc' := 196) (o := some 35) fl_X7_23 rfl rfl rfl dX7_step_193 rfl ?_
    refine g_aload_n (pc' := 197) 0 dX7_step_196 rfl rfl ?_
    refine g_getI (pc' := 200) (z := 6) rfl fl_X7_33 rfl rfl dX7_step_197 rfl (fun rg55 => ?_)
    refine g_iald (pc' := 201) (N := 400) rfl rfl (Nat.lt_of_lt_of_le (Nat.lt_succ_self _) (Nat.le_of_ble_eq_true rfl)) ob56 dX7_step_200 rfl (fun rg57 => ?_)
    refine g_iadd (pc' := 202) dX7_step_201 rfl ?_
    refine g_bipush (pc' := 204) dX7_step_202 rfl rfl ?_
    refine g_isub (pc' := 205) dX7_step_204 rfl ?_
    refine g_sipush (pc' := 208) dX7_step_205 rfl rfl ?_
    refine g_pSI (pc' := 211) (vs := [vI ((((i 37 8) * 10) + (i 35 (i 37 6))) - 48), vI 1001]) (st := [vR (some 37)]) (val := min ((((i 37 8) * 10) + (i 35 (i 37 6))) - 48) 1001) (sp_min (le_hd hd rfl) ob58 (rg_lit rfl)) mk_J9_min_7cf53 ms_J9_min_7cf53 lk_X7_113 rfl (Nat.le_of_ble_eq_true rfl) (Nat.le_of_ble_eq_true rfl) rfl dX7_step_208 rfl z2 (fun rg59 => ?_)
    refine g_putI (pc' := 214) (z := 8) rfl fp_X7_100 rfl rfl rg59 dX7_step_211 rfl ?_
    refine g_aload_n (pc' := 215) 0 dX7_step_214 rfl rfl ?_
    refine g_dup (pc' := 216) dX7_step_215 rfl rfl ?_
    refine g_getI (pc' := 219) (z := 6) rfl fl_X7_33 rfl rfl dX7_step_216 rfl (fun rg60 => ?_)
    refine g_iconst (pc' := 220) dX7_step_219 rfl ?_
    refine g_iadd (pc' := 221) dX7_step_220 rfl ?_
    refine g_putI (pc' := 224) (z := 6) rfl fp_X7_33 rfl rfl ob61 dX7_step_221 rfl ?_
    refine g_goto (tgt := 158) dX7_step_224 rfl ?_
    exact h
  refine g_icmp_ge (tgt := 227) (pc' := 169) rg40 rg41 Iff.rfl dX7_step_166 rfl rfl (fun c43 => ?_) (fun c43 => ?_)
  · exact hk62g (Or.inl c43)
  · refine g_aload_n (pc' := 170) 0 dX7_step_169 rfl rfl ?_
    refine g_getR (pc' := 173) (o := some 35) fl_X7_23 rfl rfl rfl dX7_step_170 rfl ?_
    refine g_aload_n (pc' := 174) 0 dX7_step_173 rfl rfl ?_
    refine g_getI (pc' := 177) (z := 6) rfl fl_X7_33 rfl rfl dX7_step_174 rfl (fun rg44 => ?_)
    refine g_iald (pc' := 178) (N := 400) rfl rfl (Nat.lt_of_lt_of_le (Nat.lt_succ_self _) (Nat.le_of_ble_eq_true rfl)) (hob45 c43) dX7_step_177 rfl (fun rg46 => ?_)
    refine g_pSI (pc' := 181) (vs := [vI (i 35 (i 37 6))]) (st := []) (val := bI (48 ≤ i 35 (i 37 6) ∧ i 35 (i 37 6) ≤ 57)) (sp_X7_isDigit (le_hd hd rfl) rg46) mk_X7_isDigit ms_X7_isDigit lk_X7_110 rfl (Nat.le_of_ble_eq_true rfl) (Nat.le_of_ble_eq_true rfl) rfl dX7_step_178 rfl z2 (fun rg47 => ?_)
    refine g_if_eq (tgt := 227) (pc' := 184) rg47 (bI_eq _) dX7_step_181 rfl rfl (fun c48 => ?_) (fun c48n => ?_)
    · exact hk62g (Or.inr c48)
    · have c48 := Decidable.of_not_not c48n
      exact hk63g (fun q => q.elim c43 (fun q => q c48))
set_option maxRecDepth 20000 in
theorem s_X7_step_88 {w : Wd} {d : Nat} {P : IM → LM → Prop} {i : IM} {l : LM}   (hd : 1 ≤ d) (h : ((¬ (i 37 4 ≤ i 37 6) → 0 ≤ i 37 6 ∧ i 37 6 < 400) ∧ (((i 37 4 ≤ i 37 6) ∨ (¬ (97 ≤ i 35 (i 37 6) ∧ i 35 (i 37 6) ≤ 122))) → cI w d X_X7_wordThere [vR (some 37)] i l (fun r74 i74 l74 => P (u2 i74 37 7 r74) l74)) ∧ ((¬ ((i 37 4 ≤ i 37 6) ∨ (¬ (97 ≤ i 35 (i 37 6) ∧ i 35 (i 37 6) ≤ 122)))) → ((rg ((i 37 6) + 1)) ∧ gV w d X_X7_step P (u2 i 37 6 ((i 37 6) + 1)) l 88 [(0, vR (some 37))] [])))) : gV w d X_X7_step P i l 88 [(0, vR (some 37))] [] := by
  refine g_aload_n (pc' := 89) 0 dX7_step_88 rfl rfl ?_
  refine g_getI (pc' := 92) (z := 6) rfl fl_X7_33 rfl rfl dX7_step_89 rfl (fun rg64 => ?_)
  refine g_aload_n (pc' := 93) 0 dX7_step_92 rfl rfl ?_
  refine g_getI (pc' := 96) (z := 4) rfl fl_X7_30 rfl rfl dX7_step_93 rfl (fun rg65 => ?_)
  obtain ⟨hob69, hk77, hk78⟩ := h
  have hk77g : ((i 37 4 ≤ i 37 6) ∨ (¬ (97 ≤ i 35 (i 37 6) ∧ i 35 (i 37 6) ≤ 122))) → gV w d X_X7_step P i l 127 [(0, vR (some 37))] [] := by
    intro hp
    have h := hk77 hp
    refine g_aload_n (pc' := 128) 0 dX7_step_127 rfl rfl ?_
    refine g_aload_n (pc' := 129) 0 dX7_step_128 rfl rfl ?_
    refine g_cVI (pc' := 132) (vs := []) (st := [vR (some 37)]) (c := 7) h mv_X7_wordThere lk_X7_106 rfl rfl rfl rfl (Nat.le_of_ble_eq_true rfl) (Nat.le_of_ble_eq_true rfl) rfl dX7_step_129 rfl z2 (fun r74 i74 l74 rg74 h => ?_)
    refine g_putI (pc' := 135) (z := 7) rfl fp_X7_55 rfl rfl rg74 dX7_step_132 rfl ?_
    refine g_goto (tgt := 260) dX7_step_135 rfl ?_
    exact g_retV rfl dX7_step_260 h
  have hk78g : (¬ ((i 37 4 ≤ i 37 6) ∨ (¬ (97 ≤ i 35 (i 37 6) ∧ i 35 (i 37 6) ≤ 122)))) → gV w d X_X7_step P i l 114 [(0, vR (some 37))] [] := by
    intro hp
    have h := hk78 hp
    obtain ⟨ob76, h⟩ := h
    refine g_aload_n (pc' := 115) 0 dX7_step_114 rfl rfl ?_
    refine g_dup (pc' := 116) dX7_step_115 rfl rfl ?_
    refine g_getI (pc' := 119) (z := 6) rfl fl_X7_33 rfl rfl dX7_step_116 rfl (fun rg75 => ?_)
    refine g_iconst (pc' := 120) dX7_step_119 rfl ?_
    refine g_iadd (pc' := 121) dX7_step_120 rfl ?_
    refine g_putI (pc' := 124) (z := 6) rfl fp_X7_33 rfl rfl ob76 dX7_step_121 rfl ?_
    refine g_goto (tgt := 88) dX7_step_124 rfl ?_
    exact h
  refine g_icmp_ge (tgt := 127) (pc' := 99) rg64 rg65 Iff.rfl dX7_step_96 rfl rfl (fun c67 => ?_) (fun c67 => ?_)
  · exact hk77g (Or.inl c67)
  · refine g_aload_n (pc' := 100) 0 dX7_step_99 rfl rfl ?_
    refine g_getR (pc' := 103) (o := some 35) fl_X7_23 rfl rfl rfl dX7_step_100 rfl ?_
    refine g_aload_n (pc' := 104) 0 dX7_step_103 rfl rfl ?_
    refine g_getI (pc' := 107) (z := 6) rfl fl_X7_33 rfl rfl dX7_step_104 rfl (fun rg68 => ?_)
    refine g_iald (pc' := 108) (N := 400) rfl rfl (Nat.lt_of_lt_of_le (Nat.lt_succ_self _) (Nat.le_of_ble_eq_true rfl)) (hob69 c67) dX7_step_107 rfl (fun rg70 => ?_)
    refine g_pSI (pc' := 111) (vs := [vI (i 35 (i 37 6))]) (st := []) (val := bI (97 ≤ i 35 (i 37 6) ∧ i 35 (i 37 6) ≤ 122)) (sp_X7_isLetter (le_hd hd rfl) rg70) mk_X7_isLetter ms_X7_isLetter lk_X7_103 rfl (Nat.le_of_ble_eq_true rfl) (Nat.le_of_ble_eq_true rfl) rfl dX7_step_108 rfl z2 (fun rg71 => ?_)
    refine g_if_eq (tgt := 127) (pc' := 114) rg71 (bI_eq _) dX7_step_111 rfl rfl (fun c72 => ?_) (fun c72n => ?_)
    · exact hk77g (Or.inr c72)
    · have c72 := Decidable.of_not_not c72n
      exact hk78g (fun q => q.elim c67 (fun q => q c72))

theorem dX7_wordThere_0 : decode cX7_wordThere 0 = .ok (.iconst 0, 1) := by decide +kernel
theorem dX7_wordThere_1 : decode cX7_wordThere 1 = .ok (.istore_n 1, 1) := by decide +kernel
theorem dX7_wordThere_2 : decode cX7_wordThere 2 = .ok (.iconst 0, 1) := by decide +kernel
theorem dX7_wordThere_3 : decode cX7_wordThere 3 = .ok (.istore_n 2, 1) := by decide +kernel
theorem dX7_wordThere_4 : decode cX7_wordThere 4 = .ok (.iconst 0, 1) := by decide +kernel
theorem dX7_wordThere_5 : decode cX7_wordThere 5 = .ok (.istore_n 3, 1) := by decide +kernel
theorem dX7_wordThere_6 : decode cX7_wordThere 6 = .ok (.iload_n 3, 1) := by decide +kernel
theorem dX7_wordThere_7 : decode cX7_wordThere 7 = .ok (.ldc 116, 2) := by decide +kernel
theorem dX7_wordThere_9 : decode cX7_wordThere 9 = .ok (.invokevirtual 118, 3) := by decide +kernel
theorem dX7_wordThere_12 : decode cX7_wordThere 12 = .ok (.if_icmp .ge 93, 3) := by decide +kernel
theorem dX7_wordThere_15 : decode cX7_wordThere 15 = .ok (.ldc 116, 2) := by decide +kernel
theorem dX7_wordThere_17 : decode cX7_wordThere 17 = .ok (.iload_n 3, 1) := by decide +kernel
theorem dX7_wordThere_18 : decode cX7_wordThere 18 = .ok (.invokevirtual 122, 3) := by decide +kernel
theorem dX7_wordThere_21 : decode cX7_wordThere 21 = .ok (.istore 4, 2) := by decide +kernel
theorem dX7_wordThere_23 : decode cX7_wordThere 23 = .ok (.iload 4, 2) := by decide +kernel
theorem dX7_wordThere_25 : decode cX7_wordThere 25 = .ok (.bipush 32, 2) := by decide +kernel
theorem dX7_wordThere_27 : decode cX7_wordThere 27 = .ok (.if_icmp .ne 30, 3) := by decide +kernel
theorem dX7_wordThere_30 : decode cX7_wordThere 30 = .ok (.iload_n 2, 1) := by decide +kernel
theorem dX7_wordThere_31 : decode cX7_wordThere 31 = .ok (.aload_n 0, 1) := by decide +kernel
theorem dX7_wordThere_32 : decode cX7_wordThere 32 = .ok (.getfield 33, 3) := by decide +kernel
theorem dX7_wordThere_35 : decode cX7_wordThere 35 = .ok (.aload_n 0, 1) := by decide +kernel
theorem dX7_wordThere_36 : decode cX7_wordThere 36 = .ok (.getfield 26, 3) := by decide +kernel
theorem dX7_wordThere_39 : decode cX7_wordThere 39 = .ok (.isub, 1) := by decide +kernel
theorem dX7_wordThere_40 : decode cX7_wordThere 40 = .ok (.if_icmp .ne 9, 3) := by decide +kernel
theorem dX7_wordThere_43 : decode cX7_wordThere 43 = .ok (.sipush 300, 3) := by decide +kernel
theorem dX7_wordThere_46 : decode cX7_wordThere 46 = .ok (.iload_n 1, 1) := by decide +kernel
theorem dX7_wordThere_47 : decode cX7_wordThere 47 = .ok (.iadd, 1) := by decide +kernel
theorem dX7_wordThere_48 : decode cX7_wordThere 48 = .ok (.ireturn, 1) := by decide +kernel
theorem dX7_wordThere_49 : decode cX7_wordThere 49 = .ok (.iinc 1 1, 3) := by decide +kernel
theorem dX7_wordThere_52 : decode cX7_wordThere 52 = .ok (.iconst 0, 1) := by decide +kernel
theorem dX7_wordThere_53 : decode cX7_wordThere 53 = .ok (.istore_n 2, 1) := by decide +kernel
theorem dX7_wordThere_54 : decode cX7_wordThere 54 = .ok (.goto 45, 3) := by decide +kernel
theorem dX7_wordThere_57 : decode cX7_wordThere 57 = .ok (.iload_n 2, 1) := by decide +kernel
theorem dX7_wordThere_58 : decode cX7_wordThere 58 = .ok (.iconst (-1), 1) := by decide +kernel
theorem dX7_wordThere_59 : decode cX7_wordThere 59 = .ok (.if_icmp .eq 40, 3) := by decide +kernel
theorem dX7_wordThere_62 : decode cX7_wordThere 62 = .ok (.aload_n 0, 1) := by decide +kernel
theorem dX7_wordThere_63 : decode cX7_wordThere 63 = .ok (.getfield 26, 3) := by decide +kernel
theorem dX7_wordThere_66 : decode cX7_wordThere 66 = .ok (.iload_n 2, 1) := by decide +kernel
theorem dX7_wordThere_67 : decode cX7_wordThere 67 = .ok (.iadd, 1) := by decide +kernel
theorem dX7_wordThere_68 : decode cX7_wordThere 68 = .ok (.aload_n 0, 1) := by decide +kernel
theorem dX7_wordThere_69 : decode cX7_wordThere 69 = .ok (.getfield 33, 3) := by decide +kernel
theorem dX7_wordThere_72 : decode cX7_wordThere 72 = .ok (.if_icmp .ge 25, 3) := by decide +kernel
theorem dX7_wordThere_75 : decode cX7_wordThere 75 = .ok (.aload_n 0, 1) := by decide +kernel
theorem dX7_wordThere_76 : decode cX7_wordThere 76 = .ok (.getfield 23, 3) := by decide +kernel
theorem dX7_wordThere_79 : decode cX7_wordThere 79 = .ok (.aload_n 0, 1) := by decide +kernel
theorem dX7_wordThere_80 : decode cX7_wordThere 80 = .ok (.getfield 26, 3) := by decide +kernel
theorem dX7_wordThere_83 : decode cX7_wordThere 83 = .ok (.iload_n 2, 1) := by decide +kernel
theorem dX7_wordThere_84 : decode cX7_wordThere 84 = .ok (.iadd, 1) := by decide +kernel
theorem dX7_wordThere_85 : decode cX7_wordThere 85 = .ok (.iaload, 1) := by decide +kernel
theorem dX7_wordThere_86 : decode cX7_wordThere 86 = .ok (.iload 4, 2) := by decide +kernel
theorem dX7_wordThere_88 : decode cX7_wordThere 88 = .ok (.if_icmp .ne 9, 3) := by decide +kernel
theorem dX7_wordThere_91 : decode cX7_wordThere 91 = .ok (.iload_n 2, 1) := by decide +kernel
theorem dX7_wordThere_92 : decode cX7_wordThere 92 = .ok (.iconst 1, 1) := by decide +kernel
theorem dX7_wordThere_93 : decode cX7_wordThere 93 = .ok (.iadd, 1) := by decide +kernel
theorem dX7_wordThere_94 : decode cX7_wordThere 94 = .ok (.goto 4, 3) := by decide +kernel
theorem dX7_wordThere_97 : decode cX7_wordThere 97 = .ok (.iconst (-1), 1) := by decide +kernel
theorem dX7_wordThere_98 : decode cX7_wordThere 98 = .ok (.istore_n 2, 1) := by decide +kernel
theorem dX7_wordThere_99 : decode cX7_wordThere 99 = .ok (.iinc 3 1, 3) := by decide +kernel
theorem dX7_wordThere_102 : decode cX7_wordThere 102 = .ok (.goto (-96), 3) := by decide +kernel
theorem dX7_wordThere_105 : decode cX7_wordThere 105 = .ok (.sipush 257, 3) := by decide +kernel
theorem dX7_wordThere_108 : decode cX7_wordThere 108 = .ok (.ireturn, 1) := by decide +kernel
set_option maxRecDepth 20000 in
theorem s_X7_wordThere {w : Wd} {d : Nat} {P : Int → IM → LM → Prop} {i : IM} {l : LM}   (h : gI w d X_X7_wordThere P i l 6 [(0, vR (some 37)), (1, vI 0), (2, vI 0), (3, vI 0)] []) : gI w d X_X7_wordThere P i l 0 [(0, vR (some 37))] [] := by
  refine g_iconst (pc' := 1) dX7_wordThere_0 rfl ?_
  refine g_istore_n (pc' := 2) (L' := [(1, vI 0), (0, vR (some 37))]) dX7_wordThere_1 rfl (Nat.le_of_ble_eq_true rfl) rfl ?_
  refine g_iconst (pc' := 3) dX7_wordThere_2 rfl ?_
  refine g_istore_n (pc' := 4) (L' := [(2, vI 0), (1, vI 0), (0, vR (some 37))]) dX7_wordThere_3 rfl (Nat.le_of_ble_eq_true rfl) rfl ?_
  refine g_iconst (pc' := 5) dX7_wordThere_4 rfl ?_
  refine g_istore_n (pc' := 6) (L' := [(3, vI 0), (2, vI 0), (1, vI 0), (0, vR (some 37))]) dX7_wordThere_5 rfl (Nat.le_of_ble_eq_true rfl) rfl ?_
  refine g_sub (L' := [(0, vR (some 37)), (1, vI 0), (2, vI 0), (3, vI 0)]) [3, 2, 1, 0] rfl ?_
  exact h
theorem e_X7_wordThere {w : Wd} {d : Nat} {P : Int → IM → LM → Prop} {i : IM} {l : LM}   (h : gI w d X_X7_wordThere P i l 0 [(0, vR (some 37))] []) : cI w (d + 1) X_X7_wordThere [vR (some 37)] i l P := CI_of (by decide +kernel) (Nat.le_of_ble_eq_true rfl) h
set_option maxRecDepth 20000 in
theorem s_X7_wordThere_6 {w : Wd} {d : Nat} {P : Int → IM → LM → Prop} {i : IM} {l : LM} (x1 : Int) (x2 : Int) (x3 : Int)  (hd : 4 ≤ d) (h : ((rg x3) ∧ ((93 ≤ x3) → P 257 i l) ∧ ((¬ (93 ≤ x3)) → ((0 ≤ x3 ∧ x3 < 93) ∧ ((¬ (hW x3 = 32) → rg x2) ∧ (¬ (hW x3 = 32) → ¬ (x2 = (-1)) → rg ((i 37 5) + x2)) ∧ ((hW x3 = 32) → rg x2) ∧ ((hW x3 = 32) → rg ((i 37 6) - (i 37 5))) ∧ ((¬ (hW x3 = 32) ∧ (x2 = (-1))) → gI w d X_X7_wordThere P i l 6 [(0, vR (some 37)), (1, vI x1), (2, vI x2), (3, vI (x3 + 1))] []) ∧ ((¬ (hW x3 = 32) ∧ (¬ (x2 = (-1)) ∧ (i 37 6 ≤ (i 37 5) + x2))) → gI w d X_X7_wordThere P i l 6 [(0, vR (some 37)), (1, vI x1), (2, vI (-1)), (3, vI (x3 + 1))] []) ∧ ((¬ (hW x3 = 32) ∧ (¬ (x2 = (-1)) ∧ (¬ (i 37 6 ≤ (i 37 5) + x2)))) → ((0 ≤ (i 37 5) + x2 ∧ (i 37 5) + x2 < 400) ∧ gI w d X_X7_wordThere P i l 6 [(0, vR (some 37)), (1, vI x1), (2, vI (if (i 35 ((i 37 5) + x2) = hW x3) then x2 + 1 else (-1))), (3, vI (x3 + 1))] [])) ∧ (((hW x3 = 32) ∧ (¬ (x2 = (i 37 6) - (i 37 5)))) → gI w d X_X7_wordThere P i l 6 [(0, vR (some 37)), (1, vI (x1 + 1)), (2, vI 0), (3, vI (x3 + 1))] []) ∧ (((hW x3 = 32) ∧ (x2 = (i 37 6) - (i 37 5))) → ((rg (300 + x1)) ∧ P (300 + x1) i l))))))) : gI w d X_X7_wordThere P i l 6 [(0, vR (some 37)), (1, vI x1), (2, vI x2), (3, vI x3)] [] := by
  refine g_iload_n (pc' := 7) 3 dX7_wordThere_6 rfl rfl ?_
  refine g_ldcS (pc' := 9) rfl dX7_wordThere_7 rfl ?_
  refine g_pXI (pc' := 12) (vs := []) (st := [vI x3]) (val := 93) (sp_length (le_hd hd rfl) ) mv_J0_length_8abf5 lk_X7_118 rfl rfl (Nat.le_of_ble_eq_true rfl) (Nat.le_of_ble_eq_true rfl) rfl dX7_wordThere_9 rfl z2 (fun rg1 => ?_)
  obtain ⟨hob3, hk68, hk69⟩ := h
  refine g_icmp_ge (tgt := 105) (pc' := 15) (hob3) rg1 Iff.rfl dX7_wordThere_12 rfl rfl (fun c4 => ?_) (fun c4 => ?_)
  · have h := hk68 c4
    refine g_sipush (pc' := 108) dX7_wordThere_105 rfl rfl ?_
    exact g_retI rfl (rg_lit rfl) dX7_wordThere_108 h
  · have h := hk69 c4
    obtain ⟨ob7, h⟩ := h
    refine g_ldcS (pc' := 17) rfl dX7_wordThere_15 rfl ?_
    refine g_iload_n (pc' := 18) 3 dX7_wordThere_17 rfl rfl ?_
    refine g_pXI (pc' := 21) (vs := [vI x3]) (st := []) (val := hW x3) (sp_charAt (le_hd hd rfl) ob7) mv_J0_charAt_5068e lk_X7_122 rfl rfl (Nat.le_of_ble_eq_true rfl) (Nat.le_of_ble_eq_true rfl) rfl dX7_wordThere_18 rfl z2 (fun rg8 => ?_)
    refine g_istore (pc' := 23) (L' := [(4, vI (hW x3)), (0, vR (some 37)), (1, vI x1), (2, vI x2), (3, vI x3)]) dX7_wordThere_21 rfl (Nat.le_of_ble_eq_true rfl) rfl ?_
    refine g_iload (pc' := 25) 0 dX7_wordThere_23 rfl rfl ?_
    refine g_bipush (pc' := 27) dX7_wordThere_25 rfl rfl ?_
    obtain ⟨hob43, hob47, hob54, hob55, hk63, hk64, hk65, hk66, hk67⟩ := h
    have hk63g : (¬ (hW x3 = 32) ∧ (x2 = (-1))) → gI w d X_X7_wordThere P i l 99 [(4, vI (hW x3)), (0, vR (some 37)), (1, vI x1), (2, vI x2), (3, vI x3)] [] := by
      intro hp
      have h := hk63 hp
      refine g_iinc (pc' := 102) (L' := [(3, vI (x3 + 1)), (4, vI (hW x3)), (0, vR (some 37)), (1, vI x1), (2, vI x2)]) 4 dX7_wordThere_99 rfl (Nat.le_of_ble_eq_true rfl) rfl rfl ?_
      refine g_goto (tgt := 6) dX7_wordThere_102 rfl ?_
      refine g_sub (L' := [(0, vR (some 37)), (1, vI x1), (2, vI x2), (3, vI (x3 + 1))]) [2, 3, 4, 0] rfl ?_
      exact h
    have hk64g : (¬ (hW x3 = 32) ∧ (¬ (x2 = (-1)) ∧ (i 37 6 ≤ (i 37 5) + x2))) → gI w d X_X7_wordThere P i l 98 [(4, vI (hW x3)), (0, vR (some 37)), (1, vI x1), (2, vI x2), (3, vI x3)] [vI (-1)] := by
      intro hp
      have h := hk64 hp
      refine g_istore_n (pc' := 99) (L' := [(2, vI (-1)), (4, vI (hW x3)), (0, vR (some 37)), (1, vI x1), (3, vI x3)]) dX7_wordThere_98 rfl (Nat.le_of_ble_eq_true rfl) rfl ?_
      refine g_iinc (pc' := 102) (L' := [(3, vI (x3 + 1)), (2, vI (-1)), (4, vI (hW x3)), (0, vR (some 37)), (1, vI x1)]) 4 dX7_wordThere_99 rfl (Nat.le_of_ble_eq_true rfl) rfl rfl ?_
      refine g_goto (tgt := 6) dX7_wordThere_102 rfl ?_
      refine g_sub (L' := [(0, vR (some 37)), (1, vI x1), (2, vI (-1)), (3, vI (x3 + 1))]) [3, 4, 1, 0] rfl ?_
      exact h
    have hk65g : (¬ (hW x3 = 32) ∧ (¬ (x2 = (-1)) ∧ (¬ (i 37 6 ≤ (i 37 5) + x2)))) → gI w d X_X7_wordThere P i l 75 [(4, vI (hW x3)), (0, vR (some 37)), (1, vI x1), (2, vI x2), (3, vI x3)] [] := by
      intro hp
      have h := hk65 hp
      obtain ⟨ob58, h⟩ := h
      refine g_aload_n (pc' := 76) 1 dX7_wordThere_75 rfl rfl ?_
      refine g_getR (pc' := 79) (o := some 35) fl_X7_23 rfl rfl rfl dX7_wordThere_76 rfl ?_
      refine g_aload_n (pc' := 80) 1 dX7_wordThere_79 rfl rfl ?_
      refine g_getI (pc' := 83) (z := 5) rfl fl_X7_26 rfl rfl dX7_wordThere_80 rfl (fun rg57 => ?_)
      refine g_iload_n (pc' := 84) 3 dX7_wordThere_83 rfl rfl ?_
      refine g_iadd (pc' := 85) dX7_wordThere_84 rfl ?_
      refine g_iald (pc' := 86) (N := 400) rfl rfl (Nat.lt_of_lt_of_le (Nat.lt_succ_self _) (Nat.le_of_ble_eq_true rfl)) ob58 dX7_wordThere_85 rfl (fun rg59 => ?_)
      refine g_iload (pc' := 88) 0 dX7_wordThere_86 rfl rfl ?_
      have hJ : gI w d X_X7_wordThere P i l 98 [(4, vI (hW x3)), (0, vR (some 37)), (1, vI x1), (2, vI x2), (3, vI x3)] [vI (if (i 35 ((i 37 5) + x2) = hW x3) then x2 + 1 else (-1))] := by
        refine g_istore_n (pc' := 99) (L' := [(2, vI (if (i 35 ((i 37 5) + x2) = hW x3) then x2 + 1 else (-1))), (4, vI (hW x3)), (0, vR (some 37)), (1, vI x1), (3, vI x3)]) dX7_wordThere_98 rfl (Nat.le_of_ble_eq_true rfl) rfl ?_
        refine g_iinc (pc' := 102) (L' := [(3, vI (x3 + 1)), (2, vI (if (i 35 ((i 37 5) + x2) = hW x3) then x2 + 1 else (-1))), (4, vI (hW x3)), (0, vR (some 37)), (1, vI x1)]) 4 dX7_wordThere_99 rfl (Nat.le_of_ble_eq_true rfl) rfl rfl ?_
        refine g_goto (tgt := 6) dX7_wordThere_102 rfl ?_
        refine g_sub (L' := [(0, vR (some 37)), (1, vI x1), (2, vI (if (i 35 ((i 37 5) + x2) = hW x3) then x2 + 1 else (-1))), (3, vI (x3 + 1))]) [3, 4, 1, 0] rfl ?_
        exact h
      refine g_icmp_ne (tgt := 97) (pc' := 91) rg59 rg8 Iff.rfl dX7_wordThere_88 rfl rfl (fun c61 => ?_) (fun c61 => ?_)
      · refine g_iconst (pc' := 98) dX7_wordThere_97 rfl ?_
        rw [if_neg c61 (α := Int) (t := x2 + 1) (e := (-1))] at hJ
        exact hJ
      · refine g_iload_n (pc' := 92) 3 dX7_wordThere_91 rfl rfl ?_
        refine g_iconst (pc' := 93) dX7_wordThere_92 rfl ?_
        refine g_iadd (pc' := 94) dX7_wordThere_93 rfl ?_
        refine g_goto (tgt := 98) dX7_wordThere_94 rfl ?_
        rw [if_pos c61 (α := Int) (t := x2 + 1) (e := (-1))] at hJ
        exact hJ
    have hk66g : ((hW x3 = 32) ∧ (¬ (x2 = (i 37 6) - (i 37 5)))) → gI w d X_X7_wordThere P i l 49 [(4, vI (hW x3)), (0, vR (some 37)), (1, vI x1), (2, vI x2), (3, vI x3)] [] := by
      intro hp
      have h := hk66 hp
      refine g_iinc (pc' := 52) (L' := [(1, vI (x1 + 1)), (4, vI (hW x3)), (0, vR (some 37)), (2, vI x2), (3, vI x3)]) 2 dX7_wordThere_49 rfl (Nat.le_of_ble_eq_true rfl) rfl rfl ?_
      refine g_iconst (pc' := 53) dX7_wordThere_52 rfl ?_
      refine g_istore_n (pc' := 54) (L' := [(2, vI 0), (1, vI (x1 + 1)), (4, vI (hW x3)), (0, vR (some 37)), (3, vI x3)]) dX7_wordThere_53 rfl (Nat.le_of_ble_eq_true rfl) rfl ?_
      refine g_goto (tgt := 99) dX7_wordThere_54 rfl ?_
      refine g_iinc (pc' := 102) (L' := [(3, vI (x3 + 1)), (2, vI 0), (1, vI (x1 + 1)), (4, vI (hW x3)), (0, vR (some 37))]) 4 dX7_wordThere_99 rfl (Nat.le_of_ble_eq_true rfl) rfl rfl ?_
      refine g_goto (tgt := 6) dX7_wordThere_102 rfl ?_
      refine g_sub (L' := [(0, vR (some 37)), (1, vI (x1 + 1)), (2, vI 0), (3, vI (x3 + 1))]) [4, 2, 1, 0] rfl ?_
      exact h
    have hk67g : ((hW x3 = 32) ∧ (x2 = (i 37 6) - (i 37 5))) → gI w d X_X7_wordThere P i l 43 [(4, vI (hW x3)), (0, vR (some 37)), (1, vI x1), (2, vI x2), (3, vI x3)] [] := by
      intro hp
      have h := hk67 hp
      obtain ⟨ob62, h⟩ := h
      refine g_sipush (pc' := 46) dX7_wordThere_43 rfl rfl ?_
      refine g_iload_n (pc' := 47) 2 dX7_wordThere_46 rfl rfl ?_
      refine g_iadd (pc' := 48) dX7_wordThere_47 rfl ?_
      exact g_retI rfl ob62 dX7_wordThere_48 h
    refine g_icmp_ne (tgt := 57) (pc' := 30) rg8 (rg_lit rfl) Iff.rfl dX7_wordThere_27 rfl rfl (fun c42 => ?_) (fun c42 => ?_)
    · refine g_iload_n (pc' := 58) 3 dX7_wordThere_57 rfl rfl ?_
      refine g_iconst (pc' := 59) dX7_wordThere_58 rfl ?_
      refine g_icmp_eq (tgt := 99) (pc' := 62) (hob43 c42) (rg_lit rfl) Iff.rfl dX7_wordThere_59 rfl rfl (fun c44 => ?_) (fun c44 => ?_)
      · exact hk63g ⟨c42, c44⟩
      · refine g_aload_n (pc' := 63) 1 dX7_wordThere_62 rfl rfl ?_
        refine g_getI (pc' := 66) (z := 5) rfl fl_X7_26 rfl rfl dX7_wordThere_63 rfl (fun rg45 => ?_)
        refine g_iload_n (pc' := 67) 3 dX7_wordThere_66 rfl rfl ?_
        refine g_iadd (pc' := 68) dX7_wordThere_67 rfl ?_
        refine g_aload_n (pc' := 69) 1 dX7_wordThere_68 rfl rfl ?_
        refine g_getI (pc' := 72) (z := 6) rfl fl_X7_33 rfl rfl dX7_wordThere_69 rfl (fun rg46 => ?_)
        refine g_icmp_ge (tgt := 97) (pc' := 75) (hob47 c42 c44) rg46 Iff.rfl dX7_wordThere_72 rfl rfl (fun c48 => ?_) (fun c48 => ?_)
        · refine g_iconst (pc' := 98) dX7_wordThere_97 rfl ?_
          exact hk64g ⟨c42, ⟨c44, c48⟩⟩
        · exact hk65g ⟨c42, ⟨c44, c48⟩⟩
    · refine g_iload_n (pc' := 31) 3 dX7_wordThere_30 rfl rfl ?_
      refine g_aload_n (pc' := 32) 1 dX7_wordThere_31 rfl rfl ?_
      refine g_getI (pc' := 35) (z := 6) rfl fl_X7_33 rfl rfl dX7_wordThere_32 rfl (fun rg52 => ?_)
      refine g_aload_n (pc' := 36) 1 dX7_wordThere_35 rfl rfl ?_
      refine g_getI (pc' := 39) (z := 5) rfl fl_X7_26 rfl rfl dX7_wordThere_36 rfl (fun rg53 => ?_)
      refine g_isub (pc' := 40) dX7_wordThere_39 rfl ?_
      refine g_icmp_ne (tgt := 49) (pc' := 43) (hob54 c42) (hob55 c42) Iff.rfl dX7_wordThere_40 rfl rfl (fun c56 => ?_) (fun c56 => ?_)
      · exact hk66g ⟨c42, c56⟩
      · exact hk67g ⟨c42, c56⟩
