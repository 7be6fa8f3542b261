theorem dX9_join_0 : decode cX9_join 0 = .ok (.iload 4, 2) := by decide +kernel
theorem dX9_join_2 : decode cX9_join 2 = .ok (.iconst 1, 1) := by decide +kernel
theorem dX9_join_3 : decode cX9_join 3 = .ok (.if_icmp .ne 24, 3) := by decide +kernel
theorem dX9_join_6 : decode cX9_join 6 = .ok (.aload_n 1, 1) := by decide +kernel
theorem dX9_join_7 : decode cX9_join 7 = .ok (.iload_n 2, 1) := by decide +kernel
theorem dX9_join_8 : decode cX9_join 8 = .ok (.dup2, 1) := by decide +kernel
theorem dX9_join_9 : decode cX9_join 9 = .ok (.iaload, 1) := by decide +kernel
theorem dX9_join_10 : decode cX9_join 10 = .ok (.iconst 1, 1) := by decide +kernel
theorem dX9_join_11 : decode cX9_join 11 = .ok (.iload_n 3, 1) := by decide +kernel
theorem dX9_join_12 : decode cX9_join 12 = .ok (.ishl, 1) := by decide +kernel
theorem dX9_join_13 : decode cX9_join 13 = .ok (.ior, 1) := by decide +kernel
theorem dX9_join_14 : decode cX9_join 14 = .ok (.iastore, 1) := by decide +kernel
theorem dX9_join_15 : decode cX9_join 15 = .ok (.aload_n 1, 1) := by decide +kernel
theorem dX9_join_16 : decode cX9_join 16 = .ok (.iload_n 3, 1) := by decide +kernel
theorem dX9_join_17 : decode cX9_join 17 = .ok (.dup2, 1) := by decide +kernel
theorem dX9_join_18 : decode cX9_join 18 = .ok (.iaload, 1) := by decide +kernel
theorem dX9_join_19 : decode cX9_join 19 = .ok (.iconst 1, 1) := by decide +kernel
theorem dX9_join_20 : decode cX9_join 20 = .ok (.iload_n 2, 1) := by decide +kernel
theorem dX9_join_21 : decode cX9_join 21 = .ok (.ishl, 1) := by decide +kernel
theorem dX9_join_22 : decode cX9_join 22 = .ok (.ior, 1) := by decide +kernel
theorem dX9_join_23 : decode cX9_join 23 = .ok (.iastore, 1) := by decide +kernel
theorem dX9_join_24 : decode cX9_join 24 = .ok (.goto 25, 3) := by decide +kernel
theorem dX9_join_27 : decode cX9_join 27 = .ok (.aload_n 1, 1) := by decide +kernel
theorem dX9_join_28 : decode cX9_join 28 = .ok (.iload_n 2, 1) := by decide +kernel
theorem dX9_join_29 : decode cX9_join 29 = .ok (.dup2, 1) := by decide +kernel
theorem dX9_join_30 : decode cX9_join 30 = .ok (.iaload, 1) := by decide +kernel
theorem dX9_join_31 : decode cX9_join 31 = .ok (.iconst 1, 1) := by decide +kernel
theorem dX9_join_32 : decode cX9_join 32 = .ok (.iload_n 3, 1) := by decide +kernel
theorem dX9_join_33 : decode cX9_join 33 = .ok (.ishl, 1) := by decide +kernel
theorem dX9_join_34 : decode cX9_join 34 = .ok (.iconst (-1), 1) := by decide +kernel
theorem dX9_join_35 : decode cX9_join 35 = .ok (.ixor, 1) := by decide +kernel
theorem dX9_join_36 : decode cX9_join 36 = .ok (.iand, 1) := by decide +kernel
theorem dX9_join_37 : decode cX9_join 37 = .ok (.iastore, 1) := by decide +kernel
theorem dX9_join_38 : decode cX9_join 38 = .ok (.aload_n 1, 1) := by decide +kernel
theorem dX9_join_39 : decode cX9_join 39 = .ok (.iload_n 3, 1) := by decide +kernel
theorem dX9_join_40 : decode cX9_join 40 = .ok (.dup2, 1) := by decide +kernel
theorem dX9_join_41 : decode cX9_join 41 = .ok (.iaload, 1) := by decide +kernel
theorem dX9_join_42 : decode cX9_join 42 = .ok (.iconst 1, 1) := by decide +kernel
theorem dX9_join_43 : decode cX9_join 43 = .ok (.iload_n 2, 1) := by decide +kernel
theorem dX9_join_44 : decode cX9_join 44 = .ok (.ishl, 1) := by decide +kernel
theorem dX9_join_45 : decode cX9_join 45 = .ok (.iconst (-1), 1) := by decide +kernel
theorem dX9_join_46 : decode cX9_join 46 = .ok (.ixor, 1) := by decide +kernel
theorem dX9_join_47 : decode cX9_join 47 = .ok (.iand, 1) := by decide +kernel
theorem dX9_join_48 : decode cX9_join 48 = .ok (.iastore, 1) := by decide +kernel
theorem dX9_join_49 : decode cX9_join 49 = .ok (.return_, 1) := by decide +kernel
set_option maxRecDepth 20000 in
theorem s_X9_joinS {w : Wd} {d : Nat} {P : IM → LM → Prop} {i : IM} {l : LM} (p1 : Int) (p2 : Int) (p3 : Int)  (h : ((rg p3) ∧ ((p3 = 1) → ((0 ≤ p1 ∧ p1 < 10) ∧ (0 ≤ p2 ∧ p2 < 10) ∧ P (u2 (u2 i 11 p1 (ior (i 11 p1) (ishl 1 p2))) 11 p2 (ior ((u2 i 11 p1 (ior (i 11 p1) (ishl 1 p2))) 11 p2) (ishl 1 p1))) l)) ∧ ((¬ (p3 = 1)) → ((0 ≤ p1 ∧ p1 < 10) ∧ (0 ≤ p2 ∧ p2 < 10) ∧ P (u2 (u2 i 11 p1 (iand (i 11 p1) (ixor (ishl 1 p2) (-1)))) 11 p2 (iand ((u2 i 11 p1 (iand (i 11 p1) (ixor (ishl 1 p2) (-1)))) 11 p2) (ixor (ishl 1 p1) (-1)))) l)))) : gV w d X_X9_join P i l 0 [(0, vR (some 7)), (1, vR (some 11)), (2, vI p1), (3, vI p2), (4, vI p3)] [] := by
  refine g_iload (pc' := 2) 4 dX9_join_0 rfl rfl ?_
  refine g_iconst (pc' := 3) dX9_join_2 rfl ?_
  obtain ⟨hob2, hk16, hk17⟩ := h
  refine g_icmp_ne (tgt := 27) (pc' := 6) (hob2) (rg_lit rfl) Iff.rfl dX9_join_3 rfl rfl (fun c3 => ?_) (fun c3 => ?_)
  · have h := hk17 c3
    obtain ⟨ob8, ob10, h⟩ := h
    refine g_aload_n (pc' := 28) 1 dX9_join_27 rfl rfl ?_
    refine g_iload_n (pc' := 29) 2 dX9_join_28 rfl rfl ?_
    refine g_dup2_11 (pc' := 30) dX9_join_29 rfl rfl rfl ?_
    refine g_iald (pc' := 31) (N := 10) rfl rfl (Nat.lt_of_lt_of_le (Nat.lt_succ_self _) (Nat.le_of_ble_eq_true rfl)) ob8 dX9_join_30 rfl (fun rg9 => ?_)
    refine g_iconst (pc' := 32) dX9_join_31 rfl ?_
    refine g_iload_n (pc' := 33) 3 dX9_join_32 rfl rfl ?_
    refine g_ishl (pc' := 34) dX9_join_33 rfl ?_
    refine g_iconst (pc' := 35) dX9_join_34 rfl ?_
    refine g_ixor (pc' := 36) dX9_join_35 rfl ?_
    refine g_iand (pc' := 37) dX9_join_36 rfl ?_
    refine g_iast (pc' := 38) (N := 10) rfl rfl (Nat.lt_of_lt_of_le (Nat.lt_succ_self _) (Nat.le_of_ble_eq_true rfl)) ob8 (rg_iand _ _) dX9_join_37 rfl ?_
    refine g_aload_n (pc' := 39) 1 dX9_join_38 rfl rfl ?_
    refine g_iload_n (pc' := 40) 3 dX9_join_39 rfl rfl ?_
    refine g_dup2_11 (pc' := 41) dX9_join_40 rfl rfl rfl ?_
    refine g_iald (pc' := 42) (N := 10) rfl rfl (Nat.lt_of_lt_of_le (Nat.lt_succ_self _) (Nat.le_of_ble_eq_true rfl)) ob10 dX9_join_41 rfl (fun rg11 => ?_)
    refine g_iconst (pc' := 43) dX9_join_42 rfl ?_
    refine g_iload_n (pc' := 44) 2 dX9_join_43 rfl rfl ?_
    refine g_ishl (pc' := 45) dX9_join_44 rfl ?_
    refine g_iconst (pc' := 46) dX9_join_45 rfl ?_
    refine g_ixor (pc' := 47) dX9_join_46 rfl ?_
    refine g_iand (pc' := 48) dX9_join_47 rfl ?_
    refine g_iast (pc' := 49) (N := 10) rfl rfl (Nat.lt_of_lt_of_le (Nat.lt_succ_self _) (Nat.le_of_ble_eq_true rfl)) ob10 (rg_iand _ _) dX9_join_48 rfl ?_
    exact g_retV rfl dX9_join_49 h
  · have h := hk16 c3
    obtain ⟨ob12, ob14, h⟩ := h
    refine g_aload_n (pc' := 7) 1 dX9_join_6 rfl rfl ?_
    refine g_iload_n (pc' := 8) 2 dX9_join_7 rfl rfl ?_
    refine g_dup2_11 (pc' := 9) dX9_join_8 rfl rfl rfl ?_
    refine g_iald (pc' := 10) (N := 10) rfl rfl (Nat.lt_of_lt_of_le (Nat.lt_succ_self _) (Nat.le_of_ble_eq_true rfl)) ob12 dX9_join_9 rfl (fun rg13 => ?_)
    refine g_iconst (pc' := 11) dX9_join_10 rfl ?_
    refine g_iload_n (pc' := 12) 3 dX9_join_11 rfl rfl ?_
    refine g_ishl (pc' := 13) dX9_join_12 rfl ?_
    refine g_ior (pc' := 14) dX9_join_13 rfl ?_
    refine g_iast (pc' := 15) (N := 10) rfl rfl (Nat.lt_of_lt_of_le (Nat.lt_succ_self _) (Nat.le_of_ble_eq_true rfl)) ob12 (rg_ior _ _) dX9_join_14 rfl ?_
    refine g_aload_n (pc' := 16) 1 dX9_join_15 rfl rfl ?_
    refine g_iload_n (pc' := 17) 3 dX9_join_16 rfl rfl ?_
    refine g_dup2_11 (pc' := 18) dX9_join_17 rfl rfl rfl ?_
    refine g_iald (pc' := 19) (N := 10) rfl rfl (Nat.lt_of_lt_of_le (Nat.lt_succ_self _) (Nat.le_of_ble_eq_true rfl)) ob14 dX9_join_18 rfl (fun rg15 => ?_)
    refine g_iconst (pc' := 20) dX9_join_19 rfl ?_
    refine g_iload_n (pc' := 21) 2 dX9_join_20 rfl rfl ?_
    refine g_ishl (pc' := 22) dX9_join_21 rfl ?_
    refine g_ior (pc' := 23) dX9_join_22 rfl ?_
    refine g_iast (pc' := 24) (N := 10) rfl rfl (Nat.lt_of_lt_of_le (Nat.lt_succ_self _) (Nat.le_of_ble_eq_true rfl)) ob14 (rg_ior _ _) dX9_join_23 rfl ?_
    refine g_goto (tgt := 49) dX9_join_24 rfl ?_
    exact g_retV rfl dX9_join_49 h
theorem e_X9_joinS {w : Wd} {d : Nat} {P : IM → LM → Prop} {i : IM} {l : LM} {p1 : Int} {p2 : Int} {p3 : Int}  (h : gV w d X_X9_join P i l 0 [(0, vR (some 7)), (1, vR (some 11)), (2, vI p1), (3, vI p2), (4, vI p3)] []) : cVd w (d + 1) X_X9_join [vR (some 7), vR (some 11), vI p1, vI p2, vI p3] i l P := CV_of (by decide +kernel) (Nat.le_of_ble_eq_true rfl) h

set_option maxRecDepth 20000 in
theorem s_X9_joinT {w : Wd} {d : Nat} {P : IM → LM → Prop} {i : IM} {l : LM} (p1 : Int) (p2 : Int) (p3 : Int)  (h : ((rg p3) ∧ ((p3 = 1) → ((0 ≤ p1 ∧ p1 < 8) ∧ (0 ≤ p2 ∧ p2 < 8) ∧ P (u2 (u2 i 12 p1 (ior (i 12 p1) (ishl 1 p2))) 12 p2 (ior ((u2 i 12 p1 (ior (i 12 p1) (ishl 1 p2))) 12 p2) (ishl 1 p1))) l)) ∧ ((¬ (p3 = 1)) → ((0 ≤ p1 ∧ p1 < 8) ∧ (0 ≤ p2 ∧ p2 < 8) ∧ P (u2 (u2 i 12 p1 (iand (i 12 p1) (ixor (ishl 1 p2) (-1)))) 12 p2 (iand ((u2 i 12 p1 (iand (i 12 p1) (ixor (ishl 1 p2) (-1)))) 12 p2) (ixor (ishl 1 p1) (-1)))) l)))) : gV w d X_X9_join P i l 0 [(0, vR (some 7)), (1, vR (some 12)), (2, vI p1), (3, vI p2), (4, vI p3)] [] := by
  refine g_iload (pc' := 2) 4 dX9_join_0 rfl rfl ?_
  refine g_iconst (pc' := 3) dX9_join_2 rfl ?_
  obtain ⟨hob2, hk16, hk17⟩ := h
  refine g_icmp_ne (tgt := 27) (pc' := 6) (hob2) (rg_lit rfl) Iff.rfl dX9_join_3 rfl rfl (fun c3 => ?_) (fun c3 => ?_)
  · have h := hk17 c3
    obtain ⟨ob8, ob10, h⟩ := h
    refine g_aload_n (pc' := 28) 1 dX9_join_27 rfl rfl ?_
    refine g_iload_n (pc' := 29) 2 dX9_join_28 rfl rfl ?_
    refine g_dup2_11 (pc' := 30) dX9_join_29 rfl rfl rfl ?_
    refine g_iald (pc' := 31) (N := 8) rfl rfl (Nat.lt_of_lt_of_le (Nat.lt_succ_self _) (Nat.le_of_ble_eq_true rfl)) ob8 dX9_join_30 rfl (fun rg9 => ?_)
    refine g_iconst (pc' := 32) dX9_join_31 rfl ?_
    refine g_iload_n (pc' := 33) 3 dX9_join_32 rfl rfl ?_
    refine g_ishl (pc' := 34) dX9_join_33 rfl ?_
    refine g_iconst (pc' := 35) dX9_join_34 rfl ?_
    refine g_ixor (pc' := 36) dX9_join_35 rfl ?_
    refine g_iand (pc' := 37) dX9_join_36 rfl ?_
    refine g_iast (pc' := 38) (N := 8) rfl rfl (Nat.lt_of_lt_of_le (Nat.lt_succ_self _) (Nat.le_of_ble_eq_true rfl)) ob8 (rg_iand _ _) dX9_join_37 rfl ?_
    refine g_aload_n (pc' := 39) 1 dX9_join_38 rfl rfl ?_
    refine g_iload_n (pc' := 40) 3 dX9_join_39 rfl rfl ?_
    refine g_dup2_11 (pc' := 41) dX9_join_40 rfl rfl rfl ?_
    refine g_iald (pc' := 42) (N := 8) rfl rfl (Nat.lt_of_lt_of_le (Nat.lt_succ_self _) (Nat.le_of_ble_eq_true rfl)) ob10 dX9_join_41 rfl (fun rg11 => ?_)
    refine g_iconst (pc' := 43) dX9_join_42 rfl ?_
    refine g_iload_n (pc' := 44) 2 dX9_join_43 rfl rfl ?_
    refine g_ishl (pc' := 45) dX9_join_44 rfl ?_
    refine g_iconst (pc' := 46) dX9_join_45 rfl ?_
    refine g_ixor (pc' := 47) dX9_join_46 rfl ?_
    refine g_iand (pc' := 48) dX9_join_47 rfl ?_
    refine g_iast (pc' := 49) (N := 8) rfl rfl (Nat.lt_of_lt_of_le (Nat.lt_succ_self _) (Nat.le_of_ble_eq_true rfl)) ob10 (rg_iand _ _) dX9_join_48 rfl ?_
    exact g_retV rfl dX9_join_49 h
  · have h := hk16 c3
    obtain ⟨ob12, ob14, h⟩ := h
    refine g_aload_n (pc' := 7) 1 dX9_join_6 rfl rfl ?_
    refine g_iload_n (pc' := 8) 2 dX9_join_7 rfl rfl ?_
    refine g_dup2_11 (pc' := 9) dX9_join_8 rfl rfl rfl ?_
    refine g_iald (pc' := 10) (N := 8) rfl rfl (Nat.lt_of_lt_of_le (Nat.lt_succ_self _) (Nat.le_of_ble_eq_true rfl)) ob12 dX9_join_9 rfl (fun rg13 => ?_)
    refine g_iconst (pc' := 11) dX9_join_10 rfl ?_
    refine g_iload_n (pc' := 12) 3 dX9_join_11 rfl rfl ?_
    refine g_ishl (pc' := 13) dX9_join_12 rfl ?_
    refine g_ior (pc' := 14) dX9_join_13 rfl ?_
    refine g_iast (pc' := 15) (N := 8) rfl rfl (Nat.lt_of_lt_of_le (Nat.lt_succ_self _) (Nat.le_of_ble_eq_true rfl)) ob12 (rg_ior _ _) dX9_join_14 rfl ?_
    refine g_aload_n (pc' := 16) 1 dX9_join_15 rfl rfl ?_
    refine g_iload_n (pc' := 17) 3 dX9_join_16 rfl rfl ?_
    refine g_dup2_11 (pc' := 18) dX9_join_17 rfl rfl rfl ?_
    refine g_iald (pc' := 19) (N := 8) rfl rfl (Nat.lt_of_lt_of_le (Nat.lt_succ_self _) (Nat.le_of_ble_eq_true rfl)) ob14 dX9_join_18 rfl (fun rg15 => ?_)
    refine g_iconst (pc' := 20) dX9_join_19 rfl ?_
    refine g_iload_n (pc' := 21) 2 dX9_join_20 rfl rfl ?_
    refine g_ishl (pc' := 22) dX9_join_21 rfl ?_
    refine g_ior (pc' := 23) dX9_join_22 rfl ?_
    refine g_iast (pc' := 24) (N := 8) rfl rfl (Nat.lt_of_lt_of_le (Nat.lt_succ_self _) (Nat.le_of_ble_eq_true rfl)) ob14 (rg_ior _ _) dX9_join_23 rfl ?_
    refine g_goto (tgt := 49) dX9_join_24 rfl ?_
    exact g_retV rfl dX9_join_49 h
theorem e_X9_joinT {w : Wd} {d : Nat} {P : IM → LM → Prop} {i : IM} {l : LM} {p1 : Int} {p2 : Int} {p3 : Int}  (h : gV w d X_X9_join P i l 0 [(0, vR (some 7)), (1, vR (some 12)), (2, vI p1), (3, vI p2), (4, vI p3)] []) : cVd w (d + 1) X_X9_join [vR (some 7), vR (some 12), vI p1, vI p2, vI p3] i l P := CV_of (by decide +kernel) (Nat.le_of_ble_eq_true rfl) h

theorem dX9_addThing_0 : decode cX9_addThing 0 = .ok (.aload_n 0, 1) := by decide +kernel
theorem dX9_addThing_1 : decode cX9_addThing 1 = .ok (.getfield 43, 3) := by decide +kernel
theorem dX9_addThing_4 : decode cX9_addThing 4 = .ok (.bipush 8, 2) := by decide +kernel
theorem dX9_addThing_6 : decode cX9_addThing 6 = .ok (.imul, 1) := by decide +kernel
theorem dX9_addThing_7 : decode cX9_addThing 7 = .ok (.istore 6, 2) := by decide +kernel
theorem dX9_addThing_9 : decode cX9_addThing 9 = .ok (.aload_n 0, 1) := by decide +kernel
theorem dX9_addThing_10 : decode cX9_addThing 10 = .ok (.getfield 9, 3) := by decide +kernel
theorem dX9_addThing_13 : decode cX9_addThing 13 = .ok (.iload 6, 2) := by decide +kernel
theorem dX9_addThing_15 : decode cX9_addThing 15 = .ok (.iconst 0, 1) := by decide +kernel
theorem dX9_addThing_16 : decode cX9_addThing 16 = .ok (.iadd, 1) := by decide +kernel
theorem dX9_addThing_17 : decode cX9_addThing 17 = .ok (.iload_n 1, 1) := by decide +kernel
theorem dX9_addThing_18 : decode cX9_addThing 18 = .ok (.iastore, 1) := by decide +kernel
theorem dX9_addThing_19 : decode cX9_addThing 19 = .ok (.aload_n 0, 1) := by decide +kernel
theorem dX9_addThing_20 : decode cX9_addThing 20 = .ok (.getfield 9, 3) := by decide +kernel
theorem dX9_addThing_23 : decode cX9_addThing 23 = .ok (.iload 6, 2) := by decide +kernel
theorem dX9_addThing_25 : decode cX9_addThing 25 = .ok (.iconst 1, 1) := by decide +kernel
theorem dX9_addThing_26 : decode cX9_addThing 26 = .ok (.iadd, 1) := by decide +kernel
theorem dX9_addThing_27 : decode cX9_addThing 27 = .ok (.iload_n 2, 1) := by decide +kernel
theorem dX9_addThing_28 : decode cX9_addThing 28 = .ok (.iastore, 1) := by decide +kernel
theorem dX9_addThing_29 : decode cX9_addThing 29 = .ok (.aload_n 0, 1) := by decide +kernel
theorem dX9_addThing_30 : decode cX9_addThing 30 = .ok (.getfield 9, 3) := by decide +kernel
theorem dX9_addThing_33 : decode cX9_addThing 33 = .ok (.iload 6, 2) := by decide +kernel
theorem dX9_addThing_35 : decode cX9_addThing 35 = .ok (.iconst 2, 1) := by decide +kernel
theorem dX9_addThing_36 : decode cX9_addThing 36 = .ok (.iadd, 1) := by decide +kernel
theorem dX9_addThing_37 : decode cX9_addThing 37 = .ok (.iload_n 3, 1) := by decide +kernel
theorem dX9_addThing_38 : decode cX9_addThing 38 = .ok (.iastore, 1) := by decide +kernel
theorem dX9_addThing_39 : decode cX9_addThing 39 = .ok (.aload_n 0, 1) := by decide +kernel
theorem dX9_addThing_40 : decode cX9_addThing 40 = .ok (.getfield 9, 3) := by decide +kernel
theorem dX9_addThing_43 : decode cX9_addThing 43 = .ok (.iload 6, 2) := by decide +kernel
theorem dX9_addThing_45 : decode cX9_addThing 45 = .ok (.iconst 3, 1) := by decide +kernel
theorem dX9_addThing_46 : decode cX9_addThing 46 = .ok (.iadd, 1) := by decide +kernel
theorem dX9_addThing_47 : decode cX9_addThing 47 = .ok (.iload 4, 2) := by decide +kernel
theorem dX9_addThing_49 : decode cX9_addThing 49 = .ok (.iastore, 1) := by decide +kernel
theorem dX9_addThing_50 : decode cX9_addThing 50 = .ok (.aload_n 0, 1) := by decide +kernel
theorem dX9_addThing_51 : decode cX9_addThing 51 = .ok (.getfield 9, 3) := by decide +kernel
theorem dX9_addThing_54 : decode cX9_addThing 54 = .ok (.iload 6, 2) := by decide +kernel
theorem dX9_addThing_56 : decode cX9_addThing 56 = .ok (.iconst 4, 1) := by decide +kernel
theorem dX9_addThing_57 : decode cX9_addThing 57 = .ok (.iadd, 1) := by decide +kernel
theorem dX9_addThing_58 : decode cX9_addThing 58 = .ok (.iload 5, 2) := by decide +kernel
theorem dX9_addThing_60 : decode cX9_addThing 60 = .ok (.iastore, 1) := by decide +kernel
theorem dX9_addThing_61 : decode cX9_addThing 61 = .ok (.aload_n 0, 1) := by decide +kernel
theorem dX9_addThing_62 : decode cX9_addThing 62 = .ok (.getfield 9, 3) := by decide +kernel
theorem dX9_addThing_65 : decode cX9_addThing 65 = .ok (.iload 6, 2) := by decide +kernel
theorem dX9_addThing_67 : decode cX9_addThing 67 = .ok (.iconst 5, 1) := by decide +kernel
theorem dX9_addThing_68 : decode cX9_addThing 68 = .ok (.iadd, 1) := by decide +kernel
theorem dX9_addThing_69 : decode cX9_addThing 69 = .ok (.iconst 0, 1) := by decide +kernel
theorem dX9_addThing_70 : decode cX9_addThing 70 = .ok (.iastore, 1) := by decide +kernel
theorem dX9_addThing_71 : decode cX9_addThing 71 = .ok (.aload_n 0, 1) := by decide +kernel
theorem dX9_addThing_72 : decode cX9_addThing 72 = .ok (.getfield 9, 3) := by decide +kernel
theorem dX9_addThing_75 : decode cX9_addThing 75 = .ok (.iload 6, 2) := by decide +kernel
theorem dX9_addThing_77 : decode cX9_addThing 77 = .ok (.bipush 6, 2) := by decide +kernel
theorem dX9_addThing_79 : decode cX9_addThing 79 = .ok (.iadd, 1) := by decide +kernel
theorem dX9_addThing_80 : decode cX9_addThing 80 = .ok (.iconst 0, 1) := by decide +kernel
theorem dX9_addThing_81 : decode cX9_addThing 81 = .ok (.iastore, 1) := by decide +kernel
theorem dX9_addThing_82 : decode cX9_addThing 82 = .ok (.aload_n 0, 1) := by decide +kernel
theorem dX9_addThing_83 : decode cX9_addThing 83 = .ok (.getfield 9, 3) := by decide +kernel
theorem dX9_addThing_86 : decode cX9_addThing 86 = .ok (.iload 6, 2) := by decide +kernel
theorem dX9_addThing_88 : decode cX9_addThing 88 = .ok (.bipush 7, 2) := by decide +kernel
theorem dX9_addThing_90 : decode cX9_addThing 90 = .ok (.iadd, 1) := by decide +kernel
theorem dX9_addThing_91 : decode cX9_addThing 91 = .ok (.iconst 0, 1) := by decide +kernel
theorem dX9_addThing_92 : decode cX9_addThing 92 = .ok (.iastore, 1) := by decide +kernel
theorem dX9_addThing_93 : decode cX9_addThing 93 = .ok (.aload_n 0, 1) := by decide +kernel
theorem dX9_addThing_94 : decode cX9_addThing 94 = .ok (.dup, 1) := by decide +kernel
theorem dX9_addThing_95 : decode cX9_addThing 95 = .ok (.getfield 43, 3) := by decide +kernel
theorem dX9_addThing_98 : decode cX9_addThing 98 = .ok (.iconst 1, 1) := by decide +kernel
theorem dX9_addThing_99 : decode cX9_addThing 99 = .ok (.iadd, 1) := by decide +kernel
theorem dX9_addThing_100 : decode cX9_addThing 100 = .ok (.putfield 43, 3) := by decide +kernel
theorem dX9_addThing_103 : decode cX9_addThing 103 = .ok (.aload_n 0, 1) := by decide +kernel
theorem dX9_addThing_104 : decode cX9_addThing 104 = .ok (.getfield 43, 3) := by decide +kernel
theorem dX9_addThing_107 : decode cX9_addThing 107 = .ok (.iconst 1, 1) := by decide +kernel
theorem dX9_addThing_108 : decode cX9_addThing 108 = .ok (.isub, 1) := by decide +kernel
theorem dX9_addThing_109 : decode cX9_addThing 109 = .ok (.ireturn, 1) := by decide +kernel
set_option maxRecDepth 20000 in
theorem s_X9_addThing {w : Wd} {d : Nat} {P : Int → IM → LM → Prop} {i : IM} {l : LM} (p0 : Int) (p1 : Int) (p2 : Int) (p3 : Int) (p4 : Int)  (h : ((0 ≤ ((i 7 8) * 8) + 0 ∧ ((i 7 8) * 8) + 0 < 80) ∧ (rg p0) ∧ (0 ≤ ((i 7 8) * 8) + 1 ∧ ((i 7 8) * 8) + 1 < 80) ∧ (rg p1) ∧ (0 ≤ ((i 7 8) * 8) + 2 ∧ ((i 7 8) * 8) + 2 < 80) ∧ (rg p2) ∧ (0 ≤ ((i 7 8) * 8) + 3 ∧ ((i 7 8) * 8) + 3 < 80) ∧ (rg p3) ∧ (0 ≤ ((i 7 8) * 8) + 4 ∧ ((i 7 8) * 8) + 4 < 80) ∧ (rg p4) ∧ (0 ≤ ((i 7 8) * 8) + 5 ∧ ((i 7 8) * 8) + 5 < 80) ∧ (0 ≤ ((i 7 8) * 8) + 6 ∧ ((i 7 8) * 8) + 6 < 80) ∧ (0 ≤ ((i 7 8) * 8) + 7 ∧ ((i 7 8) * 8) + 7 < 80) ∧ (rg (((u2 (u2 (u2 (u2 (u2 (u2 (u2 (u2 i 8 (((i 7 8) * 8) + 0) p0) 8 (((i 7 8) * 8) + 1) p1) 8 (((i 7 8) * 8) + 2) p2) 8 (((i 7 8) * 8) + 3) p3) 8 (((i 7 8) * 8) + 4) p4) 8 (((i 7 8) * 8) + 5) 0) 8 (((i 7 8) * 8) + 6) 0) 8 (((i 7 8) * 8) + 7) 0) 7 8) + 1)) ∧ (rg (((u2 (u2 (u2 (u2 (u2 (u2 (u2 (u2 (u2 i 8 (((i 7 8) * 8) + 0) p0) 8 (((i 7 8) * 8) + 1) p1) 8 (((i 7 8) * 8) + 2) p2) 8 (((i 7 8) * 8) + 3) p3) 8 (((i 7 8) * 8) + 4) p4) 8 (((i 7 8) * 8) + 5) 0) 8 (((i 7 8) * 8) + 6) 0) 8 (((i 7 8) * 8) + 7) 0) 7 8 (((u2 (u2 (u2 (u2 (u2 (u2 (u2 (u2 i 8 (((i 7 8) * 8) + 0) p0) 8 (((i 7 8) * 8) + 1) p1) 8 (((i 7 8) * 8) + 2) p2) 8 (((i 7 8) * 8) + 3) p3) 8 (((i 7 8) * 8) + 4) p4) 8 (((i 7 8) * 8) + 5) 0) 8 (((i 7 8) * 8) + 6) 0) 8 (((i 7 8) * 8) + 7) 0) 7 8) + 1)) 7 8) - 1)) ∧ P (((u2 (u2 (u2 (u2 (u2 (u2 (u2 (u2 (u2 i 8 (((i 7 8) * 8) + 0) p0) 8 (((i 7 8) * 8) + 1) p1) 8 (((i 7 8) * 8) + 2) p2) 8 (((i 7 8) * 8) + 3) p3) 8 (((i 7 8) * 8) + 4) p4) 8 (((i 7 8) * 8) + 5) 0) 8 (((i 7 8) * 8) + 6) 0) 8 (((i 7 8) * 8) + 7) 0) 7 8 (((u2 (u2 (u2 (u2 (u2 (u2 (u2 (u2 i 8 (((i 7 8) * 8) + 0) p0) 8 (((i 7 8) * 8) + 1) p1) 8 (((i 7 8) * 8) + 2) p2) 8 (((i 7 8) * 8) + 3) p3) 8 (((i 7 8) * 8) + 4) p4) 8 (((i 7 8) * 8) + 5) 0) 8 (((i 7 8) * 8) + 6) 0) 8 (((i 7 8) * 8) + 7) 0) 7 8) + 1)) 7 8) - 1) (u2 (u2 (u2 (u2 (u2 (u2 (u2 (u2 (u2 i 8 (((i 7 8) * 8) + 0) p0) 8 (((i 7 8) * 8) + 1) p1) 8 (((i 7 8) * 8) + 2) p2) 8 (((i 7 8) * 8) + 3) p3) 8 (((i 7 8) * 8) + 4) p4) 8 (((i 7 8) * 8) + 5) 0) 8 (((i 7 8) * 8) + 6) 0) 8 (((i 7 8) * 8) + 7) 0) 7 8 (((u2 (u2 (u2 (u2 (u2 (u2 (u2 (u2 i 8 (((i 7 8) * 8) + 0) p0) 8 (((i 7 8) * 8) + 1) p1) 8 (((i 7 8) * 8) + 2) p2) 8 (((i 7 8) * 8) + 3) p3) 8 (((i 7 8) * 8) + 4) p4) 8 (((i 7 8) * 8) + 5) 0) 8 (((i 7 8) * 8) + 6) 0) 8 (((i 7 8) * 8) + 7) 0) 7 8) + 1)) l)) : gI w d X_X9_addThing P i l 0 [(0, vR (some 7)), (1, vI p0), (2, vI p1), (3, vI p2), (4, vI p3), (5, vI p4)] [] := by
  obtain ⟨ob2, ob3, ob4, ob5, ob6, ob7, ob8, ob9, ob10, ob11, ob12, ob13, ob14, ob16, ob18, h⟩ := h
  refine g_aload_n (pc' := 1) 0 dX9_addThing_0 rfl rfl ?_
  refine g_getI (pc' := 4) (z := 8) rfl fl_X9_43 rfl rfl dX9_addThing_1 rfl (fun rg1 => ?_)
  refine g_bipush (pc' := 6) dX9_addThing_4 rfl rfl ?_
  refine g_imul (pc' := 7) dX9_addThing_6 rfl ?_
  refine g_istore (pc' := 9) (L' := [(6, vI ((i 7 8) * 8)), (0, vR (some 7)), (1, vI p0), (2, vI p1), (3, vI p2), (4, vI p3), (5, vI p4)]) dX9_addThing_7 rfl (Nat.le_of_ble_eq_true rfl) rfl ?_
  refine g_aload_n (pc' := 10) 1 dX9_addThing_9 rfl rfl ?_
  refine g_getR (pc' := 13) (o := some 8) fl_X9_9 rfl rfl rfl dX9_addThing_10 rfl ?_
  refine g_iload (pc' := 15) 0 dX9_addThing_13 rfl rfl ?_
  refine g_iconst (pc' := 16) dX9_addThing_15 rfl ?_
  refine g_iadd (pc' := 17) dX9_addThing_16 rfl ?_
  refine g_iload_n (pc' := 18) 2 dX9_addThing_17 rfl rfl ?_
  refine g_iast (pc' := 19) (N := 80) rfl rfl (Nat.lt_of_lt_of_le (Nat.lt_succ_self _) (Nat.le_of_ble_eq_true rfl)) ob2 ob3 dX9_addThing_18 rfl ?_
  refine g_aload_n (pc' := 20) 1 dX9_addThing_19 rfl rfl ?_
  refine g_getR (pc' := 23) (o := some 8) fl_X9_9 rfl rfl rfl dX9_addThing_20 rfl ?_
  refine g_iload (pc' := 25) 0 dX9_addThing_23 rfl rfl ?_
  refine g_iconst (pc' := 26) dX9_addThing_25 rfl ?_
  refine g_iadd (pc' := 27) dX9_addThing_26 rfl ?_
  refine g_iload_n (pc' := 28) 3 dX9_addThing_27 rfl rfl ?_
  refine g_iast (pc' := 29) (N := 80) rfl rfl (Nat.lt_of_lt_of_le (Nat.lt_succ_self _) (Nat.le_of_ble_eq_true rfl)) ob4 ob5 dX9_addThing_28 rfl ?_
  refine g_aload_n (pc' := 30) 1 dX9_addThing_29 rfl rfl ?_
  refine g_getR (pc' := 33) (o := some 8) fl_X9_9 rfl rfl rfl dX9_addThing_30 rfl ?_
  refine g_iload (pc' := 35) 0 dX9_addThing_33 rfl rfl ?_
  refine g_iconst (pc' := 36) dX9_addThing_35 rfl ?_
  refine g_iadd (pc' := 37) dX9_addThing_36 rfl ?_
  refine g_iload_n (pc' := 38) 4 dX9_addThing_37 rfl rfl ?_
  refine g_iast (pc' := 39) (N := 80) rfl rfl (Nat.lt_of_lt_of_le (Nat.lt_succ_self _) (Nat.le_of_ble_eq_true rfl)) ob6 ob7 dX9_addThing_38 rfl ?_
  refine g_aload_n (pc' := 40) 1 dX9_addThing_39 rfl rfl ?_
  refine g_getR (pc' := 43) (o := some 8) fl_X9_9 rfl rfl rfl dX9_addThing_40 rfl ?_
  refine g_iload (pc' := 45) 0 dX9_addThing_43 rfl rfl ?_
  refine g_iconst (pc' := 46) dX9_addThing_45 rfl ?_
  refine g_iadd (pc' := 47) dX9_addThing_46 rfl ?_
  refine g_iload (pc' := 49) 5 dX9_addThing_47 rfl rfl ?_
  refine g_iast (pc' := 50) (N := 80) rfl rfl (Nat.lt_of_lt_of_le (Nat.lt_succ_self _) (Nat.le_of_ble_eq_true rfl)) ob8 ob9 dX9_addThing_49 rfl ?_
  refine g_aload_n (pc' := 51) 1 dX9_addThing_50 rfl rfl ?_
  refine g_getR (pc' := 54) (o := some 8) fl_X9_9 rfl rfl rfl dX9_addThing_51 rfl ?_
  refine g_iload (pc' := 56) 0 dX9_addThing_54 rfl rfl ?_
  refine g_iconst (pc' := 57) dX9_addThing_56 rfl ?_
  refine g_iadd (pc' := 58) dX9_addThing_57 rfl ?_
  refine g_iload (pc' := 60) 6 dX9_addThing_58 rfl rfl ?_
  refine g_iast (pc' := 61) (N := 80) rfl rfl (Nat.lt_of_lt_of_le (Nat.lt_succ_self _) (Nat.le_of_ble_eq_true rfl)) ob10 ob11 dX9_addThing_60 rfl ?_
  refine g_aload_n (pc' := 62) 1 dX9_addThing_61 rfl rfl ?_
  refine g_getR (pc' := 65) (o := some 8) fl_X9_9 rfl rfl rfl dX9_addThing_62 rfl ?_
  refine g_iload (pc' := 67) 0 dX9_addThing_65 rfl rfl ?_
  refine g_iconst (pc' := 68) dX9_addThing_67 rfl ?_
  refine g_iadd (pc' := 69) dX9_addThing_68 rfl ?_
  refine g_iconst (pc' := 70) dX9_addThing_69 rfl ?_
  refine g_iast (pc' := 71) (N := 80) rfl rfl (Nat.lt_of_lt_of_le (Nat.lt_succ_self _) (Nat.le_of_ble_eq_true rfl)) ob12 (rg_lit rfl) dX9_addThing_70 rfl ?_
  refine g_aload_n (pc' := 72) 1 dX9_addThing_71 rfl rfl ?_
  refine g_getR (pc' := 75) (o := some 8) fl_X9_9 rfl rfl rfl dX9_addThing_72 rfl ?_
  refine g_iload (pc' := 77) 0 dX9_addThing_75 rfl rfl ?_
  refine g_bipush (pc' := 79) dX9_addThing_77 rfl rfl ?_
  refine g_iadd (pc' := 80) dX9_addThing_79 rfl ?_
  refine g_iconst (pc' := 81) dX9_addThing_80 rfl ?_
  refine g_iast (pc' := 82) (N := 80) rfl rfl (Nat.lt_of_lt_of_le (Nat.lt_succ_self _) (Nat.le_of_ble_eq_true rfl)) ob13 (rg_lit rfl) dX9_addThing_81 rfl ?_
  refine g_aload_n (pc' := 83) 1 dX9_addThing_82 rfl rfl ?_
  refine g_getR (pc' := 86) (o := some 8) fl_X9_9 rfl rfl rfl dX9_addThing_83 rfl ?_
  refine g_iload (pc' := 88) 0 dX9_addThing_86 rfl rfl ?_
  refine g_bipush (pc' := 90) dX9_addThing_88 rfl rfl ?_
  refine g_iadd (pc' := 91) dX9_addThing_90 rfl ?_
  refine g_iconst (pc' := 92) dX9_addThing_91 rfl ?_
  refine g_iast (pc' := 93) (N := 80) rfl rfl (Nat.lt_of_lt_of_le (Nat.lt_succ_self _) (Nat.le_of_ble_eq_true rfl)) ob14 (rg_lit rfl) dX9_addThing_92 rfl ?_
  refine g_aload_n (pc' := 94) 1 dX9_addThing_93 rfl rfl ?_
  refine g_dup (pc' := 95) dX9_addThing_94 rfl rfl ?_
  refine g_getI (pc' := 98) (z := 8) rfl fl_X9_43 rfl rfl dX9_addThing_95 rfl (fun rg15 => ?_)
  refine g_iconst (pc' := 99) dX9_addThing_98 rfl ?_
  refine g_iadd (pc' := 100) dX9_addThing_99 rfl ?_
  refine g_putI (pc' := 103) (z := 8) rfl fp_X9_43 rfl rfl ob16 dX9_addThing_100 rfl ?_
  refine g_aload_n (pc' := 104) 1 dX9_addThing_103 rfl rfl ?_
  refine g_getI (pc' := 107) (z := 8) rfl fl_X9_43 rfl rfl dX9_addThing_104 rfl (fun rg17 => ?_)
  refine g_iconst (pc' := 108) dX9_addThing_107 rfl ?_
  refine g_isub (pc' := 109) dX9_addThing_108 rfl ?_
  exact g_retI rfl ob18 dX9_addThing_109 h
theorem e_X9_addThing {w : Wd} {d : Nat} {P : Int → IM → LM → Prop} {i : IM} {l : LM} {p0 : Int} {p1 : Int} {p2 : Int} {p3 : Int} {p4 : Int}  (h : gI w d X_X9_addThing P i l 0 [(0, vR (some 7)), (1, vI p0), (2, vI p1), (3, vI p2), (4, vI p3), (5, vI p4)] []) : cI w (d + 1) X_X9_addThing [vR (some 7), vI p0, vI p1, vI p2, vI p3, vI p4] i l P := CI_of (by decide +kernel) (Nat.le_of_ble_eq_true rfl) h

theorem dX9_addWindow_0 : decode cX9_addWindow 0 = .ok (.aload_n 0, 1) := by decide +kernel
theorem dX9_addWindow_1 : decode cX9_addWindow 1 = .ok (.getfield 46, 3) := by decide +kernel
theorem dX9_addWindow_4 : decode cX9_addWindow 4 = .ok (.iconst 3, 1) := by decide +kernel
theorem dX9_addWindow_5 : decode cX9_addWindow 5 = .ok (.imul, 1) := by decide +kernel
theorem dX9_addWindow_6 : decode cX9_addWindow 6 = .ok (.istore 4, 2) := by decide +kernel
theorem dX9_addWindow_8 : decode cX9_addWindow 8 = .ok (.aload_n 0, 1) := by decide +kernel
theorem dX9_addWindow_9 : decode cX9_addWindow 9 = .ok (.getfield 15, 3) := by decide +kernel
theorem dX9_addWindow_12 : decode cX9_addWindow 12 = .ok (.iload 4, 2) := by decide +kernel
theorem dX9_addWindow_14 : decode cX9_addWindow 14 = .ok (.iconst 0, 1) := by decide +kernel
theorem dX9_addWindow_15 : decode cX9_addWindow 15 = .ok (.iadd, 1) := by decide +kernel
theorem dX9_addWindow_16 : decode cX9_addWindow 16 = .ok (.iload_n 1, 1) := by decide +kernel
theorem dX9_addWindow_17 : decode cX9_addWindow 17 = .ok (.iastore, 1) := by decide +kernel
theorem dX9_addWindow_18 : decode cX9_addWindow 18 = .ok (.aload_n 0, 1) := by decide +kernel
theorem dX9_addWindow_19 : decode cX9_addWindow 19 = .ok (.getfield 15, 3) := by decide +kernel
theorem dX9_addWindow_22 : decode cX9_addWindow 22 = .ok (.iload 4, 2) := by decide +kernel
theorem dX9_addWindow_24 : decode cX9_addWindow 24 = .ok (.iconst 1, 1) := by decide +kernel
theorem dX9_addWindow_25 : decode cX9_addWindow 25 = .ok (.iadd, 1) := by decide +kernel
theorem dX9_addWindow_26 : decode cX9_addWindow 26 = .ok (.iload_n 2, 1) := by decide +kernel
theorem dX9_addWindow_27 : decode cX9_addWindow 27 = .ok (.iastore, 1) := by decide +kernel
theorem dX9_addWindow_28 : decode cX9_addWindow 28 = .ok (.aload_n 0, 1) := by decide +kernel
theorem dX9_addWindow_29 : decode cX9_addWindow 29 = .ok (.getfield 15, 3) := by decide +kernel
theorem dX9_addWindow_32 : decode cX9_addWindow 32 = .ok (.iload 4, 2) := by decide +kernel
theorem dX9_addWindow_34 : decode cX9_addWindow 34 = .ok (.iconst 2, 1) := by decide +kernel
theorem dX9_addWindow_35 : decode cX9_addWindow 35 = .ok (.iadd, 1) := by decide +kernel
theorem dX9_addWindow_36 : decode cX9_addWindow 36 = .ok (.iload_n 3, 1) := by decide +kernel
theorem dX9_addWindow_37 : decode cX9_addWindow 37 = .ok (.iastore, 1) := by decide +kernel
theorem dX9_addWindow_38 : decode cX9_addWindow 38 = .ok (.aload_n 0, 1) := by decide +kernel
theorem dX9_addWindow_39 : decode cX9_addWindow 39 = .ok (.dup, 1) := by decide +kernel
theorem dX9_addWindow_40 : decode cX9_addWindow 40 = .ok (.getfield 46, 3) := by decide +kernel
theorem dX9_addWindow_43 : decode cX9_addWindow 43 = .ok (.iconst 1, 1) := by decide +kernel
theorem dX9_addWindow_44 : decode cX9_addWindow 44 = .ok (.iadd, 1) := by decide +kernel
theorem dX9_addWindow_45 : decode cX9_addWindow 45 = .ok (.putfield 46, 3) := by decide +kernel
theorem dX9_addWindow_48 : decode cX9_addWindow 48 = .ok (.aload_n 0, 1) := by decide +kernel
theorem dX9_addWindow_49 : decode cX9_addWindow 49 = .ok (.getfield 46, 3) := by decide +kernel
theorem dX9_addWindow_52 : decode cX9_addWindow 52 = .ok (.iconst 1, 1) := by decide +kernel
theorem dX9_addWindow_53 : decode cX9_addWindow 53 = .ok (.isub, 1) := by decide +kernel
theorem dX9_addWindow_54 : decode cX9_addWindow 54 = .ok (.ireturn, 1) := by decide +kernel
set_option maxRecDepth 20000 in
theorem s_X9_addWindow {w : Wd} {d : Nat} {P : Int → IM → LM → Prop} {i : IM} {l : LM} (p0 : Int) (p1 : Int) (p2 : Int)  (h : ((0 ≤ ((i 7 9) * 3) + 0 ∧ ((i 7 9) * 3) + 0 < 24) ∧ (rg p0) ∧ (0 ≤ ((i 7 9) * 3) + 1 ∧ ((i 7 9) * 3) + 1 < 24) ∧ (rg p1) ∧ (0 ≤ ((i 7 9) * 3) + 2 ∧ ((i 7 9) * 3) + 2 < 24) ∧ (rg p2) ∧ (rg (((u2 (u2 (u2 i 9 (((i 7 9) * 3) + 0) p0) 9 (((i 7 9) * 3) + 1) p1) 9 (((i 7 9) * 3) + 2) p2) 7 9) + 1)) ∧ (rg (((u2 (u2 (u2 (u2 i 9 (((i 7 9) * 3) + 0) p0) 9 (((i 7 9) * 3) + 1) p1) 9 (((i 7 9) * 3) + 2) p2) 7 9 (((u2 (u2 (u2 i 9 (((i 7 9) * 3) + 0) p0) 9 (((i 7 9) * 3) + 1) p1) 9 (((i 7 9) * 3) + 2) p2) 7 9) + 1)) 7 9) - 1)) ∧ P (((u2 (u2 (u2 (u2 i 9 (((i 7 9) * 3) + 0) p0) 9 (((i 7 9) * 3) + 1) p1) 9 (((i 7 9) * 3) + 2) p2) 7 9 (((u2 (u2 (u2 i 9 (((i 7 9) * 3) + 0) p0) 9 (((i 7 9) * 3) + 1) p1) 9 (((i 7 9) * 3) + 2) p2) 7 9) + 1)) 7 9) - 1) (u2 (u2 (u2 (u2 i 9 (((i 7 9) * 3) + 0) p0) 9 (((i 7 9) * 3) + 1) p1) 9 (((i 7 9) * 3) + 2) p2) 7 9 (((u2 (u2 (u2 i 9 (((i 7 9) * 3) + 0) p0) 9 (((i 7 9) * 3) + 1) p1) 9 (((i 7 9) * 3) + 2) p2) 7 9) + 1)) l)) : gI w d X_X9_addWindow P i l 0 [(0, vR (some 7)), (1, vI p0), (2, vI p1), (3, vI p2)] [] := by
  obtain ⟨ob2, ob3, ob4, ob5, ob6, ob7, ob9, ob11, h⟩ := h
  refine g_aload_n (pc' := 1) 0 dX9_addWindow_0 rfl rfl ?_
  refine g_getI (pc' := 4) (z := 9) rfl fl_X9_46 rfl rfl dX9_addWindow_1 rfl (fun rg1 => ?_)
  refine g_iconst (pc' := 5) dX9_addWindow_4 rfl ?_
  refine g_imul (pc' := 6) dX9_addWindow_5 rfl ?_
  refine g_istore (pc' := 8) (L' := [(4, vI ((i 7 9) * 3)), (0, vR (some 7)), (1, vI p0), (2, vI p1), (3, vI p2)]) dX9_addWindow_6 rfl (Nat.le_of_ble_eq_true rfl) rfl ?_
  refine g_aload_n (pc' := 9) 1 dX9_addWindow_8 rfl rfl ?_
  refine g_getR (pc' := 12) (o := some 9) fl_X9_15 rfl rfl rfl dX9_addWindow_9 rfl ?_
  refine g_iload (pc' := 14) 0 dX9_addWindow_12 rfl rfl ?_
  refine g_iconst (pc' := 15) dX9_addWindow_14 rfl ?_
  refine g_iadd (pc' := 16) dX9_addWindow_15 rfl ?_
  refine g_iload_n (pc' := 17) 2 dX9_addWindow_16 rfl rfl ?_
  refine g_iast (pc' := 18) (N := 24) rfl rfl (Nat.lt_of_lt_of_le (Nat.lt_succ_self _) (Nat.le_of_ble_eq_true rfl)) ob2 ob3 dX9_addWindow_17 rfl ?_
  refine g_aload_n (pc' := 19) 1 dX9_addWindow_18 rfl rfl ?_
  refine g_getR (pc' := 22) (o := some 9) fl_X9_15 rfl rfl rfl dX9_addWindow_19 rfl ?_
  refine g_iload (pc' := 24) 0 dX9_addWindow_22 rfl rfl ?_
  refine g_iconst (pc' := 25) dX9_addWindow_24 rfl ?_
  refine g_iadd (pc' := 26) dX9_addWindow_25 rfl ?_
  refine g_iload_n (pc' := 27) 3 dX9_addWindow_26 rfl rfl ?_
  refine g_iast (pc' := 28) (N := 24) rfl rfl (Nat.lt_of_lt_of_le (Nat.lt_succ_self _) (Nat.le_of_ble_eq_true rfl)) ob4 ob5 dX9_addWindow_27 rfl ?_
  refine g_aload_n (pc' := 29) 1 dX9_addWindow_28 rfl rfl ?_
  refine g_getR (pc' := 32) (o := some 9) fl_X9_15 rfl rfl rfl dX9_addWindow_29 rfl ?_
  refine g_iload (pc' := 34) 0 dX9_addWindow_32 rfl rfl ?_
  refine g_iconst (pc' := 35) dX9_addWindow_34 rfl ?_
  refine g_iadd (pc' := 36) dX9_addWindow_35 rfl ?_
  refine g_iload_n (pc' := 37) 4 dX9_addWindow_36 rfl rfl ?_
  refine g_iast (pc' := 38) (N := 24) rfl rfl (Nat.lt_of_lt_of_le (Nat.lt_succ_self _) (Nat.le_of_ble_eq_true rfl)) ob6 ob7 dX9_addWindow_37 rfl ?_
  refine g_aload_n (pc' := 39) 1 dX9_addWindow_38 rfl rfl ?_
  refine g_dup (pc' := 40) dX9_addWindow_39 rfl rfl ?_
  refine g_getI (pc' := 43) (z := 9) rfl fl_X9_46 rfl rfl dX9_addWindow_40 rfl (fun rg8 => ?_)
  refine g_iconst (pc' := 44) dX9_addWindow_43 rfl ?_
  refine g_iadd (pc' := 45) dX9_addWindow_44 rfl ?_
  refine g_putI (pc' := 48) (z := 9) rfl fp_X9_46 rfl rfl ob9 dX9_addWindow_45 rfl ?_
  refine g_aload_n (pc' := 49) 1 dX9_addWindow_48 rfl rfl ?_
  refine g_getI (pc' := 52) (z := 9) rfl fl_X9_46 rfl rfl dX9_addWindow_49 rfl (fun rg10 => ?_)
  refine g_iconst (pc' := 53) dX9_addWindow_52 rfl ?_
  refine g_isub (pc' := 54) dX9_addWindow_53 rfl ?_
  exact g_retI rfl ob11 dX9_addWindow_54 h
theorem e_X9_addWindow {w : Wd} {d : Nat} {P : Int → IM → LM → Prop} {i : IM} {l : LM} {p0 : Int} {p1 : Int} {p2 : Int}  (h : gI w d X_X9_addWindow P i l 0 [(0, vR (some 7)), (1, vI p0), (2, vI p1), (3, vI p2)] []) : cI w (d + 1) X_X9_addWindow [vR (some 7), vI p0, vI p1, vI p2] i l P := CI_of (by decide +kernel) (Nat.le_of_ble_eq_true rfl) h

theorem dX9_addWalk_0 : decode cX9_addWalk 0 = .ok (.aload_n 0, 1) := by decide +kernel
theorem dX9_addWalk_1 : decode cX9_addWalk 1 = .ok (.getfield 49, 3) := by decide +kernel
theorem dX9_addWalk_4 : decode cX9_addWalk 4 = .ok (.iconst 3, 1) := by decide +kernel
theorem dX9_addWalk_5 : decode cX9_addWalk 5 = .ok (.imul, 1) := by decide +kernel
theorem dX9_addWalk_6 : decode cX9_addWalk 6 = .ok (.istore 4, 2) := by decide +kernel
theorem dX9_addWalk_8 : decode cX9_addWalk 8 = .ok (.aload_n 0, 1) := by decide +kernel
theorem dX9_addWalk_9 : decode cX9_addWalk 9 = .ok (.getfield 30, 3) := by decide +kernel
theorem dX9_addWalk_12 : decode cX9_addWalk 12 = .ok (.iload 4, 2) := by decide +kernel
theorem dX9_addWalk_14 : decode cX9_addWalk 14 = .ok (.iload_n 1, 1) := by decide +kernel
theorem dX9_addWalk_15 : decode cX9_addWalk 15 = .ok (.iastore, 1) := by decide +kernel
theorem dX9_addWalk_16 : decode cX9_addWalk 16 = .ok (.aload_n 0, 1) := by decide +kernel
theorem dX9_addWalk_17 : decode cX9_addWalk 17 = .ok (.getfield 30, 3) := by decide +kernel
theorem dX9_addWalk_20 : decode cX9_addWalk 20 = .ok (.iload 4, 2) := by decide +kernel
theorem dX9_addWalk_22 : decode cX9_addWalk 22 = .ok (.iconst 1, 1) := by decide +kernel
theorem dX9_addWalk_23 : decode cX9_addWalk 23 = .ok (.iadd, 1) := by decide +kernel
theorem dX9_addWalk_24 : decode cX9_addWalk 24 = .ok (.iload_n 2, 1) := by decide +kernel
theorem dX9_addWalk_25 : decode cX9_addWalk 25 = .ok (.iastore, 1) := by decide +kernel
theorem dX9_addWalk_26 : decode cX9_addWalk 26 = .ok (.aload_n 0, 1) := by decide +kernel
theorem dX9_addWalk_27 : decode cX9_addWalk 27 = .ok (.getfield 30, 3) := by decide +kernel
theorem dX9_addWalk_30 : decode cX9_addWalk 30 = .ok (.iload 4, 2) := by decide +kernel
theorem dX9_addWalk_32 : decode cX9_addWalk 32 = .ok (.iconst 2, 1) := by decide +kernel
theorem dX9_addWalk_33 : decode cX9_addWalk 33 = .ok (.iadd, 1) := by decide +kernel
theorem dX9_addWalk_34 : decode cX9_addWalk 34 = .ok (.iload_n 3, 1) := by decide +kernel
theorem dX9_addWalk_35 : decode cX9_addWalk 35 = .ok (.iastore, 1) := by decide +kernel
theorem dX9_addWalk_36 : decode cX9_addWalk 36 = .ok (.aload_n 0, 1) := by decide +kernel
theorem dX9_addWalk_37 : decode cX9_addWalk 37 = .ok (.dup, 1) := by decide +kernel
theorem dX9_addWalk_38 : decode cX9_addWalk 38 = .ok (.getfield 49, 3) := by decide +kernel
theorem dX9_addWalk_41 : decode cX9_addWalk 41 = .ok (.iconst 1, 1) := by decide +kernel
theorem dX9_addWalk_42 : decode cX9_addWalk 42 = .ok (.iadd, 1) := by decide +kernel
theorem dX9_addWalk_43 : decode cX9_addWalk 43 = .ok (.putfield 49, 3) := by decide +kernel
theorem dX9_addWalk_46 : decode cX9_addWalk 46 = .ok (.return_, 1) := by decide +kernel
set_option maxRecDepth 20000 in
theorem s_X9_addWalk {w : Wd} {d : Nat} {P : IM → LM → Prop} {i : IM} {l : LM} (p0 : Int) (p1 : Int) (p2 : Int)  (h : ((0 ≤ (i 7 11) * 3 ∧ (i 7 11) * 3 < 180) ∧ (rg p0) ∧ (0 ≤ ((i 7 11) * 3) + 1 ∧ ((i 7 11) * 3) + 1 < 180) ∧ (rg p1) ∧ (0 ≤ ((i 7 11) * 3) + 2 ∧ ((i 7 11) * 3) + 2 < 180) ∧ (rg p2) ∧ (rg (((u2 (u2 (u2 i 14 ((i 7 11) * 3) p0) 14 (((i 7 11) * 3) + 1) p1) 14 (((i 7 11) * 3) + 2) p2) 7 11) + 1)) ∧ P (u2 (u2 (u2 (u2 i 14 ((i 7 11) * 3) p0) 14 (((i 7 11) * 3) + 1) p1) 14 (((i 7 11) * 3) + 2) p2) 7 11 (((u2 (u2 (u2 i 14 ((i 7 11) * 3) p0) 14 (((i 7 11) * 3) + 1) p1) 14 (((i 7 11) * 3) + 2) p2) 7 11) + 1)) l)) : gV w d X_X9_addWalk P i l 0 [(0, vR (some 7)), (1, vI p0), (2, vI p1), (3, vI p2)] [] := by
  obtain ⟨ob2, ob3, ob4, ob5, ob6, ob7, ob9, h⟩ := h
  refine g_aload_n (pc' := 1) 0 dX9_addWalk_0 rfl rfl ?_
  refine g_getI (pc' := 4) (z := 11) rfl fl_X9_49 rfl rfl dX9_addWalk_1 rfl (fun rg1 => ?_)
  refine g_iconst (pc' := 5) dX9_addWalk_4 rfl ?_
  refine g_imul (pc' := 6) dX9_addWalk_5 rfl ?_
  refine g_istore (pc' := 8) (L' := [(4, vI ((i 7 11) * 3)), (0, vR (some 7)), (1, vI p0), (2, vI p1), (3, vI p2)]) dX9_addWalk_6 rfl (Nat.le_of_ble_eq_true rfl) rfl ?_
  refine g_aload_n (pc' := 9) 1 dX9_addWalk_8 rfl rfl ?_
  refine g_getR (pc' := 12) (o := some 14) fl_X9_30 rfl rfl rfl dX9_addWalk_9 rfl ?_
  refine g_iload (pc' := 14) 0 dX9_addWalk_12 rfl rfl ?_
  refine g_iload_n (pc' := 15) 2 dX9_addWalk_14 rfl rfl ?_
  refine g_iast (pc' := 16) (N := 180) rfl rfl (Nat.lt_of_lt_of_le (Nat.lt_succ_self _) (Nat.le_of_ble_eq_true rfl)) ob2 ob3 dX9_addWalk_15 rfl ?_
  refine g_aload_n (pc' := 17) 1 dX9_addWalk_16 rfl rfl ?_
  refine g_getR (pc' := 20) (o := some 14) fl_X9_30 rfl rfl rfl dX9_addWalk_17 rfl ?_
  refine g_iload (pc' := 22) 0 dX9_addWalk_20 rfl rfl ?_
  refine g_iconst (pc' := 23) dX9_addWalk_22 rfl ?_
  refine g_iadd (pc' := 24) dX9_addWalk_23 rfl ?_
  refine g_iload_n (pc' := 25) 3 dX9_addWalk_24 rfl rfl ?_
  refine g_iast (pc' := 26) (N := 180) rfl rfl (Nat.lt_of_lt_of_le (Nat.lt_succ_self _) (Nat.le_of_ble_eq_true rfl)) ob4 ob5 dX9_addWalk_25 rfl ?_
  refine g_aload_n (pc' := 27) 1 dX9_addWalk_26 rfl rfl ?_
  refine g_getR (pc' := 30) (o := some 14) fl_X9_30 rfl rfl rfl dX9_addWalk_27 rfl ?_
  refine g_iload (pc' := 32) 0 dX9_addWalk_30 rfl rfl ?_
  refine g_iconst (pc' := 33) dX9_addWalk_32 rfl ?_
  refine g_iadd (pc' := 34) dX9_addWalk_33 rfl ?_
  refine g_iload_n (pc' := 35) 4 dX9_addWalk_34 rfl rfl ?_
  refine g_iast (pc' := 36) (N := 180) rfl rfl (Nat.lt_of_lt_of_le (Nat.lt_succ_self _) (Nat.le_of_ble_eq_true rfl)) ob6 ob7 dX9_addWalk_35 rfl ?_
  refine g_aload_n (pc' := 37) 1 dX9_addWalk_36 rfl rfl ?_
  refine g_dup (pc' := 38) dX9_addWalk_37 rfl rfl ?_
  refine g_getI (pc' := 41) (z := 11) rfl fl_X9_49 rfl rfl dX9_addWalk_38 rfl (fun rg8 => ?_)
  refine g_iconst (pc' := 42) dX9_addWalk_41 rfl ?_
  refine g_iadd (pc' := 43) dX9_addWalk_42 rfl ?_
  refine g_putI (pc' := 46) (z := 11) rfl fp_X9_49 rfl rfl ob9 dX9_addWalk_43 rfl ?_
  exact g_retV rfl dX9_addWalk_46 h
theorem e_X9_addWalk {w : Wd} {d : Nat} {P : IM → LM → Prop} {i : IM} {l : LM} {p0 : Int} {p1 : Int} {p2 : Int}  (h : gV w d X_X9_addWalk P i l 0 [(0, vR (some 7)), (1, vI p0), (2, vI p1), (3, vI p2)] []) : cVd w (d + 1) X_X9_addWalk [vR (some 7), vI p0, vI p1, vI p2] i l P := CV_of (by decide +kernel) (Nat.le_of_ble_eq_true rfl) h

theorem dX9_placeAt_0 : decode cX9_placeAt 0 = .ok (.iconst (-1), 1) := by decide +kernel
theorem dX9_placeAt_1 : decode cX9_placeAt 1 = .ok (.istore_n 3, 1) := by decide +kernel
theorem dX9_placeAt_2 : decode cX9_placeAt 2 = .ok (.iconst (-1), 1) := by decide +kernel
theorem dX9_placeAt_3 : decode cX9_placeAt 3 = .ok (.istore 4, 2) := by decide +kernel
theorem dX9_placeAt_5 : decode cX9_placeAt 5 = .ok (.iconst 0, 1) := by decide +kernel
theorem dX9_placeAt_6 : decode cX9_placeAt 6 = .ok (.istore 5, 2) := by decide +kernel
theorem dX9_placeAt_8 : decode cX9_placeAt 8 = .ok (.iload 5, 2) := by decide +kernel
theorem dX9_placeAt_10 : decode cX9_placeAt 10 = .ok (.aload_n 0, 1) := by decide +kernel
theorem dX9_placeAt_11 : decode cX9_placeAt 11 = .ok (.getfield 49, 3) := by decide +kernel
theorem dX9_placeAt_14 : decode cX9_placeAt 14 = .ok (.iconst 3, 1) := by decide +kernel
theorem dX9_placeAt_15 : decode cX9_placeAt 15 = .ok (.imul, 1) := by decide +kernel
theorem dX9_placeAt_16 : decode cX9_placeAt 16 = .ok (.if_icmp .ge 68, 3) := by decide +kernel
theorem dX9_placeAt_19 : decode cX9_placeAt 19 = .ok (.aload_n 0, 1) := by decide +kernel
theorem dX9_placeAt_20 : decode cX9_placeAt 20 = .ok (.getfield 30, 3) := by decide +kernel
theorem dX9_placeAt_23 : decode cX9_placeAt 23 = .ok (.iload 5, 2) := by decide +kernel
theorem dX9_placeAt_25 : decode cX9_placeAt 25 = .ok (.iaload, 1) := by decide +kernel
theorem dX9_placeAt_26 : decode cX9_placeAt 26 = .ok (.iload_n 1, 1) := by decide +kernel
theorem dX9_placeAt_27 : decode cX9_placeAt 27 = .ok (.if_icmp .ne 51, 3) := by decide +kernel
theorem dX9_placeAt_30 : decode cX9_placeAt 30 = .ok (.aload_n 0, 1) := by decide +kernel
theorem dX9_placeAt_31 : decode cX9_placeAt 31 = .ok (.getfield 30, 3) := by decide +kernel
theorem dX9_placeAt_34 : decode cX9_placeAt 34 = .ok (.iload 5, 2) := by decide +kernel
theorem dX9_placeAt_36 : decode cX9_placeAt 36 = .ok (.iconst 1, 1) := by decide +kernel
theorem dX9_placeAt_37 : decode cX9_placeAt 37 = .ok (.iadd, 1) := by decide +kernel
theorem dX9_placeAt_38 : decode cX9_placeAt 38 = .ok (.iaload, 1) := by decide +kernel
theorem dX9_placeAt_39 : decode cX9_placeAt 39 = .ok (.iload_n 2, 1) := by decide +kernel
theorem dX9_placeAt_40 : decode cX9_placeAt 40 = .ok (.if_icmp .gt 38, 3) := by decide +kernel
theorem dX9_placeAt_43 : decode cX9_placeAt 43 = .ok (.aload_n 0, 1) := by decide +kernel
theorem dX9_placeAt_44 : decode cX9_placeAt 44 = .ok (.getfield 30, 3) := by decide +kernel
theorem dX9_placeAt_47 : decode cX9_placeAt 47 = .ok (.iload 5, 2) := by decide +kernel
theorem dX9_placeAt_49 : decode cX9_placeAt 49 = .ok (.iconst 1, 1) := by decide +kernel
theorem dX9_placeAt_50 : decode cX9_placeAt 50 = .ok (.iadd, 1) := by decide +kernel
theorem dX9_placeAt_51 : decode cX9_placeAt 51 = .ok (.iaload, 1) := by decide +kernel
theorem dX9_placeAt_52 : decode cX9_placeAt 52 = .ok (.iload 4, 2) := by decide +kernel
theorem dX9_placeAt_54 : decode cX9_placeAt 54 = .ok (.if_icmp .lt 24, 3) := by decide +kernel
theorem dX9_placeAt_57 : decode cX9_placeAt 57 = .ok (.aload_n 0, 1) := by decide +kernel
theorem dX9_placeAt_58 : decode cX9_placeAt 58 = .ok (.getfield 30, 3) := by decide +kernel
theorem dX9_placeAt_61 : decode cX9_placeAt 61 = .ok (.iload 5, 2) := by decide +kernel
theorem dX9_placeAt_63 : decode cX9_placeAt 63 = .ok (.iconst 1, 1) := by decide +kernel
theorem dX9_placeAt_64 : decode cX9_placeAt 64 = .ok (.iadd, 1) := by decide +kernel
theorem dX9_placeAt_65 : decode cX9_placeAt 65 = .ok (.iaload, 1) := by decide +kernel
theorem dX9_placeAt_66 : decode cX9_placeAt 66 = .ok (.istore 4, 2) := by decide +kernel
theorem dX9_placeAt_68 : decode cX9_placeAt 68 = .ok (.aload_n 0, 1) := by decide +kernel
theorem dX9_placeAt_69 : decode cX9_placeAt 69 = .ok (.getfield 30, 3) := by decide +kernel
theorem dX9_placeAt_72 : decode cX9_placeAt 72 = .ok (.iload 5, 2) := by decide +kernel
theorem dX9_placeAt_74 : decode cX9_placeAt 74 = .ok (.iconst 2, 1) := by decide +kernel
theorem dX9_placeAt_75 : decode cX9_placeAt 75 = .ok (.iadd, 1) := by decide +kernel
theorem dX9_placeAt_76 : decode cX9_placeAt 76 = .ok (.iaload, 1) := by decide +kernel
theorem dX9_placeAt_77 : decode cX9_placeAt 77 = .ok (.istore_n 3, 1) := by decide +kernel
theorem dX9_placeAt_78 : decode cX9_placeAt 78 = .ok (.iinc 5 3, 3) := by decide +kernel
theorem dX9_placeAt_81 : decode cX9_placeAt 81 = .ok (.goto (-73), 3) := by decide +kernel
theorem dX9_placeAt_84 : decode cX9_placeAt 84 = .ok (.iload_n 3, 1) := by decide +kernel
theorem dX9_placeAt_85 : decode cX9_placeAt 85 = .ok (.ireturn, 1) := by decide +kernel
set_option maxRecDepth 20000 in
theorem s_X9_placeAt {w : Wd} {d : Nat} {P : Int → IM → LM → Prop} {i : IM} {l : LM} (p0 : Int) (p1 : Int)  (h : gI w d X_X9_placeAt P i l 8 [(0, vR (some 7)), (1, vI p0), (2, vI p1), (3, vI (-1)), (4, vI (-1)), (5, vI 0)] []) : gI w d X_X9_placeAt P i l 0 [(0, vR (some 7)), (1, vI p0), (2, vI p1)] [] := by
  refine g_iconst (pc' := 1) dX9_placeAt_0 rfl ?_
  refine g_istore_n (pc' := 2) (L' := [(3, vI (-1)), (0, vR (some 7)), (1, vI p0), (2, vI p1)]) dX9_placeAt_1 rfl (Nat.le_of_ble_eq_true rfl) rfl ?_
  refine g_iconst (pc' := 3) dX9_placeAt_2 rfl ?_
  refine g_istore (pc' := 5) (L' := [(4, vI (-1)), (3, vI (-1)), (0, vR (some 7)), (1, vI p0), (2, vI p1)]) dX9_placeAt_3 rfl (Nat.le_of_ble_eq_true rfl) rfl ?_
  refine g_iconst (pc' := 6) dX9_placeAt_5 rfl ?_
  refine g_istore (pc' := 8) (L' := [(5, vI 0), (4, vI (-1)), (3, vI (-1)), (0, vR (some 7)), (1, vI p0), (2, vI p1)]) dX9_placeAt_6 rfl (Nat.le_of_ble_eq_true rfl) rfl ?_
  refine g_sub (L' := [(0, vR (some 7)), (1, vI p0), (2, vI p1), (3, vI (-1)), (4, vI (-1)), (5, vI 0)]) [3, 4, 5, 2, 1, 0] rfl ?_
  exact h
theorem e_X9_placeAt {w : Wd} {d : Nat} {P : Int → IM → LM → Prop} {i : IM} {l : LM} {p0 : Int} {p1 : Int}  (h : gI w d X_X9_placeAt P i l 0 [(0, vR (some 7)), (1, vI p0), (2, vI p1)] []) : cI w (d + 1) X_X9_placeAt [vR (some 7), vI p0, vI p1] i l P := CI_of (by decide +kernel) (Nat.le_of_ble_eq_true rfl) h
set_option maxRecDepth 20000 in
theorem s_X9_placeAt_8 {w : Wd} {d : Nat} {P : Int → IM → LM → Prop} {i : IM} {l : LM} (x1 : Int) (x2 : Int) (x3 : Int) (x4 : Int) (x5 : Int)  (h : ((rg x5) ∧ (rg ((i 7 11) * 3)) ∧ (¬ ((i 7 11) * 3 ≤ x5) → 0 ≤ x5 ∧ x5 < 180) ∧ (¬ ((i 7 11) * 3 ≤ x5) → rg x1) ∧ (¬ ((i 7 11) * 3 ≤ x5) → (i 14 x5 = x1) → 0 ≤ x5 + 1 ∧ x5 + 1 < 180) ∧ (¬ ((i 7 11) * 3 ≤ x5) → (i 14 x5 = x1) → rg x2) ∧ (¬ ((i 7 11) * 3 ≤ x5) → (i 14 x5 = x1) → ¬ (x2 < i 14 (x5 + 1)) → rg x4) ∧ (((i 7 11) * 3 ≤ x5) → ((rg x3) ∧ P x3 i l)) ∧ ((¬ ((i 7 11) * 3 ≤ x5) ∧ (¬ (i 14 x5 = x1) ∨ ((x2 < i 14 (x5 + 1)) ∨ (i 14 (x5 + 1) < x4)))) → gI w d X_X9_placeAt P i l 8 [(0, vR (some 7)), (1, vI x1), (2, vI x2), (3, vI x3), (4, vI x4), (5, vI (x5 + 3))] []) ∧ ((¬ ((i 7 11) * 3 ≤ x5) ∧ ((i 14 x5 = x1) ∧ (¬ (x2 < i 14 (x5 + 1)) ∧ (¬ (i 14 (x5 + 1) < x4))))) → ((0 ≤ x5 + 1 ∧ x5 + 1 < 180) ∧ (0 ≤ x5 + 2 ∧ x5 + 2 < 180) ∧ gI w d X_X9_placeAt P i l 8 [(0, vR (some 7)), (1, vI x1), (2, vI x2), (3, vI (i 14 (x5 + 2))), (4, vI (i 14 (x5 + 1))), (5, vI (x5 + 3))] [])))) : gI w d X_X9_placeAt P i l 8 [(0, vR (some 7)), (1, vI x1), (2, vI x2), (3, vI x3), (4, vI x4), (5, vI x5)] [] := by
  refine g_iload (pc' := 10) 5 dX9_placeAt_8 rfl rfl ?_
  refine g_aload_n (pc' := 11) 0 dX9_placeAt_10 rfl rfl ?_
  refine g_getI (pc' := 14) (z := 11) rfl fl_X9_49 rfl rfl dX9_placeAt_11 rfl (fun rg1 => ?_)
  refine g_iconst (pc' := 15) dX9_placeAt_14 rfl ?_
  refine g_imul (pc' := 16) dX9_placeAt_15 rfl ?_
  obtain ⟨hob3, hob4, hob6, hob8, hob10, hob12, hob15, hk23, hk24, hk25⟩ := h
  have hk23g : ((i 7 11) * 3 ≤ x5) → gI w d X_X9_placeAt P i l 84 [(0, vR (some 7)), (1, vI x1), (2, vI x2), (3, vI x3), (4, vI x4), (5, vI x5)] [] := by
    intro hp
    have h := hk23 hp
    obtain ⟨ob18, h⟩ := h
    refine g_iload_n (pc' := 85) 3 dX9_placeAt_84 rfl rfl ?_
    exact g_retI rfl ob18 dX9_placeAt_85 h
  have hk24g : (¬ ((i 7 11) * 3 ≤ x5) ∧ (¬ (i 14 x5 = x1) ∨ ((x2 < i 14 (x5 + 1)) ∨ (i 14 (x5 + 1) < x4)))) → gI w d X_X9_placeAt P i l 78 [(0, vR (some 7)), (1, vI x1), (2, vI x2), (3, vI x3), (4, vI x4), (5, vI x5)] [] := by
    intro hp
    have h := hk24 hp
    refine g_iinc (pc' := 81) (L' := [(5, vI (x5 + 3)), (0, vR (some 7)), (1, vI x1), (2, vI x2), (3, vI x3), (4, vI x4)]) 5 dX9_placeAt_78 rfl (Nat.le_of_ble_eq_true rfl) rfl rfl ?_
    refine g_goto (tgt := 8) dX9_placeAt_81 rfl ?_
    refine g_sub (L' := [(0, vR (some 7)), (1, vI x1), (2, vI x2), (3, vI x3), (4, vI x4), (5, vI (x5 + 3))]) [1, 2, 3, 4, 5, 0] rfl ?_
    exact h
  have hk25g : (¬ ((i 7 11) * 3 ≤ x5) ∧ ((i 14 x5 = x1) ∧ (¬ (x2 < i 14 (x5 + 1)) ∧ (¬ (i 14 (x5 + 1) < x4))))) → gI w d X_X9_placeAt P i l 57 [(0, vR (some 7)), (1, vI x1), (2, vI x2), (3, vI x3), (4, vI x4), (5, vI x5)] [] := by
    intro hp
    have h := hk25 hp
    obtain ⟨ob19, ob21, h⟩ := h
    refine g_aload_n (pc' := 58) 0 dX9_placeAt_57 rfl rfl ?_
    refine g_getR (pc' := 61) (o := some 14) fl_X9_30 rfl rfl rfl dX9_placeAt_58 rfl ?_
    refine g_iload (pc' := 63) 5 dX9_placeAt_61 rfl rfl ?_
    refine g_iconst (pc' := 64) dX9_placeAt_63 rfl ?_
    refine g_iadd (pc' := 65) dX9_placeAt_64 rfl ?_
    refine g_iald (pc' := 66) (N := 180) rfl rfl (Nat.lt_of_lt_of_le (Nat.lt_succ_self _) (Nat.le_of_ble_eq_true rfl)) ob19 dX9_placeAt_65 rfl (fun rg20 => ?_)
    refine g_istore (pc' := 68) (L' := [(4, vI (i 14 (x5 + 1))), (0, vR (some 7)), (1, vI x1), (2, vI x2), (3, vI x3), (5, vI x5)]) dX9_placeAt_66 rfl (Nat.le_of_ble_eq_true rfl) rfl ?_
    refine g_aload_n (pc' := 69) 1 dX9_placeAt_68 rfl rfl ?_
    refine g_getR (pc' := 72) (o := some 14) fl_X9_30 rfl rfl rfl dX9_placeAt_69 rfl ?_
    refine g_iload (pc' := 74) 5 dX9_placeAt_72 rfl rfl ?_
    refine g_iconst (pc' := 75) dX9_placeAt_74 rfl ?_
    refine g_iadd (pc' := 76) dX9_placeAt_75 rfl ?_
    refine g_iald (pc' := 77) (N := 180) rfl rfl (Nat.lt_of_lt_of_le (Nat.lt_succ_self _) (Nat.le_of_ble_eq_true rfl)) ob21 dX9_placeAt_76 rfl (fun rg22 => ?_)
    refine g_istore_n (pc' := 78) (L' := [(3, vI (i 14 (x5 + 2))), (4, vI (i 14 (x5 + 1))), (0, vR (some 7)), (1, vI x1), (2, vI x2), (5, vI x5)]) dX9_placeAt_77 rfl (Nat.le_of_ble_eq_true rfl) rfl ?_
    refine g_iinc (pc' := 81) (L' := [(5, vI (x5 + 3)), (3, vI (i 14 (x5 + 2))), (4, vI (i 14 (x5 + 1))), (0, vR (some 7)), (1, vI x1), (2, vI x2)]) 5 dX9_placeAt_78 rfl (Nat.le_of_ble_eq_true rfl) rfl rfl ?_
    refine g_goto (tgt := 8) dX9_placeAt_81 rfl ?_
    refine g_sub (L' := [(0, vR (some 7)), (1, vI x1), (2, vI x2), (3, vI (i 14 (x5 + 2))), (4, vI (i 14 (x5 + 1))), (5, vI (x5 + 3))]) [3, 4, 5, 1, 2, 0] rfl ?_
    exact h
  refine g_icmp_ge (tgt := 84) (pc' := 19) (hob3) (hob4) Iff.rfl dX9_placeAt_16 rfl rfl (fun c5 => ?_) (fun c5 => ?_)
  · exact hk23g c5
  · refine g_aload_n (pc' := 20) 0 dX9_placeAt_19 rfl rfl ?_
    refine g_getR (pc' := 23) (o := some 14) fl_X9_30 rfl rfl rfl dX9_placeAt_20 rfl ?_
    refine g_iload (pc' := 25) 5 dX9_placeAt_23 rfl rfl ?_
    refine g_iald (pc' := 26) (N := 180) rfl rfl (Nat.lt_of_lt_of_le (Nat.lt_succ_self _) (Nat.le_of_ble_eq_true rfl)) (hob6 c5) dX9_placeAt_25 rfl (fun rg7 => ?_)
    refine g_iload_n (pc' := 27) 1 dX9_placeAt_26 rfl rfl ?_
    refine g_icmp_ne (tgt := 78) (pc' := 30) rg7 (hob8 c5) Iff.rfl dX9_placeAt_27 rfl rfl (fun c9 => ?_) (fun c9 => ?_)
    · exact hk24g ⟨c5, (Or.inl c9)⟩
    · refine g_aload_n (pc' := 31) 0 dX9_placeAt_30 rfl rfl ?_
      refine g_getR (pc' := 34) (o := some 14) fl_X9_30 rfl rfl rfl dX9_placeAt_31 rfl ?_
      refine g_iload (pc' := 36) 5 dX9_placeAt_34 rfl rfl ?_
      refine g_iconst (pc' := 37) dX9_placeAt_36 rfl ?_
      refine g_iadd (pc' := 38) dX9_placeAt_37 rfl ?_
      refine g_iald (pc' := 39) (N := 180) rfl rfl (Nat.lt_of_lt_of_le (Nat.lt_succ_self _) (Nat.le_of_ble_eq_true rfl)) (hob10 c5 c9) dX9_placeAt_38 rfl (fun rg11 => ?_)
      refine g_iload_n (pc' := 40) 2 dX9_placeAt_39 rfl rfl ?_
      refine g_icmp_gt (tgt := 78) (pc' := 43) rg11 (hob12 c5 c9) Iff.rfl dX9_placeAt_40 rfl rfl (fun c13 => ?_) (fun c13 => ?_)
      · exact hk24g ⟨c5, (Or.inr (Or.inl c13))⟩
      · refine g_aload_n (pc' := 44) 0 dX9_placeAt_43 rfl rfl ?_
        refine g_getR (pc' := 47) (o := some 14) fl_X9_30 rfl rfl rfl dX9_placeAt_44 rfl ?_
        refine g_iload (pc' := 49) 5 dX9_placeAt_47 rfl rfl ?_
        refine g_iconst (pc' := 50) dX9_placeAt_49 rfl ?_
        refine g_iadd (pc' := 51) dX9_placeAt_50 rfl ?_
        refine g_iald (pc' := 52) (N := 180) rfl rfl (Nat.lt_of_lt_of_le (Nat.lt_succ_self _) (Nat.le_of_ble_eq_true rfl)) (hob10 c5 c9) dX9_placeAt_51 rfl (fun rg14 => ?_)
        refine g_iload (pc' := 54) 4 dX9_placeAt_52 rfl rfl ?_
        refine g_icmp_lt (tgt := 78) (pc' := 57) rg14 (hob15 c5 c9 c13) Iff.rfl dX9_placeAt_54 rfl rfl (fun c16 => ?_) (fun c16 => ?_)
        · exact hk24g ⟨c5, (Or.inr (Or.inr c16))⟩
        · exact hk25g ⟨c5, ⟨c9, ⟨c13, c16⟩⟩⟩

theorem dX9_gather_0 : decode cX9_gather 0 = .ok (.aload_n 0, 1) := by decide +kernel
theorem dX9_gather_1 : decode cX9_gather 1 = .ok (.getfield 27, 3) := by decide +kernel
theorem dX9_gather_4 : decode cX9_gather 4 = .ok (.iconst (-1), 1) := by decide +kernel
theorem dX9_gather_5 : decode cX9_gather 5 = .ok (.invokestatic 56, 3) := by decide +kernel
theorem dX9_gather_8 : decode cX9_gather 8 = .ok (.iconst 0, 1) := by decide +kernel
theorem dX9_gather_9 : decode cX9_gather 9 = .ok (.istore_n 1, 1) := by decide +kernel
theorem dX9_gather_10 : decode cX9_gather 10 = .ok (.iload_n 1, 1) := by decide +kernel
theorem dX9_gather_11 : decode cX9_gather 11 = .ok (.bipush 8, 2) := by decide +kernel
theorem dX9_gather_13 : decode cX9_gather 13 = .ok (.if_icmp .ge 55, 3) := by decide +kernel
theorem dX9_gather_16 : decode cX9_gather 16 = .ok (.aload_n 0, 1) := by decide +kernel
theorem dX9_gather_17 : decode cX9_gather 17 = .ok (.getfield 27, 3) := by decide +kernel
theorem dX9_gather_20 : decode cX9_gather 20 = .ok (.iload_n 1, 1) := by decide +kernel
theorem dX9_gather_21 : decode cX9_gather 21 = .ok (.iaload, 1) := by decide +kernel
theorem dX9_gather_22 : decode cX9_gather 22 = .ok (.iconst (-1), 1) := by decide +kernel
theorem dX9_gather_23 : decode cX9_gather 23 = .ok (.if_icmp .ne 39, 3) := by decide +kernel
theorem dX9_gather_26 : decode cX9_gather 26 = .ok (.aload_n 0, 1) := by decide +kernel
theorem dX9_gather_27 : decode cX9_gather 27 = .ok (.iload_n 1, 1) := by decide +kernel
theorem dX9_gather_28 : decode cX9_gather 28 = .ok (.invokevirtual 62, 3) := by decide +kernel
theorem dX9_gather_31 : decode cX9_gather 31 = .ok (.istore_n 2, 1) := by decide +kernel
theorem dX9_gather_32 : decode cX9_gather 32 = .ok (.iload_n 1, 1) := by decide +kernel
theorem dX9_gather_33 : decode cX9_gather 33 = .ok (.istore_n 3, 1) := by decide +kernel
theorem dX9_gather_34 : decode cX9_gather 34 = .ok (.iload_n 3, 1) := by decide +kernel
theorem dX9_gather_35 : decode cX9_gather 35 = .ok (.bipush 8, 2) := by decide +kernel
theorem dX9_gather_37 : decode cX9_gather 37 = .ok (.if_icmp .ge 25, 3) := by decide +kernel
theorem dX9_gather_40 : decode cX9_gather 40 = .ok (.iload_n 2, 1) := by decide +kernel
theorem dX9_gather_41 : decode cX9_gather 41 = .ok (.iload_n 3, 1) := by decide +kernel
theorem dX9_gather_42 : decode cX9_gather 42 = .ok (.ishr, 1) := by decide +kernel
theorem dX9_gather_43 : decode cX9_gather 43 = .ok (.iconst 1, 1) := by decide +kernel
theorem dX9_gather_44 : decode cX9_gather 44 = .ok (.iand, 1) := by decide +kernel
theorem dX9_gather_45 : decode cX9_gather 45 = .ok (.iconst 1, 1) := by decide +kernel
theorem dX9_gather_46 : decode cX9_gather 46 = .ok (.if_icmp .ne 10, 3) := by decide +kernel
theorem dX9_gather_49 : decode cX9_gather 49 = .ok (.aload_n 0, 1) := by decide +kernel
theorem dX9_gather_50 : decode cX9_gather 50 = .ok (.getfield 27, 3) := by decide +kernel
theorem dX9_gather_53 : decode cX9_gather 53 = .ok (.iload_n 3, 1) := by decide +kernel
theorem dX9_gather_54 : decode cX9_gather 54 = .ok (.iload_n 1, 1) := by decide +kernel
theorem dX9_gather_55 : decode cX9_gather 55 = .ok (.iastore, 1) := by decide +kernel
theorem dX9_gather_56 : decode cX9_gather 56 = .ok (.iinc 3 1, 3) := by decide +kernel
theorem dX9_gather_59 : decode cX9_gather 59 = .ok (.goto (-25), 3) := by decide +kernel
theorem dX9_gather_62 : decode cX9_gather 62 = .ok (.iinc 1 1, 3) := by decide +kernel
theorem dX9_gather_65 : decode cX9_gather 65 = .ok (.goto (-55), 3) := by decide +kernel
theorem dX9_gather_68 : decode cX9_gather 68 = .ok (.return_, 1) := by decide +kernel
set_option maxRecDepth 20000 in
theorem s_X9_gather {w : Wd} {d : Nat} {P : IM → LM → Prop} {i : IM} {l : LM}   (hd : 1 ≤ d) (h : gV w d X_X9_gather P (fillA i 13 8 (-1)) l 10 [(0, vR (some 7)), (1, vI 0)] []) : gV w d X_X9_gather P i l 0 [(0, vR (some 7))] [] := by
  refine g_aload_n (pc' := 1) 0 dX9_gather_0 rfl rfl ?_
  refine g_getR (pc' := 4) (o := some 13) fl_X9_27 rfl rfl rfl dX9_gather_1 rfl ?_
  refine g_iconst (pc' := 5) dX9_gather_4 rfl ?_
  refine g_fill (pc' := 8) (st := []) (le_hd hd rfl) rfl (Nat.le_of_ble_eq_true rfl) (rg_lit rfl) lk_X9_56 (Nat.le_of_ble_eq_true rfl) dX9_gather_5 rfl ?_
  refine g_iconst (pc' := 9) dX9_gather_8 rfl ?_
  refine g_istore_n (pc' := 10) (L' := [(1, vI 0), (0, vR (some 7))]) dX9_gather_9 rfl (Nat.le_of_ble_eq_true rfl) rfl ?_
  refine g_sub (L' := [(0, vR (some 7)), (1, vI 0)]) [1, 0] rfl ?_
  exact h
theorem e_X9_gather {w : Wd} {d : Nat} {P : IM → LM → Prop} {i : IM} {l : LM}   (h : gV w d X_X9_gather P i l 0 [(0, vR (some 7))] []) : cVd w (d + 1) X_X9_gather [vR (some 7)] i l P := CV_of (by decide +kernel) (Nat.le_of_ble_eq_true rfl) h
set_option maxRecDepth 20000 in
theorem s_X9_gather_10 {w : Wd} {d : Nat} {P : IM → LM → Prop} {i : IM} {l : LM} (x1 : Int)  (h : ((rg x1) ∧ (¬ (8 ≤ x1) → 0 ≤ x1 ∧ x1 < 8) ∧ ((8 ≤ x1) → P i l) ∧ ((¬ (8 ≤ x1) ∧ (¬ (i 13 x1 = (-1)))) → gV w d X_X9_gather P i l 10 [(0, vR (some 7)), (1, vI (x1 + 1))] []) ∧ ((¬ (8 ≤ x1) ∧ (i 13 x1 = (-1))) → cI w d X_X9_allWith [vR (some 7), vI x1] i l (fun r7 i7 l7 => gV w d X_X9_gather P i7 l7 34 [(0, vR (some 7)), (1, vI x1), (2, vI r7), (3, vI x1)] [])))) : gV w d X_X9_gather P i l 10 [(0, vR (some 7)), (1, vI x1)] [] := by
  refine g_iload_n (pc' := 11) 1 dX9_gather_10 rfl rfl ?_
  refine g_bipush (pc' := 13) dX9_gather_11 rfl rfl ?_
  obtain ⟨hob2, hob4, hk8, hk9, hk10⟩ := h
  have hk8g : (8 ≤ x1) → gV w d X_X9_gather P i l 68 [(0, vR (some 7)), (1, vI x1)] [] := by
    intro hp
    have h := hk8 hp
    exact g_retV rfl dX9_gather_68 h
  have hk9g : (¬ (8 ≤ x1) ∧ (¬ (i 13 x1 = (-1)))) → gV w d X_X9_gather P i l 62 [(0, vR (some 7)), (1, vI x1)] [] := by
    intro hp
    have h := hk9 hp
    refine g_iinc (pc' := 65) (L' := [(1, vI (x1 + 1)), (0, vR (some 7))]) 1 dX9_gather_62 rfl (Nat.le_of_ble_eq_true rfl) rfl rfl ?_
    refine g_goto (tgt := 10) dX9_gather_65 rfl ?_
    refine g_sub (L' := [(0, vR (some 7)), (1, vI (x1 + 1))]) [1, 0] rfl ?_
    exact h
  have hk10g : (¬ (8 ≤ x1) ∧ (i 13 x1 = (-1))) → gV w d X_X9_gather P i l 26 [(0, vR (some 7)), (1, vI x1)] [] := by
    intro hp
    have h := hk10 hp
    refine g_aload_n (pc' := 27) 0 dX9_gather_26 rfl rfl ?_
    refine g_iload_n (pc' := 28) 1 dX9_gather_27 rfl rfl ?_
    refine g_cVI (pc' := 31) (vs := [vI x1]) (st := []) (c := 9) h mv_X9_allWith lk_X9_62 rfl rfl rfl rfl (Nat.le_of_ble_eq_true rfl) (Nat.le_of_ble_eq_true rfl) rfl dX9_gather_28 rfl z2 (fun r7 i7 l7 rg7 h => ?_)
    refine g_istore_n (pc' := 32) (L' := [(2, vI r7), (0, vR (some 7)), (1, vI x1)]) dX9_gather_31 rfl (Nat.le_of_ble_eq_true rfl) rfl ?_
    refine g_iload_n (pc' := 33) 2 dX9_gather_32 rfl rfl ?_
    refine g_istore_n (pc' := 34) (L' := [(3, vI x1), (2, vI r7), (0, vR (some 7)), (1, vI x1)]) dX9_gather_33 rfl (Nat.le_of_ble_eq_true rfl) rfl ?_
    refine g_sub (L' := [(0, vR (some 7)), (1, vI x1), (2, vI r7), (3, vI x1)]) [2, 3, 1, 0] rfl ?_
    exact h
  refine g_icmp_ge (tgt := 68) (pc' := 16) (hob2) (rg_lit rfl) Iff.rfl dX9_gather_13 rfl rfl (fun c3 => ?_) (fun c3 => ?_)
  · exact hk8g c3
  · refine g_aload_n (pc' := 17) 0 dX9_gather_16 rfl rfl ?_
    refine g_getR (pc' := 20) (o := some 13) fl_X9_27 rfl rfl rfl dX9_gather_17 rfl ?_
    refine g_iload_n (pc' := 21) 1 dX9_gather_20 rfl rfl ?_
    refine g_iald (pc' := 22) (N := 8) rfl rfl (Nat.lt_of_lt_of_le (Nat.lt_succ_self _) (Nat.le_of_ble_eq_true rfl)) (hob4 c3) dX9_gather_21 rfl (fun rg5 => ?_)
    refine g_iconst (pc' := 23) dX9_gather_22 rfl ?_
    refine g_icmp_ne (tgt := 62) (pc' := 26) rg5 (rg_lit rfl) Iff.rfl dX9_gather_23 rfl rfl (fun c6 => ?_) (fun c6 => ?_)
    · exact hk9g ⟨c3, c6⟩
    · exact hk10g ⟨c3, c6⟩
set_option maxRecDepth 20000 in
theorem s_X9_gather_34 {w : Wd} {d : Nat} {P : IM → LM → Prop} {i : IM} {l : LM} (x1 : Int) (x2 : Int) (x3 : Int)  (h : ((rg x3) ∧ ((8 ≤ x3) → gV w d X_X9_gather P i l 10 [(0, vR (some 7)), (1, vI (x1 + 1))] []) ∧ ((¬ (8 ≤ x3) ∧ (¬ (iand (ishr x2 x3) 1 = 1))) → gV w d X_X9_gather P i l 34 [(0, vR (some 7)), (1, vI x1), (2, vI x2), (3, vI (x3 + 1))] []) ∧ ((¬ (8 ≤ x3) ∧ (iand (ishr x2 x3) 1 = 1)) → ((0 ≤ x3 ∧ x3 < 8) ∧ (rg x1) ∧ gV w d X_X9_gather P (u2 i 13 x3 x1) l 34 [(0, vR (some 7)), (1, vI x1), (2, vI x2), (3, vI (x3 + 1))] [])))) : gV w d X_X9_gather P i l 34 [(0, vR (some 7)), (1, vI x1), (2, vI x2), (3, vI x3)] [] := by
  refine g_iload_n (pc' := 35) 3 dX9_gather_34 rfl rfl ?_
  refine g_bipush (pc' := 37) dX9_gather_35 rfl rfl ?_
  obtain ⟨hob12, hk17, hk18, hk19⟩ := h
  have hk17g : (8 ≤ x3) → gV w d X_X9_gather P i l 62 [(0, vR (some 7)), (1, vI x1), (2, vI x2), (3, vI x3)] [] := by
    intro hp
    have h := hk17 hp
    refine g_iinc (pc' := 65) (L' := [(1, vI (x1 + 1)), (0, vR (some 7)), (2, vI x2), (3, vI x3)]) 1 dX9_gather_62 rfl (Nat.le_of_ble_eq_true rfl) rfl rfl ?_
    refine g_goto (tgt := 10) dX9_gather_65 rfl ?_
    refine g_sub (L' := [(0, vR (some 7)), (1, vI (x1 + 1))]) [1, 0] rfl ?_
    exact h
  have hk18g : (¬ (8 ≤ x3) ∧ (¬ (iand (ishr x2 x3) 1 = 1))) → gV w d X_X9_gather P i l 56 [(0, vR (some 7)), (1, vI x1), (2, vI x2), (3, vI x3)] [] := by
    intro hp
    have h := hk18 hp
    refine g_iinc (pc' := 59) (L' := [(3, vI (x3 + 1)), (0, vR (some 7)), (1, vI x1), (2, vI x2)]) 3 dX9_gather_56 rfl (Nat.le_of_ble_eq_true rfl) rfl rfl ?_
    refine g_goto (tgt := 34) dX9_gather_59 rfl ?_
    refine g_sub (L' := [(0, vR (some 7)), (1, vI x1), (2, vI x2), (3, vI (x3 + 1))]) [1, 2, 3, 0] rfl ?_
    exact h
  have hk19g : (¬ (8 ≤ x3) ∧ (iand (ishr x2 x3) 1 = 1)) → gV w d X_X9_gather P i l 49 [(0, vR (some 7)), (1, vI x1), (2, vI x2), (3, vI x3)] [] := by
    intro hp
    have h := hk19 hp
    obtain ⟨ob15, ob16, h⟩ := h
    refine g_aload_n (pc' := 50) 0 dX9_gather_49 rfl rfl ?_
    refine g_getR (pc' := 53) (o := some 13) fl_X9_27 rfl rfl rfl dX9_gather_50 rfl ?_
    refine g_iload_n (pc' := 54) 3 dX9_gather_53 rfl rfl ?_
    refine g_iload_n (pc' := 55) 1 dX9_gather_54 rfl rfl ?_
    refine g_iast (pc' := 56) (N := 8) rfl rfl (Nat.lt_of_lt_of_le (Nat.lt_succ_self _) (Nat.le_of_ble_eq_true rfl)) ob15 ob16 dX9_gather_55 rfl ?_
    refine g_iinc (pc' := 59) (L' := [(3, vI (x3 + 1)), (0, vR (some 7)), (1, vI x1), (2, vI x2)]) 3 dX9_gather_56 rfl (Nat.le_of_ble_eq_true rfl) rfl rfl ?_
    refine g_goto (tgt := 34) dX9_gather_59 rfl ?_
    refine g_sub (L' := [(0, vR (some 7)), (1, vI x1), (2, vI x2), (3, vI (x3 + 1))]) [1, 2, 3, 0] rfl ?_
    exact h
  refine g_icmp_ge (tgt := 62) (pc' := 40) (hob12) (rg_lit rfl) Iff.rfl dX9_gather_37 rfl rfl (fun c13 => ?_) (fun c13 => ?_)
  · exact hk17g c13
  · refine g_iload_n (pc' := 41) 2 dX9_gather_40 rfl rfl ?_
    refine g_iload_n (pc' := 42) 3 dX9_gather_41 rfl rfl ?_
    refine g_ishr (pc' := 43) dX9_gather_42 rfl ?_
    refine g_iconst (pc' := 44) dX9_gather_43 rfl ?_
    refine g_iand (pc' := 45) dX9_gather_44 rfl ?_
    refine g_iconst (pc' := 46) dX9_gather_45 rfl ?_
    refine g_icmp_ne (tgt := 56) (pc' := 49) (rg_iand _ _) (rg_lit rfl) Iff.rfl dX9_gather_46 rfl rfl (fun c14 => ?_) (fun c14 => ?_)
    · exact hk18g ⟨c13, c14⟩
    · exact hk19g ⟨c13, c14⟩

theorem dX9_allWith_0 : decode cX9_allWith 0 = .ok (.iconst 1, 1) := by decide +kernel
theorem dX9_allWith_1 : decode cX9_allWith 1 = .ok (.iload_n 1, 1) := by decide +kernel
theorem dX9_allWith_2 : decode cX9_allWith 2 = .ok (.ishl, 1) := by decide +kernel
theorem dX9_allWith_3 : decode cX9_allWith 3 = .ok (.istore_n 2, 1) := by decide +kernel
theorem dX9_allWith_4 : decode cX9_allWith 4 = .ok (.iconst 0, 1) := by decide +kernel
theorem dX9_allWith_5 : decode cX9_allWith 5 = .ok (.istore_n 3, 1) := by decide +kernel
theorem dX9_allWith_6 : decode cX9_allWith 6 = .ok (.iload_n 3, 1) := by decide +kernel
theorem dX9_allWith_7 : decode cX9_allWith 7 = .ok (.bipush 8, 2) := by decide +kernel
theorem dX9_allWith_9 : decode cX9_allWith 9 = .ok (.if_icmp .ge 45, 3) := by decide +kernel
theorem dX9_allWith_12 : decode cX9_allWith 12 = .ok (.iconst 0, 1) := by decide +kernel
theorem dX9_allWith_13 : decode cX9_allWith 13 = .ok (.istore 4, 2) := by decide +kernel
theorem dX9_allWith_15 : decode cX9_allWith 15 = .ok (.iload 4, 2) := by decide +kernel
theorem dX9_allWith_17 : decode cX9_allWith 17 = .ok (.bipush 8, 2) := by decide +kernel
theorem dX9_allWith_19 : decode cX9_allWith 19 = .ok (.if_icmp .ge 29, 3) := by decide +kernel
theorem dX9_allWith_22 : decode cX9_allWith 22 = .ok (.iload_n 2, 1) := by decide +kernel
theorem dX9_allWith_23 : decode cX9_allWith 23 = .ok (.iload 4, 2) := by decide +kernel
theorem dX9_allWith_25 : decode cX9_allWith 25 = .ok (.ishr, 1) := by decide +kernel
theorem dX9_allWith_26 : decode cX9_allWith 26 = .ok (.iconst 1, 1) := by decide +kernel
theorem dX9_allWith_27 : decode cX9_allWith 27 = .ok (.iand, 1) := by decide +kernel
theorem dX9_allWith_28 : decode cX9_allWith 28 = .ok (.iconst 1, 1) := by decide +kernel
theorem dX9_allWith_29 : decode cX9_allWith 29 = .ok (.if_icmp .ne 13, 3) := by decide +kernel
theorem dX9_allWith_32 : decode cX9_allWith 32 = .ok (.iload_n 2, 1) := by decide +kernel
theorem dX9_allWith_33 : decode cX9_allWith 33 = .ok (.aload_n 0, 1) := by decide +kernel
theorem dX9_allWith_34 : decode cX9_allWith 34 = .ok (.getfield 24, 3) := by decide +kernel
theorem dX9_allWith_37 : decode cX9_allWith 37 = .ok (.iload 4, 2) := by decide +kernel
theorem dX9_allWith_39 : decode cX9_allWith 39 = .ok (.iaload, 1) := by decide +kernel
theorem dX9_allWith_40 : decode cX9_allWith 40 = .ok (.ior, 1) := by decide +kernel
theorem dX9_allWith_41 : decode cX9_allWith 41 = .ok (.istore_n 2, 1) := by decide +kernel
theorem dX9_allWith_42 : decode cX9_allWith 42 = .ok (.iinc 4 1, 3) := by decide +kernel
theorem dX9_allWith_45 : decode cX9_allWith 45 = .ok (.goto (-30), 3) := by decide +kernel
theorem dX9_allWith_48 : decode cX9_allWith 48 = .ok (.iinc 3 1, 3) := by decide +kernel
theorem dX9_allWith_51 : decode cX9_allWith 51 = .ok (.goto (-45), 3) := by decide +kernel
theorem dX9_allWith_54 : decode cX9_allWith 54 = .ok (.iload_n 2, 1) := by decide +kernel
theorem dX9_allWith_55 : decode cX9_allWith 55 = .ok (.ireturn, 1) := by decide +kernel
set_option maxRecDepth 20000 in
theorem s_X9_allWith {w : Wd} {d : Nat} {P : Int → IM → LM → Prop} {i : IM} {l : LM} (p0 : Int)  (h : gI w d X_X9_allWith P i l 6 [(0, vR (some 7)), (2, vI (ishl 1 p0)), (3, vI 0)] []) : gI w d X_X9_allWith P i l 0 [(0, vR (some 7)), (1, vI p0)] [] := by
  refine g_iconst (pc' := 1) dX9_allWith_0 rfl ?_
  refine g_iload_n (pc' := 2) 1 dX9_allWith_1 rfl rfl ?_
  refine g_ishl (pc' := 3) dX9_allWith_2 rfl ?_
  refine g_istore_n (pc' := 4) (L' := [(2, vI (ishl 1 p0)), (0, vR (some 7)), (1, vI p0)]) dX9_allWith_3 rfl (Nat.le_of_ble_eq_true rfl) rfl ?_
  refine g_iconst (pc' := 5) dX9_allWith_4 rfl ?_
  refine g_istore_n (pc' := 6) (L' := [(3, vI 0), (2, vI (ishl 1 p0)), (0, vR (some 7)), (1, vI p0)]) dX9_allWith_5 rfl (Nat.le_of_ble_eq_true rfl) rfl ?_
  refine g_sub (L' := [(0, vR (some 7)), (2, vI (ishl 1 p0)), (3, vI 0)]) [2, 1, 0] rfl ?_
  exact h
theorem e_X9_allWith {w : Wd} {d : Nat} {P : Int → IM → LM → Prop} {i : IM} {l : LM} {p0 : Int}  (h : gI w d X_X9_allWith P i l 0 [(0, vR (some 7)), (1, vI p0)] []) : cI w (d + 1) X_X9_allWith [vR (some 7), vI p0] i l P := CI_of (by decide +kernel) (Nat.le_of_ble_eq_true rfl) h
set_option maxRecDepth 20000 in
theorem s_X9_allWith_6 {w : Wd} {d : Nat} {P : Int → IM → LM → Prop} {i : IM} {l : LM} (x2 : Int) (x3 : Int)  (h : ((rg x3) ∧ ((8 ≤ x3) → ((rg x2) ∧ P x2 i l)) ∧ ((¬ (8 ≤ x3)) → gI w d X_X9_allWith P i l 15 [(0, vR (some 7)), (2, vI x2), (3, vI x3), (4, vI 0)] []))) : gI w d X_X9_allWith P i l 6 [(0, vR (some 7)), (2, vI x2), (3, vI x3)] [] := by
  refine g_iload_n (pc' := 7) 2 dX9_allWith_6 rfl rfl ?_
  refine g_bipush (pc' := 9) dX9_allWith_7 rfl rfl ?_
  obtain ⟨hob2, hk5, hk6⟩ := h
  refine g_icmp_ge (tgt := 54) (pc' := 12) (hob2) (rg_lit rfl) Iff.rfl dX9_allWith_9 rfl rfl (fun c3 => ?_) (fun c3 => ?_)
  · have h := hk5 c3
    obtain ⟨ob4, h⟩ := h
    refine g_iload_n (pc' := 55) 1 dX9_allWith_54 rfl rfl ?_
    exact g_retI rfl ob4 dX9_allWith_55 h
  · have h := hk6 c3
    refine g_iconst (pc' := 13) dX9_allWith_12 rfl ?_
    refine g_istore (pc' := 15) (L' := [(4, vI 0), (0, vR (some 7)), (2, vI x2), (3, vI x3)]) dX9_allWith_13 rfl (Nat.le_of_ble_eq_true rfl) rfl ?_
    refine g_sub (L' := [(0, vR (some 7)), (2, vI x2), (3, vI x3), (4, vI 0)]) [1, 2, 3, 0] rfl ?_
    exact h
set_option maxRecDepth 20000 in
theorem s_X9_allWith_15 {w : Wd} {d : Nat} {P : Int → IM → LM → Prop} {i : IM} {l : LM} (x2 : Int) (x3 : Int) (x4 : Int)  (h : ((rg x4) ∧ ((8 ≤ x4) → gI w d X_X9_allWith P i l 6 [(0, vR (some 7)), (2, vI x2), (3, vI (x3 + 1))] []) ∧ ((¬ (8 ≤ x4) ∧ (¬ (iand (ishr x2 x4) 1 = 1))) → gI w d X_X9_allWith P i l 15 [(0, vR (some 7)), (2, vI x2), (3, vI x3), (4, vI (x4 + 1))] []) ∧ ((¬ (8 ≤ x4) ∧ (iand (ishr x2 x4) 1 = 1)) → ((0 ≤ x4 ∧ x4 < 8) ∧ gI w d X_X9_allWith P i l 15 [(0, vR (some 7)), (2, vI (ior x2 (i 12 x4))), (3, vI x3), (4, vI (x4 + 1))] [])))) : gI w d X_X9_allWith P i l 15 [(0, vR (some 7)), (2, vI x2), (3, vI x3), (4, vI x4)] [] := by
  refine g_iload (pc' := 17) 3 dX9_allWith_15 rfl rfl ?_
  refine g_bipush (pc' := 19) dX9_allWith_17 rfl rfl ?_
  obtain ⟨hob8, hk15, hk16, hk17⟩ := h
  have hk15g : (8 ≤ x4) → gI w d X_X9_allWith P i l 48 [(0, vR (some 7)), (2, vI x2), (3, vI x3), (4, vI x4)] [] := by
    intro hp
    have h := hk15 hp
    refine g_iinc (pc' := 51) (L' := [(3, vI (x3 + 1)), (0, vR (some 7)), (2, vI x2), (4, vI x4)]) 2 dX9_allWith_48 rfl (Nat.le_of_ble_eq_true rfl) rfl rfl ?_
    refine g_goto (tgt := 6) dX9_allWith_51 rfl ?_
    refine g_sub (L' := [(0, vR (some 7)), (2, vI x2), (3, vI (x3 + 1))]) [1, 2, 0] rfl ?_
    exact h
  have hk16g : (¬ (8 ≤ x4) ∧ (¬ (iand (ishr x2 x4) 1 = 1))) → gI w d X_X9_allWith P i l 42 [(0, vR (some 7)), (2, vI x2), (3, vI x3), (4, vI x4)] [] := by
    intro hp
    have h := hk16 hp
    refine g_iinc (pc' := 45) (L' := [(4, vI (x4 + 1)), (0, vR (some 7)), (2, vI x2), (3, vI x3)]) 3 dX9_allWith_42 rfl (Nat.le_of_ble_eq_true rfl) rfl rfl ?_
    refine g_goto (tgt := 15) dX9_allWith_45 rfl ?_
    refine g_sub (L' := [(0, vR (some 7)), (2, vI x2), (3, vI x3), (4, vI (x4 + 1))]) [1, 2, 3, 0] rfl ?_
    exact h
  have hk17g : (¬ (8 ≤ x4) ∧ (iand (ishr x2 x4) 1 = 1)) → gI w d X_X9_allWith P i l 32 [(0, vR (some 7)), (2, vI x2), (3, vI x3), (4, vI x4)] [] := by
    intro hp
    have h := hk17 hp
    obtain ⟨ob13, h⟩ := h
    refine g_iload_n (pc' := 33) 1 dX9_allWith_32 rfl rfl ?_
    refine g_aload_n (pc' := 34) 0 dX9_allWith_33 rfl rfl ?_
    refine g_getR (pc' := 37) (o := some 12) fl_X9_24 rfl rfl rfl dX9_allWith_34 rfl ?_
    refine g_iload (pc' := 39) 3 dX9_allWith_37 rfl rfl ?_
    refine g_iald (pc' := 40) (N := 8) rfl rfl (Nat.lt_of_lt_of_le (Nat.lt_succ_self _) (Nat.le_of_ble_eq_true rfl)) ob13 dX9_allWith_39 rfl (fun rg14 => ?_)
    refine g_ior (pc' := 41) dX9_allWith_40 rfl ?_
    refine g_istore_n (pc' := 42) (L' := [(2, vI (ior x2 (i 12 x4))), (0, vR (some 7)), (3, vI x3), (4, vI x4)]) dX9_allWith_41 rfl (Nat.le_of_ble_eq_true rfl) rfl ?_
    refine g_iinc (pc' := 45) (L' := [(4, vI (x4 + 1)), (2, vI (ior x2 (i 12 x4))), (0, vR (some 7)), (3, vI x3)]) 3 dX9_allWith_42 rfl (Nat.le_of_ble_eq_true rfl) rfl rfl ?_
    refine g_goto (tgt := 15) dX9_allWith_45 rfl ?_
    refine g_sub (L' := [(0, vR (some 7)), (2, vI (ior x2 (i 12 x4))), (3, vI x3), (4, vI (x4 + 1))]) [2, 1, 3, 0] rfl ?_
    exact h
  refine g_icmp_ge (tgt := 48) (pc' := 22) (hob8) (rg_lit rfl) Iff.rfl dX9_allWith_19 rfl rfl (fun c9 => ?_) (fun c9 => ?_)
  · exact hk15g c9
  · refine g_iload_n (pc' := 23) 1 dX9_allWith_22 rfl rfl ?_
    refine g_iload (pc' := 25) 3 dX9_allWith_23 rfl rfl ?_
    refine g_ishr (pc' := 26) dX9_allWith_25 rfl ?_
    refine g_iconst (pc' := 27) dX9_allWith_26 rfl ?_
    refine g_iand (pc' := 28) dX9_allWith_27 rfl ?_
    refine g_iconst (pc' := 29) dX9_allWith_28 rfl ?_
    refine g_icmp_ne (tgt := 42) (pc' := 32) (rg_iand _ _) (rg_lit rfl) Iff.rfl dX9_allWith_29 rfl rfl (fun c10 => ?_) (fun c10 => ?_)
    · exact hk16g ⟨c9, c10⟩
    · exact hk17g ⟨c9, c10⟩
