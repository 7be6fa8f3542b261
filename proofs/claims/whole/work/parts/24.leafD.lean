theorem dX2_has_0 : decode cX2_has 0 = .ok (.aload_n 0, 1) := by decide +kernel
theorem dX2_has_1 : decode cX2_has 1 = .ok (.getfield 16, 3) := by decide +kernel
theorem dX2_has_4 : decode cX2_has 4 = .ok (.iload_n 1, 1) := by decide +kernel
theorem dX2_has_5 : decode cX2_has 5 = .ok (.iaload, 1) := by decide +kernel
theorem dX2_has_6 : decode cX2_has 6 = .ok (.ifCond .lt 7, 3) := by decide +kernel
theorem dX2_has_9 : decode cX2_has 9 = .ok (.iconst 1, 1) := by decide +kernel
theorem dX2_has_10 : decode cX2_has 10 = .ok (.goto 4, 3) := by decide +kernel
theorem dX2_has_13 : decode cX2_has 13 = .ok (.iconst 0, 1) := by decide +kernel
theorem dX2_has_14 : decode cX2_has 14 = .ok (.ireturn, 1) := by decide +kernel
set_option maxRecDepth 20000 in
theorem s_X2_has {w : Wd} {d : Nat} {P : Int → IM → LM → Prop} {i : IM} {l : LM} (p0 : Int) {lw : Nat} (hL : LawAt w lw) (h : ((0 ≤ p0 ∧ p0 < 4) ∧ P (bI (¬ (i (lw + 3) p0 < 0))) i l)) : gI w d X_X2_has P i l 0 [(0, vR (some lw)), (1, vI p0)] [] := by
  obtain ⟨ob1, h⟩ := h
  refine g_aload_n (pc' := 1) 0 dX2_has_0 rfl rfl ?_
  refine g_getR (pc' := 4) (o := some (lw + 3)) fl_X2_16 (sh_law hL) rfl (rf_law hL 2) dX2_has_1 rfl ?_
  refine g_iload_n (pc' := 5) 1 dX2_has_4 rfl rfl ?_
  refine g_iald (pc' := 6) (N := 4) (sh_words hL) rfl (Nat.lt_of_lt_of_le (Nat.lt_succ_self _) (Nat.le_of_ble_eq_true rfl)) ob1 dX2_has_5 rfl (fun rg2 => ?_)
  have hJ : gI w d X_X2_has P i l 14 [(0, vR (some lw)), (1, vI p0)] [vI (bI (¬ (i (lw + 3) p0 < 0)))] := by
    exact g_retZ rfl (bI_01 _) dX2_has_14 h
  refine g_if_lt (tgt := 13) (pc' := 9) rg2 Iff.rfl dX2_has_6 rfl rfl (fun c4 => ?_) (fun c4 => ?_)
  · refine g_iconst (pc' := 14) dX2_has_13 rfl ?_
    rw [bI_f (p := (¬ (i (lw + 3) p0 < 0))) (fun q => q c4)] at hJ
    exact hJ
  · refine g_iconst (pc' := 10) dX2_has_9 rfl ?_
    refine g_goto (tgt := 14) dX2_has_10 rfl ?_
    rw [bI_t (p := (¬ (i (lw + 3) p0 < 0))) c4] at hJ
    exact hJ
theorem e_X2_has {w : Wd} {d : Nat} {P : Int → IM → LM → Prop} {i : IM} {l : LM} {p0 : Int} {lw : Nat} (h : gI w d X_X2_has P i l 0 [(0, vR (some lw)), (1, vI p0)] []) : cI w (d + 1) X_X2_has [vR (some lw), vI p0] i l P := CI_of (by decide +kernel) (Nat.le_of_ble_eq_true rfl) h

theorem dX2_mentions_0 : decode cX2_mentions 0 = .ok (.aload_n 0, 1) := by decide +kernel
theorem dX2_mentions_1 : decode cX2_mentions 1 = .ok (.getfield 16, 3) := by decide +kernel
theorem dX2_mentions_4 : decode cX2_mentions 4 = .ok (.iload_n 1, 1) := by decide +kernel
theorem dX2_mentions_5 : decode cX2_mentions 5 = .ok (.iaload, 1) := by decide +kernel
theorem dX2_mentions_6 : decode cX2_mentions 6 = .ok (.ifCond .lt 21, 3) := by decide +kernel
theorem dX2_mentions_9 : decode cX2_mentions 9 = .ok (.aload_n 0, 1) := by decide +kernel
theorem dX2_mentions_10 : decode cX2_mentions 10 = .ok (.getfield 16, 3) := by decide +kernel
theorem dX2_mentions_13 : decode cX2_mentions 13 = .ok (.iload_n 1, 1) := by decide +kernel
theorem dX2_mentions_14 : decode cX2_mentions 14 = .ok (.iaload, 1) := by decide +kernel
theorem dX2_mentions_15 : decode cX2_mentions 15 = .ok (.iload_n 2, 1) := by decide +kernel
theorem dX2_mentions_16 : decode cX2_mentions 16 = .ok (.ishr, 1) := by decide +kernel
theorem dX2_mentions_17 : decode cX2_mentions 17 = .ok (.iconst 1, 1) := by decide +kernel
theorem dX2_mentions_18 : decode cX2_mentions 18 = .ok (.iand, 1) := by decide +kernel
theorem dX2_mentions_19 : decode cX2_mentions 19 = .ok (.iconst 1, 1) := by decide +kernel
theorem dX2_mentions_20 : decode cX2_mentions 20 = .ok (.if_icmp .ne 7, 3) := by decide +kernel
theorem dX2_mentions_23 : decode cX2_mentions 23 = .ok (.iconst 1, 1) := by decide +kernel
theorem dX2_mentions_24 : decode cX2_mentions 24 = .ok (.goto 4, 3) := by decide +kernel
theorem dX2_mentions_27 : decode cX2_mentions 27 = .ok (.iconst 0, 1) := by decide +kernel
theorem dX2_mentions_28 : decode cX2_mentions 28 = .ok (.ireturn, 1) := by decide +kernel
set_option maxRecDepth 20000 in
theorem s_X2_mentions {w : Wd} {d : Nat} {P : Int → IM → LM → Prop} {i : IM} {l : LM} (p0 : Int) (p1 : Int) {lw : Nat} (hL : LawAt w lw) (h : ((0 ≤ p0 ∧ p0 < 4) ∧ ((¬ (i (lw + 3) p0 < 0) → 0 ≤ p0 ∧ p0 < 4) ∧ P (bI (¬ (i (lw + 3) p0 < 0) ∧ (iand (ishr (i (lw + 3) p0) p1) 1 = 1))) i l))) : gI w d X_X2_mentions P i l 0 [(0, vR (some lw)), (1, vI p0), (2, vI p1)] [] := by
  obtain ⟨ob1, h⟩ := h
  refine g_aload_n (pc' := 1) 0 dX2_mentions_0 rfl rfl ?_
  refine g_getR (pc' := 4) (o := some (lw + 3)) fl_X2_16 (sh_law hL) rfl (rf_law hL 2) dX2_mentions_1 rfl ?_
  refine g_iload_n (pc' := 5) 1 dX2_mentions_4 rfl rfl ?_
  refine g_iald (pc' := 6) (N := 4) (sh_words hL) rfl (Nat.lt_of_lt_of_le (Nat.lt_succ_self _) (Nat.le_of_ble_eq_true rfl)) ob1 dX2_mentions_5 rfl (fun rg2 => ?_)
  obtain ⟨hob5, h⟩ := h
  have hJ : gI w d X_X2_mentions P i l 28 [(0, vR (some lw)), (1, vI p0), (2, vI p1)] [vI (bI (¬ (i (lw + 3) p0 < 0) ∧ (iand (ishr (i (lw + 3) p0) p1) 1 = 1)))] := by
    exact g_retZ rfl (bI_01 _) dX2_mentions_28 h
  refine g_if_lt (tgt := 27) (pc' := 9) rg2 Iff.rfl dX2_mentions_6 rfl rfl (fun c4 => ?_) (fun c4 => ?_)
  · refine g_iconst (pc' := 28) dX2_mentions_27 rfl ?_
    rw [bI_f (p := (¬ (i (lw + 3) p0 < 0) ∧ (iand (ishr (i (lw + 3) p0) p1) 1 = 1))) (fun q => q.1 c4)] at hJ
    exact hJ
  · refine g_aload_n (pc' := 10) 0 dX2_mentions_9 rfl rfl ?_
    refine g_getR (pc' := 13) (o := some (lw + 3)) fl_X2_16 (sh_law hL) rfl (rf_law hL 2) dX2_mentions_10 rfl ?_
    refine g_iload_n (pc' := 14) 1 dX2_mentions_13 rfl rfl ?_
    refine g_iald (pc' := 15) (N := 4) (sh_words hL) rfl (Nat.lt_of_lt_of_le (Nat.lt_succ_self _) (Nat.le_of_ble_eq_true rfl)) (hob5 c4) dX2_mentions_14 rfl (fun rg6 => ?_)
    refine g_iload_n (pc' := 16) 2 dX2_mentions_15 rfl rfl ?_
    refine g_ishr (pc' := 17) dX2_mentions_16 rfl ?_
    refine g_iconst (pc' := 18) dX2_mentions_17 rfl ?_
    refine g_iand (pc' := 19) dX2_mentions_18 rfl ?_
    refine g_iconst (pc' := 20) dX2_mentions_19 rfl ?_
    refine g_icmp_ne (tgt := 27) (pc' := 23) (rg_iand _ _) (rg_lit rfl) Iff.rfl dX2_mentions_20 rfl rfl (fun c7 => ?_) (fun c7 => ?_)
    · refine g_iconst (pc' := 28) dX2_mentions_27 rfl ?_
      rw [bI_f (p := (¬ (i (lw + 3) p0 < 0) ∧ (iand (ishr (i (lw + 3) p0) p1) 1 = 1))) (fun q => c7 q.2)] at hJ
      exact hJ
    · refine g_iconst (pc' := 24) dX2_mentions_23 rfl ?_
      refine g_goto (tgt := 28) dX2_mentions_24 rfl ?_
      rw [bI_t (p := (¬ (i (lw + 3) p0 < 0) ∧ (iand (ishr (i (lw + 3) p0) p1) 1 = 1))) ⟨c4, c7⟩] at hJ
      exact hJ
theorem e_X2_mentions {w : Wd} {d : Nat} {P : Int → IM → LM → Prop} {i : IM} {l : LM} {p0 : Int} {p1 : Int} {lw : Nat} (h : gI w d X_X2_mentions P i l 0 [(0, vR (some lw)), (1, vI p0), (2, vI p1)] []) : cI w (d + 1) X_X2_mentions [vR (some lw), vI p0, vI p1] i l P := CI_of (by decide +kernel) (Nat.le_of_ble_eq_true rfl) h

theorem dX9_ruling_0 : decode cX9_ruling 0 = .ok (.aload_n 0, 1) := by decide +kernel
theorem dX9_ruling_1 : decode cX9_ruling 1 = .ok (.getfield 39, 3) := by decide +kernel
theorem dX9_ruling_4 : decode cX9_ruling 4 = .ok (.ifCond .lt 26, 3) := by decide +kernel
theorem dX9_ruling_7 : decode cX9_ruling 7 = .ok (.aload_n 0, 1) := by decide +kernel
theorem dX9_ruling_8 : decode cX9_ruling 8 = .ok (.getfield 39, 3) := by decide +kernel
theorem dX9_ruling_11 : decode cX9_ruling 11 = .ok (.aload_n 0, 1) := by decide +kernel
theorem dX9_ruling_12 : decode cX9_ruling 12 = .ok (.getfield 66, 3) := by decide +kernel
theorem dX9_ruling_15 : decode cX9_ruling 15 = .ok (.if_icmp .ge 15, 3) := by decide +kernel
theorem dX9_ruling_18 : decode cX9_ruling 18 = .ok (.aload_n 0, 1) := by decide +kernel
theorem dX9_ruling_19 : decode cX9_ruling 19 = .ok (.getfield 35, 3) := by decide +kernel
theorem dX9_ruling_22 : decode cX9_ruling 22 = .ok (.aload_n 0, 1) := by decide +kernel
theorem dX9_ruling_23 : decode cX9_ruling 23 = .ok (.getfield 39, 3) := by decide +kernel
theorem dX9_ruling_26 : decode cX9_ruling 26 = .ok (.aaload, 1) := by decide +kernel
theorem dX9_ruling_27 : decode cX9_ruling 27 = .ok (.goto 4, 3) := by decide +kernel
theorem dX9_ruling_30 : decode cX9_ruling 30 = .ok (.aconst_null, 1) := by decide +kernel
theorem dX9_ruling_31 : decode cX9_ruling 31 = .ok (.areturn, 1) := by decide +kernel
set_option maxRecDepth 20000 in
theorem s_X9_ruling {w : Wd} {d : Nat} {P : Option Nat → IM → LM → Prop} {i : IM} {l : LM}   (h : (((i 7 14 < 0) → P none i l) ∧ ((¬ (i 7 14 < 0)) → (((i 7 12 ≤ i 7 14) → P none i l) ∧ ((¬ (i 7 12 ≤ i 7 14)) → ((0 ≤ i 7 14 ∧ i 7 14 < 6) ∧ P (w.2.2.2 15 (i 7 14)) i l)))))) : gR w d X_X9_ruling P i l 0 [(0, vR (some 7))] [] := by
  refine g_aload_n (pc' := 1) 0 dX9_ruling_0 rfl rfl ?_
  refine g_getI (pc' := 4) (z := 14) rfl fl_X9_39 rfl rfl dX9_ruling_1 rfl (fun rg1 => ?_)
  obtain ⟨hk48, hk49⟩ := h
  refine g_if_lt (tgt := 30) (pc' := 7) rg1 Iff.rfl dX9_ruling_4 rfl rfl (fun c27 => ?_) (fun c27 => ?_)
  · have h := hk48 c27
    refine g_anull (pc' := 31) dX9_ruling_30 rfl ?_
    exact g_retR rfl (Or.inl ⟨_, rfl⟩) dX9_ruling_31 h
  · have h := hk49 c27
    refine g_aload_n (pc' := 8) 0 dX9_ruling_7 rfl rfl ?_
    refine g_getI (pc' := 11) (z := 14) rfl fl_X9_39 rfl rfl dX9_ruling_8 rfl (fun rg28 => ?_)
    refine g_aload_n (pc' := 12) 0 dX9_ruling_11 rfl rfl ?_
    refine g_getI (pc' := 15) (z := 12) rfl fl_X9_66 rfl rfl dX9_ruling_12 rfl (fun rg29 => ?_)
    obtain ⟨hk46, hk47⟩ := h
    refine g_icmp_ge (tgt := 30) (pc' := 18) rg28 rg29 Iff.rfl dX9_ruling_15 rfl rfl (fun c43 => ?_) (fun c43 => ?_)
    · have h := hk46 c43
      refine g_anull (pc' := 31) dX9_ruling_30 rfl ?_
      exact g_retR rfl (Or.inl ⟨_, rfl⟩) dX9_ruling_31 h
    · have h := hk47 c43
      obtain ⟨ob45, h⟩ := h
      refine g_aload_n (pc' := 19) 0 dX9_ruling_18 rfl rfl ?_
      refine g_getR (pc' := 22) (o := some 15) fl_X9_35 rfl rfl rfl dX9_ruling_19 rfl ?_
      refine g_aload_n (pc' := 23) 0 dX9_ruling_22 rfl rfl ?_
      refine g_getI (pc' := 26) (z := 14) rfl fl_X9_39 rfl rfl dX9_ruling_23 rfl (fun rg44 => ?_)
      refine g_aald (pc' := 27) (N := 6) (o := w.2.2.2 15 (i 7 14)) rfl (by decide) rfl (Nat.lt_of_lt_of_le (Nat.lt_succ_self _) (Nat.le_of_ble_eq_true rfl)) ob45 rfl dX9_ruling_26 rfl ?_
      refine g_goto (tgt := 31) dX9_ruling_27 rfl ?_
      exact g_retR rfl (Or.inl ⟨_, rfl⟩) dX9_ruling_31 h
theorem e_X9_ruling {w : Wd} {d : Nat} {P : Option Nat → IM → LM → Prop} {i : IM} {l : LM}   (h : gR w d X_X9_ruling P i l 0 [(0, vR (some 7))] []) : cR w (d + 1) X_X9_ruling [vR (some 7)] i l P := CR_of (by decide +kernel) (Nat.le_of_ble_eq_true rfl) h

theorem dJ7_fill_53178_0 : decode cJ7_fill_53178 0 = .ok (.iconst 0, 1) := by decide +kernel
theorem dJ7_fill_53178_1 : decode cJ7_fill_53178 1 = .ok (.istore_n 2, 1) := by decide +kernel
theorem dJ7_fill_53178_2 : decode cJ7_fill_53178 2 = .ok (.aload_n 0, 1) := by decide +kernel
theorem dJ7_fill_53178_3 : decode cJ7_fill_53178 3 = .ok (.arraylength, 1) := by decide +kernel
theorem dJ7_fill_53178_4 : decode cJ7_fill_53178 4 = .ok (.istore_n 3, 1) := by decide +kernel
theorem dJ7_fill_53178_5 : decode cJ7_fill_53178 5 = .ok (.iload_n 2, 1) := by decide +kernel
theorem dJ7_fill_53178_6 : decode cJ7_fill_53178 6 = .ok (.iload_n 3, 1) := by decide +kernel
theorem dJ7_fill_53178_7 : decode cJ7_fill_53178 7 = .ok (.if_icmp .ge 13, 3) := by decide +kernel
theorem dJ7_fill_53178_10 : decode cJ7_fill_53178 10 = .ok (.aload_n 0, 1) := by decide +kernel
theorem dJ7_fill_53178_11 : decode cJ7_fill_53178 11 = .ok (.iload_n 2, 1) := by decide +kernel
theorem dJ7_fill_53178_12 : decode cJ7_fill_53178 12 = .ok (.iload_n 1, 1) := by decide +kernel
theorem dJ7_fill_53178_13 : decode cJ7_fill_53178 13 = .ok (.iastore, 1) := by decide +kernel
theorem dJ7_fill_53178_14 : decode cJ7_fill_53178 14 = .ok (.iinc 2 1, 3) := by decide +kernel
theorem dJ7_fill_53178_17 : decode cJ7_fill_53178 17 = .ok (.goto (-12), 3) := by decide +kernel
theorem dJ7_fill_53178_20 : decode cJ7_fill_53178 20 = .ok (.return_, 1) := by decide +kernel
set_option maxRecDepth 20000 in
theorem s_J7_fill_53178 {w : Wd} {d : Nat} {P : IM → LM → Prop} {i : IM} {l : LM} (p1 : Int) {ar n : Nat} (har : (dw w).2.1 ar = some (.inl (0, n))) (hn : n < 2147483648) (h : gV w d X_J7_fill_53178 P i l 5 [(0, vR (some ar)), (1, vI p1), (2, vI 0), (3, vI ((n : Nat) : Int))] []) : gV w d X_J7_fill_53178 P i l 0 [(0, vR (some ar)), (1, vI p1)] [] := by
  refine g_iconst (pc' := 1) dJ7_fill_53178_0 rfl ?_
  refine g_istore_n (pc' := 2) (L' := [(2, vI 0), (0, vR (some ar)), (1, vI p1)]) dJ7_fill_53178_1 rfl (Nat.le_of_ble_eq_true rfl) rfl ?_
  refine g_aload_n (pc' := 3) 1 dJ7_fill_53178_2 rfl rfl ?_
  refine g_alen (pc' := 4) (N := ((n : Nat) : Int)) rfl har (by decide) dJ7_fill_53178_3 rfl ?_
  refine g_istore_n (pc' := 5) (L' := [(3, vI ((n : Nat) : Int)), (2, vI 0), (0, vR (some ar)), (1, vI p1)]) dJ7_fill_53178_4 rfl (Nat.le_of_ble_eq_true rfl) rfl ?_
  refine g_sub (L' := [(0, vR (some ar)), (1, vI p1), (2, vI 0), (3, vI ((n : Nat) : Int))]) [2, 3, 1, 0] rfl ?_
  exact h
theorem e_J7_fill_53178 {w : Wd} {d : Nat} {P : IM → LM → Prop} {i : IM} {l : LM} {p1 : Int} {ar : Nat} (h : gV w d X_J7_fill_53178 P i l 0 [(0, vR (some ar)), (1, vI p1)] []) : cVd w (d + 1) X_J7_fill_53178 [vR (some ar), vI p1] i l P := CV_of (by decide +kernel) (Nat.le_of_ble_eq_true rfl) h
set_option maxRecDepth 20000 in
theorem s_J7_fill_53178_5 {w : Wd} {d : Nat} {P : IM → LM → Prop} {i : IM} {l : LM} (x1 : Int) (x2 : Int) (x3 : Int) {ar n : Nat} (har : (dw w).2.1 ar = some (.inl (0, n))) (hn : n < 2147483648) (h : ((rg x2) ∧ (rg x3) ∧ ((x3 ≤ x2) → P i l) ∧ ((¬ (x3 ≤ x2)) → ((0 ≤ x2 ∧ x2 < ((n : Nat) : Int)) ∧ (rg x1) ∧ gV w d X_J7_fill_53178 P (u2 i ar x2 x1) l 5 [(0, vR (some ar)), (1, vI x1), (2, vI (x2 + 1)), (3, vI x3)] [])))) : gV w d X_J7_fill_53178 P i l 5 [(0, vR (some ar)), (1, vI x1), (2, vI x2), (3, vI x3)] [] := by
  refine g_iload_n (pc' := 6) 2 dJ7_fill_53178_5 rfl rfl ?_
  refine g_iload_n (pc' := 7) 3 dJ7_fill_53178_6 rfl rfl ?_
  obtain ⟨hob2, hob3, hk7, hk8⟩ := h
  refine g_icmp_ge (tgt := 20) (pc' := 10) (hob2) (hob3) Iff.rfl dJ7_fill_53178_7 rfl rfl (fun c4 => ?_) (fun c4 => ?_)
  · have h := hk7 c4
    exact g_retV rfl dJ7_fill_53178_20 h
  · have h := hk8 c4
    obtain ⟨ob5, ob6, h⟩ := h
    refine g_aload_n (pc' := 11) 0 dJ7_fill_53178_10 rfl rfl ?_
    refine g_iload_n (pc' := 12) 2 dJ7_fill_53178_11 rfl rfl ?_
    refine g_iload_n (pc' := 13) 1 dJ7_fill_53178_12 rfl rfl ?_
    refine g_iast (pc' := 14) (N := ((n : Nat) : Int)) har rfl hn ob5 ob6 dJ7_fill_53178_13 rfl ?_
    refine g_iinc (pc' := 17) (L' := [(2, vI (x2 + 1)), (0, vR (some ar)), (1, vI x1), (3, vI x3)]) 2 dJ7_fill_53178_14 rfl (Nat.le_of_ble_eq_true rfl) rfl rfl ?_
    refine g_goto (tgt := 5) dJ7_fill_53178_17 rfl ?_
    refine g_sub (L' := [(0, vR (some ar)), (1, vI x1), (2, vI (x2 + 1)), (3, vI x3)]) [1, 2, 0, 3] rfl ?_
    exact h
