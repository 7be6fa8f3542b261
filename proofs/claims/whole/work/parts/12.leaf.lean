theorem dX12_lies_0 : decode cX12_lies 0 = .ok (.iload_n 0, 1) := by decide +kernel
theorem dX12_lies_1 : decode cX12_lies 1 = .ok (.iload_n 1, 1) := by decide +kernel
theorem dX12_lies_2 : decode cX12_lies 2 = .ok (.if_icmp .lt 12, 3) := by decide +kernel
theorem dX12_lies_5 : decode cX12_lies 5 = .ok (.iload_n 0, 1) := by decide +kernel
theorem dX12_lies_6 : decode cX12_lies 6 = .ok (.iload_n 2, 1) := by decide +kernel
theorem dX12_lies_7 : decode cX12_lies 7 = .ok (.if_icmp .gt 7, 3) := by decide +kernel
theorem dX12_lies_10 : decode cX12_lies 10 = .ok (.iconst 1, 1) := by decide +kernel
theorem dX12_lies_11 : decode cX12_lies 11 = .ok (.goto 4, 3) := by decide +kernel
theorem dX12_lies_14 : decode cX12_lies 14 = .ok (.iconst 0, 1) := by decide +kernel
theorem dX12_lies_15 : decode cX12_lies 15 = .ok (.ireturn, 1) := by decide +kernel
set_option maxRecDepth 20000 in
theorem s_X12_lies {w : Wd} {d : Nat} {P : Int → IM → LM → Prop} {i : IM} {l : LM} (p0 : Int) (p1 : Int) (p2 : Int)  (h : ((rg p0) ∧ (rg p1) ∧ (¬ (p0 < p1) → rg p2) ∧ P (bI (¬ (p0 < p1) ∧ (¬ (p2 < p0)))) i l)) : gI w d X_X12_lies P i l 0 [(0, vI p0), (1, vI p1), (2, vI p2)] [] := by
  refine g_iload_n (pc' := 1) 0 dX12_lies_0 rfl rfl ?_
  refine g_iload_n (pc' := 2) 1 dX12_lies_1 rfl rfl ?_
  obtain ⟨hob2, hob3, hob5, h⟩ := h
  have hJ : gI w d X_X12_lies P i l 15 [(0, vI p0), (1, vI p1), (2, vI p2)] [vI (bI (¬ (p0 < p1) ∧ (¬ (p2 < p0))))] := by
    exact g_retZ rfl (bI_01 _) dX12_lies_15 h
  refine g_icmp_lt (tgt := 14) (pc' := 5) (hob2) (hob3) Iff.rfl dX12_lies_2 rfl rfl (fun c4 => ?_) (fun c4 => ?_)
  · refine g_iconst (pc' := 15) dX12_lies_14 rfl ?_
    rw [bI_f (p := (¬ (p0 < p1) ∧ (¬ (p2 < p0)))) (fun q => q.1 c4)] at hJ
    exact hJ
  · refine g_iload_n (pc' := 6) 0 dX12_lies_5 rfl rfl ?_
    refine g_iload_n (pc' := 7) 2 dX12_lies_6 rfl rfl ?_
    refine g_icmp_gt (tgt := 14) (pc' := 10) (hob2) (hob5 c4) Iff.rfl dX12_lies_7 rfl rfl (fun c6 => ?_) (fun c6 => ?_)
    · refine g_iconst (pc' := 15) dX12_lies_14 rfl ?_
      rw [bI_f (p := (¬ (p0 < p1) ∧ (¬ (p2 < p0)))) (fun q => (fun q => q c6) q.2)] at hJ
      exact hJ
    · refine g_iconst (pc' := 11) dX12_lies_10 rfl ?_
      refine g_goto (tgt := 15) dX12_lies_11 rfl ?_
      rw [bI_t (p := (¬ (p0 < p1) ∧ (¬ (p2 < p0)))) ⟨c4, c6⟩] at hJ
      exact hJ
theorem e_X12_lies {w : Wd} {d : Nat} {P : Int → IM → LM → Prop} {i : IM} {l : LM} {p0 : Int} {p1 : Int} {p2 : Int}  (h : gI w d X_X12_lies P i l 0 [(0, vI p0), (1, vI p1), (2, vI p2)] []) : cI w (d + 1) X_X12_lies [vI p0, vI p1, vI p2] i l P := CI_of (by decide +kernel) (Nat.le_of_ble_eq_true rfl) h

theorem dX12_isIn_0 : decode cX12_isIn 0 = .ok (.iload_n 0, 1) := by decide +kernel
theorem dX12_isIn_1 : decode cX12_isIn 1 = .ok (.iload_n 1, 1) := by decide +kernel
theorem dX12_isIn_2 : decode cX12_isIn 2 = .ok (.ishr, 1) := by decide +kernel
theorem dX12_isIn_3 : decode cX12_isIn 3 = .ok (.iconst 1, 1) := by decide +kernel
theorem dX12_isIn_4 : decode cX12_isIn 4 = .ok (.iand, 1) := by decide +kernel
theorem dX12_isIn_5 : decode cX12_isIn 5 = .ok (.iconst 1, 1) := by decide +kernel
theorem dX12_isIn_6 : decode cX12_isIn 6 = .ok (.if_icmp .ne 7, 3) := by decide +kernel
theorem dX12_isIn_9 : decode cX12_isIn 9 = .ok (.iconst 1, 1) := by decide +kernel
theorem dX12_isIn_10 : decode cX12_isIn 10 = .ok (.goto 4, 3) := by decide +kernel
theorem dX12_isIn_13 : decode cX12_isIn 13 = .ok (.iconst 0, 1) := by decide +kernel
theorem dX12_isIn_14 : decode cX12_isIn 14 = .ok (.ireturn, 1) := by decide +kernel
set_option maxRecDepth 20000 in
theorem s_X12_isIn {w : Wd} {d : Nat} {P : Int → IM → LM → Prop} {i : IM} {l : LM} (p0 : Int) (p1 : Int)  (h : P (bI (iand (ishr p0 p1) 1 = 1)) i l) : gI w d X_X12_isIn P i l 0 [(0, vI p0), (1, vI p1)] [] := by
  refine g_iload_n (pc' := 1) 0 dX12_isIn_0 rfl rfl ?_
  refine g_iload_n (pc' := 2) 1 dX12_isIn_1 rfl rfl ?_
  refine g_ishr (pc' := 3) dX12_isIn_2 rfl ?_
  refine g_iconst (pc' := 4) dX12_isIn_3 rfl ?_
  refine g_iand (pc' := 5) dX12_isIn_4 rfl ?_
  refine g_iconst (pc' := 6) dX12_isIn_5 rfl ?_
  have hJ : gI w d X_X12_isIn P i l 14 [(0, vI p0), (1, vI p1)] [vI (bI (iand (ishr p0 p1) 1 = 1))] := by
    exact g_retZ rfl (bI_01 _) dX12_isIn_14 h
  refine g_icmp_ne (tgt := 13) (pc' := 9) (rg_iand _ _) (rg_lit rfl) Iff.rfl dX12_isIn_6 rfl rfl (fun c2 => ?_) (fun c2 => ?_)
  · refine g_iconst (pc' := 14) dX12_isIn_13 rfl ?_
    rw [bI_f (p := (iand (ishr p0 p1) 1 = 1)) c2] at hJ
    exact hJ
  · refine g_iconst (pc' := 10) dX12_isIn_9 rfl ?_
    refine g_goto (tgt := 14) dX12_isIn_10 rfl ?_
    rw [bI_t (p := (iand (ishr p0 p1) 1 = 1)) c2] at hJ
    exact hJ
theorem e_X12_isIn {w : Wd} {d : Nat} {P : Int → IM → LM → Prop} {i : IM} {l : LM} {p0 : Int} {p1 : Int}  (h : gI w d X_X12_isIn P i l 0 [(0, vI p0), (1, vI p1)] []) : cI w (d + 1) X_X12_isIn [vI p0, vI p1] i l P := CI_of (by decide +kernel) (Nat.le_of_ble_eq_true rfl) h

theorem dX12_ones_0 : decode cX12_ones 0 = .ok (.iconst 0, 1) := by decide +kernel
theorem dX12_ones_1 : decode cX12_ones 1 = .ok (.istore_n 1, 1) := by decide +kernel
theorem dX12_ones_2 : decode cX12_ones 2 = .ok (.iconst 0, 1) := by decide +kernel
theorem dX12_ones_3 : decode cX12_ones 3 = .ok (.istore_n 2, 1) := by decide +kernel
theorem dX12_ones_4 : decode cX12_ones 4 = .ok (.iload_n 2, 1) := by decide +kernel
theorem dX12_ones_5 : decode cX12_ones 5 = .ok (.bipush 16, 2) := by decide +kernel
theorem dX12_ones_7 : decode cX12_ones 7 = .ok (.if_icmp .ge 17, 3) := by decide +kernel
theorem dX12_ones_10 : decode cX12_ones 10 = .ok (.iload_n 1, 1) := by decide +kernel
theorem dX12_ones_11 : decode cX12_ones 11 = .ok (.iload_n 0, 1) := by decide +kernel
theorem dX12_ones_12 : decode cX12_ones 12 = .ok (.iload_n 2, 1) := by decide +kernel
theorem dX12_ones_13 : decode cX12_ones 13 = .ok (.ishr, 1) := by decide +kernel
theorem dX12_ones_14 : decode cX12_ones 14 = .ok (.iconst 1, 1) := by decide +kernel
theorem dX12_ones_15 : decode cX12_ones 15 = .ok (.iand, 1) := by decide +kernel
theorem dX12_ones_16 : decode cX12_ones 16 = .ok (.iadd, 1) := by decide +kernel
theorem dX12_ones_17 : decode cX12_ones 17 = .ok (.istore_n 1, 1) := by decide +kernel
theorem dX12_ones_18 : decode cX12_ones 18 = .ok (.iinc 2 1, 3) := by decide +kernel
theorem dX12_ones_21 : decode cX12_ones 21 = .ok (.goto (-17), 3) := by decide +kernel
theorem dX12_ones_24 : decode cX12_ones 24 = .ok (.iload_n 1, 1) := by decide +kernel
theorem dX12_ones_25 : decode cX12_ones 25 = .ok (.ireturn, 1) := by decide +kernel
set_option maxRecDepth 20000 in
theorem s_X12_ones {w : Wd} {d : Nat} {P : Int → IM → LM → Prop} {i : IM} {l : LM} (p0 : Int)  (h : gI w d X_X12_ones P i l 4 [(0, vI p0), (1, vI 0), (2, vI 0)] []) : gI w d X_X12_ones P i l 0 [(0, vI p0)] [] := by
  refine g_iconst (pc' := 1) dX12_ones_0 rfl ?_
  refine g_istore_n (pc' := 2) (L' := [(1, vI 0), (0, vI p0)]) dX12_ones_1 rfl (Nat.le_of_ble_eq_true rfl) rfl ?_
  refine g_iconst (pc' := 3) dX12_ones_2 rfl ?_
  refine g_istore_n (pc' := 4) (L' := [(2, vI 0), (1, vI 0), (0, vI p0)]) dX12_ones_3 rfl (Nat.le_of_ble_eq_true rfl) rfl ?_
  refine g_sub (L' := [(0, vI p0), (1, vI 0), (2, vI 0)]) [2, 1, 0] rfl ?_
  exact h
theorem e_X12_ones {w : Wd} {d : Nat} {P : Int → IM → LM → Prop} {i : IM} {l : LM} {p0 : Int}  (h : gI w d X_X12_ones P i l 0 [(0, vI p0)] []) : cI w (d + 1) X_X12_ones [vI p0] i l P := CI_of (by decide +kernel) (Nat.le_of_ble_eq_true rfl) h
set_option maxRecDepth 20000 in
theorem s_X12_ones_4 {w : Wd} {d : Nat} {P : Int → IM → LM → Prop} {i : IM} {l : LM} (x0 : Int) (x1 : Int) (x2 : Int)  (h : ((rg x2) ∧ ((16 ≤ x2) → ((rg x1) ∧ P x1 i l)) ∧ ((¬ (16 ≤ x2)) → gI w d X_X12_ones P i l 4 [(0, vI x0), (1, vI (x1 + (iand (ishr x0 x2) 1))), (2, vI (x2 + 1))] []))) : gI w d X_X12_ones P i l 4 [(0, vI x0), (1, vI x1), (2, vI x2)] [] := by
  refine g_iload_n (pc' := 5) 2 dX12_ones_4 rfl rfl ?_
  refine g_bipush (pc' := 7) dX12_ones_5 rfl rfl ?_
  obtain ⟨hob2, hk5, hk6⟩ := h
  refine g_icmp_ge (tgt := 24) (pc' := 10) (hob2) (rg_lit rfl) Iff.rfl dX12_ones_7 rfl rfl (fun c3 => ?_) (fun c3 => ?_)
  · have h := hk5 c3
    obtain ⟨ob4, h⟩ := h
    refine g_iload_n (pc' := 25) 1 dX12_ones_24 rfl rfl ?_
    exact g_retI rfl ob4 dX12_ones_25 h
  · have h := hk6 c3
    refine g_iload_n (pc' := 11) 1 dX12_ones_10 rfl rfl ?_
    refine g_iload_n (pc' := 12) 0 dX12_ones_11 rfl rfl ?_
    refine g_iload_n (pc' := 13) 2 dX12_ones_12 rfl rfl ?_
    refine g_ishr (pc' := 14) dX12_ones_13 rfl ?_
    refine g_iconst (pc' := 15) dX12_ones_14 rfl ?_
    refine g_iand (pc' := 16) dX12_ones_15 rfl ?_
    refine g_iadd (pc' := 17) dX12_ones_16 rfl ?_
    refine g_istore_n (pc' := 18) (L' := [(1, vI (x1 + (iand (ishr x0 x2) 1))), (0, vI x0), (2, vI x2)]) dX12_ones_17 rfl (Nat.le_of_ble_eq_true rfl) rfl ?_
    refine g_iinc (pc' := 21) (L' := [(2, vI (x2 + 1)), (1, vI (x1 + (iand (ishr x0 x2) 1))), (0, vI x0)]) 2 dX12_ones_18 rfl (Nat.le_of_ble_eq_true rfl) rfl rfl ?_
    refine g_goto (tgt := 4) dX12_ones_21 rfl ?_
    refine g_sub (L' := [(0, vI x0), (1, vI (x1 + (iand (ishr x0 x2) 1))), (2, vI (x2 + 1))]) [2, 1, 0] rfl ?_
    exact h

theorem dX12_lesser_0 : decode cX12_lesser 0 = .ok (.iload_n 0, 1) := by decide +kernel
theorem dX12_lesser_1 : decode cX12_lesser 1 = .ok (.iload_n 1, 1) := by decide +kernel
theorem dX12_lesser_2 : decode cX12_lesser 2 = .ok (.if_icmp .ge 7, 3) := by decide +kernel
theorem dX12_lesser_5 : decode cX12_lesser 5 = .ok (.iload_n 0, 1) := by decide +kernel
theorem dX12_lesser_6 : decode cX12_lesser 6 = .ok (.goto 4, 3) := by decide +kernel
theorem dX12_lesser_9 : decode cX12_lesser 9 = .ok (.iload_n 1, 1) := by decide +kernel
theorem dX12_lesser_10 : decode cX12_lesser 10 = .ok (.ireturn, 1) := by decide +kernel
set_option maxRecDepth 20000 in
theorem s_X12_lesser {w : Wd} {d : Nat} {P : Int → IM → LM → Prop} {i : IM} {l : LM} (p0 : Int) (p1 : Int)  (h : ((rg p0) ∧ (rg p1) ∧ P (if (p1 ≤ p0) then p1 else p0) i l)) : gI w d X_X12_lesser P i l 0 [(0, vI p0), (1, vI p1)] [] := by
  refine g_iload_n (pc' := 1) 0 dX12_lesser_0 rfl rfl ?_
  refine g_iload_n (pc' := 2) 1 dX12_lesser_1 rfl rfl ?_
  obtain ⟨hob2, hob3, h⟩ := h
  have hJ : gI w d X_X12_lesser P i l 10 [(0, vI p0), (1, vI p1)] [vI (if (p1 ≤ p0) then p1 else p0)] := by
    exact g_retI rfl (rg_ite (hob3) (hob2)) dX12_lesser_10 h
  refine g_icmp_ge (tgt := 9) (pc' := 5) (hob2) (hob3) Iff.rfl dX12_lesser_2 rfl rfl (fun c4 => ?_) (fun c4 => ?_)
  · refine g_iload_n (pc' := 10) 1 dX12_lesser_9 rfl rfl ?_
    rw [if_pos c4 (α := Int) (t := p1) (e := p0)] at hJ
    exact hJ
  · refine g_iload_n (pc' := 6) 0 dX12_lesser_5 rfl rfl ?_
    refine g_goto (tgt := 10) dX12_lesser_6 rfl ?_
    rw [if_neg c4 (α := Int) (t := p1) (e := p0)] at hJ
    exact hJ
theorem e_X12_lesser {w : Wd} {d : Nat} {P : Int → IM → LM → Prop} {i : IM} {l : LM} {p0 : Int} {p1 : Int}  (h : gI w d X_X12_lesser P i l 0 [(0, vI p0), (1, vI p1)] []) : cI w (d + 1) X_X12_lesser [vI p0, vI p1] i l P := CI_of (by decide +kernel) (Nat.le_of_ble_eq_true rfl) h

theorem dX12_mostOf_0 : decode cX12_mostOf 0 = .ok (.iload_n 0, 1) := by decide +kernel
theorem dX12_mostOf_1 : decode cX12_mostOf 1 = .ok (.ifCond .ne 7, 3) := by decide +kernel
theorem dX12_mostOf_4 : decode cX12_mostOf 4 = .ok (.iconst 3, 1) := by decide +kernel
theorem dX12_mostOf_5 : decode cX12_mostOf 5 = .ok (.goto 24, 3) := by decide +kernel
theorem dX12_mostOf_8 : decode cX12_mostOf 8 = .ok (.iload_n 0, 1) := by decide +kernel
theorem dX12_mostOf_9 : decode cX12_mostOf 9 = .ok (.iconst 3, 1) := by decide +kernel
theorem dX12_mostOf_10 : decode cX12_mostOf 10 = .ok (.if_icmp .ge 8, 3) := by decide +kernel
theorem dX12_mostOf_13 : decode cX12_mostOf 13 = .ok (.bipush 7, 2) := by decide +kernel
theorem dX12_mostOf_15 : decode cX12_mostOf 15 = .ok (.goto 14, 3) := by decide +kernel
theorem dX12_mostOf_18 : decode cX12_mostOf 18 = .ok (.iload_n 0, 1) := by decide +kernel
theorem dX12_mostOf_19 : decode cX12_mostOf 19 = .ok (.iconst 5, 1) := by decide +kernel
theorem dX12_mostOf_20 : decode cX12_mostOf 20 = .ok (.if_icmp .ge 8, 3) := by decide +kernel
theorem dX12_mostOf_23 : decode cX12_mostOf 23 = .ok (.bipush 99, 2) := by decide +kernel
theorem dX12_mostOf_25 : decode cX12_mostOf 25 = .ok (.goto 4, 3) := by decide +kernel
theorem dX12_mostOf_28 : decode cX12_mostOf 28 = .ok (.iconst 1, 1) := by decide +kernel
theorem dX12_mostOf_29 : decode cX12_mostOf 29 = .ok (.ireturn, 1) := by decide +kernel
set_option maxRecDepth 20000 in
theorem s_X12_mostOf {w : Wd} {d : Nat} {P : Int → IM → LM → Prop} {i : IM} {l : LM} (p0 : Int)  (h : ((rg p0) ∧ P (if (p0 = 0) then 3 else (if (3 ≤ p0) then (if (5 ≤ p0) then 1 else 99) else 7)) i l)) : gI w d X_X12_mostOf P i l 0 [(0, vI p0)] [] := by
  refine g_iload_n (pc' := 1) 0 dX12_mostOf_0 rfl rfl ?_
  obtain ⟨hob2, h⟩ := h
  have hJ : gI w d X_X12_mostOf P i l 29 [(0, vI p0)] [vI (if (p0 = 0) then 3 else (if (3 ≤ p0) then (if (5 ≤ p0) then 1 else 99) else 7))] := by
    exact g_retI rfl (rg_ite (rg_lit rfl) (rg_ite (rg_ite (rg_lit rfl) (rg_lit rfl)) (rg_lit rfl))) dX12_mostOf_29 h
  refine g_if_ne (tgt := 8) (pc' := 4) (hob2) Iff.rfl dX12_mostOf_1 rfl rfl (fun c3 => ?_) (fun c3 => ?_)
  · refine g_iload_n (pc' := 9) 0 dX12_mostOf_8 rfl rfl ?_
    refine g_iconst (pc' := 10) dX12_mostOf_9 rfl ?_
    refine g_icmp_ge (tgt := 18) (pc' := 13) (hob2) (rg_lit rfl) Iff.rfl dX12_mostOf_10 rfl rfl (fun c4 => ?_) (fun c4 => ?_)
    · refine g_iload_n (pc' := 19) 0 dX12_mostOf_18 rfl rfl ?_
      refine g_iconst (pc' := 20) dX12_mostOf_19 rfl ?_
      refine g_icmp_ge (tgt := 28) (pc' := 23) (hob2) (rg_lit rfl) Iff.rfl dX12_mostOf_20 rfl rfl (fun c5 => ?_) (fun c5 => ?_)
      · refine g_iconst (pc' := 29) dX12_mostOf_28 rfl ?_
        rw [if_neg c3 (α := Int) (t := 3) (e := (if (3 ≤ p0) then (if (5 ≤ p0) then 1 else 99) else 7)), if_pos c4 (α := Int) (t := (if (5 ≤ p0) then 1 else 99)) (e := 7), if_pos c5 (α := Int) (t := 1) (e := 99)] at hJ
        exact hJ
      · refine g_bipush (pc' := 25) dX12_mostOf_23 rfl rfl ?_
        refine g_goto (tgt := 29) dX12_mostOf_25 rfl ?_
        rw [if_neg c3 (α := Int) (t := 3) (e := (if (3 ≤ p0) then (if (5 ≤ p0) then 1 else 99) else 7)), if_pos c4 (α := Int) (t := (if (5 ≤ p0) then 1 else 99)) (e := 7), if_neg c5 (α := Int) (t := 1) (e := 99)] at hJ
        exact hJ
    · refine g_bipush (pc' := 15) dX12_mostOf_13 rfl rfl ?_
      refine g_goto (tgt := 29) dX12_mostOf_15 rfl ?_
      rw [if_neg c3 (α := Int) (t := 3) (e := (if (3 ≤ p0) then (if (5 ≤ p0) then 1 else 99) else 7)), if_neg c4 (α := Int) (t := (if (5 ≤ p0) then 1 else 99)) (e := 7)] at hJ
      exact hJ
  · refine g_iconst (pc' := 5) dX12_mostOf_4 rfl ?_
    refine g_goto (tgt := 29) dX12_mostOf_5 rfl ?_
    rw [if_pos c3 (α := Int) (t := 3) (e := (if (3 ≤ p0) then (if (5 ≤ p0) then 1 else 99) else 7))] at hJ
    exact hJ
theorem e_X12_mostOf {w : Wd} {d : Nat} {P : Int → IM → LM → Prop} {i : IM} {l : LM} {p0 : Int}  (h : gI w d X_X12_mostOf P i l 0 [(0, vI p0)] []) : cI w (d + 1) X_X12_mostOf [vI p0] i l P := CI_of (by decide +kernel) (Nat.le_of_ble_eq_true rfl) h

theorem dX12_isSmall_0 : decode cX12_isSmall 0 = .ok (.iload_n 0, 1) := by decide +kernel
theorem dX12_isSmall_1 : decode cX12_isSmall 1 = .ok (.bipush 97, 2) := by decide +kernel
theorem dX12_isSmall_3 : decode cX12_isSmall 3 = .ok (.if_icmp .lt 13, 3) := by decide +kernel
theorem dX12_isSmall_6 : decode cX12_isSmall 6 = .ok (.iload_n 0, 1) := by decide +kernel
theorem dX12_isSmall_7 : decode cX12_isSmall 7 = .ok (.bipush 122, 2) := by decide +kernel
theorem dX12_isSmall_9 : decode cX12_isSmall 9 = .ok (.if_icmp .gt 7, 3) := by decide +kernel
theorem dX12_isSmall_12 : decode cX12_isSmall 12 = .ok (.iconst 1, 1) := by decide +kernel
theorem dX12_isSmall_13 : decode cX12_isSmall 13 = .ok (.goto 4, 3) := by decide +kernel
theorem dX12_isSmall_16 : decode cX12_isSmall 16 = .ok (.iconst 0, 1) := by decide +kernel
theorem dX12_isSmall_17 : decode cX12_isSmall 17 = .ok (.ireturn, 1) := by decide +kernel
set_option maxRecDepth 20000 in
theorem s_X12_isSmall {w : Wd} {d : Nat} {P : Int → IM → LM → Prop} {i : IM} {l : LM} (p0 : Int)  (h : ((rg p0) ∧ P (bI (¬ (p0 < 97) ∧ (¬ (122 < p0)))) i l)) : gI w d X_X12_isSmall P i l 0 [(0, vI p0)] [] := by
  refine g_iload_n (pc' := 1) 0 dX12_isSmall_0 rfl rfl ?_
  refine g_bipush (pc' := 3) dX12_isSmall_1 rfl rfl ?_
  obtain ⟨hob2, h⟩ := h
  have hJ : gI w d X_X12_isSmall P i l 17 [(0, vI p0)] [vI (bI (¬ (p0 < 97) ∧ (¬ (122 < p0))))] := by
    exact g_retZ rfl (bI_01 _) dX12_isSmall_17 h
  refine g_icmp_lt (tgt := 16) (pc' := 6) (hob2) (rg_lit rfl) Iff.rfl dX12_isSmall_3 rfl rfl (fun c3 => ?_) (fun c3 => ?_)
  · refine g_iconst (pc' := 17) dX12_isSmall_16 rfl ?_
    rw [bI_f (p := (¬ (p0 < 97) ∧ (¬ (122 < p0)))) (fun q => q.1 c3)] at hJ
    exact hJ
  · refine g_iload_n (pc' := 7) 0 dX12_isSmall_6 rfl rfl ?_
    refine g_bipush (pc' := 9) dX12_isSmall_7 rfl rfl ?_
    refine g_icmp_gt (tgt := 16) (pc' := 12) (hob2) (rg_lit rfl) Iff.rfl dX12_isSmall_9 rfl rfl (fun c4 => ?_) (fun c4 => ?_)
    · refine g_iconst (pc' := 17) dX12_isSmall_16 rfl ?_
      rw [bI_f (p := (¬ (p0 < 97) ∧ (¬ (122 < p0)))) (fun q => (fun q => q c4) q.2)] at hJ
      exact hJ
    · refine g_iconst (pc' := 13) dX12_isSmall_12 rfl ?_
      refine g_goto (tgt := 17) dX12_isSmall_13 rfl ?_
      rw [bI_t (p := (¬ (p0 < 97) ∧ (¬ (122 < p0)))) ⟨c3, c4⟩] at hJ
      exact hJ
theorem e_X12_isSmall {w : Wd} {d : Nat} {P : Int → IM → LM → Prop} {i : IM} {l : LM} {p0 : Int}  (h : gI w d X_X12_isSmall P i l 0 [(0, vI p0)] []) : cI w (d + 1) X_X12_isSmall [vI p0] i l P := CI_of (by decide +kernel) (Nat.le_of_ble_eq_true rfl) h

theorem dX12_isDigit_0 : decode cX12_isDigit 0 = .ok (.iload_n 0, 1) := by decide +kernel
theorem dX12_isDigit_1 : decode cX12_isDigit 1 = .ok (.bipush 48, 2) := by decide +kernel
theorem dX12_isDigit_3 : decode cX12_isDigit 3 = .ok (.if_icmp .lt 13, 3) := by decide +kernel
theorem dX12_isDigit_6 : decode cX12_isDigit 6 = .ok (.iload_n 0, 1) := by decide +kernel
theorem dX12_isDigit_7 : decode cX12_isDigit 7 = .ok (.bipush 57, 2) := by decide +kernel
theorem dX12_isDigit_9 : decode cX12_isDigit 9 = .ok (.if_icmp .gt 7, 3) := by decide +kernel
theorem dX12_isDigit_12 : decode cX12_isDigit 12 = .ok (.iconst 1, 1) := by decide +kernel
theorem dX12_isDigit_13 : decode cX12_isDigit 13 = .ok (.goto 4, 3) := by decide +kernel
theorem dX12_isDigit_16 : decode cX12_isDigit 16 = .ok (.iconst 0, 1) := by decide +kernel
theorem dX12_isDigit_17 : decode cX12_isDigit 17 = .ok (.ireturn, 1) := by decide +kernel
set_option maxRecDepth 20000 in
theorem s_X12_isDigit {w : Wd} {d : Nat} {P : Int → IM → LM → Prop} {i : IM} {l : LM} (p0 : Int)  (h : ((rg p0) ∧ P (bI (¬ (p0 < 48) ∧ (¬ (57 < p0)))) i l)) : gI w d X_X12_isDigit P i l 0 [(0, vI p0)] [] := by
  refine g_iload_n (pc' := 1) 0 dX12_isDigit_0 rfl rfl ?_
  refine g_bipush (pc' := 3) dX12_isDigit_1 rfl rfl ?_
  obtain ⟨hob2, h⟩ := h
  have hJ : gI w d X_X12_isDigit P i l 17 [(0, vI p0)] [vI (bI (¬ (p0 < 48) ∧ (¬ (57 < p0))))] := by
    exact g_retZ rfl (bI_01 _) dX12_isDigit_17 h
  refine g_icmp_lt (tgt := 16) (pc' := 6) (hob2) (rg_lit rfl) Iff.rfl dX12_isDigit_3 rfl rfl (fun c3 => ?_) (fun c3 => ?_)
  · refine g_iconst (pc' := 17) dX12_isDigit_16 rfl ?_
    rw [bI_f (p := (¬ (p0 < 48) ∧ (¬ (57 < p0)))) (fun q => q.1 c3)] at hJ
    exact hJ
  · refine g_iload_n (pc' := 7) 0 dX12_isDigit_6 rfl rfl ?_
    refine g_bipush (pc' := 9) dX12_isDigit_7 rfl rfl ?_
    refine g_icmp_gt (tgt := 16) (pc' := 12) (hob2) (rg_lit rfl) Iff.rfl dX12_isDigit_9 rfl rfl (fun c4 => ?_) (fun c4 => ?_)
    · refine g_iconst (pc' := 17) dX12_isDigit_16 rfl ?_
      rw [bI_f (p := (¬ (p0 < 48) ∧ (¬ (57 < p0)))) (fun q => (fun q => q c4) q.2)] at hJ
      exact hJ
    · refine g_iconst (pc' := 13) dX12_isDigit_12 rfl ?_
      refine g_goto (tgt := 17) dX12_isDigit_13 rfl ?_
      rw [bI_t (p := (¬ (p0 < 48) ∧ (¬ (57 < p0)))) ⟨c3, c4⟩] at hJ
      exact hJ
theorem e_X12_isDigit {w : Wd} {d : Nat} {P : Int → IM → LM → Prop} {i : IM} {l : LM} {p0 : Int}  (h : gI w d X_X12_isDigit P i l 0 [(0, vI p0)] []) : cI w (d + 1) X_X12_isDigit [vI p0] i l P := CI_of (by decide +kernel) (Nat.le_of_ble_eq_true rfl) h

theorem dX12_sign_0 : decode cX12_sign 0 = .ok (.bipush 100, 2) := by decide +kernel
theorem dX12_sign_2 : decode cX12_sign 2 = .ok (.iload_n 0, 1) := by decide +kernel
theorem dX12_sign_3 : decode cX12_sign 3 = .ok (.iadd, 1) := by decide +kernel
theorem dX12_sign_4 : decode cX12_sign 4 = .ok (.ireturn, 1) := by decide +kernel
set_option maxRecDepth 20000 in
theorem s_X12_sign {w : Wd} {d : Nat} {P : Int → IM → LM → Prop} {i : IM} {l : LM} (p0 : Int)  (h : ((rg (100 + p0)) ∧ P (100 + p0) i l)) : gI w d X_X12_sign P i l 0 [(0, vI p0)] [] := by
  obtain ⟨ob1, h⟩ := h
  refine g_bipush (pc' := 2) dX12_sign_0 rfl rfl ?_
  refine g_iload_n (pc' := 3) 0 dX12_sign_2 rfl rfl ?_
  refine g_iadd (pc' := 4) dX12_sign_3 rfl ?_
  exact g_retI rfl ob1 dX12_sign_4 h
theorem e_X12_sign {w : Wd} {d : Nat} {P : Int → IM → LM → Prop} {i : IM} {l : LM} {p0 : Int}  (h : gI w d X_X12_sign P i l 0 [(0, vI p0)] []) : cI w (d + 1) X_X12_sign [vI p0] i l P := CI_of (by decide +kernel) (Nat.le_of_ble_eq_true rfl) h

theorem dX11_upTo_0 : decode cX11_upTo 0 = .ok (.iload_n 0, 1) := by decide +kernel
theorem dX11_upTo_1 : decode cX11_upTo 1 = .ok (.ifCond .lt 12, 3) := by decide +kernel
theorem dX11_upTo_4 : decode cX11_upTo 4 = .ok (.iload_n 0, 1) := by decide +kernel
theorem dX11_upTo_5 : decode cX11_upTo 5 = .ok (.iload_n 1, 1) := by decide +kernel
theorem dX11_upTo_6 : decode cX11_upTo 6 = .ok (.if_icmp .gt 7, 3) := by decide +kernel
theorem dX11_upTo_9 : decode cX11_upTo 9 = .ok (.iconst 1, 1) := by decide +kernel
theorem dX11_upTo_10 : decode cX11_upTo 10 = .ok (.goto 4, 3) := by decide +kernel
theorem dX11_upTo_13 : decode cX11_upTo 13 = .ok (.iconst 0, 1) := by decide +kernel
theorem dX11_upTo_14 : decode cX11_upTo 14 = .ok (.ireturn, 1) := by decide +kernel
set_option maxRecDepth 20000 in
theorem s_X11_upTo {w : Wd} {d : Nat} {P : Int → IM → LM → Prop} {i : IM} {l : LM} (p0 : Int) (p1 : Int)  (h : ((rg p0) ∧ (¬ (p0 < 0) → rg p1) ∧ P (bI (¬ (p0 < 0) ∧ (¬ (p1 < p0)))) i l)) : gI w d X_X11_upTo P i l 0 [(0, vI p0), (1, vI p1)] [] := by
  refine g_iload_n (pc' := 1) 0 dX11_upTo_0 rfl rfl ?_
  obtain ⟨hob2, hob4, h⟩ := h
  have hJ : gI w d X_X11_upTo P i l 14 [(0, vI p0), (1, vI p1)] [vI (bI (¬ (p0 < 0) ∧ (¬ (p1 < p0))))] := by
    exact g_retZ rfl (bI_01 _) dX11_upTo_14 h
  refine g_if_lt (tgt := 13) (pc' := 4) (hob2) Iff.rfl dX11_upTo_1 rfl rfl (fun c3 => ?_) (fun c3 => ?_)
  · refine g_iconst (pc' := 14) dX11_upTo_13 rfl ?_
    rw [bI_f (p := (¬ (p0 < 0) ∧ (¬ (p1 < p0)))) (fun q => q.1 c3)] at hJ
    exact hJ
  · refine g_iload_n (pc' := 5) 0 dX11_upTo_4 rfl rfl ?_
    refine g_iload_n (pc' := 6) 1 dX11_upTo_5 rfl rfl ?_
    refine g_icmp_gt (tgt := 13) (pc' := 9) (hob2) (hob4 c3) Iff.rfl dX11_upTo_6 rfl rfl (fun c5 => ?_) (fun c5 => ?_)
    · refine g_iconst (pc' := 14) dX11_upTo_13 rfl ?_
      rw [bI_f (p := (¬ (p0 < 0) ∧ (¬ (p1 < p0)))) (fun q => (fun q => q c5) q.2)] at hJ
      exact hJ
    · refine g_iconst (pc' := 10) dX11_upTo_9 rfl ?_
      refine g_goto (tgt := 14) dX11_upTo_10 rfl ?_
      rw [bI_t (p := (¬ (p0 < 0) ∧ (¬ (p1 < p0)))) ⟨c3, c5⟩] at hJ
      exact hJ
theorem e_X11_upTo {w : Wd} {d : Nat} {P : Int → IM → LM → Prop} {i : IM} {l : LM} {p0 : Int} {p1 : Int}  (h : gI w d X_X11_upTo P i l 0 [(0, vI p0), (1, vI p1)] []) : cI w (d + 1) X_X11_upTo [vI p0, vI p1] i l P := CI_of (by decide +kernel) (Nat.le_of_ble_eq_true rfl) h

theorem dX11_below_0 : decode cX11_below 0 = .ok (.iload_n 0, 1) := by decide +kernel
theorem dX11_below_1 : decode cX11_below 1 = .ok (.ifCond .lt 12, 3) := by decide +kernel
theorem dX11_below_4 : decode cX11_below 4 = .ok (.iload_n 0, 1) := by decide +kernel
theorem dX11_below_5 : decode cX11_below 5 = .ok (.iload_n 1, 1) := by decide +kernel
theorem dX11_below_6 : decode cX11_below 6 = .ok (.if_icmp .ge 7, 3) := by decide +kernel
theorem dX11_below_9 : decode cX11_below 9 = .ok (.iconst 1, 1) := by decide +kernel
theorem dX11_below_10 : decode cX11_below 10 = .ok (.goto 4, 3) := by decide +kernel
theorem dX11_below_13 : decode cX11_below 13 = .ok (.iconst 0, 1) := by decide +kernel
theorem dX11_below_14 : decode cX11_below 14 = .ok (.ireturn, 1) := by decide +kernel
set_option maxRecDepth 20000 in
theorem s_X11_below {w : Wd} {d : Nat} {P : Int → IM → LM → Prop} {i : IM} {l : LM} (p0 : Int) (p1 : Int)  (h : ((rg p0) ∧ (¬ (p0 < 0) → rg p1) ∧ P (bI (¬ (p0 < 0) ∧ (¬ (p1 ≤ p0)))) i l)) : gI w d X_X11_below P i l 0 [(0, vI p0), (1, vI p1)] [] := by
  refine g_iload_n (pc' := 1) 0 dX11_below_0 rfl rfl ?_
  obtain ⟨hob2, hob4, h⟩ := h
  have hJ : gI w d X_X11_below P i l 14 [(0, vI p0), (1, vI p1)] [vI (bI (¬ (p0 < 0) ∧ (¬ (p1 ≤ p0))))] := by
    exact g_retZ rfl (bI_01 _) dX11_below_14 h
  refine g_if_lt (tgt := 13) (pc' := 4) (hob2) Iff.rfl dX11_below_1 rfl rfl (fun c3 => ?_) (fun c3 => ?_)
  · refine g_iconst (pc' := 14) dX11_below_13 rfl ?_
    rw [bI_f (p := (¬ (p0 < 0) ∧ (¬ (p1 ≤ p0)))) (fun q => q.1 c3)] at hJ
    exact hJ
  · refine g_iload_n (pc' := 5) 0 dX11_below_4 rfl rfl ?_
    refine g_iload_n (pc' := 6) 1 dX11_below_5 rfl rfl ?_
    refine g_icmp_ge (tgt := 13) (pc' := 9) (hob2) (hob4 c3) Iff.rfl dX11_below_6 rfl rfl (fun c5 => ?_) (fun c5 => ?_)
    · refine g_iconst (pc' := 14) dX11_below_13 rfl ?_
      rw [bI_f (p := (¬ (p0 < 0) ∧ (¬ (p1 ≤ p0)))) (fun q => (fun q => q c5) q.2)] at hJ
      exact hJ
    · refine g_iconst (pc' := 10) dX11_below_9 rfl ?_
      refine g_goto (tgt := 14) dX11_below_10 rfl ?_
      rw [bI_t (p := (¬ (p0 < 0) ∧ (¬ (p1 ≤ p0)))) ⟨c3, c5⟩] at hJ
      exact hJ
theorem e_X11_below {w : Wd} {d : Nat} {P : Int → IM → LM → Prop} {i : IM} {l : LM} {p0 : Int} {p1 : Int}  (h : gI w d X_X11_below P i l 0 [(0, vI p0), (1, vI p1)] []) : cI w (d + 1) X_X11_below [vI p0, vI p1] i l P := CI_of (by decide +kernel) (Nat.le_of_ble_eq_true rfl) h

theorem dX11_areMonths_0 : decode cX11_areMonths 0 = .ok (.iload_n 0, 1) := by decide +kernel
theorem dX11_areMonths_1 : decode cX11_areMonths 1 = .ok (.iconst 1, 1) := by decide +kernel
theorem dX11_areMonths_2 : decode cX11_areMonths 2 = .ok (.if_icmp .lt 14, 3) := by decide +kernel
theorem dX11_areMonths_5 : decode cX11_areMonths 5 = .ok (.iload_n 0, 1) := by decide +kernel
theorem dX11_areMonths_6 : decode cX11_areMonths 6 = .ok (.sipush 4095, 3) := by decide +kernel
theorem dX11_areMonths_9 : decode cX11_areMonths 9 = .ok (.if_icmp .gt 7, 3) := by decide +kernel
theorem dX11_areMonths_12 : decode cX11_areMonths 12 = .ok (.iconst 1, 1) := by decide +kernel
theorem dX11_areMonths_13 : decode cX11_areMonths 13 = .ok (.goto 4, 3) := by decide +kernel
theorem dX11_areMonths_16 : decode cX11_areMonths 16 = .ok (.iconst 0, 1) := by decide +kernel
theorem dX11_areMonths_17 : decode cX11_areMonths 17 = .ok (.ireturn, 1) := by decide +kernel
set_option maxRecDepth 20000 in
theorem s_X11_areMonths {w : Wd} {d : Nat} {P : Int → IM → LM → Prop} {i : IM} {l : LM} (p0 : Int)  (h : ((rg p0) ∧ P (bI (¬ (p0 < 1) ∧ (¬ (4095 < p0)))) i l)) : gI w d X_X11_areMonths P i l 0 [(0, vI p0)] [] := by
  refine g_iload_n (pc' := 1) 0 dX11_areMonths_0 rfl rfl ?_
  refine g_iconst (pc' := 2) dX11_areMonths_1 rfl ?_
  obtain ⟨hob2, h⟩ := h
  have hJ : gI w d X_X11_areMonths P i l 17 [(0, vI p0)] [vI (bI (¬ (p0 < 1) ∧ (¬ (4095 < p0))))] := by
    exact g_retZ rfl (bI_01 _) dX11_areMonths_17 h
  refine g_icmp_lt (tgt := 16) (pc' := 5) (hob2) (rg_lit rfl) Iff.rfl dX11_areMonths_2 rfl rfl (fun c3 => ?_) (fun c3 => ?_)
  · refine g_iconst (pc' := 17) dX11_areMonths_16 rfl ?_
    rw [bI_f (p := (¬ (p0 < 1) ∧ (¬ (4095 < p0)))) (fun q => q.1 c3)] at hJ
    exact hJ
  · refine g_iload_n (pc' := 6) 0 dX11_areMonths_5 rfl rfl ?_
    refine g_sipush (pc' := 9) dX11_areMonths_6 rfl rfl ?_
    refine g_icmp_gt (tgt := 16) (pc' := 12) (hob2) (rg_lit rfl) Iff.rfl dX11_areMonths_9 rfl rfl (fun c4 => ?_) (fun c4 => ?_)
    · refine g_iconst (pc' := 17) dX11_areMonths_16 rfl ?_
      rw [bI_f (p := (¬ (p0 < 1) ∧ (¬ (4095 < p0)))) (fun q => (fun q => q c4) q.2)] at hJ
      exact hJ
    · refine g_iconst (pc' := 13) dX11_areMonths_12 rfl ?_
      refine g_goto (tgt := 17) dX11_areMonths_13 rfl ?_
      rw [bI_t (p := (¬ (p0 < 1) ∧ (¬ (4095 < p0)))) ⟨c3, c4⟩] at hJ
      exact hJ
theorem e_X11_areMonths {w : Wd} {d : Nat} {P : Int → IM → LM → Prop} {i : IM} {l : LM} {p0 : Int}  (h : gI w d X_X11_areMonths P i l 0 [(0, vI p0)] []) : cI w (d + 1) X_X11_areMonths [vI p0] i l P := CI_of (by decide +kernel) (Nat.le_of_ble_eq_true rfl) h

theorem dX11_lowestOf_0 : decode cX11_lowestOf 0 = .ok (.iconst 0, 1) := by decide +kernel
theorem dX11_lowestOf_1 : decode cX11_lowestOf 1 = .ok (.istore_n 1, 1) := by decide +kernel
theorem dX11_lowestOf_2 : decode cX11_lowestOf 2 = .ok (.iload_n 1, 1) := by decide +kernel
theorem dX11_lowestOf_3 : decode cX11_lowestOf 3 = .ok (.bipush 10, 2) := by decide +kernel
theorem dX11_lowestOf_5 : decode cX11_lowestOf 5 = .ok (.if_icmp .ge 17, 3) := by decide +kernel
theorem dX11_lowestOf_8 : decode cX11_lowestOf 8 = .ok (.iload_n 0, 1) := by decide +kernel
theorem dX11_lowestOf_9 : decode cX11_lowestOf 9 = .ok (.iload_n 1, 1) := by decide +kernel
theorem dX11_lowestOf_10 : decode cX11_lowestOf 10 = .ok (.ishr, 1) := by decide +kernel
theorem dX11_lowestOf_11 : decode cX11_lowestOf 11 = .ok (.iconst 1, 1) := by decide +kernel
theorem dX11_lowestOf_12 : decode cX11_lowestOf 12 = .ok (.iand, 1) := by decide +kernel
theorem dX11_lowestOf_13 : decode cX11_lowestOf 13 = .ok (.ifCond .ne 9, 3) := by decide +kernel
theorem dX11_lowestOf_16 : decode cX11_lowestOf 16 = .ok (.iinc 1 1, 3) := by decide +kernel
theorem dX11_lowestOf_19 : decode cX11_lowestOf 19 = .ok (.goto (-17), 3) := by decide +kernel
theorem dX11_lowestOf_22 : decode cX11_lowestOf 22 = .ok (.iload_n 1, 1) := by decide +kernel
theorem dX11_lowestOf_23 : decode cX11_lowestOf 23 = .ok (.ireturn, 1) := by decide +kernel
set_option maxRecDepth 20000 in
theorem s_X11_lowestOf {w : Wd} {d : Nat} {P : Int → IM → LM → Prop} {i : IM} {l : LM} (p0 : Int)  (h : gI w d X_X11_lowestOf P i l 2 [(0, vI p0), (1, vI 0)] []) : gI w d X_X11_lowestOf P i l 0 [(0, vI p0)] [] := by
  refine g_iconst (pc' := 1) dX11_lowestOf_0 rfl ?_
  refine g_istore_n (pc' := 2) (L' := [(1, vI 0), (0, vI p0)]) dX11_lowestOf_1 rfl (Nat.le_of_ble_eq_true rfl) rfl ?_
  refine g_sub (L' := [(0, vI p0), (1, vI 0)]) [1, 0] rfl ?_
  exact h
theorem e_X11_lowestOf {w : Wd} {d : Nat} {P : Int → IM → LM → Prop} {i : IM} {l : LM} {p0 : Int}  (h : gI w d X_X11_lowestOf P i l 0 [(0, vI p0)] []) : cI w (d + 1) X_X11_lowestOf [vI p0] i l P := CI_of (by decide +kernel) (Nat.le_of_ble_eq_true rfl) h
set_option maxRecDepth 20000 in
theorem s_X11_lowestOf_2 {w : Wd} {d : Nat} {P : Int → IM → LM → Prop} {i : IM} {l : LM} (x0 : Int) (x1 : Int)  (h : ((rg x1) ∧ (((10 ≤ x1) ∨ (¬ (iand (ishr x0 x1) 1 = 0))) → ((rg x1) ∧ P x1 i l)) ∧ ((¬ ((10 ≤ x1) ∨ (¬ (iand (ishr x0 x1) 1 = 0)))) → gI w d X_X11_lowestOf P i l 2 [(0, vI x0), (1, vI (x1 + 1))] []))) : gI w d X_X11_lowestOf P i l 2 [(0, vI x0), (1, vI x1)] [] := by
  refine g_iload_n (pc' := 3) 1 dX11_lowestOf_2 rfl rfl ?_
  refine g_bipush (pc' := 5) dX11_lowestOf_3 rfl rfl ?_
  obtain ⟨hob2, hk6, hk7⟩ := h
  have hk6g : ((10 ≤ x1) ∨ (¬ (iand (ishr x0 x1) 1 = 0))) → gI w d X_X11_lowestOf P i l 22 [(0, vI x0), (1, vI x1)] [] := by
    intro hp
    have h := hk6 hp
    obtain ⟨ob5, h⟩ := h
    refine g_iload_n (pc' := 23) 1 dX11_lowestOf_22 rfl rfl ?_
    exact g_retI rfl ob5 dX11_lowestOf_23 h
  have hk7g : (¬ ((10 ≤ x1) ∨ (¬ (iand (ishr x0 x1) 1 = 0)))) → gI w d X_X11_lowestOf P i l 16 [(0, vI x0), (1, vI x1)] [] := by
    intro hp
    have h := hk7 hp
    refine g_iinc (pc' := 19) (L' := [(1, vI (x1 + 1)), (0, vI x0)]) 1 dX11_lowestOf_16 rfl (Nat.le_of_ble_eq_true rfl) rfl rfl ?_
    refine g_goto (tgt := 2) dX11_lowestOf_19 rfl ?_
    refine g_sub (L' := [(0, vI x0), (1, vI (x1 + 1))]) [1, 0] rfl ?_
    exact h
  refine g_icmp_ge (tgt := 22) (pc' := 8) (hob2) (rg_lit rfl) Iff.rfl dX11_lowestOf_5 rfl rfl (fun c3 => ?_) (fun c3 => ?_)
  · exact hk6g (Or.inl c3)
  · refine g_iload_n (pc' := 9) 0 dX11_lowestOf_8 rfl rfl ?_
    refine g_iload_n (pc' := 10) 1 dX11_lowestOf_9 rfl rfl ?_
    refine g_ishr (pc' := 11) dX11_lowestOf_10 rfl ?_
    refine g_iconst (pc' := 12) dX11_lowestOf_11 rfl ?_
    refine g_iand (pc' := 13) dX11_lowestOf_12 rfl ?_
    refine g_if_ne (tgt := 22) (pc' := 16) (rg_iand _ _) Iff.rfl dX11_lowestOf_13 rfl rfl (fun c4 => ?_) (fun c4 => ?_)
    · exact hk6g (Or.inr c4)
    · exact hk7g (fun q => q.elim c3 (fun q => q c4))

theorem dJ9_max_7cf53_0 : decode cJ9_max_7cf53 0 = .ok (.iload_n 0, 1) := by decide +kernel
theorem dJ9_max_7cf53_1 : decode cJ9_max_7cf53 1 = .ok (.iload_n 1, 1) := by decide +kernel
theorem dJ9_max_7cf53_2 : decode cJ9_max_7cf53 2 = .ok (.if_icmp .lt 7, 3) := by decide +kernel
theorem dJ9_max_7cf53_5 : decode cJ9_max_7cf53 5 = .ok (.iload_n 0, 1) := by decide +kernel
theorem dJ9_max_7cf53_6 : decode cJ9_max_7cf53 6 = .ok (.goto 4, 3) := by decide +kernel
theorem dJ9_max_7cf53_9 : decode cJ9_max_7cf53 9 = .ok (.iload_n 1, 1) := by decide +kernel
theorem dJ9_max_7cf53_10 : decode cJ9_max_7cf53 10 = .ok (.ireturn, 1) := by decide +kernel
set_option maxRecDepth 20000 in
theorem s_J9_max_7cf53 {w : Wd} {d : Nat} {P : Int → IM → LM → Prop} {i : IM} {l : LM} (p0 : Int) (p1 : Int)  (h : ((rg p0) ∧ (rg p1) ∧ P (if (p0 < p1) then p1 else p0) i l)) : gI w d X_J9_max_7cf53 P i l 0 [(0, vI p0), (1, vI p1)] [] := by
  refine g_iload_n (pc' := 1) 0 dJ9_max_7cf53_0 rfl rfl ?_
  refine g_iload_n (pc' := 2) 1 dJ9_max_7cf53_1 rfl rfl ?_
  obtain ⟨hob2, hob3, h⟩ := h
  have hJ : gI w d X_J9_max_7cf53 P i l 10 [(0, vI p0), (1, vI p1)] [vI (if (p0 < p1) then p1 else p0)] := by
    exact g_retI rfl (rg_ite (hob3) (hob2)) dJ9_max_7cf53_10 h
  refine g_icmp_lt (tgt := 9) (pc' := 5) (hob2) (hob3) Iff.rfl dJ9_max_7cf53_2 rfl rfl (fun c4 => ?_) (fun c4 => ?_)
  · refine g_iload_n (pc' := 10) 1 dJ9_max_7cf53_9 rfl rfl ?_
    rw [if_pos c4 (α := Int) (t := p1) (e := p0)] at hJ
    exact hJ
  · refine g_iload_n (pc' := 6) 0 dJ9_max_7cf53_5 rfl rfl ?_
    refine g_goto (tgt := 10) dJ9_max_7cf53_6 rfl ?_
    rw [if_neg c4 (α := Int) (t := p1) (e := p0)] at hJ
    exact hJ
theorem e_J9_max_7cf53 {w : Wd} {d : Nat} {P : Int → IM → LM → Prop} {i : IM} {l : LM} {p0 : Int} {p1 : Int}  (h : gI w d X_J9_max_7cf53 P i l 0 [(0, vI p0), (1, vI p1)] []) : cI w (d + 1) X_J9_max_7cf53 [vI p0, vI p1] i l P := CI_of (by decide +kernel) (Nat.le_of_ble_eq_true rfl) h

theorem dJ9_min_7cf53_0 : decode cJ9_min_7cf53 0 = .ok (.iload_n 0, 1) := by decide +kernel
theorem dJ9_min_7cf53_1 : decode cJ9_min_7cf53 1 = .ok (.iload_n 1, 1) := by decide +kernel
theorem dJ9_min_7cf53_2 : decode cJ9_min_7cf53 2 = .ok (.if_icmp .gt 7, 3) := by decide +kernel
theorem dJ9_min_7cf53_5 : decode cJ9_min_7cf53 5 = .ok (.iload_n 0, 1) := by decide +kernel
theorem dJ9_min_7cf53_6 : decode cJ9_min_7cf53 6 = .ok (.goto 4, 3) := by decide +kernel
theorem dJ9_min_7cf53_9 : decode cJ9_min_7cf53 9 = .ok (.iload_n 1, 1) := by decide +kernel
theorem dJ9_min_7cf53_10 : decode cJ9_min_7cf53 10 = .ok (.ireturn, 1) := by decide +kernel
set_option maxRecDepth 20000 in
theorem s_J9_min_7cf53 {w : Wd} {d : Nat} {P : Int → IM → LM → Prop} {i : IM} {l : LM} (p0 : Int) (p1 : Int)  (h : ((rg p0) ∧ (rg p1) ∧ P (if (p1 < p0) then p1 else p0) i l)) : gI w d X_J9_min_7cf53 P i l 0 [(0, vI p0), (1, vI p1)] [] := by
  refine g_iload_n (pc' := 1) 0 dJ9_min_7cf53_0 rfl rfl ?_
  refine g_iload_n (pc' := 2) 1 dJ9_min_7cf53_1 rfl rfl ?_
  obtain ⟨hob2, hob3, h⟩ := h
  have hJ : gI w d X_J9_min_7cf53 P i l 10 [(0, vI p0), (1, vI p1)] [vI (if (p1 < p0) then p1 else p0)] := by
    exact g_retI rfl (rg_ite (hob3) (hob2)) dJ9_min_7cf53_10 h
  refine g_icmp_gt (tgt := 9) (pc' := 5) (hob2) (hob3) Iff.rfl dJ9_min_7cf53_2 rfl rfl (fun c4 => ?_) (fun c4 => ?_)
  · refine g_iload_n (pc' := 10) 1 dJ9_min_7cf53_9 rfl rfl ?_
    rw [if_pos c4 (α := Int) (t := p1) (e := p0)] at hJ
    exact hJ
  · refine g_iload_n (pc' := 6) 0 dJ9_min_7cf53_5 rfl rfl ?_
    refine g_goto (tgt := 10) dJ9_min_7cf53_6 rfl ?_
    rw [if_neg c4 (α := Int) (t := p1) (e := p0)] at hJ
    exact hJ
theorem e_J9_min_7cf53 {w : Wd} {d : Nat} {P : Int → IM → LM → Prop} {i : IM} {l : LM} {p0 : Int} {p1 : Int}  (h : gI w d X_J9_min_7cf53 P i l 0 [(0, vI p0), (1, vI p1)] []) : cI w (d + 1) X_J9_min_7cf53 [vI p0, vI p1] i l P := CI_of (by decide +kernel) (Nat.le_of_ble_eq_true rfl) h

theorem dX7_isLetter_0 : decode cX7_isLetter 0 = .ok (.iload_n 0, 1) := by decide +kernel
theorem dX7_isLetter_1 : decode cX7_isLetter 1 = .ok (.bipush 97, 2) := by decide +kernel
theorem dX7_isLetter_3 : decode cX7_isLetter 3 = .ok (.if_icmp .lt 13, 3) := by decide +kernel
theorem dX7_isLetter_6 : decode cX7_isLetter 6 = .ok (.iload_n 0, 1) := by decide +kernel
theorem dX7_isLetter_7 : decode cX7_isLetter 7 = .ok (.bipush 122, 2) := by decide +kernel
theorem dX7_isLetter_9 : decode cX7_isLetter 9 = .ok (.if_icmp .gt 7, 3) := by decide +kernel
theorem dX7_isLetter_12 : decode cX7_isLetter 12 = .ok (.iconst 1, 1) := by decide +kernel
theorem dX7_isLetter_13 : decode cX7_isLetter 13 = .ok (.goto 4, 3) := by decide +kernel
theorem dX7_isLetter_16 : decode cX7_isLetter 16 = .ok (.iconst 0, 1) := by decide +kernel
theorem dX7_isLetter_17 : decode cX7_isLetter 17 = .ok (.ireturn, 1) := by decide +kernel
set_option maxRecDepth 20000 in
theorem s_X7_isLetter {w : Wd} {d : Nat} {P : Int → IM → LM → Prop} {i : IM} {l : LM} (p0 : Int)  (h : ((rg p0) ∧ P (bI (¬ (p0 < 97) ∧ (¬ (122 < p0)))) i l)) : gI w d X_X7_isLetter P i l 0 [(0, vI p0)] [] := by
  refine g_iload_n (pc' := 1) 0 dX7_isLetter_0 rfl rfl ?_
  refine g_bipush (pc' := 3) dX7_isLetter_1 rfl rfl ?_
  obtain ⟨hob2, h⟩ := h
  have hJ : gI w d X_X7_isLetter P i l 17 [(0, vI p0)] [vI (bI (¬ (p0 < 97) ∧ (¬ (122 < p0))))] := by
    exact g_retZ rfl (bI_01 _) dX7_isLetter_17 h
  refine g_icmp_lt (tgt := 16) (pc' := 6) (hob2) (rg_lit rfl) Iff.rfl dX7_isLetter_3 rfl rfl (fun c3 => ?_) (fun c3 => ?_)
  · refine g_iconst (pc' := 17) dX7_isLetter_16 rfl ?_
    rw [bI_f (p := (¬ (p0 < 97) ∧ (¬ (122 < p0)))) (fun q => q.1 c3)] at hJ
    exact hJ
  · refine g_iload_n (pc' := 7) 0 dX7_isLetter_6 rfl rfl ?_
    refine g_bipush (pc' := 9) dX7_isLetter_7 rfl rfl ?_
    refine g_icmp_gt (tgt := 16) (pc' := 12) (hob2) (rg_lit rfl) Iff.rfl dX7_isLetter_9 rfl rfl (fun c4 => ?_) (fun c4 => ?_)
    · refine g_iconst (pc' := 17) dX7_isLetter_16 rfl ?_
      rw [bI_f (p := (¬ (p0 < 97) ∧ (¬ (122 < p0)))) (fun q => (fun q => q c4) q.2)] at hJ
      exact hJ
    · refine g_iconst (pc' := 13) dX7_isLetter_12 rfl ?_
      refine g_goto (tgt := 17) dX7_isLetter_13 rfl ?_
      rw [bI_t (p := (¬ (p0 < 97) ∧ (¬ (122 < p0)))) ⟨c3, c4⟩] at hJ
      exact hJ
theorem e_X7_isLetter {w : Wd} {d : Nat} {P : Int → IM → LM → Prop} {i : IM} {l : LM} {p0 : Int}  (h : gI w d X_X7_isLetter P i l 0 [(0, vI p0)] []) : cI w (d + 1) X_X7_isLetter [vI p0] i l P := CI_of (by decide +kernel) (Nat.le_of_ble_eq_true rfl) h

theorem dX7_isDigit_0 : decode cX7_isDigit 0 = .ok (.iload_n 0, 1) := by decide +kernel
theorem dX7_isDigit_1 : decode cX7_isDigit 1 = .ok (.bipush 48, 2) := by decide +kernel
theorem dX7_isDigit_3 : decode cX7_isDigit 3 = .ok (.if_icmp .lt 13, 3) := by decide +kernel
theorem dX7_isDigit_6 : decode cX7_isDigit 6 = .ok (.iload_n 0, 1) := by decide +kernel
theorem dX7_isDigit_7 : decode cX7_isDigit 7 = .ok (.bipush 57, 2) := by decide +kernel
theorem dX7_isDigit_9 : decode cX7_isDigit 9 = .ok (.if_icmp .gt 7, 3) := by decide +kernel
theorem dX7_isDigit_12 : decode cX7_isDigit 12 = .ok (.iconst 1, 1) := by decide +kernel
theorem dX7_isDigit_13 : decode cX7_isDigit 13 = .ok (.goto 4, 3) := by decide +kernel
theorem dX7_isDigit_16 : decode cX7_isDigit 16 = .ok (.iconst 0, 1) := by decide +kernel
theorem dX7_isDigit_17 : decode cX7_isDigit 17 = .ok (.ireturn, 1) := by decide +kernel
set_option maxRecDepth 20000 in
theorem s_X7_isDigit {w : Wd} {d : Nat} {P : Int → IM → LM → Prop} {i : IM} {l : LM} (p0 : Int)  (h : ((rg p0) ∧ P (bI (¬ (p0 < 48) ∧ (¬ (57 < p0)))) i l)) : gI w d X_X7_isDigit P i l 0 [(0, vI p0)] [] := by
  refine g_iload_n (pc' := 1) 0 dX7_isDigit_0 rfl rfl ?_
  refine g_bipush (pc' := 3) dX7_isDigit_1 rfl rfl ?_
  obtain ⟨hob2, h⟩ := h
  have hJ : gI w d X_X7_isDigit P i l 17 [(0, vI p0)] [vI (bI (¬ (p0 < 48) ∧ (¬ (57 < p0))))] := by
    exact g_retZ rfl (bI_01 _) dX7_isDigit_17 h
  refine g_icmp_lt (tgt := 16) (pc' := 6) (hob2) (rg_lit rfl) Iff.rfl dX7_isDigit_3 rfl rfl (fun c3 => ?_) (fun c3 => ?_)
  · refine g_iconst (pc' := 17) dX7_isDigit_16 rfl ?_
    rw [bI_f (p := (¬ (p0 < 48) ∧ (¬ (57 < p0)))) (fun q => q.1 c3)] at hJ
    exact hJ
  · refine g_iload_n (pc' := 7) 0 dX7_isDigit_6 rfl rfl ?_
    refine g_bipush (pc' := 9) dX7_isDigit_7 rfl rfl ?_
    refine g_icmp_gt (tgt := 16) (pc' := 12) (hob2) (rg_lit rfl) Iff.rfl dX7_isDigit_9 rfl rfl (fun c4 => ?_) (fun c4 => ?_)
    · refine g_iconst (pc' := 17) dX7_isDigit_16 rfl ?_
      rw [bI_f (p := (¬ (p0 < 48) ∧ (¬ (57 < p0)))) (fun q => (fun q => q c4) q.2)] at hJ
      exact hJ
    · refine g_iconst (pc' := 13) dX7_isDigit_12 rfl ?_
      refine g_goto (tgt := 17) dX7_isDigit_13 rfl ?_
      rw [bI_t (p := (¬ (p0 < 48) ∧ (¬ (57 < p0)))) ⟨c3, c4⟩] at hJ
      exact hJ
theorem e_X7_isDigit {w : Wd} {d : Nat} {P : Int → IM → LM → Prop} {i : IM} {l : LM} {p0 : Int}  (h : gI w d X_X7_isDigit P i l 0 [(0, vI p0)] []) : cI w (d + 1) X_X7_isDigit [vI p0] i l P := CI_of (by decide +kernel) (Nat.le_of_ble_eq_true rfl) h

theorem dX1_counted_0 : decode cX1_counted 0 = .ok (.lload_n 0, 1) := by decide +kernel
theorem dX1_counted_1 : decode cX1_counted 1 = .ok (.lload_n 0, 1) := by decide +kernel
theorem dX1_counted_2 : decode cX1_counted 2 = .ok (.iconst 1, 1) := by decide +kernel
theorem dX1_counted_3 : decode cX1_counted 3 = .ok (.lushr, 1) := by decide +kernel
theorem dX1_counted_4 : decode cX1_counted 4 = .ok (.ldc2_w 156, 3) := by decide +kernel
theorem dX1_counted_7 : decode cX1_counted 7 = .ok (.land, 1) := by decide +kernel
theorem dX1_counted_8 : decode cX1_counted 8 = .ok (.lsub, 1) := by decide +kernel
theorem dX1_counted_9 : decode cX1_counted 9 = .ok (.lstore_n 2, 1) := by decide +kernel
theorem dX1_counted_10 : decode cX1_counted 10 = .ok (.lload_n 2, 1) := by decide +kernel
theorem dX1_counted_11 : decode cX1_counted 11 = .ok (.ldc2_w 158, 3) := by decide +kernel
theorem dX1_counted_14 : decode cX1_counted 14 = .ok (.land, 1) := by decide +kernel
theorem dX1_counted_15 : decode cX1_counted 15 = .ok (.lload_n 2, 1) := by decide +kernel
theorem dX1_counted_16 : decode cX1_counted 16 = .ok (.iconst 2, 1) := by decide +kernel
theorem dX1_counted_17 : decode cX1_counted 17 = .ok (.lushr, 1) := by decide +kernel
theorem dX1_counted_18 : decode cX1_counted 18 = .ok (.ldc2_w 158, 3) := by decide +kernel
theorem dX1_counted_21 : decode cX1_counted 21 = .ok (.land, 1) := by decide +kernel
theorem dX1_counted_22 : decode cX1_counted 22 = .ok (.ladd, 1) := by decide +kernel
theorem dX1_counted_23 : decode cX1_counted 23 = .ok (.lstore 4, 2) := by decide +kernel
theorem dX1_counted_25 : decode cX1_counted 25 = .ok (.lload 4, 2) := by decide +kernel
theorem dX1_counted_27 : decode cX1_counted 27 = .ok (.lload 4, 2) := by decide +kernel
theorem dX1_counted_29 : decode cX1_counted 29 = .ok (.iconst 4, 1) := by decide +kernel
theorem dX1_counted_30 : decode cX1_counted 30 = .ok (.lushr, 1) := by decide +kernel
theorem dX1_counted_31 : decode cX1_counted 31 = .ok (.ladd, 1) := by decide +kernel
theorem dX1_counted_32 : decode cX1_counted 32 = .ok (.ldc2_w 160, 3) := by decide +kernel
theorem dX1_counted_35 : decode cX1_counted 35 = .ok (.land, 1) := by decide +kernel
theorem dX1_counted_36 : decode cX1_counted 36 = .ok (.lreturn, 1) := by decide +kernel
set_option maxRecDepth 20000 in
theorem s_X1_counted {w : Wd} {d : Nat} {P : Int64 → IM → LM → Prop} {i : IM} {l : LM} (p0 : Int64)  (h : P (((((p0 - ((lushr p0 1) &&& 6148914691236517205)) &&& 3689348814741910323) + ((lushr (p0 - ((lushr p0 1) &&& 6148914691236517205)) 2) &&& 3689348814741910323)) + (lushr (((p0 - ((lushr p0 1) &&& 6148914691236517205)) &&& 3689348814741910323) + ((lushr (p0 - ((lushr p0 1) &&& 6148914691236517205)) 2) &&& 3689348814741910323)) 4)) &&& 1085102592571150095) i l) : gLg w d X_X1_counted P i l 0 [(0, vL p0)] [] := by
  refine g_lload_n (pc' := 1) 0 dX1_counted_0 rfl rfl ?_
  refine g_lload_n (pc' := 2) 0 dX1_counted_1 rfl rfl ?_
  refine g_iconst (pc' := 3) dX1_counted_2 rfl ?_
  refine g_lushr (pc' := 4) dX1_counted_3 rfl ?_
  refine g_ldc2 (pc' := 7) dX1_counted_4 rfl kl_X1_156 ?_
  refine g_land (pc' := 8) dX1_counted_7 rfl ?_
  refine g_lsub (pc' := 9) dX1_counted_8 rfl ?_
  refine g_lstore_n (pc' := 10) (L' := [(2, vL (p0 - ((lushr p0 1) &&& 6148914691236517205))), (0, vL p0)]) dX1_counted_9 rfl (Nat.le_of_ble_eq_true rfl) rfl ?_
  refine g_lload_n (pc' := 11) 0 dX1_counted_10 rfl rfl ?_
  refine g_ldc2 (pc' := 14) dX1_counted_11 rfl kl_X1_158 ?_
  refine g_land (pc' := 15) dX1_counted_14 rfl ?_
  refine g_lload_n (pc' := 16) 0 dX1_counted_15 rfl rfl ?_
  refine g_iconst (pc' := 17) dX1_counted_16 rfl ?_
  refine g_lushr (pc' := 18) dX1_counted_17 rfl ?_
  refine g_ldc2 (pc' := 21) dX1_counted_18 rfl kl_X1_158 ?_
  refine g_land (pc' := 22) dX1_counted_21 rfl ?_
  refine g_ladd (pc' := 23) dX1_counted_22 rfl ?_
  refine g_lstore (pc' := 25) (L' := [(4, vL (((p0 - ((lushr p0 1) &&& 6148914691236517205)) &&& 3689348814741910323) + ((lushr (p0 - ((lushr p0 1) &&& 6148914691236517205)) 2) &&& 3689348814741910323))), (2, vL (p0 - ((lushr p0 1) &&& 6148914691236517205))), (0, vL p0)]) dX1_counted_23 rfl (Nat.le_of_ble_eq_true rfl) rfl ?_
  refine g_lload (pc' := 27) 0 dX1_counted_25 rfl rfl ?_
  refine g_lload (pc' := 29) 0 dX1_counted_27 rfl rfl ?_
  refine g_iconst (pc' := 30) dX1_counted_29 rfl ?_
  refine g_lushr (pc' := 31) dX1_counted_30 rfl ?_
  refine g_ladd (pc' := 32) dX1_counted_31 rfl ?_
  refine g_ldc2 (pc' := 35) dX1_counted_32 rfl kl_X1_160 ?_
  refine g_land (pc' := 36) dX1_counted_35 rfl ?_
  exact g_retL rfl dX1_counted_36 h
theorem e_X1_counted {w : Wd} {d : Nat} {P : Int64 → IM → LM → Prop} {i : IM} {l : LM} {p0 : Int64}  (h : gLg w d X_X1_counted P i l 0 [(0, vL p0)] []) : cL w (d + 1) X_X1_counted [vL p0] i l P := CL_of (by decide +kernel) (Nat.le_of_ble_eq_true rfl) h

theorem dX1_bytesOf_0 : decode cX1_bytesOf 0 = .ok (.lconst 0, 1) := by decide +kernel
theorem dX1_bytesOf_1 : decode cX1_bytesOf 1 = .ok (.lstore_n 1, 1) := by decide +kernel
theorem dX1_bytesOf_2 : decode cX1_bytesOf 2 = .ok (.iconst 0, 1) := by decide +kernel
theorem dX1_bytesOf_3 : decode cX1_bytesOf 3 = .ok (.istore_n 3, 1) := by decide +kernel
theorem dX1_bytesOf_4 : decode cX1_bytesOf 4 = .ok (.iload_n 3, 1) := by decide +kernel
theorem dX1_bytesOf_5 : decode cX1_bytesOf 5 = .ok (.bipush 8, 2) := by decide +kernel
theorem dX1_bytesOf_7 : decode cX1_bytesOf 7 = .ok (.if_icmp .ge 27, 3) := by decide +kernel
theorem dX1_bytesOf_10 : decode cX1_bytesOf 10 = .ok (.lload_n 1, 1) := by decide +kernel
theorem dX1_bytesOf_11 : decode cX1_bytesOf 11 = .ok (.iload_n 0, 1) := by decide +kernel
theorem dX1_bytesOf_12 : decode cX1_bytesOf 12 = .ok (.iload_n 3, 1) := by decide +kernel
theorem dX1_bytesOf_13 : decode cX1_bytesOf 13 = .ok (.ishr, 1) := by decide +kernel
theorem dX1_bytesOf_14 : decode cX1_bytesOf 14 = .ok (.iconst 1, 1) := by decide +kernel
theorem dX1_bytesOf_15 : decode cX1_bytesOf 15 = .ok (.iand, 1) := by decide +kernel
theorem dX1_bytesOf_16 : decode cX1_bytesOf 16 = .ok (.i2l, 1) := by decide +kernel
theorem dX1_bytesOf_17 : decode cX1_bytesOf 17 = .ok (.ldc2_w 154, 3) := by decide +kernel
theorem dX1_bytesOf_20 : decode cX1_bytesOf 20 = .ok (.lmul, 1) := by decide +kernel
theorem dX1_bytesOf_21 : decode cX1_bytesOf 21 = .ok (.bipush 8, 2) := by decide +kernel
theorem dX1_bytesOf_23 : decode cX1_bytesOf 23 = .ok (.iload_n 3, 1) := by decide +kernel
theorem dX1_bytesOf_24 : decode cX1_bytesOf 24 = .ok (.imul, 1) := by decide +kernel
theorem dX1_bytesOf_25 : decode cX1_bytesOf 25 = .ok (.lshl, 1) := by decide +kernel
theorem dX1_bytesOf_26 : decode cX1_bytesOf 26 = .ok (.lor, 1) := by decide +kernel
theorem dX1_bytesOf_27 : decode cX1_bytesOf 27 = .ok (.lstore_n 1, 1) := by decide +kernel
theorem dX1_bytesOf_28 : decode cX1_bytesOf 28 = .ok (.iinc 3 1, 3) := by decide +kernel
theorem dX1_bytesOf_31 : decode cX1_bytesOf 31 = .ok (.goto (-27), 3) := by decide +kernel
theorem dX1_bytesOf_34 : decode cX1_bytesOf 34 = .ok (.lload_n 1, 1) := by decide +kernel
theorem dX1_bytesOf_35 : decode cX1_bytesOf 35 = .ok (.lreturn, 1) := by decide +kernel
set_option maxRecDepth 20000 in
theorem s_X1_bytesOf {w : Wd} {d : Nat} {P : Int64 → IM → LM → Prop} {i : IM} {l : LM} (p0 : Int)  (h : gLg w d X_X1_bytesOf P i l 4 [(0, vI p0), (1, vL 0), (3, vI 0)] []) : gLg w d X_X1_bytesOf P i l 0 [(0, vI p0)] [] := by
  refine g_lconst (pc' := 1) (v := 0) dX1_bytesOf_0 rfl rfl ?_
  refine g_lstore_n (pc' := 2) (L' := [(1, vL 0), (0, vI p0)]) dX1_bytesOf_1 rfl (Nat.le_of_ble_eq_true rfl) rfl ?_
  refine g_iconst (pc' := 3) dX1_bytesOf_2 rfl ?_
  refine g_istore_n (pc' := 4) (L' := [(3, vI 0), (1, vL 0), (0, vI p0)]) dX1_bytesOf_3 rfl (Nat.le_of_ble_eq_true rfl) rfl ?_
  refine g_sub (L' := [(0, vI p0), (1, vL 0), (3, vI 0)]) [2, 1, 0] rfl ?_
  exact h
theorem e_X1_bytesOf {w : Wd} {d : Nat} {P : Int64 → IM → LM → Prop} {i : IM} {l : LM} {p0 : Int}  (h : gLg w d X_X1_bytesOf P i l 0 [(0, vI p0)] []) : cL w (d + 1) X_X1_bytesOf [vI p0] i l P := CL_of (by decide +kernel) (Nat.le_of_ble_eq_true rfl) h
set_option maxRecDepth 20000 in
theorem s_X1_bytesOf_4 {w : Wd} {d : Nat} {P : Int64 → IM → LM → Prop} {i : IM} {l : LM} (x0 : Int) (x1 : Int64) (x3 : Int)  (h : ((rg x3) ∧ ((8 ≤ x3) → P x1 i l) ∧ ((¬ (8 ≤ x3)) → gLg w d X_X1_bytesOf P i l 4 [(0, vI x0), (1, vL (x1 ||| (lshl ((i2l (iand (ishr x0 x3) 1)) * 255) (8 * x3)))), (3, vI (x3 + 1))] []))) : gLg w d X_X1_bytesOf P i l 4 [(0, vI x0), (1, vL x1), (3, vI x3)] [] := by
  refine g_iload_n (pc' := 5) 2 dX1_bytesOf_4 rfl rfl ?_
  refine g_bipush (pc' := 7) dX1_bytesOf_5 rfl rfl ?_
  obtain ⟨hob2, hk4, hk5⟩ := h
  refine g_icmp_ge (tgt := 34) (pc' := 10) (hob2) (rg_lit rfl) Iff.rfl dX1_bytesOf_7 rfl rfl (fun c3 => ?_) (fun c3 => ?_)
  · have h := hk4 c3
    refine g_lload_n (pc' := 35) 1 dX1_bytesOf_34 rfl rfl ?_
    exact g_retL rfl dX1_bytesOf_35 h
  · have h := hk5 c3
    refine g_lload_n (pc' := 11) 1 dX1_bytesOf_10 rfl rfl ?_
    refine g_iload_n (pc' := 12) 0 dX1_bytesOf_11 rfl rfl ?_
    refine g_iload_n (pc' := 13) 2 dX1_bytesOf_12 rfl rfl ?_
    refine g_ishr (pc' := 14) dX1_bytesOf_13 rfl ?_
    refine g_iconst (pc' := 15) dX1_bytesOf_14 rfl ?_
    refine g_iand (pc' := 16) dX1_bytesOf_15 rfl ?_
    refine g_i2l (pc' := 17) dX1_bytesOf_16 rfl ?_
    refine g_ldc2 (pc' := 20) dX1_bytesOf_17 rfl kl_X1_154 ?_
    refine g_lmul (pc' := 21) dX1_bytesOf_20 rfl ?_
    refine g_bipush (pc' := 23) dX1_bytesOf_21 rfl rfl ?_
    refine g_iload_n (pc' := 24) 2 dX1_bytesOf_23 rfl rfl ?_
    refine g_imul (pc' := 25) dX1_bytesOf_24 rfl ?_
    refine g_lshl (pc' := 26) dX1_bytesOf_25 rfl ?_
    refine g_lor (pc' := 27) dX1_bytesOf_26 rfl ?_
    refine g_lstore_n (pc' := 28) (L' := [(1, vL (x1 ||| (lshl ((i2l (iand (ishr x0 x3) 1)) * 255) (8 * x3)))), (0, vI x0), (3, vI x3)]) dX1_bytesOf_27 rfl (Nat.le_of_ble_eq_true rfl) rfl ?_
    refine g_iinc (pc' := 31) (L' := [(3, vI (x3 + 1)), (1, vL (x1 ||| (lshl ((i2l (iand (ishr x0 x3) 1)) * 255) (8 * x3)))), (0, vI x0)]) 2 dX1_bytesOf_28 rfl (Nat.le_of_ble_eq_true rfl) rfl rfl ?_
    refine g_goto (tgt := 4) dX1_bytesOf_31 rfl ?_
    refine g_sub (L' := [(0, vI x0), (1, vL (x1 ||| (lshl ((i2l (iand (ishr x0 x3) 1)) * 255) (8 * x3)))), (3, vI (x3 + 1))]) [2, 1, 0] rfl ?_
    exact h
