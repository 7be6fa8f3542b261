theorem dX12_isThing_0 : decode cX12_isThing 0 = .ok (.iload_n 1, 1) := by decide +kernel
theorem dX12_isThing_1 : decode cX12_isThing 1 = .ok (.iconst 0, 1) := by decide +kernel
theorem dX12_isThing_2 : decode cX12_isThing 2 = .ok (.aload_n 0, 1) := by decide +kernel
theorem dX12_isThing_3 : decode cX12_isThing 3 = .ok (.invokevirtual 117, 3) := by decide +kernel
theorem dX12_isThing_6 : decode cX12_isThing 6 = .ok (.iconst 1, 1) := by decide +kernel
theorem dX12_isThing_7 : decode cX12_isThing 7 = .ok (.isub, 1) := by decide +kernel
theorem dX12_isThing_8 : decode cX12_isThing 8 = .ok (.invokestatic 106, 3) := by decide +kernel
theorem dX12_isThing_11 : decode cX12_isThing 11 = .ok (.ireturn, 1) := by decide +kernel
set_option maxRecDepth 20000 in
theorem s_X12_isThing {w : Wd} {d : Nat} {P : Int → IM → LM → Prop} {i : IM} {l : LM} (p0 : Int)  (hd : 1 ≤ d) (h : ((rg p0) ∧ (rg ((i 101 307) - 1)) ∧ P (bI (0 ≤ p0 ∧ p0 ≤ (i 101 307) - 1)) i l)) : gI w d X_X12_isThing P i l 0 [(0, vR (some 99)), (1, vI p0)] [] := by
  obtain ⟨ob2, ob3, h⟩ := h
  refine g_iload_n (pc' := 1) 1 dX12_isThing_0 rfl rfl ?_
  refine g_iconst (pc' := 2) dX12_isThing_1 rfl ?_
  refine g_aload_n (pc' := 3) 0 dX12_isThing_2 rfl rfl ?_
  refine g_pVI (pc' := 6) (vs := []) (st := [vI 0, vI p0]) (val := i 101 307) (c := 12) (sp_X12_things (le_hd hd rfl) ) mv_X12_things lk_X12_117 rfl rfl rfl rfl (Nat.le_of_ble_eq_true rfl) (Nat.le_of_ble_eq_true rfl) rfl dX12_isThing_3 rfl z2 (fun rg1 => ?_)
  refine g_iconst (pc' := 7) dX12_isThing_6 rfl ?_
  refine g_isub (pc' := 8) dX12_isThing_7 rfl ?_
  refine g_pSI (pc' := 11) (vs := [vI p0, vI 0, vI ((i 101 307) - 1)]) (st := []) (val := bI (0 ≤ p0 ∧ p0 ≤ (i 101 307) - 1)) (sp_X12_lies (le_hd hd rfl) ob2 (rg_lit rfl) ob3) mk_X12_lies ms_X12_lies lk_X12_106 rfl (Nat.le_of_ble_eq_true rfl) (Nat.le_of_ble_eq_true rfl) rfl dX12_isThing_8 rfl z2 (fun rg4 => ?_)
  exact g_retZ rfl (bI_01 _) dX12_isThing_11 h
theorem e_X12_isThing {w : Wd} {d : Nat} {P : Int → IM → LM → Prop} {i : IM} {l : LM} {p0 : Int}  (h : gI w d X_X12_isThing P i l 0 [(0, vR (some 99)), (1, vI p0)] []) : cI w (d + 1) X_X12_isThing [vR (some 99), vI p0] i l P := CI_of (by decide +kernel) (Nat.le_of_ble_eq_true rfl) h

theorem dX12_isWindow_0 : decode cX12_isWindow 0 = .ok (.iload_n 1, 1) := by decide +kernel
theorem dX12_isWindow_1 : decode cX12_isWindow 1 = .ok (.iconst 0, 1) := by decide +kernel
theorem dX12_isWindow_2 : decode cX12_isWindow 2 = .ok (.aload_n 0, 1) := by decide +kernel
theorem dX12_isWindow_3 : decode cX12_isWindow 3 = .ok (.invokevirtual 121, 3) := by decide +kernel
theorem dX12_isWindow_6 : decode cX12_isWindow 6 = .ok (.iconst 1, 1) := by decide +kernel
theorem dX12_isWindow_7 : decode cX12_isWindow 7 = .ok (.isub, 1) := by decide +kernel
theorem dX12_isWindow_8 : decode cX12_isWindow 8 = .ok (.invokestatic 106, 3) := by decide +kernel
theorem dX12_isWindow_11 : decode cX12_isWindow 11 = .ok (.ireturn, 1) := by decide +kernel
set_option maxRecDepth 20000 in
theorem s_X12_isWindow {w : Wd} {d : Nat} {P : Int → IM → LM → Prop} {i : IM} {l : LM} (p0 : Int)  (hd : 1 ≤ d) (h : ((rg p0) ∧ (rg ((i 101 308) - 1)) ∧ P (bI (0 ≤ p0 ∧ p0 ≤ (i 101 308) - 1)) i l)) : gI w d X_X12_isWindow P i l 0 [(0, vR (some 99)), (1, vI p0)] [] := by
  obtain ⟨ob2, ob3, h⟩ := h
  refine g_iload_n (pc' := 1) 1 dX12_isWindow_0 rfl rfl ?_
  refine g_iconst (pc' := 2) dX12_isWindow_1 rfl ?_
  refine g_aload_n (pc' := 3) 0 dX12_isWindow_2 rfl rfl ?_
  refine g_pVI (pc' := 6) (vs := []) (st := [vI 0, vI p0]) (val := i 101 308) (c := 12) (sp_X12_windows (le_hd hd rfl) ) mv_X12_windows lk_X12_121 rfl rfl rfl rfl (Nat.le_of_ble_eq_true rfl) (Nat.le_of_ble_eq_true rfl) rfl dX12_isWindow_3 rfl z2 (fun rg1 => ?_)
  refine g_iconst (pc' := 7) dX12_isWindow_6 rfl ?_
  refine g_isub (pc' := 8) dX12_isWindow_7 rfl ?_
  refine g_pSI (pc' := 11) (vs := [vI p0, vI 0, vI ((i 101 308) - 1)]) (st := []) (val := bI (0 ≤ p0 ∧ p0 ≤ (i 101 308) - 1)) (sp_X12_lies (le_hd hd rfl) ob2 (rg_lit rfl) ob3) mk_X12_lies ms_X12_lies lk_X12_106 rfl (Nat.le_of_ble_eq_true rfl) (Nat.le_of_ble_eq_true rfl) rfl dX12_isWindow_8 rfl z2 (fun rg4 => ?_)
  exact g_retZ rfl (bI_01 _) dX12_isWindow_11 h
theorem e_X12_isWindow {w : Wd} {d : Nat} {P : Int → IM → LM → Prop} {i : IM} {l : LM} {p0 : Int}  (h : gI w d X_X12_isWindow P i l 0 [(0, vR (some 99)), (1, vI p0)] []) : cI w (d + 1) X_X12_isWindow [vR (some 99), vI p0] i l P := CI_of (by decide +kernel) (Nat.le_of_ble_eq_true rfl) h

theorem dX12_isPerson_0 : decode cX12_isPerson 0 = .ok (.iload_n 1, 1) := by decide +kernel
theorem dX12_isPerson_1 : decode cX12_isPerson 1 = .ok (.iconst 0, 1) := by decide +kernel
theorem dX12_isPerson_2 : decode cX12_isPerson 2 = .ok (.aload_n 0, 1) := by decide +kernel
theorem dX12_isPerson_3 : decode cX12_isPerson 3 = .ok (.invokevirtual 124, 3) := by decide +kernel
theorem dX12_isPerson_6 : decode cX12_isPerson 6 = .ok (.iconst 1, 1) := by decide +kernel
theorem dX12_isPerson_7 : decode cX12_isPerson 7 = .ok (.isub, 1) := by decide +kernel
theorem dX12_isPerson_8 : decode cX12_isPerson 8 = .ok (.invokestatic 106, 3) := by decide +kernel
theorem dX12_isPerson_11 : decode cX12_isPerson 11 = .ok (.ireturn, 1) := by decide +kernel
set_option maxRecDepth 20000 in
theorem s_X12_isPerson {w : Wd} {d : Nat} {P : Int → IM → LM → Prop} {i : IM} {l : LM} (p0 : Int)  (hd : 1 ≤ d) (h : ((rg p0) ∧ (rg ((i 101 309) - 1)) ∧ P (bI (0 ≤ p0 ∧ p0 ≤ (i 101 309) - 1)) i l)) : gI w d X_X12_isPerson P i l 0 [(0, vR (some 99)), (1, vI p0)] [] := by
  obtain ⟨ob2, ob3, h⟩ := h
  refine g_iload_n (pc' := 1) 1 dX12_isPerson_0 rfl rfl ?_
  refine g_iconst (pc' := 2) dX12_isPerson_1 rfl ?_
  refine g_aload_n (pc' := 3) 0 dX12_isPerson_2 rfl rfl ?_
  refine g_pVI (pc' := 6) (vs := []) (st := [vI 0, vI p0]) (val := i 101 309) (c := 12) (sp_X12_people (le_hd hd rfl) ) mv_X12_people lk_X12_124 rfl rfl rfl rfl (Nat.le_of_ble_eq_true rfl) (Nat.le_of_ble_eq_true rfl) rfl dX12_isPerson_3 rfl z2 (fun rg1 => ?_)
  refine g_iconst (pc' := 7) dX12_isPerson_6 rfl ?_
  refine g_isub (pc' := 8) dX12_isPerson_7 rfl ?_
  refine g_pSI (pc' := 11) (vs := [vI p0, vI 0, vI ((i 101 309) - 1)]) (st := []) (val := bI (0 ≤ p0 ∧ p0 ≤ (i 101 309) - 1)) (sp_X12_lies (le_hd hd rfl) ob2 (rg_lit rfl) ob3) mk_X12_lies ms_X12_lies lk_X12_106 rfl (Nat.le_of_ble_eq_true rfl) (Nat.le_of_ble_eq_true rfl) rfl dX12_isPerson_8 rfl z2 (fun rg4 => ?_)
  exact g_retZ rfl (bI_01 _) dX12_isPerson_11 h
theorem e_X12_isPerson {w : Wd} {d : Nat} {P : Int → IM → LM → Prop} {i : IM} {l : LM} {p0 : Int}  (h : gI w d X_X12_isPerson P i l 0 [(0, vR (some 99)), (1, vI p0)] []) : cI w (d + 1) X_X12_isPerson [vR (some 99), vI p0] i l P := CI_of (by decide +kernel) (Nat.le_of_ble_eq_true rfl) h

theorem dX12_shows_0 : decode cX12_shows 0 = .ok (.aload_n 0, 1) := by decide +kernel
theorem dX12_shows_1 : decode cX12_shows 1 = .ok (.iload_n 1, 1) := by decide +kernel
theorem dX12_shows_2 : decode cX12_shows 2 = .ok (.bipush 6, 2) := by decide +kernel
theorem dX12_shows_4 : decode cX12_shows 4 = .ok (.invokevirtual 144, 3) := by decide +kernel
theorem dX12_shows_7 : decode cX12_shows 7 = .ok (.iload_n 3, 1) := by decide +kernel
theorem dX12_shows_8 : decode cX12_shows 8 = .ok (.invokestatic 147, 3) := by decide +kernel
theorem dX12_shows_11 : decode cX12_shows 11 = .ok (.ifCond .eq 13, 3) := by decide +kernel
theorem dX12_shows_14 : decode cX12_shows 14 = .ok (.aload_n 0, 1) := by decide +kernel
theorem dX12_shows_15 : decode cX12_shows 15 = .ok (.iload_n 1, 1) := by decide +kernel
theorem dX12_shows_16 : decode cX12_shows 16 = .ok (.bipush 7, 2) := by decide +kernel
theorem dX12_shows_18 : decode cX12_shows 18 = .ok (.invokevirtual 144, 3) := by decide +kernel
theorem dX12_shows_21 : decode cX12_shows 21 = .ok (.goto 4, 3) := by decide +kernel
theorem dX12_shows_24 : decode cX12_shows 24 = .ok (.iload_n 2, 1) := by decide +kernel
theorem dX12_shows_25 : decode cX12_shows 25 = .ok (.ireturn, 1) := by decide +kernel
set_option maxRecDepth 20000 in
theorem s_X12_shows {w : Wd} {d : Nat} {P : Int → IM → LM → Prop} {i : IM} {l : LM} (p0 : Int) (p1 : Int) (p2 : Int)  (hd : 1 ≤ d) (h : ((0 ≤ 8 * p0 + 6 ∧ 8 * p0 + 6 < 5120) ∧ (((iand (ishr (i 101 (8 * p0 + 6)) p2) 1 = 1) → 0 ≤ 8 * p0 + 7 ∧ 8 * p0 + 7 < 5120) ∧ ((rg (if (iand (ishr (i 101 (8 * p0 + 6)) p2) 1 = 1) then i 101 (8 * p0 + 7) else p1)) ∧ P (if (iand (ishr (i 101 (8 * p0 + 6)) p2) 1 = 1) then i 101 (8 * p0 + 7) else p1) i l)))) : gI w d X_X12_shows P i l 0 [(0, vR (some 99)), (1, vI p0), (2, vI p1), (3, vI p2)] [] := by
  obtain ⟨ob1, h⟩ := h
  refine g_aload_n (pc' := 1) 0 dX12_shows_0 rfl rfl ?_
  refine g_iload_n (pc' := 2) 1 dX12_shows_1 rfl rfl ?_
  refine g_bipush (pc' := 4) dX12_shows_2 rfl rfl ?_
  refine g_pVI (pc' := 7) (vs := [vI p0, vI 6]) (st := []) (val := i 101 (8 * p0 + 6)) (c := 12) (sp_X12_thingOf (le_hd hd rfl) ob1) mv_X12_thingOf lk_X12_144 rfl rfl rfl rfl (Nat.le_of_ble_eq_true rfl) (Nat.le_of_ble_eq_true rfl) rfl dX12_shows_4 rfl z2 (fun rg2 => ?_)
  refine g_iload_n (pc' := 8) 3 dX12_shows_7 rfl rfl ?_
  refine g_pSI (pc' := 11) (vs := [vI (i 101 (8 * p0 + 6)), vI p2]) (st := []) (val := bI (iand (ishr (i 101 (8 * p0 + 6)) p2) 1 = 1)) (sp_X12_isIn (le_hd hd rfl) ) mk_X12_isIn ms_X12_isIn lk_X12_147 rfl (Nat.le_of_ble_eq_true rfl) (Nat.le_of_ble_eq_true rfl) rfl dX12_shows_8 rfl z2 (fun rg3 => ?_)
  refine g_rg (fun hRG4 => ?_)
  obtain ⟨hob6, h⟩ := h
  have hJ : gI w d X_X12_shows P i l 25 [(0, vR (some 99)), (1, vI p0), (2, vI p1), (3, vI p2)] [vI (if (iand (ishr (i 101 (8 * p0 + 6)) p2) 1 = 1) then i 101 (8 * p0 + 7) else p1)] := by
    obtain ⟨ob8, h⟩ := h
    exact g_retI rfl ob8 dX12_shows_25 h
  refine g_if_eq (tgt := 24) (pc' := 14) rg3 (bI_eq _) dX12_shows_11 rfl rfl (fun c5 => ?_) (fun c5n => ?_)
  · refine g_iload_n (pc' := 25) 2 dX12_shows_24 rfl rfl ?_
    rw [if_neg c5 (α := Int) (t := i 101 (8 * p0 + 7)) (e := p1)] at hJ
    exact hJ
  · have c5 := Decidable.of_not_not c5n
    refine g_aload_n (pc' := 15) 0 dX12_shows_14 rfl rfl ?_
    refine g_iload_n (pc' := 16) 1 dX12_shows_15 rfl rfl ?_
    refine g_bipush (pc' := 18) dX12_shows_16 rfl rfl ?_
    refine g_pVI (pc' := 21) (vs := [vI p0, vI 7]) (st := []) (val := i 101 (8 * p0 + 7)) (c := 12) (sp_X12_thingOf (le_hd hd rfl) (hob6 c5)) mv_X12_thingOf lk_X12_144 rfl rfl rfl rfl (Nat.le_of_ble_eq_true rfl) (Nat.le_of_ble_eq_true rfl) rfl dX12_shows_18 rfl z2 (fun rg7 => ?_)
    refine g_goto (tgt := 25) dX12_shows_21 rfl ?_
    rw [if_pos c5 (α := Int) (t := i 101 (8 * p0 + 7)) (e := p1)] at hJ
    exact hJ
theorem e_X12_shows {w : Wd} {d : Nat} {P : Int → IM → LM → Prop} {i : IM} {l : LM} {p0 : Int} {p1 : Int} {p2 : Int}  (h : gI w d X_X12_shows P i l 0 [(0, vR (some 99)), (1, vI p0), (2, vI p1), (3, vI p2)] []) : cI w (d + 1) X_X12_shows [vR (some 99), vI p0, vI p1, vI p2] i l P := CI_of (by decide +kernel) (Nat.le_of_ble_eq_true rfl) h

theorem dX12_colourOf_0 : decode cX12_colourOf 0 = .ok (.iload_n 2, 1) := by decide +kernel
theorem dX12_colourOf_1 : decode cX12_colourOf 1 = .ok (.ifCond .ne 12, 3) := by decide +kernel
theorem dX12_colourOf_4 : decode cX12_colourOf 4 = .ok (.aload_n 0, 1) := by decide +kernel
theorem dX12_colourOf_5 : decode cX12_colourOf 5 = .ok (.iload_n 1, 1) := by decide +kernel
theorem dX12_colourOf_6 : decode cX12_colourOf 6 = .ok (.iconst 1, 1) := by decide +kernel
theorem dX12_colourOf_7 : decode cX12_colourOf 7 = .ok (.invokevirtual 144, 3) := by decide +kernel
theorem dX12_colourOf_10 : decode cX12_colourOf 10 = .ok (.goto 18, 3) := by decide +kernel
theorem dX12_colourOf_13 : decode cX12_colourOf 13 = .ok (.iload_n 2, 1) := by decide +kernel
theorem dX12_colourOf_14 : decode cX12_colourOf 14 = .ok (.iconst 1, 1) := by decide +kernel
theorem dX12_colourOf_15 : decode cX12_colourOf 15 = .ok (.if_icmp .ne 12, 3) := by decide +kernel
theorem dX12_colourOf_18 : decode cX12_colourOf 18 = .ok (.aload_n 0, 1) := by decide +kernel
theorem dX12_colourOf_19 : decode cX12_colourOf 19 = .ok (.iload_n 1, 1) := by decide +kernel
theorem dX12_colourOf_20 : decode cX12_colourOf 20 = .ok (.iconst 2, 1) := by decide +kernel
theorem dX12_colourOf_21 : decode cX12_colourOf 21 = .ok (.invokevirtual 144, 3) := by decide +kernel
theorem dX12_colourOf_24 : decode cX12_colourOf 24 = .ok (.goto 4, 3) := by decide +kernel
theorem dX12_colourOf_27 : decode cX12_colourOf 27 = .ok (.iconst 0, 1) := by decide +kernel
theorem dX12_colourOf_28 : decode cX12_colourOf 28 = .ok (.ireturn, 1) := by decide +kernel
set_option maxRecDepth 20000 in
theorem s_X12_colourOf {w : Wd} {d : Nat} {P : Int → IM → LM → Prop} {i : IM} {l : LM} (p0 : Int) (p1 : Int)  (hd : 1 ≤ d) (h : ((rg p1) ∧ (¬ (p1 = 0) → (p1 = 1) → 0 ≤ 8 * p0 + 2 ∧ 8 * p0 + 2 < 5120) ∧ ((p1 = 0) → 0 ≤ 8 * p0 + 1 ∧ 8 * p0 + 1 < 5120) ∧ P (if (p1 = 0) then i 101 (8 * p0 + 1) else (if (p1 = 1) then i 101 (8 * p0 + 2) else 0)) i l)) : gI w d X_X12_colourOf P i l 0 [(0, vR (some 99)), (1, vI p0), (2, vI p1)] [] := by
  refine g_iload_n (pc' := 1) 2 dX12_colourOf_0 rfl rfl ?_
  refine g_rg (fun hRG1 => ?_)
  obtain ⟨hob2, hob5, hob7, h⟩ := h
  have hJ : gI w d X_X12_colourOf P i l 28 [(0, vR (some 99)), (1, vI p0), (2, vI p1)] [vI (if (p1 = 0) then i 101 (8 * p0 + 1) else (if (p1 = 1) then i 101 (8 * p0 + 2) else 0))] := by
    exact g_retI rfl (rg_ite (hRG1 _ _) (rg_ite (hRG1 _ _) (rg_lit rfl))) dX12_colourOf_28 h
  refine g_if_ne (tgt := 13) (pc' := 4) (hob2) Iff.rfl dX12_colourOf_1 rfl rfl (fun c3 => ?_) (fun c3 => ?_)
  · refine g_iload_n (pc' := 14) 2 dX12_colourOf_13 rfl rfl ?_
    refine g_iconst (pc' := 15) dX12_colourOf_14 rfl ?_
    refine g_icmp_ne (tgt := 27) (pc' := 18) (hob2) (rg_lit rfl) Iff.rfl dX12_colourOf_15 rfl rfl (fun c4 => ?_) (fun c4 => ?_)
    · refine g_iconst (pc' := 28) dX12_colourOf_27 rfl ?_
      rw [if_neg c3 (α := Int) (t := i 101 (8 * p0 + 1)) (e := (if (p1 = 1) then i 101 (8 * p0 + 2) else 0)), if_neg c4 (α := Int) (t := i 101 (8 * p0 + 2)) (e := 0)] at hJ
      exact hJ
    · refine g_aload_n (pc' := 19) 0 dX12_colourOf_18 rfl rfl ?_
      refine g_iload_n (pc' := 20) 1 dX12_colourOf_19 rfl rfl ?_
      refine g_iconst (pc' := 21) dX12_colourOf_20 rfl ?_
      refine g_pVI (pc' := 24) (vs := [vI p0, vI 2]) (st := []) (val := i 101 (8 * p0 + 2)) (c := 12) (sp_X12_thingOf (le_hd hd rfl) (hob5 c3 c4)) mv_X12_thingOf lk_X12_144 rfl rfl rfl rfl (Nat.le_of_ble_eq_true rfl) (Nat.le_of_ble_eq_true rfl) rfl dX12_colourOf_21 rfl z2 (fun rg6 => ?_)
      refine g_goto (tgt := 28) dX12_colourOf_24 rfl ?_
      rw [if_neg c3 (α := Int) (t := i 101 (8 * p0 + 1)) (e := (if (p1 = 1) then i 101 (8 * p0 + 2) else 0)), if_pos c4 (α := Int) (t := i 101 (8 * p0 + 2)) (e := 0)] at hJ
      exact hJ
  · refine g_aload_n (pc' := 5) 0 dX12_colourOf_4 rfl rfl ?_
    refine g_iload_n (pc' := 6) 1 dX12_colourOf_5 rfl rfl ?_
    refine g_iconst (pc' := 7) dX12_colourOf_6 rfl ?_
    refine g_pVI (pc' := 10) (vs := [vI p0, vI 1]) (st := []) (val := i 101 (8 * p0 + 1)) (c := 12) (sp_X12_thingOf (le_hd hd rfl) (hob7 c3)) mv_X12_thingOf lk_X12_144 rfl rfl rfl rfl (Nat.le_of_ble_eq_true rfl) (Nat.le_of_ble_eq_true rfl) rfl dX12_colourOf_7 rfl z2 (fun rg8 => ?_)
    refine g_goto (tgt := 28) dX12_colourOf_10 rfl ?_
    rw [if_pos c3 (α := Int) (t := i 101 (8 * p0 + 1)) (e := (if (p1 = 1) then i 101 (8 * p0 + 2) else 0))] at hJ
    exact hJ
theorem e_X12_colourOf {w : Wd} {d : Nat} {P : Int → IM → LM → Prop} {i : IM} {l : LM} {p0 : Int} {p1 : Int}  (h : gI w d X_X12_colourOf P i l 0 [(0, vR (some 99)), (1, vI p0), (2, vI p1)] []) : cI w (d + 1) X_X12_colourOf [vR (some 99), vI p0, vI p1] i l P := CI_of (by decide +kernel) (Nat.le_of_ble_eq_true rfl) h

theorem dX12_isChoice_0 : decode cX12_isChoice 0 = .ok (.aload_n 0, 1) := by decide +kernel
theorem dX12_isChoice_1 : decode cX12_isChoice 1 = .ok (.iload_n 1, 1) := by decide +kernel
theorem dX12_isChoice_2 : decode cX12_isChoice 2 = .ok (.iconst 1, 1) := by decide +kernel
theorem dX12_isChoice_3 : decode cX12_isChoice 3 = .ok (.invokevirtual 144, 3) := by decide +kernel
theorem dX12_isChoice_6 : decode cX12_isChoice 6 = .ok (.aload_n 0, 1) := by decide +kernel
theorem dX12_isChoice_7 : decode cX12_isChoice 7 = .ok (.iload_n 1, 1) := by decide +kernel
theorem dX12_isChoice_8 : decode cX12_isChoice 8 = .ok (.iconst 2, 1) := by decide +kernel
theorem dX12_isChoice_9 : decode cX12_isChoice 9 = .ok (.invokevirtual 144, 3) := by decide +kernel
theorem dX12_isChoice_12 : decode cX12_isChoice 12 = .ok (.if_icmp .ne 7, 3) := by decide +kernel
theorem dX12_isChoice_15 : decode cX12_isChoice 15 = .ok (.iconst 1, 1) := by decide +kernel
theorem dX12_isChoice_16 : decode cX12_isChoice 16 = .ok (.goto 4, 3) := by decide +kernel
theorem dX12_isChoice_19 : decode cX12_isChoice 19 = .ok (.iconst 0, 1) := by decide +kernel
theorem dX12_isChoice_20 : decode cX12_isChoice 20 = .ok (.istore_n 3, 1) := by decide +kernel
theorem dX12_isChoice_21 : decode cX12_isChoice 21 = .ok (.aload_n 0, 1) := by decide +kernel
theorem dX12_isChoice_22 : decode cX12_isChoice 22 = .ok (.iload_n 1, 1) := by decide +kernel
theorem dX12_isChoice_23 : decode cX12_isChoice 23 = .ok (.iconst 5, 1) := by decide +kernel
theorem dX12_isChoice_24 : decode cX12_isChoice 24 = .ok (.invokevirtual 144, 3) := by decide +kernel
theorem dX12_isChoice_27 : decode cX12_isChoice 27 = .ok (.iconst 1, 1) := by decide +kernel
theorem dX12_isChoice_28 : decode cX12_isChoice 28 = .ok (.if_icmp .ne 22, 3) := by decide +kernel
theorem dX12_isChoice_31 : decode cX12_isChoice 31 = .ok (.iload_n 2, 1) := by decide +kernel
theorem dX12_isChoice_32 : decode cX12_isChoice 32 = .ok (.iload_n 3, 1) := by decide +kernel
theorem dX12_isChoice_33 : decode cX12_isChoice 33 = .ok (.ifCond .eq 7, 3) := by decide +kernel
theorem dX12_isChoice_36 : decode cX12_isChoice 36 = .ok (.iconst 0, 1) := by decide +kernel
theorem dX12_isChoice_37 : decode cX12_isChoice 37 = .ok (.goto 4, 3) := by decide +kernel
theorem dX12_isChoice_40 : decode cX12_isChoice 40 = .ok (.iconst 1, 1) := by decide +kernel
theorem dX12_isChoice_41 : decode cX12_isChoice 41 = .ok (.if_icmp .ne 7, 3) := by decide +kernel
theorem dX12_isChoice_44 : decode cX12_isChoice 44 = .ok (.iconst 1, 1) := by decide +kernel
theorem dX12_isChoice_45 : decode cX12_isChoice 45 = .ok (.goto 4, 3) := by decide +kernel
theorem dX12_isChoice_48 : decode cX12_isChoice 48 = .ok (.iconst 0, 1) := by decide +kernel
theorem dX12_isChoice_49 : decode cX12_isChoice 49 = .ok (.ireturn, 1) := by decide +kernel
theorem dX12_isChoice_50 : decode cX12_isChoice 50 = .ok (.iload_n 2, 1) := by decide +kernel
theorem dX12_isChoice_51 : decode cX12_isChoice 51 = .ok (.ifCond .eq 35, 3) := by decide +kernel
theorem dX12_isChoice_54 : decode cX12_isChoice 54 = .ok (.iload_n 2, 1) := by decide +kernel
theorem dX12_isChoice_55 : decode cX12_isChoice 55 = .ok (.iconst 1, 1) := by decide +kernel
theorem dX12_isChoice_56 : decode cX12_isChoice 56 = .ok (.if_icmp .ne 7, 3) := by decide +kernel
theorem dX12_isChoice_59 : decode cX12_isChoice 59 = .ok (.iload_n 3, 1) := by decide +kernel
theorem dX12_isChoice_60 : decode cX12_isChoice 60 = .ok (.ifCond .eq 26, 3) := by decide +kernel
theorem dX12_isChoice_63 : decode cX12_isChoice 63 = .ok (.iload_n 2, 1) := by decide +kernel
theorem dX12_isChoice_64 : decode cX12_isChoice 64 = .ok (.iconst 2, 1) := by decide +kernel
theorem dX12_isChoice_65 : decode cX12_isChoice 65 = .ok (.if_icmp .ne 25, 3) := by decide +kernel
theorem dX12_isChoice_68 : decode cX12_isChoice 68 = .ok (.aload_n 0, 1) := by decide +kernel
theorem dX12_isChoice_69 : decode cX12_isChoice 69 = .ok (.iload_n 1, 1) := by decide +kernel
theorem dX12_isChoice_70 : decode cX12_isChoice 70 = .ok (.iconst 1, 1) := by decide +kernel
theorem dX12_isChoice_71 : decode cX12_isChoice 71 = .ok (.invokevirtual 144, 3) := by decide +kernel
theorem dX12_isChoice_74 : decode cX12_isChoice 74 = .ok (.ifCond .eq 16, 3) := by decide +kernel
theorem dX12_isChoice_77 : decode cX12_isChoice 77 = .ok (.aload_n 0, 1) := by decide +kernel
theorem dX12_isChoice_78 : decode cX12_isChoice 78 = .ok (.iload_n 1, 1) := by decide +kernel
theorem dX12_isChoice_79 : decode cX12_isChoice 79 = .ok (.iconst 2, 1) := by decide +kernel
theorem dX12_isChoice_80 : decode cX12_isChoice 80 = .ok (.invokevirtual 144, 3) := by decide +kernel
theorem dX12_isChoice_83 : decode cX12_isChoice 83 = .ok (.ifCond .eq 7, 3) := by decide +kernel
theorem dX12_isChoice_86 : decode cX12_isChoice 86 = .ok (.iconst 1, 1) := by decide +kernel
theorem dX12_isChoice_87 : decode cX12_isChoice 87 = .ok (.goto 4, 3) := by decide +kernel
theorem dX12_isChoice_90 : decode cX12_isChoice 90 = .ok (.iconst 0, 1) := by decide +kernel
theorem dX12_isChoice_91 : decode cX12_isChoice 91 = .ok (.ireturn, 1) := by decide +kernel
set_option maxRecDepth 20000 in
theorem s_X12_isChoice {w : Wd} {d : Nat} {P : Int → IM → LM → Prop} {i : IM} {l : LM} (p0 : Int) (p1 : Int)  (hd : 1 ≤ d) (h : ((0 ≤ 8 * p0 + 1 ∧ 8 * p0 + 1 < 5120) ∧ (0 ≤ 8 * p0 + 2 ∧ 8 * p0 + 2 < 5120) ∧ ((0 ≤ 8 * p0 + 5 ∧ 8 * p0 + 5 < 5120) ∧ (((i 101 (8 * p0 + 5) = 1) → ((rg p1) ∧ P (bI (p1 = bI (¬ (i 101 (8 * p0 + 1) = i 101 (8 * p0 + 2))))) i l)) ∧ ((¬ (i 101 (8 * p0 + 5) = 1)) → ((rg p1) ∧ (((p1 = 0) ∨ ((p1 = 1) ∧ (¬ (i 101 (8 * p0 + 1) = i 101 (8 * p0 + 2))))) → P 1 i l) ∧ ((¬ ((p1 = 0) ∨ ((p1 = 1) ∧ (¬ (i 101 (8 * p0 + 1) = i 101 (8 * p0 + 2)))))) → gI w d X_X12_isChoice P i l 63 [(0, vR (some 99)), (1, vI p0), (2, vI p1)] []))))))) : gI w d X_X12_isChoice P i l 0 [(0, vR (some 99)), (1, vI p0), (2, vI p1)] [] := by
  obtain ⟨ob1, ob3, h⟩ := h
  refine g_aload_n (pc' := 1) 0 dX12_isChoice_0 rfl rfl ?_
  refine g_iload_n (pc' := 2) 1 dX12_isChoice_1 rfl rfl ?_
  refine g_iconst (pc' := 3) dX12_isChoice_2 rfl ?_
  refine g_pVI (pc' := 6) (vs := [vI p0, vI 1]) (st := []) (val := i 101 (8 * p0 + 1)) (c := 12) (sp_X12_thingOf (le_hd hd rfl) ob1) mv_X12_thingOf lk_X12_144 rfl rfl rfl rfl (Nat.le_of_ble_eq_true rfl) (Nat.le_of_ble_eq_true rfl) rfl dX12_isChoice_3 rfl z2 (fun rg2 => ?_)
  refine g_aload_n (pc' := 7) 0 dX12_isChoice_6 rfl rfl ?_
  refine g_iload_n (pc' := 8) 1 dX12_isChoice_7 rfl rfl ?_
  refine g_iconst (pc' := 9) dX12_isChoice_8 rfl ?_
  refine g_pVI (pc' := 12) (vs := [vI p0, vI 2]) (st := [vI (i 101 (8 * p0 + 1))]) (val := i 101 (8 * p0 + 2)) (c := 12) (sp_X12_thingOf (le_hd hd rfl) ob3) mv_X12_thingOf lk_X12_144 rfl rfl rfl rfl (Nat.le_of_ble_eq_true rfl) (Nat.le_of_ble_eq_true rfl) rfl dX12_isChoice_9 rfl z2 (fun rg4 => ?_)
  have hJ : gI w d X_X12_isChoice P i l 20 [(0, vR (some 99)), (1, vI p0), (2, vI p1)] [vI (bI (i 101 (8 * p0 + 1) = i 101 (8 * p0 + 2)))] := by
    obtain ⟨ob7, h⟩ := h
    refine g_istore_n (pc' := 21) (L' := [(3, vI (bI (i 101 (8 * p0 + 1) = i 101 (8 * p0 + 2)))), (0, vR (some 99)), (1, vI p0), (2, vI p1)]) dX12_isChoice_20 rfl (Nat.le_of_ble_eq_true rfl) rfl ?_
    refine g_aload_n (pc' := 22) 1 dX12_isChoice_21 rfl rfl ?_
    refine g_iload_n (pc' := 23) 2 dX12_isChoice_22 rfl rfl ?_
    refine g_iconst (pc' := 24) dX12_isChoice_23 rfl ?_
    refine g_pVI (pc' := 27) (vs := [vI p0, vI 5]) (st := []) (val := i 101 (8 * p0 + 5)) (c := 12) (sp_X12_thingOf (le_hd hd rfl) ob7) mv_X12_thingOf lk_X12_144 rfl rfl rfl rfl (Nat.le_of_ble_eq_true rfl) (Nat.le_of_ble_eq_true rfl) rfl dX12_isChoice_24 rfl z2 (fun rg8 => ?_)
    refine g_iconst (pc' := 28) dX12_isChoice_27 rfl ?_
    obtain ⟨hk44, hk45⟩ := h
    refine g_icmp_ne (tgt := 50) (pc' := 31) rg8 (rg_lit rfl) Iff.rfl dX12_isChoice_28 rfl rfl (fun c31 => ?_) (fun c31 => ?_)
    · have h := hk45 c31
      refine g_iload_n (pc' := 51) 3 dX12_isChoice_50 rfl rfl ?_
      obtain ⟨hob33, hk37, hk38⟩ := h
      have hk37g : ((p1 = 0) ∨ ((p1 = 1) ∧ (¬ (i 101 (8 * p0 + 1) = i 101 (8 * p0 + 2))))) → gI w d X_X12_isChoice P i l 91 [(3, vI (bI (i 101 (8 * p0 + 1) = i 101 (8 * p0 + 2)))), (0, vR (some 99)), (1, vI p0), (2, vI p1)] [vI 1] := by
        intro hp
        have h := hk37 hp
        exact g_retZ rfl (by decide) dX12_isChoice_91 h
      have hk38g : (¬ ((p1 = 0) ∨ ((p1 = 1) ∧ (¬ (i 101 (8 * p0 + 1) = i 101 (8 * p0 + 2)))))) → gI w d X_X12_isChoice P i l 63 [(3, vI (bI (i 101 (8 * p0 + 1) = i 101 (8 * p0 + 2)))), (0, vR (some 99)), (1, vI p0), (2, vI p1)] [] := by
        intro hp
        have h := hk38 hp
        refine g_sub (L' := [(0, vR (some 99)), (1, vI p0), (2, vI p1)]) [1, 2, 3] rfl ?_
        exact h
      refine g_if_eq (tgt := 86) (pc' := 54) (hob33) Iff.rfl dX12_isChoice_51 rfl rfl (fun c34 => ?_) (fun c34 => ?_)
      · refine g_iconst (pc' := 87) dX12_isChoice_86 rfl ?_
        refine g_goto (tgt := 91) dX12_isChoice_87 rfl ?_
        exact hk37g (Or.inl c34)
      · refine g_iload_n (pc' := 55) 3 dX12_isChoice_54 rfl rfl ?_
        refine g_iconst (pc' := 56) dX12_isChoice_55 rfl ?_
        refine g_icmp_ne (tgt := 63) (pc' := 59) (hob33) (rg_lit rfl) Iff.rfl dX12_isChoice_56 rfl rfl (fun c35 => ?_) (fun c35 => ?_)
        · exact hk38g (fun q => q.elim c34 (fun q => c35 q.1))
        · refine g_iload_n (pc' := 60) 0 dX12_isChoice_59 rfl rfl ?_
          refine g_if_eq (tgt := 86) (pc' := 63) (rg_bI _) (bI_eq _) dX12_isChoice_60 rfl rfl (fun c36 => ?_) (fun c36n => ?_)
          · refine g_iconst (pc' := 87) dX12_isChoice_86 rfl ?_
            refine g_goto (tgt := 91) dX12_isChoice_87 rfl ?_
            exact hk37g (Or.inr ⟨c35, c36⟩)
          · have c36 := Decidable.of_not_not c36n
            exact hk38g (fun q => q.elim c34 (fun q => (fun q => q c36) q.2))
    · have h := hk44 c31
      refine g_iload_n (pc' := 32) 3 dX12_isChoice_31 rfl rfl ?_
      refine g_iload_n (pc' := 33) 0 dX12_isChoice_32 rfl rfl ?_
      have hJ : gI w d X_X12_isChoice P i l 41 [(3, vI (bI (i 101 (8 * p0 + 1) = i 101 (8 * p0 + 2)))), (0, vR (some 99)), (1, vI p0), (2, vI p1)] [vI (bI (¬ (i 101 (8 * p0 + 1) = i 101 (8 * p0 + 2)))), vI p1] := by
        obtain ⟨hob42, h⟩ := h
        have hJ : gI w d X_X12_isChoice P i l 49 [(3, vI (bI (i 101 (8 * p0 + 1) = i 101 (8 * p0 + 2)))), (0, vR (some 99)), (1, vI p0), (2, vI p1)] [vI (bI (p1 = bI (¬ (i 101 (8 * p0 + 1) = i 101 (8 * p0 + 2)))))] := by
          exact g_retZ rfl (bI_01 _) dX12_isChoice_49 h
        refine g_icmp_ne (tgt := 48) (pc' := 44) (hob42) (rg_bI _) Iff.rfl dX12_isChoice_41 rfl rfl (fun c43 => ?_) (fun c43 => ?_)
        · refine g_iconst (pc' := 49) dX12_isChoice_48 rfl ?_
          rw [bI_f (p := (p1 = bI (¬ (i 101 (8 * p0 + 1) = i 101 (8 * p0 + 2))))) c43] at hJ
          exact hJ
        · refine g_iconst (pc' := 45) dX12_isChoice_44 rfl ?_
          refine g_goto (tgt := 49) dX12_isChoice_45 rfl ?_
          rw [bI_t (p := (p1 = bI (¬ (i 101 (8 * p0 + 1) = i 101 (8 * p0 + 2))))) c43] at hJ
          exact hJ
      refine g_if_eq (tgt := 40) (pc' := 36) (rg_bI _) (bI_eq _) dX12_isChoice_33 rfl rfl (fun c40 => ?_) (fun c40n => ?_)
      · refine g_iconst (pc' := 41) dX12_isChoice_40 rfl ?_
        rw [bI_t (p := (¬ (i 101 (8 * p0 + 1) = i 101 (8 * p0 + 2)))) c40] at hJ
        exact hJ
      · have c40 := Decidable.of_not_not c40n
        refine g_iconst (pc' := 37) dX12_isChoice_36 rfl ?_
        refine g_goto (tgt := 41) dX12_isChoice_37 rfl ?_
        rw [bI_f (p := (¬ (i 101 (8 * p0 + 1) = i 101 (8 * p0 + 2)))) (fun q => q c40)] at hJ
        exact hJ
  refine g_icmp_ne (tgt := 19) (pc' := 15) rg2 rg4 Iff.rfl dX12_isChoice_12 rfl rfl (fun c6 => ?_) (fun c6 => ?_)
  · refine g_iconst (pc' := 20) dX12_isChoice_19 rfl ?_
    rw [bI_f (p := (i 101 (8 * p0 + 1) = i 101 (8 * p0 + 2))) c6] at hJ
    exact hJ
  · refine g_iconst (pc' := 16) dX12_isChoice_15 rfl ?_
    refine g_goto (tgt := 20) dX12_isChoice_16 rfl ?_
    rw [bI_t (p := (i 101 (8 * p0 + 1) = i 101 (8 * p0 + 2))) c6] at hJ
    exact hJ
theorem e_X12_isChoice {w : Wd} {d : Nat} {P : Int → IM → LM → Prop} {i : IM} {l : LM} {p0 : Int} {p1 : Int}  (h : gI w d X_X12_isChoice P i l 0 [(0, vR (some 99)), (1, vI p0), (2, vI p1)] []) : cI w (d + 1) X_X12_isChoice [vR (some 99), vI p0, vI p1] i l P := CI_of (by decide +kernel) (Nat.le_of_ble_eq_true rfl) h
set_option maxRecDepth 20000 in
theorem s_X12_isChoice_63 {w : Wd} {d : Nat} {P : Int → IM → LM → Prop} {i : IM} {l : LM} (x1 : Int) (x2 : Int)  (hd : 1 ≤ d) (h : ((rg x2) ∧ ((x2 = 2) → 0 ≤ 8 * x1 + 1 ∧ 8 * x1 + 1 < 5120) ∧ ((x2 = 2) → ¬ (i 101 (8 * x1 + 1) = 0) → 0 ≤ 8 * x1 + 2 ∧ 8 * x1 + 2 < 5120) ∧ P (bI ((x2 = 2) ∧ (¬ (i 101 (8 * x1 + 1) = 0) ∧ (¬ (i 101 (8 * x1 + 2) = 0))))) i l)) : gI w d X_X12_isChoice P i l 63 [(0, vR (some 99)), (1, vI x1), (2, vI x2)] [] := by
  refine g_iload_n (pc' := 64) 2 dX12_isChoice_63 rfl rfl ?_
  refine g_iconst (pc' := 65) dX12_isChoice_64 rfl ?_
  obtain ⟨hob47, hob49, hob52, h⟩ := h
  have hJ : gI w d X_X12_isChoice P i l 91 [(0, vR (some 99)), (1, vI x1), (2, vI x2)] [vI (bI ((x2 = 2) ∧ (¬ (i 101 (8 * x1 + 1) = 0) ∧ (¬ (i 101 (8 * x1 + 2) = 0)))))] := by
    exact g_retZ rfl (bI_01 _) dX12_isChoice_91 h
  refine g_icmp_ne (tgt := 90) (pc' := 68) (hob47) (rg_lit rfl) Iff.rfl dX12_isChoice_65 rfl rfl (fun c48 => ?_) (fun c48 => ?_)
  · refine g_iconst (pc' := 91) dX12_isChoice_90 rfl ?_
    rw [bI_f (p := ((x2 = 2) ∧ (¬ (i 101 (8 * x1 + 1) = 0) ∧ (¬ (i 101 (8 * x1 + 2) = 0))))) (fun q => c48 q.1)] at hJ
    exact hJ
  · refine g_aload_n (pc' := 69) 0 dX12_isChoice_68 rfl rfl ?_
    refine g_iload_n (pc' := 70) 1 dX12_isChoice_69 rfl rfl ?_
    refine g_iconst (pc' := 71) dX12_isChoice_70 rfl ?_
    refine g_pVI (pc' := 74) (vs := [vI x1, vI 1]) (st := []) (val := i 101 (8 * x1 + 1)) (c := 12) (sp_X12_thingOf (le_hd hd rfl) (hob49 c48)) mv_X12_thingOf lk_X12_144 rfl rfl rfl rfl (Nat.le_of_ble_eq_true rfl) (Nat.le_of_ble_eq_true rfl) rfl dX12_isChoice_71 rfl z2 (fun rg50 => ?_)
    refine g_if_eq (tgt := 90) (pc' := 77) rg50 Iff.rfl dX12_isChoice_74 rfl rfl (fun c51 => ?_) (fun c51 => ?_)
    · refine g_iconst (pc' := 91) dX12_isChoice_90 rfl ?_
      rw [bI_f (p := ((x2 = 2) ∧ (¬ (i 101 (8 * x1 + 1) = 0) ∧ (¬ (i 101 (8 * x1 + 2) = 0))))) (fun q => (fun q => q.1 c51) q.2)] at hJ
      exact hJ
    · refine g_aload_n (pc' := 78) 0 dX12_isChoice_77 rfl rfl ?_
      refine g_iload_n (pc' := 79) 1 dX12_isChoice_78 rfl rfl ?_
      refine g_iconst (pc' := 80) dX12_isChoice_79 rfl ?_
      refine g_pVI (pc' := 83) (vs := [vI x1, vI 2]) (st := []) (val := i 101 (8 * x1 + 2)) (c := 12) (sp_X12_thingOf (le_hd hd rfl) (hob52 c48 c51)) mv_X12_thingOf lk_X12_144 rfl rfl rfl rfl (Nat.le_of_ble_eq_true rfl) (Nat.le_of_ble_eq_true rfl) rfl dX12_isChoice_80 rfl z2 (fun rg53 => ?_)
      refine g_if_eq (tgt := 90) (pc' := 86) rg53 Iff.rfl dX12_isChoice_83 rfl rfl (fun c54 => ?_) (fun c54 => ?_)
      · refine g_iconst (pc' := 91) dX12_isChoice_90 rfl ?_
        rw [bI_f (p := ((x2 = 2) ∧ (¬ (i 101 (8 * x1 + 1) = 0) ∧ (¬ (i 101 (8 * x1 + 2) = 0))))) (fun q => (fun q => (fun q => q c54) q.2) q.2)] at hJ
        exact hJ
      · refine g_iconst (pc' := 87) dX12_isChoice_86 rfl ?_
        refine g_goto (tgt := 91) dX12_isChoice_87 rfl ?_
        rw [bI_t (p := ((x2 = 2) ∧ (¬ (i 101 (8 * x1 + 1) = 0) ∧ (¬ (i 101 (8 * x1 + 2) = 0))))) ⟨c48, ⟨c51, c54⟩⟩] at hJ
        exact hJ

theorem dX12_isStep_0 : decode cX12_isStep 0 = .ok (.iload_n 1, 1) := by decide +kernel
theorem dX12_isStep_1 : decode cX12_isStep 1 = .ok (.iload_n 2, 1) := by decide +kernel
theorem dX12_isStep_2 : decode cX12_isStep 2 = .ok (.if_icmp .eq 19, 3) := by decide +kernel
theorem dX12_isStep_5 : decode cX12_isStep 5 = .ok (.aload_n 0, 1) := by decide +kernel
theorem dX12_isStep_6 : decode cX12_isStep 6 = .ok (.getfield 20, 3) := by decide +kernel
theorem dX12_isStep_9 : decode cX12_isStep 9 = .ok (.bipush 104, 2) := by decide +kernel
theorem dX12_isStep_11 : decode cX12_isStep 11 = .ok (.iload_n 1, 1) := by decide +kernel
theorem dX12_isStep_12 : decode cX12_isStep 12 = .ok (.iadd, 1) := by decide +kernel
theorem dX12_isStep_13 : decode cX12_isStep 13 = .ok (.iaload, 1) := by decide +kernel
theorem dX12_isStep_14 : decode cX12_isStep 14 = .ok (.iload_n 2, 1) := by decide +kernel
theorem dX12_isStep_15 : decode cX12_isStep 15 = .ok (.invokestatic 147, 3) := by decide +kernel
theorem dX12_isStep_18 : decode cX12_isStep 18 = .ok (.ifCond .eq 7, 3) := by decide +kernel
theorem dX12_isStep_21 : decode cX12_isStep 21 = .ok (.iconst 1, 1) := by decide +kernel
theorem dX12_isStep_22 : decode cX12_isStep 22 = .ok (.goto 4, 3) := by decide +kernel
theorem dX12_isStep_25 : decode cX12_isStep 25 = .ok (.iconst 0, 1) := by decide +kernel
theorem dX12_isStep_26 : decode cX12_isStep 26 = .ok (.ireturn, 1) := by decide +kernel
set_option maxRecDepth 20000 in
theorem s_X12_isStep {w : Wd} {d : Nat} {P : Int → IM → LM → Prop} {i : IM} {l : LM} (p0 : Int) (p1 : Int)  (hd : 1 ≤ d) (h : ((rg p0) ∧ (rg p1) ∧ (¬ (p0 = p1) → 0 ≤ 104 + p0 ∧ 104 + p0 < 5120) ∧ P (bI ((p0 = p1) ∨ (iand (ishr (i 101 (104 + p0)) p1) 1 = 1))) i l)) : gI w d X_X12_isStep P i l 0 [(0, vR (some 99)), (1, vI p0), (2, vI p1)] [] := by
  refine g_iload_n (pc' := 1) 1 dX12_isStep_0 rfl rfl ?_
  refine g_iload_n (pc' := 2) 2 dX12_isStep_1 rfl rfl ?_
  obtain ⟨hob2, hob3, hob5, h⟩ := h
  have hJ : gI w d X_X12_isStep P i l 26 [(0, vR (some 99)), (1, vI p0), (2, vI p1)] [vI (bI ((p0 = p1) ∨ (iand (ishr (i 101 (104 + p0)) p1) 1 = 1)))] := by
    exact g_retZ rfl (bI_01 _) dX12_isStep_26 h
  refine g_icmp_eq (tgt := 21) (pc' := 5) (hob2) (hob3) Iff.rfl dX12_isStep_2 rfl rfl (fun c4 => ?_) (fun c4 => ?_)
  · refine g_iconst (pc' := 22) dX12_isStep_21 rfl ?_
    refine g_goto (tgt := 26) dX12_isStep_22 rfl ?_
    rw [bI_t (p := ((p0 = p1) ∨ (iand (ishr (i 101 (104 + p0)) p1) 1 = 1))) (Or.inl c4)] at hJ
    exact hJ
  · refine g_aload_n (pc' := 6) 0 dX12_isStep_5 rfl rfl ?_
    refine g_getR (pc' := 9) (o := some 101) fl_X12_20 rfl rfl rfl dX12_isStep_6 rfl ?_
    refine g_bipush (pc' := 11) dX12_isStep_9 rfl rfl ?_
    refine g_iload_n (pc' := 12) 1 dX12_isStep_11 rfl rfl ?_
    refine g_iadd (pc' := 13) dX12_isStep_12 rfl ?_
    refine g_iald (pc' := 14) (N := 5120) rfl rfl (Nat.lt_of_lt_of_le (Nat.lt_succ_self _) (Nat.le_of_ble_eq_true rfl)) (hob5 c4) dX12_isStep_13 rfl (fun rg6 => ?_)
    refine g_iload_n (pc' := 15) 2 dX12_isStep_14 rfl rfl ?_
    refine g_pSI (pc' := 18) (vs := [vI (i 101 (104 + p0)), vI p1]) (st := []) (val := bI (iand (ishr (i 101 (104 + p0)) p1) 1 = 1)) (sp_X12_isIn (le_hd hd rfl) ) mk_X12_isIn ms_X12_isIn lk_X12_147 rfl (Nat.le_of_ble_eq_true rfl) (Nat.le_of_ble_eq_true rfl) rfl dX12_isStep_15 rfl z2 (fun rg7 => ?_)
    refine g_if_eq (tgt := 25) (pc' := 21) rg7 (bI_eq _) dX12_isStep_18 rfl rfl (fun c8 => ?_) (fun c8n => ?_)
    · refine g_iconst (pc' := 26) dX12_isStep_25 rfl ?_
      rw [bI_f (p := ((p0 = p1) ∨ (iand (ishr (i 101 (104 + p0)) p1) 1 = 1))) (fun q => q.elim c4 c8)] at hJ
      exact hJ
    · have c8 := Decidable.of_not_not c8n
      refine g_iconst (pc' := 22) dX12_isStep_21 rfl ?_
      refine g_goto (tgt := 26) dX12_isStep_22 rfl ?_
      rw [bI_t (p := ((p0 = p1) ∨ (iand (ishr (i 101 (104 + p0)) p1) 1 = 1))) (Or.inr c8)] at hJ
      exact hJ
theorem e_X12_isStep {w : Wd} {d : Nat} {P : Int → IM → LM → Prop} {i : IM} {l : LM} {p0 : Int} {p1 : Int}  (h : gI w d X_X12_isStep P i l 0 [(0, vR (some 99)), (1, vI p0), (2, vI p1)] []) : cI w (d + 1) X_X12_isStep [vR (some 99), vI p0, vI p1] i l P := CI_of (by decide +kernel) (Nat.le_of_ble_eq_true rfl) h

theorem dX9_shownIn_0 : decode cX9_shownIn 0 = .ok (.aload_n 0, 1) := by decide +kernel
theorem dX9_shownIn_1 : decode cX9_shownIn 1 = .ok (.iload_n 1, 1) := by decide +kernel
theorem dX9_shownIn_2 : decode cX9_shownIn 2 = .ok (.bipush 6, 2) := by decide +kernel
theorem dX9_shownIn_4 : decode cX9_shownIn 4 = .ok (.invokevirtual 52, 3) := by decide +kernel
theorem dX9_shownIn_7 : decode cX9_shownIn 7 = .ok (.iload_n 3, 1) := by decide +kernel
theorem dX9_shownIn_8 : decode cX9_shownIn 8 = .ok (.ishr, 1) := by decide +kernel
theorem dX9_shownIn_9 : decode cX9_shownIn 9 = .ok (.iconst 1, 1) := by decide +kernel
theorem dX9_shownIn_10 : decode cX9_shownIn 10 = .ok (.iand, 1) := by decide +kernel
theorem dX9_shownIn_11 : decode cX9_shownIn 11 = .ok (.iconst 1, 1) := by decide +kernel
theorem dX9_shownIn_12 : decode cX9_shownIn 12 = .ok (.if_icmp .ne 13, 3) := by decide +kernel
theorem dX9_shownIn_15 : decode cX9_shownIn 15 = .ok (.aload_n 0, 1) := by decide +kernel
theorem dX9_shownIn_16 : decode cX9_shownIn 16 = .ok (.iload_n 1, 1) := by decide +kernel
theorem dX9_shownIn_17 : decode cX9_shownIn 17 = .ok (.bipush 7, 2) := by decide +kernel
theorem dX9_shownIn_19 : decode cX9_shownIn 19 = .ok (.invokevirtual 52, 3) := by decide +kernel
theorem dX9_shownIn_22 : decode cX9_shownIn 22 = .ok (.goto 4, 3) := by decide +kernel
theorem dX9_shownIn_25 : decode cX9_shownIn 25 = .ok (.iload_n 2, 1) := by decide +kernel
theorem dX9_shownIn_26 : decode cX9_shownIn 26 = .ok (.ireturn, 1) := by decide +kernel
set_option maxRecDepth 20000 in
theorem s_X9_shownIn {w : Wd} {d : Nat} {P : Int → IM → LM → Prop} {i : IM} {l : LM} (p0 : Int) (p1 : Int) (p2 : Int)  (hd : 1 ≤ d) (h : ((0 ≤ p0 * 8 + 6 ∧ p0 * 8 + 6 < 80) ∧ (((iand (ishr (i 8 (p0 * 8 + 6)) p2) 1 = 1) → 0 ≤ p0 * 8 + 7 ∧ p0 * 8 + 7 < 80) ∧ ((rg (if (iand (ishr (i 8 (p0 * 8 + 6)) p2) 1 = 1) then i 8 (p0 * 8 + 7) else p1)) ∧ P (if (iand (ishr (i 8 (p0 * 8 + 6)) p2) 1 = 1) then i 8 (p0 * 8 + 7) else p1) i l)))) : gI w d X_X9_shownIn P i l 0 [(0, vR (some 7)), (1, vI p0), (2, vI p1), (3, vI p2)] [] := by
  obtain ⟨ob1, h⟩ := h
  refine g_aload_n (pc' := 1) 0 dX9_shownIn_0 rfl rfl ?_
  refine g_iload_n (pc' := 2) 1 dX9_shownIn_1 rfl rfl ?_
  refine g_bipush (pc' := 4) dX9_shownIn_2 rfl rfl ?_
  refine g_pVI (pc' := 7) (vs := [vI p0, vI 6]) (st := []) (val := i 8 (p0 * 8 + 6)) (c := 9) (sp_X9_trait (le_hd hd rfl) ob1) mv_X9_trait lk_X9_52 rfl rfl rfl rfl (Nat.le_of_ble_eq_true rfl) (Nat.le_of_ble_eq_true rfl) rfl dX9_shownIn_4 rfl z2 (fun rg2 => ?_)
  refine g_iload_n (pc' := 8) 3 dX9_shownIn_7 rfl rfl ?_
  refine g_ishr (pc' := 9) dX9_shownIn_8 rfl ?_
  refine g_iconst (pc' := 10) dX9_shownIn_9 rfl ?_
  refine g_iand (pc' := 11) dX9_shownIn_10 rfl ?_
  refine g_iconst (pc' := 12) dX9_shownIn_11 rfl ?_
  refine g_rg (fun hRG3 => ?_)
  obtain ⟨hob5, h⟩ := h
  have hJ : gI w d X_X9_shownIn P i l 26 [(0, vR (some 7)), (1, vI p0), (2, vI p1), (3, vI p2)] [vI (if (iand (ishr (i 8 (p0 * 8 + 6)) p2) 1 = 1) then i 8 (p0 * 8 + 7) else p1)] := by
    obtain ⟨ob7, h⟩ := h
    exact g_retI rfl ob7 dX9_shownIn_26 h
  refine g_icmp_ne (tgt := 25) (pc' := 15) (rg_iand _ _) (rg_lit rfl) Iff.rfl dX9_shownIn_12 rfl rfl (fun c4 => ?_) (fun c4 => ?_)
  · refine g_iload_n (pc' := 26) 2 dX9_shownIn_25 rfl rfl ?_
    rw [if_neg c4 (α := Int) (t := i 8 (p0 * 8 + 7)) (e := p1)] at hJ
    exact hJ
  · refine g_aload_n (pc' := 16) 0 dX9_shownIn_15 rfl rfl ?_
    refine g_iload_n (pc' := 17) 1 dX9_shownIn_16 rfl rfl ?_
    refine g_bipush (pc' := 19) dX9_shownIn_17 rfl rfl ?_
    refine g_pVI (pc' := 22) (vs := [vI p0, vI 7]) (st := []) (val := i 8 (p0 * 8 + 7)) (c := 9) (sp_X9_trait (le_hd hd rfl) (hob5 c4)) mv_X9_trait lk_X9_52 rfl rfl rfl rfl (Nat.le_of_ble_eq_true rfl) (Nat.le_of_ble_eq_true rfl) rfl dX9_shownIn_19 rfl z2 (fun rg6 => ?_)
    refine g_goto (tgt := 26) dX9_shownIn_22 rfl ?_
    rw [if_pos c4 (α := Int) (t := i 8 (p0 * 8 + 7)) (e := p1)] at hJ
    exact hJ
theorem e_X9_shownIn {w : Wd} {d : Nat} {P : Int → IM → LM → Prop} {i : IM} {l : LM} {p0 : Int} {p1 : Int} {p2 : Int}  (h : gI w d X_X9_shownIn P i l 0 [(0, vR (some 7)), (1, vI p0), (2, vI p1), (3, vI p2)] []) : cI w (d + 1) X_X9_shownIn [vR (some 7), vI p0, vI p1, vI p2] i l P := CI_of (by decide +kernel) (Nat.le_of_ble_eq_true rfl) h

theorem dX1_mayFail_0 : decode cX1_mayFail 0 = .ok (.lload 4, 2) := by decide +kernel
theorem dX1_mayFail_2 : decode cX1_mayFail 2 = .ok (.aload_n 0, 1) := by decide +kernel
theorem dX1_mayFail_3 : decode cX1_mayFail 3 = .ok (.getfield 31, 3) := by decide +kernel
theorem dX1_mayFail_6 : decode cX1_mayFail 6 = .ok (.iload_n 1, 1) := by decide +kernel
theorem dX1_mayFail_7 : decode cX1_mayFail 7 = .ok (.laload, 1) := by decide +kernel
theorem dX1_mayFail_8 : decode cX1_mayFail 8 = .ok (.ladd, 1) := by decide +kernel
theorem dX1_mayFail_9 : decode cX1_mayFail 9 = .ok (.ldc2_w 150, 3) := by decide +kernel
theorem dX1_mayFail_12 : decode cX1_mayFail 12 = .ok (.land, 1) := by decide +kernel
theorem dX1_mayFail_13 : decode cX1_mayFail 13 = .ok (.lstore 8, 2) := by decide +kernel
theorem dX1_mayFail_15 : decode cX1_mayFail 15 = .ok (.lload 8, 2) := by decide +kernel
theorem dX1_mayFail_17 : decode cX1_mayFail 17 = .ok (.lconst 0, 1) := by decide +kernel
theorem dX1_mayFail_18 : decode cX1_mayFail 18 = .ok (.lcmp, 1) := by decide +kernel
theorem dX1_mayFail_19 : decode cX1_mayFail 19 = .ok (.ifCond .ne 7, 3) := by decide +kernel
theorem dX1_mayFail_22 : decode cX1_mayFail 22 = .ok (.lconst 0, 1) := by decide +kernel
theorem dX1_mayFail_23 : decode cX1_mayFail 23 = .ok (.goto 20, 3) := by decide +kernel
theorem dX1_mayFail_26 : decode cX1_mayFail 26 = .ok (.lload 8, 2) := by decide +kernel
theorem dX1_mayFail_28 : decode cX1_mayFail 28 = .ok (.lload_n 2, 1) := by decide +kernel
theorem dX1_mayFail_29 : decode cX1_mayFail 29 = .ok (.aload_n 0, 1) := by decide +kernel
theorem dX1_mayFail_30 : decode cX1_mayFail 30 = .ok (.getfield 28, 3) := by decide +kernel
theorem dX1_mayFail_33 : decode cX1_mayFail 33 = .ok (.iload_n 1, 1) := by decide +kernel
theorem dX1_mayFail_34 : decode cX1_mayFail 34 = .ok (.laload, 1) := by decide +kernel
theorem dX1_mayFail_35 : decode cX1_mayFail 35 = .ok (.lor, 1) := by decide +kernel
theorem dX1_mayFail_36 : decode cX1_mayFail 36 = .ok (.invokestatic 120, 3) := by decide +kernel
theorem dX1_mayFail_39 : decode cX1_mayFail 39 = .ok (.lload 6, 2) := by decide +kernel
theorem dX1_mayFail_41 : decode cX1_mayFail 41 = .ok (.ladd, 1) := by decide +kernel
theorem dX1_mayFail_42 : decode cX1_mayFail 42 = .ok (.land, 1) := by decide +kernel
theorem dX1_mayFail_43 : decode cX1_mayFail 43 = .ok (.lreturn, 1) := by decide +kernel
set_option maxRecDepth 20000 in
theorem s_X1_mayFail {w : Wd} {d : Nat} {P : Int64 → IM → LM → Prop} {i : IM} {l : LM} (p0 : Int) (p1 : Int64) (p2 : Int64) (p3 : Int64)  (h : ((0 ≤ p0 ∧ p0 < 132) ∧ ((((p2 + (l 58 p0)) &&& (-9187201950435737472) = 0) → P 0 i l) ∧ ((¬ ((p2 + (l 58 p0)) &&& (-9187201950435737472) = 0)) → ((0 ≤ p0 ∧ p0 < 132) ∧ cL w d X_X1_counted [vL (p1 ||| (l 57 p0))] i l (fun r6 i6 l6 => P (((p2 + (l 58 p0)) &&& (-9187201950435737472)) &&& (r6 + p3)) i6 l6)))))) : gLg w d X_X1_mayFail P i l 0 [(0, vR (some 51)), (1, vI p0), (2, vL p1), (4, vL p2), (6, vL p3)] [] := by
  obtain ⟨ob1, h⟩ := h
  refine g_lload (pc' := 2) 3 dX1_mayFail_0 rfl rfl ?_
  refine g_aload_n (pc' := 3) 0 dX1_mayFail_2 rfl rfl ?_
  refine g_getR (pc' := 6) (o := some 58) fl_X1_31 rfl rfl rfl dX1_mayFail_3 rfl ?_
  refine g_iload_n (pc' := 7) 1 dX1_mayFail_6 rfl rfl ?_
  refine g_lald (pc' := 8) (N := 132) rfl rfl (Nat.lt_of_lt_of_le (Nat.lt_succ_self _) (Nat.le_of_ble_eq_true rfl)) ob1 dX1_mayFail_7 rfl ?_
  refine g_ladd (pc' := 9) dX1_mayFail_8 rfl ?_
  refine g_ldc2 (pc' := 12) dX1_mayFail_9 rfl kl_X1_150 ?_
  refine g_land (pc' := 13) dX1_mayFail_12 rfl ?_
  refine g_lstore (pc' := 15) (L' := [(8, vL ((p2 + (l 58 p0)) &&& (-9187201950435737472))), (0, vR (some 51)), (1, vI p0), (2, vL p1), (4, vL p2), (6, vL p3)]) dX1_mayFail_13 rfl (Nat.le_of_ble_eq_true rfl) rfl ?_
  refine g_lload (pc' := 17) 0 dX1_mayFail_15 rfl rfl ?_
  refine g_lconst (pc' := 18) (v := 0) dX1_mayFail_17 rfl rfl ?_
  refine g_lcmp (pc' := 19) dX1_mayFail_18 rfl ?_
  obtain ⟨hk7, hk8⟩ := h
  refine g_if_ne (tgt := 26) (pc' := 22) (rg_lcmpI _ _) (lcmpI_eq _ _) dX1_mayFail_19 rfl rfl (fun c3 => ?_) (fun c3 => ?_)
  · have h := hk8 c3
    obtain ⟨ob5, h⟩ := h
    refine g_lload (pc' := 28) 0 dX1_mayFail_26 rfl rfl ?_
    refine g_lload_n (pc' := 29) 3 dX1_mayFail_28 rfl rfl ?_
    refine g_aload_n (pc' := 30) 1 dX1_mayFail_29 rfl rfl ?_
    refine g_getR (pc' := 33) (o := some 57) fl_X1_28 rfl rfl rfl dX1_mayFail_30 rfl ?_
    refine g_iload_n (pc' := 34) 2 dX1_mayFail_33 rfl rfl ?_
    refine g_lald (pc' := 35) (N := 132) rfl rfl (Nat.lt_of_lt_of_le (Nat.lt_succ_self _) (Nat.le_of_ble_eq_true rfl)) ob5 dX1_mayFail_34 rfl ?_
    refine g_lor (pc' := 36) dX1_mayFail_35 rfl ?_
    refine g_cSL (pc' := 39) (vs := [vL (p1 ||| (l 57 p0))]) (st := [vL ((p2 + (l 58 p0)) &&& (-9187201950435737472))]) h mk_X1_counted ms_X1_counted lk_X1_120 rfl (Nat.le_of_ble_eq_true rfl) (Nat.le_of_ble_eq_true rfl) rfl dX1_mayFail_36 rfl z2 (fun r6 i6 l6 h => ?_)
    refine g_lload (pc' := 41) 5 dX1_mayFail_39 rfl rfl ?_
    refine g_ladd (pc' := 42) dX1_mayFail_41 rfl ?_
    refine g_land (pc' := 43) dX1_mayFail_42 rfl ?_
    exact g_retL rfl dX1_mayFail_43 h
  · refine g_lconst (pc' := 23) (v := 0) dX1_mayFail_22 rfl rfl ?_
    refine g_goto (tgt := 43) dX1_mayFail_23 rfl ?_
    have h := hk7 c3
    exact g_retL rfl dX1_mayFail_43 h
theorem e_X1_mayFail {w : Wd} {d : Nat} {P : Int64 → IM → LM → Prop} {i : IM} {l : LM} {p0 : Int} {p1 : Int64} {p2 : Int64} {p3 : Int64}  (h : gLg w d X_X1_mayFail P i l 0 [(0, vR (some 51)), (1, vI p0), (2, vL p1), (4, vL p2), (6, vL p3)] []) : cL w (d + 1) X_X1_mayFail [vR (some 51), vI p0, vL p1, vL p2, vL p3] i l P := CL_of (by decide +kernel) (Nat.le_of_ble_eq_true rfl) h

theorem dX1_spareOf_0 : decode cX1_spareOf 0 = .ok (.aload_n 0, 1) := by decide +kernel
theorem dX1_spareOf_1 : decode cX1_spareOf 1 = .ok (.getfield 37, 3) := by decide +kernel
theorem dX1_spareOf_4 : decode cX1_spareOf 4 = .ok (.iload_n 1, 1) := by decide +kernel
theorem dX1_spareOf_5 : decode cX1_spareOf 5 = .ok (.laload, 1) := by decide +kernel
theorem dX1_spareOf_6 : decode cX1_spareOf 6 = .ok (.iload_n 2, 1) := by decide +kernel
theorem dX1_spareOf_7 : decode cX1_spareOf 7 = .ok (.invokestatic 146, 3) := by decide +kernel
theorem dX1_spareOf_10 : decode cX1_spareOf 10 = .ok (.land, 1) := by decide +kernel
theorem dX1_spareOf_11 : decode cX1_spareOf 11 = .ok (.lstore 4, 2) := by decide +kernel
theorem dX1_spareOf_13 : decode cX1_spareOf 13 = .ok (.iload_n 3, 1) := by decide +kernel
theorem dX1_spareOf_14 : decode cX1_spareOf 14 = .ok (.iconst (-1), 1) := by decide +kernel
theorem dX1_spareOf_15 : decode cX1_spareOf 15 = .ok (.if_icmp .ne 8, 3) := by decide +kernel
theorem dX1_spareOf_18 : decode cX1_spareOf 18 = .ok (.lload 4, 2) := by decide +kernel
theorem dX1_spareOf_20 : decode cX1_spareOf 20 = .ok (.goto 12, 3) := by decide +kernel
theorem dX1_spareOf_23 : decode cX1_spareOf 23 = .ok (.lload 4, 2) := by decide +kernel
theorem dX1_spareOf_25 : decode cX1_spareOf 25 = .ok (.lconst 1, 1) := by decide +kernel
theorem dX1_spareOf_26 : decode cX1_spareOf 26 = .ok (.bipush 8, 2) := by decide +kernel
theorem dX1_spareOf_28 : decode cX1_spareOf 28 = .ok (.iload_n 3, 1) := by decide +kernel
theorem dX1_spareOf_29 : decode cX1_spareOf 29 = .ok (.imul, 1) := by decide +kernel
theorem dX1_spareOf_30 : decode cX1_spareOf 30 = .ok (.lshl, 1) := by decide +kernel
theorem dX1_spareOf_31 : decode cX1_spareOf 31 = .ok (.lsub, 1) := by decide +kernel
theorem dX1_spareOf_32 : decode cX1_spareOf 32 = .ok (.lreturn, 1) := by decide +kernel
set_option maxRecDepth 20000 in
theorem s_X1_spareOf {w : Wd} {d : Nat} {P : Int64 → IM → LM → Prop} {i : IM} {l : LM} (p0 : Int) (p1 : Int) (p2 : Int)  (h : ((0 ≤ p0 ∧ p0 < 12) ∧ cL w d X_X1_bytesOf [vI p1] i l (fun r2 i2 l2 => ((rg p2) ∧ P (if (p2 = (-1)) then (l 60 p0) &&& r2 else ((l 60 p0) &&& r2) - (lshl 1 (8 * p2))) i2 l2)))) : gLg w d X_X1_spareOf P i l 0 [(0, vR (some 51)), (1, vI p0), (2, vI p1), (3, vI p2)] [] := by
  obtain ⟨ob1, h⟩ := h
  refine g_aload_n (pc' := 1) 0 dX1_spareOf_0 rfl rfl ?_
  refine g_getR (pc' := 4) (o := some 60) fl_X1_37 rfl rfl rfl dX1_spareOf_1 rfl ?_
  refine g_iload_n (pc' := 5) 1 dX1_spareOf_4 rfl rfl ?_
  refine g_lald (pc' := 6) (N := 12) rfl rfl (Nat.lt_of_lt_of_le (Nat.lt_succ_self _) (Nat.le_of_ble_eq_true rfl)) ob1 dX1_spareOf_5 rfl ?_
  refine g_iload_n (pc' := 7) 2 dX1_spareOf_6 rfl rfl ?_
  refine g_cSL (pc' := 10) (vs := [vI p1]) (st := [vL (l 60 p0)]) h mk_X1_bytesOf ms_X1_bytesOf lk_X1_146 rfl (Nat.le_of_ble_eq_true rfl) (Nat.le_of_ble_eq_true rfl) rfl dX1_spareOf_7 rfl z2 (fun r2 i2 l2 h => ?_)
  refine g_land (pc' := 11) dX1_spareOf_10 rfl ?_
  refine g_lstore (pc' := 13) (L' := [(4, vL ((l 60 p0) &&& r2)), (0, vR (some 51)), (1, vI p0), (2, vI p1), (3, vI p2)]) dX1_spareOf_11 rfl (Nat.le_of_ble_eq_true rfl) rfl ?_
  refine g_iload_n (pc' := 14) 4 dX1_spareOf_13 rfl rfl ?_
  refine g_iconst (pc' := 15) dX1_spareOf_14 rfl ?_
  obtain ⟨hob4, h⟩ := h
  have hJ : gLg w d X_X1_spareOf P i2 l2 32 [(4, vL ((l 60 p0) &&& r2)), (0, vR (some 51)), (1, vI p0), (2, vI p1), (3, vI p2)] [vL (if (p2 = (-1)) then (l 60 p0) &&& r2 else ((l 60 p0) &&& r2) - (lshl 1 (8 * p2)))] := by
    exact g_retL rfl dX1_spareOf_32 h
  refine g_icmp_ne (tgt := 23) (pc' := 18) (hob4) (rg_lit rfl) Iff.rfl dX1_spareOf_15 rfl rfl (fun c5 => ?_) (fun c5 => ?_)
  · refine g_lload (pc' := 25) 0 dX1_spareOf_23 rfl rfl ?_
    refine g_lconst (pc' := 26) (v := 1) dX1_spareOf_25 rfl rfl ?_
    refine g_bipush (pc' := 28) dX1_spareOf_26 rfl rfl ?_
    refine g_iload_n (pc' := 29) 4 dX1_spareOf_28 rfl rfl ?_
    refine g_imul (pc' := 30) dX1_spareOf_29 rfl ?_
    refine g_lshl (pc' := 31) dX1_spareOf_30 rfl ?_
    refine g_lsub (pc' := 32) dX1_spareOf_31 rfl ?_
    rw [if_neg c5 (α := Int64) (t := (l 60 p0) &&& r2) (e := ((l 60 p0) &&& r2) - (lshl 1 (8 * p2)))] at hJ
    exact hJ
  · refine g_lload (pc' := 20) 0 dX1_spareOf_18 rfl rfl ?_
    refine g_goto (tgt := 32) dX1_spareOf_20 rfl ?_
    rw [if_pos c5 (α := Int64) (t := (l 60 p0) &&& r2) (e := ((l 60 p0) &&& r2) - (lshl 1 (8 * p2)))] at hJ
    exact hJ
theorem e_X1_spareOf {w : Wd} {d : Nat} {P : Int64 → IM → LM → Prop} {i : IM} {l : LM} {p0 : Int} {p1 : Int} {p2 : Int}  (h : gLg w d X_X1_spareOf P i l 0 [(0, vR (some 51)), (1, vI p0), (2, vI p1), (3, vI p2)] []) : cL w (d + 1) X_X1_spareOf [vR (some 51), vI p0, vI p1, vI p2] i l P := CL_of (by decide +kernel) (Nat.le_of_ble_eq_true rfl) h
