theorem dX12_testOf_0 : decode cX12_testOf 0 = .ok (.aload_n 0, 1) := by decide +kernel
theorem dX12_testOf_1 : decode cX12_testOf 1 = .ok (.iload_n 1, 1) := by decide +kernel
theorem dX12_testOf_2 : decode cX12_testOf 2 = .ok (.invokevirtual 284, 3) := by decide +kernel
theorem dX12_testOf_5 : decode cX12_testOf 5 = .ok (.istore_n 2, 1) := by decide +kernel
theorem dX12_testOf_6 : decode cX12_testOf 6 = .ok (.aload_n 0, 1) := by decide +kernel
theorem dX12_testOf_7 : decode cX12_testOf 7 = .ok (.bipush 6, 2) := by decide +kernel
theorem dX12_testOf_9 : decode cX12_testOf 9 = .ok (.invokevirtual 278, 3) := by decide +kernel
theorem dX12_testOf_12 : decode cX12_testOf 12 = .ok (.ifCond .eq 38, 3) := by decide +kernel
theorem dX12_testOf_15 : decode cX12_testOf 15 = .ok (.aload_n 0, 1) := by decide +kernel
theorem dX12_testOf_16 : decode cX12_testOf 16 = .ok (.iload_n 1, 1) := by decide +kernel
theorem dX12_testOf_17 : decode cX12_testOf 17 = .ok (.ifCond .eq 11, 3) := by decide +kernel
theorem dX12_testOf_20 : decode cX12_testOf 20 = .ok (.iload_n 2, 1) := by decide +kernel
theorem dX12_testOf_21 : decode cX12_testOf 21 = .ok (.ifCond .ne 7, 3) := by decide +kernel
theorem dX12_testOf_24 : decode cX12_testOf 24 = .ok (.iconst 1, 1) := by decide +kernel
theorem dX12_testOf_25 : decode cX12_testOf 25 = .ok (.goto 4, 3) := by decide +kernel
theorem dX12_testOf_28 : decode cX12_testOf 28 = .ok (.iconst 0, 1) := by decide +kernel
theorem dX12_testOf_29 : decode cX12_testOf 29 = .ok (.invokevirtual 284, 3) := by decide +kernel
theorem dX12_testOf_32 : decode cX12_testOf 32 = .ok (.istore_n 3, 1) := by decide +kernel
theorem dX12_testOf_33 : decode cX12_testOf 33 = .ok (.iload_n 2, 1) := by decide +kernel
theorem dX12_testOf_34 : decode cX12_testOf 34 = .ok (.ifCond .ne 7, 3) := by decide +kernel
theorem dX12_testOf_37 : decode cX12_testOf 37 = .ok (.iload_n 3, 1) := by decide +kernel
theorem dX12_testOf_38 : decode cX12_testOf 38 = .ok (.ifCond .eq 7, 3) := by decide +kernel
theorem dX12_testOf_41 : decode cX12_testOf 41 = .ok (.iconst 1, 1) := by decide +kernel
theorem dX12_testOf_42 : decode cX12_testOf 42 = .ok (.goto 4, 3) := by decide +kernel
theorem dX12_testOf_45 : decode cX12_testOf 45 = .ok (.iconst 0, 1) := by decide +kernel
theorem dX12_testOf_46 : decode cX12_testOf 46 = .ok (.istore_n 2, 1) := by decide +kernel
theorem dX12_testOf_47 : decode cX12_testOf 47 = .ok (.goto (-41), 3) := by decide +kernel
theorem dX12_testOf_50 : decode cX12_testOf 50 = .ok (.iload_n 2, 1) := by decide +kernel
theorem dX12_testOf_51 : decode cX12_testOf 51 = .ok (.ireturn, 1) := by decide +kernel
set_option maxRecDepth 20000 in
theorem s_X12_testOf {w : Wd} {d : Nat} {P : Int → IM → LM → Prop} {i : IM} {l : LM} (p0 : Int)  (h : cI w d X_X12_bothOf [vR (some 99), vI p0] i l (fun r1 i1 l1 => gI w d X_X12_testOf P i1 l1 6 [(0, vR (some 99)), (1, vI p0), (2, vI r1)] [])) : gI w d X_X12_testOf P i l 0 [(0, vR (some 99)), (1, vI p0)] [] := by
  refine g_aload_n (pc' := 1) 0 dX12_testOf_0 rfl rfl ?_
  refine g_iload_n (pc' := 2) 1 dX12_testOf_1 rfl rfl ?_
  refine g_cVI (pc' := 5) (vs := [vI p0]) (st := []) (c := 12) h mv_X12_bothOf lk_X12_284 rfl rfl rfl rfl (Nat.le_of_ble_eq_true rfl) (Nat.le_of_ble_eq_true rfl) rfl dX12_testOf_2 rfl z2 (fun r1 i1 l1 rg1 h => ?_)
  refine g_istore_n (pc' := 6) (L' := [(2, vI r1), (0, vR (some 99)), (1, vI p0)]) dX12_testOf_5 rfl (Nat.le_of_ble_eq_true rfl) rfl ?_
  refine g_sub (L' := [(0, vR (some 99)), (1, vI p0), (2, vI r1)]) [1, 2, 0] rfl ?_
  exact h
theorem e_X12_testOf {w : Wd} {d : Nat} {P : Int → IM → LM → Prop} {i : IM} {l : LM} {p0 : Int}  (h : gI w d X_X12_testOf P i l 0 [(0, vR (some 99)), (1, vI p0)] []) : cI w (d + 1) X_X12_testOf [vR (some 99), vI p0] i l P := CI_of (by decide +kernel) (Nat.le_of_ble_eq_true rfl) h
set_option maxRecDepth 20000 in
theorem s_X12_testOf_6 {w : Wd} {d : Nat} {P : Int → IM → LM → Prop} {i : IM} {l : LM} (x1 : Int) (x2 : Int)  (h : cI w d X_X12_passes0 [vR (some 99), vI 6] i l (fun r2 i2 l2 => ((¬ (r2 = 0) → rg x1) ∧ ((r2 = 0) → ((x2 = 0 ∨ x2 = 1) ∧ P x2 i2 l2)) ∧ ((¬ (r2 = 0) ∧ (x1 = 0)) → cI w d X_X12_bothOf [vR (some 99), vI 0] i2 l2 (fun r23 i23 l23 => ((rg x2) ∧ gI w d X_X12_testOf P i23 l23 6 [(0, vR (some 99)), (1, vI x1), (2, vI (bI (¬ (x2 = 0) ∨ (¬ (r23 = 0)))))] []))) ∧ ((¬ (r2 = 0) ∧ (¬ (x1 = 0))) → ((rg x2) ∧ cI w d X_X12_bothOf [vR (some 99), vI (bI (x2 = 0))] i2 l2 (fun r31 i31 l31 => ((rg x2) ∧ gI w d X_X12_testOf P i31 l31 6 [(0, vR (some 99)), (1, vI x1), (2, vI (bI (¬ (x2 = 0) ∨ (¬ (r31 = 0)))))] []))))))) : gI w d X_X12_testOf P i l 6 [(0, vR (some 99)), (1, vI x1), (2, vI x2)] [] := by
  refine g_aload_n (pc' := 7) 0 dX12_testOf_6 rfl rfl ?_
  refine g_bipush (pc' := 9) dX12_testOf_7 rfl rfl ?_
  refine g_cVI (pc' := 12) (vs := [vI 6]) (st := []) (c := 12) h mv_X12_passes0 lk_X12_278 rfl rfl rfl rfl (Nat.le_of_ble_eq_true rfl) (Nat.le_of_ble_eq_true rfl) rfl dX12_testOf_9 rfl z2 (fun r2 i2 l2 rg2 h => ?_)
  obtain ⟨hob20, hk36, hk37, hk38⟩ := h
  have hk36g : (r2 = 0) → gI w d X_X12_testOf P i2 l2 50 [(0, vR (some 99)), (1, vI x1), (2, vI x2)] [] := by
    intro hp
    have h := hk36 hp
    obtain ⟨ob22, h⟩ := h
    refine g_iload_n (pc' := 51) 2 dX12_testOf_50 rfl rfl ?_
    exact g_retZ rfl ob22 dX12_testOf_51 h
  have hk37g : (¬ (r2 = 0) ∧ (x1 = 0)) → gI w d X_X12_testOf P i2 l2 29 [(0, vR (some 99)), (1, vI x1), (2, vI x2)] [vI 0, vR (some 99)] := by
    intro hp
    have h := hk37 hp
    refine g_cVI (pc' := 32) (vs := [vI 0]) (st := []) (c := 12) h mv_X12_bothOf lk_X12_284 rfl rfl rfl rfl (Nat.le_of_ble_eq_true rfl) (Nat.le_of_ble_eq_true rfl) rfl dX12_testOf_29 rfl z2 (fun r23 i23 l23 rg23 h => ?_)
    refine g_istore_n (pc' := 33) (L' := [(3, vI r23), (0, vR (some 99)), (1, vI x1), (2, vI x2)]) dX12_testOf_32 rfl (Nat.le_of_ble_eq_true rfl) rfl ?_
    refine g_iload_n (pc' := 34) 3 dX12_testOf_33 rfl rfl ?_
    obtain ⟨hob25, h⟩ := h
    have hJ : gI w d X_X12_testOf P i23 l23 46 [(3, vI r23), (0, vR (some 99)), (1, vI x1), (2, vI x2)] [vI (bI (¬ (x2 = 0) ∨ (¬ (r23 = 0))))] := by
      refine g_istore_n (pc' := 47) (L' := [(2, vI (bI (¬ (x2 = 0) ∨ (¬ (r23 = 0))))), (3, vI r23), (0, vR (some 99)), (1, vI x1)]) dX12_testOf_46 rfl (Nat.le_of_ble_eq_true rfl) rfl ?_
      refine g_goto (tgt := 6) dX12_testOf_47 rfl ?_
      refine g_sub (L' := [(0, vR (some 99)), (1, vI x1), (2, vI (bI (¬ (x2 = 0) ∨ (¬ (r23 = 0)))))]) [2, 3, 0] rfl ?_
      exact h
    refine g_if_ne (tgt := 41) (pc' := 37) (hob25) Iff.rfl dX12_testOf_34 rfl rfl (fun c26 => ?_) (fun c26 => ?_)
    · refine g_iconst (pc' := 42) dX12_testOf_41 rfl ?_
      refine g_goto (tgt := 46) dX12_testOf_42 rfl ?_
      rw [bI_t (p := (¬ (x2 = 0) ∨ (¬ (r23 = 0)))) (Or.inl c26)] at hJ
      exact hJ
    · refine g_iload_n (pc' := 38) 0 dX12_testOf_37 rfl rfl ?_
      refine g_if_eq (tgt := 45) (pc' := 41) rg23 Iff.rfl dX12_testOf_38 rfl rfl (fun c27 => ?_) (fun c27 => ?_)
      · refine g_iconst (pc' := 46) dX12_testOf_45 rfl ?_
        rw [bI_f (p := (¬ (x2 = 0) ∨ (¬ (r23 = 0)))) (fun q => q.elim (fun w => w c26) (fun q => q c27))] at hJ
        exact hJ
      · refine g_iconst (pc' := 42) dX12_testOf_41 rfl ?_
        refine g_goto (tgt := 46) dX12_testOf_42 rfl ?_
        rw [bI_t (p := (¬ (x2 = 0) ∨ (¬ (r23 = 0)))) (Or.inr c27)] at hJ
        exact hJ
  have hk38g : (¬ (r2 = 0) ∧ (¬ (x1 = 0))) → gI w d X_X12_testOf P i2 l2 20 [(0, vR (some 99)), (1, vI x1), (2, vI x2)] [vR (some 99)] := by
    intro hp
    have h := hk38 hp
    refine g_iload_n (pc' := 21) 2 dX12_testOf_20 rfl rfl ?_
    obtain ⟨hob29, h⟩ := h
    have hJ : gI w d X_X12_testOf P i2 l2 29 [(0, vR (some 99)), (1, vI x1), (2, vI x2)] [vI (bI (x2 = 0)), vR (some 99)] := by
      refine g_cVI (pc' := 32) (vs := [vI (bI (x2 = 0))]) (st := []) (c := 12) h mv_X12_bothOf lk_X12_284 rfl rfl rfl rfl (Nat.le_of_ble_eq_true rfl) (Nat.le_of_ble_eq_true rfl) rfl dX12_testOf_29 rfl z2 (fun r31 i31 l31 rg31 h => ?_)
      refine g_istore_n (pc' := 33) (L' := [(3, vI r31), (0, vR (some 99)), (1, vI x1), (2, vI x2)]) dX12_testOf_32 rfl (Nat.le_of_ble_eq_true rfl) rfl ?_
      refine g_iload_n (pc' := 34) 3 dX12_testOf_33 rfl rfl ?_
      obtain ⟨hob33, h⟩ := h
      have hJ : gI w d X_X12_testOf P i31 l31 46 [(3, vI r31), (0, vR (some 99)), (1, vI x1), (2, vI x2)] [vI (bI (¬ (x2 = 0) ∨ (¬ (r31 = 0))))] := by
        refine g_istore_n (pc' := 47) (L' := [(2, vI (bI (¬ (x2 = 0) ∨ (¬ (r31 = 0))))), (3, vI r31), (0, vR (some 99)), (1, vI x1)]) dX12_testOf_46 rfl (Nat.le_of_ble_eq_true rfl) rfl ?_
        refine g_goto (tgt := 6) dX12_testOf_47 rfl ?_
        refine g_sub (L' := [(0, vR (some 99)), (1, vI x1), (2, vI (bI (¬ (x2 = 0) ∨ (¬ (r31 = 0)))))]) [2, 3, 0] rfl ?_
        exact h
      refine g_if_ne (tgt := 41) (pc' := 37) (hob33) Iff.rfl dX12_testOf_34 rfl rfl (fun c34 => ?_) (fun c34 => ?_)
      · refine g_iconst (pc' := 42) dX12_testOf_41 rfl ?_
        refine g_goto (tgt := 46) dX12_testOf_42 rfl ?_
        rw [bI_t (p := (¬ (x2 = 0) ∨ (¬ (r31 = 0)))) (Or.inl c34)] at hJ
        exact hJ
      · refine g_iload_n (pc' := 38) 0 dX12_testOf_37 rfl rfl ?_
        refine g_if_eq (tgt := 45) (pc' := 41) rg31 Iff.rfl dX12_testOf_38 rfl rfl (fun c35 => ?_) (fun c35 => ?_)
        · refine g_iconst (pc' := 46) dX12_testOf_45 rfl ?_
          rw [bI_f (p := (¬ (x2 = 0) ∨ (¬ (r31 = 0)))) (fun q => q.elim (fun w => w c34) (fun q => q c35))] at hJ
          exact hJ
        · refine g_iconst (pc' := 42) dX12_testOf_41 rfl ?_
          refine g_goto (tgt := 46) dX12_testOf_42 rfl ?_
          rw [bI_t (p := (¬ (x2 = 0) ∨ (¬ (r31 = 0)))) (Or.inr c35)] at hJ
          exact hJ
    refine g_if_ne (tgt := 28) (pc' := 24) (hob29) Iff.rfl dX12_testOf_21 rfl rfl (fun c30 => ?_) (fun c30 => ?_)
    · refine g_iconst (pc' := 29) dX12_testOf_28 rfl ?_
      rw [bI_f (p := (x2 = 0)) c30] at hJ
      exact hJ
    · refine g_iconst (pc' := 25) dX12_testOf_24 rfl ?_
      refine g_goto (tgt := 29) dX12_testOf_25 rfl ?_
      rw [bI_t (p := (x2 = 0)) c30] at hJ
      exact hJ
  refine g_if_eq (tgt := 50) (pc' := 15) rg2 Iff.rfl dX12_testOf_12 rfl rfl (fun c19 => ?_) (fun c19 => ?_)
  · exact hk36g c19
  · refine g_aload_n (pc' := 16) 0 dX12_testOf_15 rfl rfl ?_
    refine g_iload_n (pc' := 17) 1 dX12_testOf_16 rfl rfl ?_
    refine g_if_eq (tgt := 28) (pc' := 20) (hob20 c19) Iff.rfl dX12_testOf_17 rfl rfl (fun c21 => ?_) (fun c21 => ?_)
    · refine g_iconst (pc' := 29) dX12_testOf_28 rfl ?_
      exact hk37g ⟨c19, c21⟩
    · exact hk38g ⟨c19, c21⟩

theorem dX12_bothOf_0 : decode cX12_bothOf 0 = .ok (.aload_n 0, 1) := by decide +kernel
theorem dX12_bothOf_1 : decode cX12_bothOf 1 = .ok (.iload_n 1, 1) := by decide +kernel
theorem dX12_bothOf_2 : decode cX12_bothOf 2 = .ok (.invokevirtual 288, 3) := by decide +kernel
theorem dX12_bothOf_5 : decode cX12_bothOf 5 = .ok (.istore_n 2, 1) := by decide +kernel
theorem dX12_bothOf_6 : decode cX12_bothOf 6 = .ok (.aload_n 0, 1) := by decide +kernel
theorem dX12_bothOf_7 : decode cX12_bothOf 7 = .ok (.bipush 7, 2) := by decide +kernel
theorem dX12_bothOf_9 : decode cX12_bothOf 9 = .ok (.invokevirtual 278, 3) := by decide +kernel
theorem dX12_bothOf_12 : decode cX12_bothOf 12 = .ok (.ifCond .eq 38, 3) := by decide +kernel
theorem dX12_bothOf_15 : decode cX12_bothOf 15 = .ok (.aload_n 0, 1) := by decide +kernel
theorem dX12_bothOf_16 : decode cX12_bothOf 16 = .ok (.iload_n 1, 1) := by decide +kernel
theorem dX12_bothOf_17 : decode cX12_bothOf 17 = .ok (.ifCond .eq 11, 3) := by decide +kernel
theorem dX12_bothOf_20 : decode cX12_bothOf 20 = .ok (.iload_n 2, 1) := by decide +kernel
theorem dX12_bothOf_21 : decode cX12_bothOf 21 = .ok (.ifCond .eq 7, 3) := by decide +kernel
theorem dX12_bothOf_24 : decode cX12_bothOf 24 = .ok (.iconst 1, 1) := by decide +kernel
theorem dX12_bothOf_25 : decode cX12_bothOf 25 = .ok (.goto 4, 3) := by decide +kernel
theorem dX12_bothOf_28 : decode cX12_bothOf 28 = .ok (.iconst 0, 1) := by decide +kernel
theorem dX12_bothOf_29 : decode cX12_bothOf 29 = .ok (.invokevirtual 288, 3) := by decide +kernel
theorem dX12_bothOf_32 : decode cX12_bothOf 32 = .ok (.istore_n 3, 1) := by decide +kernel
theorem dX12_bothOf_33 : decode cX12_bothOf 33 = .ok (.iload_n 2, 1) := by decide +kernel
theorem dX12_bothOf_34 : decode cX12_bothOf 34 = .ok (.ifCond .eq 11, 3) := by decide +kernel
theorem dX12_bothOf_37 : decode cX12_bothOf 37 = .ok (.iload_n 3, 1) := by decide +kernel
theorem dX12_bothOf_38 : decode cX12_bothOf 38 = .ok (.ifCond .eq 7, 3) := by decide +kernel
theorem dX12_bothOf_41 : decode cX12_bothOf 41 = .ok (.iconst 1, 1) := by decide +kernel
theorem dX12_bothOf_42 : decode cX12_bothOf 42 = .ok (.goto 4, 3) := by decide +kernel
theorem dX12_bothOf_45 : decode cX12_bothOf 45 = .ok (.iconst 0, 1) := by decide +kernel
theorem dX12_bothOf_46 : decode cX12_bothOf 46 = .ok (.istore_n 2, 1) := by decide +kernel
theorem dX12_bothOf_47 : decode cX12_bothOf 47 = .ok (.goto (-41), 3) := by decide +kernel
theorem dX12_bothOf_50 : decode cX12_bothOf 50 = .ok (.iload_n 2, 1) := by decide +kernel
theorem dX12_bothOf_51 : decode cX12_bothOf 51 = .ok (.ireturn, 1) := by decide +kernel
set_option maxRecDepth 20000 in
theorem s_X12_bothOf {w : Wd} {d : Nat} {P : Int → IM → LM → Prop} {i : IM} {l : LM} (p0 : Int)  (h : cI w d X_X12_plainOf [vR (some 99), vI p0] i l (fun r1 i1 l1 => gI w d X_X12_bothOf P i1 l1 6 [(0, vR (some 99)), (1, vI p0), (2, vI r1)] [])) : gI w d X_X12_bothOf P i l 0 [(0, vR (some 99)), (1, vI p0)] [] := by
  refine g_aload_n (pc' := 1) 0 dX12_bothOf_0 rfl rfl ?_
  refine g_iload_n (pc' := 2) 1 dX12_bothOf_1 rfl rfl ?_
  refine g_cVI (pc' := 5) (vs := [vI p0]) (st := []) (c := 12) h mv_X12_plainOf lk_X12_288 rfl rfl rfl rfl (Nat.le_of_ble_eq_true rfl) (Nat.le_of_ble_eq_true rfl) rfl dX12_bothOf_2 rfl z2 (fun r1 i1 l1 rg1 h => ?_)
  refine g_istore_n (pc' := 6) (L' := [(2, vI r1), (0, vR (some 99)), (1, vI p0)]) dX12_bothOf_5 rfl (Nat.le_of_ble_eq_true rfl) rfl ?_
  refine g_sub (L' := [(0, vR (some 99)), (1, vI p0), (2, vI r1)]) [1, 2, 0] rfl ?_
  exact h
theorem e_X12_bothOf {w : Wd} {d : Nat} {P : Int → IM → LM → Prop} {i : IM} {l : LM} {p0 : Int}  (h : gI w d X_X12_bothOf P i l 0 [(0, vR (some 99)), (1, vI p0)] []) : cI w (d + 1) X_X12_bothOf [vR (some 99), vI p0] i l P := CI_of (by decide +kernel) (Nat.le_of_ble_eq_true rfl) h
set_option maxRecDepth 20000 in
theorem s_X12_bothOf_6 {w : Wd} {d : Nat} {P : Int → IM → LM → Prop} {i : IM} {l : LM} (x1 : Int) (x2 : Int)  (h : cI w d X_X12_passes0 [vR (some 99), vI 7] i l (fun r2 i2 l2 => ((¬ (r2 = 0) → rg x1) ∧ ((r2 = 0) → ((x2 = 0 ∨ x2 = 1) ∧ P x2 i2 l2)) ∧ ((¬ (r2 = 0) ∧ (x1 = 0)) → cI w d X_X12_plainOf [vR (some 99), vI 0] i2 l2 (fun r23 i23 l23 => ((rg x2) ∧ gI w d X_X12_bothOf P i23 l23 6 [(0, vR (some 99)), (1, vI x1), (2, vI (bI (¬ (x2 = 0) ∧ (¬ (r23 = 0)))))] []))) ∧ ((¬ (r2 = 0) ∧ (¬ (x1 = 0))) → ((rg x2) ∧ cI w d X_X12_plainOf [vR (some 99), vI (bI (¬ (x2 = 0)))] i2 l2 (fun r31 i31 l31 => ((rg x2) ∧ gI w d X_X12_bothOf P i31 l31 6 [(0, vR (some 99)), (1, vI x1), (2, vI (bI (¬ (x2 = 0) ∧ (¬ (r31 = 0)))))] []))))))) : gI w d X_X12_bothOf P i l 6 [(0, vR (some 99)), (1, vI x1), (2, vI x2)] [] := by
  refine g_aload_n (pc' := 7) 0 dX12_bothOf_6 rfl rfl ?_
  refine g_bipush (pc' := 9) dX12_bothOf_7 rfl rfl ?_
  refine g_cVI (pc' := 12) (vs := [vI 7]) (st := []) (c := 12) h mv_X12_passes0 lk_X12_278 rfl rfl rfl rfl (Nat.le_of_ble_eq_true rfl) (Nat.le_of_ble_eq_true rfl) rfl dX12_bothOf_9 rfl z2 (fun r2 i2 l2 rg2 h => ?_)
  obtain ⟨hob20, hk36, hk37, hk38⟩ := h
  have hk36g : (r2 = 0) → gI w d X_X12_bothOf P i2 l2 50 [(0, vR (some 99)), (1, vI x1), (2, vI x2)] [] := by
    intro hp
    have h := hk36 hp
    obtain ⟨ob22, h⟩ := h
    refine g_iload_n (pc' := 51) 2 dX12_bothOf_50 rfl rfl ?_
    exact g_retZ rfl ob22 dX12_bothOf_51 h
  have hk37g : (¬ (r2 = 0) ∧ (x1 = 0)) → gI w d X_X12_bothOf P i2 l2 29 [(0, vR (some 99)), (1, vI x1), (2, vI x2)] [vI 0, vR (some 99)] := by
    intro hp
    have h := hk37 hp
    refine g_cVI (pc' := 32) (vs := [vI 0]) (st := []) (c := 12) h mv_X12_plainOf lk_X12_288 rfl rfl rfl rfl (Nat.le_of_ble_eq_true rfl) (Nat.le_of_ble_eq_true rfl) rfl dX12_bothOf_29 rfl z2 (fun r23 i23 l23 rg23 h => ?_)
    refine g_istore_n (pc' := 33) (L' := [(3, vI r23), (0, vR (some 99)), (1, vI x1), (2, vI x2)]) dX12_bothOf_32 rfl (Nat.le_of_ble_eq_true rfl) rfl ?_
    refine g_iload_n (pc' := 34) 3 dX12_bothOf_33 rfl rfl ?_
    obtain ⟨hob25, h⟩ := h
    have hJ : gI w d X_X12_bothOf P i23 l23 46 [(3, vI r23), (0, vR (some 99)), (1, vI x1), (2, vI x2)] [vI (bI (¬ (x2 = 0) ∧ (¬ (r23 = 0))))] := by
      refine g_istore_n (pc' := 47) (L' := [(2, vI (bI (¬ (x2 = 0) ∧ (¬ (r23 = 0))))), (3, vI r23), (0, vR (some 99)), (1, vI x1)]) dX12_bothOf_46 rfl (Nat.le_of_ble_eq_true rfl) rfl ?_
      refine g_goto (tgt := 6) dX12_bothOf_47 rfl ?_
      refine g_sub (L' := [(0, vR (some 99)), (1, vI x1), (2, vI (bI (¬ (x2 = 0) ∧ (¬ (r23 = 0)))))]) [2, 3, 0] rfl ?_
      exact h
    refine g_if_eq (tgt := 45) (pc' := 37) (hob25) Iff.rfl dX12_bothOf_34 rfl rfl (fun c26 => ?_) (fun c26 => ?_)
    · refine g_iconst (pc' := 46) dX12_bothOf_45 rfl ?_
      rw [bI_f (p := (¬ (x2 = 0) ∧ (¬ (r23 = 0)))) (fun q => q.1 c26)] at hJ
      exact hJ
    · refine g_iload_n (pc' := 38) 0 dX12_bothOf_37 rfl rfl ?_
      refine g_if_eq (tgt := 45) (pc' := 41) rg23 Iff.rfl dX12_bothOf_38 rfl rfl (fun c27 => ?_) (fun c27 => ?_)
      · refine g_iconst (pc' := 46) dX12_bothOf_45 rfl ?_
        rw [bI_f (p := (¬ (x2 = 0) ∧ (¬ (r23 = 0)))) (fun q => (fun q => q c27) q.2)] at hJ
        exact hJ
      · refine g_iconst (pc' := 42) dX12_bothOf_41 rfl ?_
        refine g_goto (tgt := 46) dX12_bothOf_42 rfl ?_
        rw [bI_t (p := (¬ (x2 = 0) ∧ (¬ (r23 = 0)))) ⟨c26, c27⟩] at hJ
        exact hJ
  have hk38g : (¬ (r2 = 0) ∧ (¬ (x1 = 0))) → gI w d X_X12_bothOf P i2 l2 20 [(0, vR (some 99)), (1, vI x1), (2, vI x2)] [vR (some 99)] := by
    intro hp
    have h := hk38 hp
    refine g_iload_n (pc' := 21) 2 dX12_bothOf_20 rfl rfl ?_
    obtain ⟨hob29, h⟩ := h
    have hJ : gI w d X_X12_bothOf P i2 l2 29 [(0, vR (some 99)), (1, vI x1), (2, vI x2)] [vI (bI (¬ (x2 = 0))), vR (some 99)] := by
      refine g_cVI (pc' := 32) (vs := [vI (bI (¬ (x2 = 0)))]) (st := []) (c := 12) h mv_X12_plainOf lk_X12_288 rfl rfl rfl rfl (Nat.le_of_ble_eq_true rfl) (Nat.le_of_ble_eq_true rfl) rfl dX12_bothOf_29 rfl z2 (fun r31 i31 l31 rg31 h => ?_)
      refine g_istore_n (pc' := 33) (L' := [(3, vI r31), (0, vR (some 99)), (1, vI x1), (2, vI x2)]) dX12_bothOf_32 rfl (Nat.le_of_ble_eq_true rfl) rfl ?_
      refine g_iload_n (pc' := 34) 3 dX12_bothOf_33 rfl rfl ?_
      obtain ⟨hob33, h⟩ := h
      have hJ : gI w d X_X12_bothOf P i31 l31 46 [(3, vI r31), (0, vR (some 99)), (1, vI x1), (2, vI x2)] [vI (bI (¬ (x2 = 0) ∧ (¬ (r31 = 0))))] := by
        refine g_istore_n (pc' := 47) (L' := [(2, vI (bI (¬ (x2 = 0) ∧ (¬ (r31 = 0))))), (3, vI r31), (0, vR (some 99)), (1, vI x1)]) dX12_bothOf_46 rfl (Nat.le_of_ble_eq_true rfl) rfl ?_
        refine g_goto (tgt := 6) dX12_bothOf_47 rfl ?_
        refine g_sub (L' := [(0, vR (some 99)), (1, vI x1), (2, vI (bI (¬ (x2 = 0) ∧ (¬ (r31 = 0)))))]) [2, 3, 0] rfl ?_
        exact h
      refine g_if_eq (tgt := 45) (pc' := 37) (hob33) Iff.rfl dX12_bothOf_34 rfl rfl (fun c34 => ?_) (fun c34 => ?_)
      · refine g_iconst (pc' := 46) dX12_bothOf_45 rfl ?_
        rw [bI_f (p := (¬ (x2 = 0) ∧ (¬ (r31 = 0)))) (fun q => q.1 c34)] at hJ
        exact hJ
      · refine g_iload_n (pc' := 38) 0 dX12_bothOf_37 rfl rfl ?_
        refine g_if_eq (tgt := 45) (pc' := 41) rg31 Iff.rfl dX12_bothOf_38 rfl rfl (fun c35 => ?_) (fun c35 => ?_)
        · refine g_iconst (pc' := 46) dX12_bothOf_45 rfl ?_
          rw [bI_f (p := (¬ (x2 = 0) ∧ (¬ (r31 = 0)))) (fun q => (fun q => q c35) q.2)] at hJ
          exact hJ
        · refine g_iconst (pc' := 42) dX12_bothOf_41 rfl ?_
          refine g_goto (tgt := 46) dX12_bothOf_42 rfl ?_
          rw [bI_t (p := (¬ (x2 = 0) ∧ (¬ (r31 = 0)))) ⟨c34, c35⟩] at hJ
          exact hJ
    refine g_if_eq (tgt := 28) (pc' := 24) (hob29) Iff.rfl dX12_bothOf_21 rfl rfl (fun c30 => ?_) (fun c30 => ?_)
    · refine g_iconst (pc' := 29) dX12_bothOf_28 rfl ?_
      rw [bI_f (p := (¬ (x2 = 0))) (fun q => q c30)] at hJ
      exact hJ
    · refine g_iconst (pc' := 25) dX12_bothOf_24 rfl ?_
      refine g_goto (tgt := 29) dX12_bothOf_25 rfl ?_
      rw [bI_t (p := (¬ (x2 = 0))) c30] at hJ
      exact hJ
  refine g_if_eq (tgt := 50) (pc' := 15) rg2 Iff.rfl dX12_bothOf_12 rfl rfl (fun c19 => ?_) (fun c19 => ?_)
  · exact hk36g c19
  · refine g_aload_n (pc' := 16) 0 dX12_bothOf_15 rfl rfl ?_
    refine g_iload_n (pc' := 17) 1 dX12_bothOf_16 rfl rfl ?_
    refine g_if_eq (tgt := 28) (pc' := 20) (hob20 c19) Iff.rfl dX12_bothOf_17 rfl rfl (fun c21 => ?_) (fun c21 => ?_)
    · refine g_iconst (pc' := 29) dX12_bothOf_28 rfl ?_
      exact hk37g ⟨c19, c21⟩
    · exact hk38g ⟨c19, c21⟩

theorem dX12_plainOf_0 : decode cX12_plainOf 0 = .ok (.iconst 0, 1) := by decide +kernel
theorem dX12_plainOf_1 : decode cX12_plainOf 1 = .ok (.istore_n 2, 1) := by decide +kernel
theorem dX12_plainOf_2 : decode cX12_plainOf 2 = .ok (.aload_n 0, 1) := by decide +kernel
theorem dX12_plainOf_3 : decode cX12_plainOf 3 = .ok (.bipush 8, 2) := by decide +kernel
theorem dX12_plainOf_5 : decode cX12_plainOf 5 = .ok (.invokevirtual 278, 3) := by decide +kernel
theorem dX12_plainOf_8 : decode cX12_plainOf 8 = .ok (.ifCond .eq 16, 3) := by decide +kernel
theorem dX12_plainOf_11 : decode cX12_plainOf 11 = .ok (.iload_n 2, 1) := by decide +kernel
theorem dX12_plainOf_12 : decode cX12_plainOf 12 = .ok (.ifCond .ne 7, 3) := by decide +kernel
theorem dX12_plainOf_15 : decode cX12_plainOf 15 = .ok (.iconst 1, 1) := by decide +kernel
theorem dX12_plainOf_16 : decode cX12_plainOf 16 = .ok (.goto 4, 3) := by decide +kernel
theorem dX12_plainOf_19 : decode cX12_plainOf 19 = .ok (.iconst 0, 1) := by decide +kernel
theorem dX12_plainOf_20 : decode cX12_plainOf 20 = .ok (.istore_n 2, 1) := by decide +kernel
theorem dX12_plainOf_21 : decode cX12_plainOf 21 = .ok (.goto (-19), 3) := by decide +kernel
theorem dX12_plainOf_24 : decode cX12_plainOf 24 = .ok (.aload_n 0, 1) := by decide +kernel
theorem dX12_plainOf_25 : decode cX12_plainOf 25 = .ok (.iload_n 1, 1) := by decide +kernel
theorem dX12_plainOf_26 : decode cX12_plainOf 26 = .ok (.invokevirtual 291, 3) := by decide +kernel
theorem dX12_plainOf_29 : decode cX12_plainOf 29 = .ok (.iload_n 2, 1) := by decide +kernel
theorem dX12_plainOf_30 : decode cX12_plainOf 30 = .ok (.if_icmp .eq 7, 3) := by decide +kernel
theorem dX12_plainOf_33 : decode cX12_plainOf 33 = .ok (.iconst 1, 1) := by decide +kernel
theorem dX12_plainOf_34 : decode cX12_plainOf 34 = .ok (.goto 4, 3) := by decide +kernel
theorem dX12_plainOf_37 : decode cX12_plainOf 37 = .ok (.iconst 0, 1) := by decide +kernel
theorem dX12_plainOf_38 : decode cX12_plainOf 38 = .ok (.ireturn, 1) := by decide +kernel
set_option maxRecDepth 20000 in
theorem s_X12_plainOf {w : Wd} {d : Nat} {P : Int → IM → LM → Prop} {i : IM} {l : LM} (p0 : Int)  (h : gI w d X_X12_plainOf P i l 2 [(0, vR (some 99)), (1, vI p0), (2, vI 0)] []) : gI w d X_X12_plainOf P i l 0 [(0, vR (some 99)), (1, vI p0)] [] := by
  refine g_iconst (pc' := 1) dX12_plainOf_0 rfl ?_
  refine g_istore_n (pc' := 2) (L' := [(2, vI 0), (0, vR (some 99)), (1, vI p0)]) dX12_plainOf_1 rfl (Nat.le_of_ble_eq_true rfl) rfl ?_
  refine g_sub (L' := [(0, vR (some 99)), (1, vI p0), (2, vI 0)]) [1, 2, 0] rfl ?_
  exact h
theorem e_X12_plainOf {w : Wd} {d : Nat} {P : Int → IM → LM → Prop} {i : IM} {l : LM} {p0 : Int}  (h : gI w d X_X12_plainOf P i l 0 [(0, vR (some 99)), (1, vI p0)] []) : cI w (d + 1) X_X12_plainOf [vR (some 99), vI p0] i l P := CI_of (by decide +kernel) (Nat.le_of_ble_eq_true rfl) h
set_option maxRecDepth 20000 in
theorem s_X12_plainOf_2 {w : Wd} {d : Nat} {P : Int → IM → LM → Prop} {i : IM} {l : LM} (x1 : Int) (x2 : Int)  (h : cI w d X_X12_passes0 [vR (some 99), vI 8] i l (fun r1 i1 l1 => (((r1 = 0) → cI w d X_X12_positiveOf [vR (some 99), vI x1] i1 l1 (fun r16 i16 l16 => ((rg x2) ∧ P (bI (¬ (r16 = x2))) i16 l16))) ∧ ((¬ (r1 = 0)) → ((rg x2) ∧ gI w d X_X12_plainOf P i1 l1 2 [(0, vR (some 99)), (1, vI x1), (2, vI (bI (x2 = 0)))] []))))) : gI w d X_X12_plainOf P i l 2 [(0, vR (some 99)), (1, vI x1), (2, vI x2)] [] := by
  refine g_aload_n (pc' := 3) 0 dX12_plainOf_2 rfl rfl ?_
  refine g_bipush (pc' := 5) dX12_plainOf_3 rfl rfl ?_
  refine g_cVI (pc' := 8) (vs := [vI 8]) (st := []) (c := 12) h mv_X12_passes0 lk_X12_278 rfl rfl rfl rfl (Nat.le_of_ble_eq_true rfl) (Nat.le_of_ble_eq_true rfl) rfl dX12_plainOf_5 rfl z2 (fun r1 i1 l1 rg1 h => ?_)
  obtain ⟨hk23, hk24⟩ := h
  refine g_if_eq (tgt := 24) (pc' := 11) rg1 Iff.rfl dX12_plainOf_8 rfl rfl (fun c15 => ?_) (fun c15 => ?_)
  · have h := hk23 c15
    refine g_aload_n (pc' := 25) 0 dX12_plainOf_24 rfl rfl ?_
    refine g_iload_n (pc' := 26) 1 dX12_plainOf_25 rfl rfl ?_
    refine g_cVI (pc' := 29) (vs := [vI x1]) (st := []) (c := 12) h mv_X12_positiveOf lk_X12_291 rfl rfl rfl rfl (Nat.le_of_ble_eq_true rfl) (Nat.le_of_ble_eq_true rfl) rfl dX12_plainOf_26 rfl z2 (fun r16 i16 l16 rg16 h => ?_)
    refine g_iload_n (pc' := 30) 2 dX12_plainOf_29 rfl rfl ?_
    obtain ⟨hob18, h⟩ := h
    have hJ : gI w d X_X12_plainOf P i16 l16 38 [(0, vR (some 99)), (1, vI x1), (2, vI x2)] [vI (bI (¬ (r16 = x2)))] := by
      exact g_retZ rfl (bI_01 _) dX12_plainOf_38 h
    refine g_icmp_eq (tgt := 37) (pc' := 33) rg16 (hob18) Iff.rfl dX12_plainOf_30 rfl rfl (fun c19 => ?_) (fun c19 => ?_)
    · refine g_iconst (pc' := 38) dX12_plainOf_37 rfl ?_
      rw [bI_f (p := (¬ (r16 = x2))) (fun q => q c19)] at hJ
      exact hJ
    · refine g_iconst (pc' := 34) dX12_plainOf_33 rfl ?_
      refine g_goto (tgt := 38) dX12_plainOf_34 rfl ?_
      rw [bI_t (p := (¬ (r16 = x2))) c19] at hJ
      exact hJ
  · have h := hk24 c15
    refine g_iload_n (pc' := 12) 2 dX12_plainOf_11 rfl rfl ?_
    obtain ⟨hob21, h⟩ := h
    have hJ : gI w d X_X12_plainOf P i1 l1 20 [(0, vR (some 99)), (1, vI x1), (2, vI x2)] [vI (bI (x2 = 0))] := by
      refine g_istore_n (pc' := 21) (L' := [(2, vI (bI (x2 = 0))), (0, vR (some 99)), (1, vI x1)]) dX12_plainOf_20 rfl (Nat.le_of_ble_eq_true rfl) rfl ?_
      refine g_goto (tgt := 2) dX12_plainOf_21 rfl ?_
      refine g_sub (L' := [(0, vR (some 99)), (1, vI x1), (2, vI (bI (x2 = 0)))]) [1, 2, 0] rfl ?_
      exact h
    refine g_if_ne (tgt := 19) (pc' := 15) (hob21) Iff.rfl dX12_plainOf_12 rfl rfl (fun c22 => ?_) (fun c22 => ?_)
    · refine g_iconst (pc' := 20) dX12_plainOf_19 rfl ?_
      rw [bI_f (p := (x2 = 0)) c22] at hJ
      exact hJ
    · refine g_iconst (pc' := 16) dX12_plainOf_15 rfl ?_
      refine g_goto (tgt := 20) dX12_plainOf_16 rfl ?_
      rw [bI_t (p := (x2 = 0)) c22] at hJ
      exact hJ

theorem dX12_positiveOf_0 : decode cX12_positiveOf 0 = .ok (.aload_n 0, 1) := by decide +kernel
theorem dX12_positiveOf_1 : decode cX12_positiveOf 1 = .ok (.bipush 40, 2) := by decide +kernel
theorem dX12_positiveOf_3 : decode cX12_positiveOf 3 = .ok (.invokestatic 228, 3) := by decide +kernel
theorem dX12_positiveOf_6 : decode cX12_positiveOf 6 = .ok (.invokevirtual 278, 3) := by decide +kernel
theorem dX12_positiveOf_9 : decode cX12_positiveOf 9 = .ok (.ifCond .eq 21, 3) := by decide +kernel
theorem dX12_positiveOf_12 : decode cX12_positiveOf 12 = .ok (.aload_n 0, 1) := by decide +kernel
theorem dX12_positiveOf_13 : decode cX12_positiveOf 13 = .ok (.iload_n 1, 1) := by decide +kernel
theorem dX12_positiveOf_14 : decode cX12_positiveOf 14 = .ok (.invokevirtual 294, 3) := by decide +kernel
theorem dX12_positiveOf_17 : decode cX12_positiveOf 17 = .ok (.istore_n 2, 1) := by decide +kernel
theorem dX12_positiveOf_18 : decode cX12_positiveOf 18 = .ok (.aload_n 0, 1) := by decide +kernel
theorem dX12_positiveOf_19 : decode cX12_positiveOf 19 = .ok (.dup, 1) := by decide +kernel
theorem dX12_positiveOf_20 : decode cX12_positiveOf 20 = .ok (.getfield 253, 3) := by decide +kernel
theorem dX12_positiveOf_23 : decode cX12_positiveOf 23 = .ok (.iconst 1, 1) := by decide +kernel
theorem dX12_positiveOf_24 : decode cX12_positiveOf 24 = .ok (.iadd, 1) := by decide +kernel
theorem dX12_positiveOf_25 : decode cX12_positiveOf 25 = .ok (.putfield 253, 3) := by decide +kernel
theorem dX12_positiveOf_28 : decode cX12_positiveOf 28 = .ok (.iload_n 2, 1) := by decide +kernel
theorem dX12_positiveOf_29 : decode cX12_positiveOf 29 = .ok (.ireturn, 1) := by decide +kernel
theorem dX12_positiveOf_30 : decode cX12_positiveOf 30 = .ok (.aload_n 0, 1) := by decide +kernel
theorem dX12_positiveOf_31 : decode cX12_positiveOf 31 = .ok (.iload_n 1, 1) := by decide +kernel
theorem dX12_positiveOf_32 : decode cX12_positiveOf 32 = .ok (.invokevirtual 281, 3) := by decide +kernel
theorem dX12_positiveOf_35 : decode cX12_positiveOf 35 = .ok (.lstore_n 2, 1) := by decide +kernel
theorem dX12_positiveOf_36 : decode cX12_positiveOf 36 = .ok (.aload_n 0, 1) := by decide +kernel
theorem dX12_positiveOf_37 : decode cX12_positiveOf 37 = .ok (.aload_n 0, 1) := by decide +kernel
theorem dX12_positiveOf_38 : decode cX12_positiveOf 38 = .ok (.getfield 253, 3) := by decide +kernel
theorem dX12_positiveOf_41 : decode cX12_positiveOf 41 = .ok (.invokevirtual 256, 3) := by decide +kernel
theorem dX12_positiveOf_44 : decode cX12_positiveOf 44 = .ok (.istore 4, 2) := by decide +kernel
theorem dX12_positiveOf_46 : decode cX12_positiveOf 46 = .ok (.aload_n 0, 1) := by decide +kernel
theorem dX12_positiveOf_47 : decode cX12_positiveOf 47 = .ok (.dup, 1) := by decide +kernel
theorem dX12_positiveOf_48 : decode cX12_positiveOf 48 = .ok (.getfield 253, 3) := by decide +kernel
theorem dX12_positiveOf_51 : decode cX12_positiveOf 51 = .ok (.iconst 1, 1) := by decide +kernel
theorem dX12_positiveOf_52 : decode cX12_positiveOf 52 = .ok (.iadd, 1) := by decide +kernel
theorem dX12_positiveOf_53 : decode cX12_positiveOf 53 = .ok (.putfield 253, 3) := by decide +kernel
theorem dX12_positiveOf_56 : decode cX12_positiveOf 56 = .ok (.aload_n 0, 1) := by decide +kernel
theorem dX12_positiveOf_57 : decode cX12_positiveOf 57 = .ok (.iload_n 1, 1) := by decide +kernel
theorem dX12_positiveOf_58 : decode cX12_positiveOf 58 = .ok (.invokevirtual 281, 3) := by decide +kernel
theorem dX12_positiveOf_61 : decode cX12_positiveOf 61 = .ok (.lstore 5, 2) := by decide +kernel
theorem dX12_positiveOf_63 : decode cX12_positiveOf 63 = .ok (.iload_n 1, 1) := by decide +kernel
theorem dX12_positiveOf_64 : decode cX12_positiveOf 64 = .ok (.ifCond .eq 61, 3) := by decide +kernel
theorem dX12_positiveOf_67 : decode cX12_positiveOf 67 = .ok (.aload_n 0, 1) := by decide +kernel
theorem dX12_positiveOf_68 : decode cX12_positiveOf 68 = .ok (.getfield 263, 3) := by decide +kernel
theorem dX12_positiveOf_71 : decode cX12_positiveOf 71 = .ok (.ifCond .ne 54, 3) := by decide +kernel
theorem dX12_positiveOf_74 : decode cX12_positiveOf 74 = .ok (.iload 4, 2) := by decide +kernel
theorem dX12_positiveOf_76 : decode cX12_positiveOf 76 = .ok (.bipush 60, 2) := by decide +kernel
theorem dX12_positiveOf_78 : decode cX12_positiveOf 78 = .ok (.invokestatic 228, 3) := by decide +kernel
theorem dX12_positiveOf_81 : decode cX12_positiveOf 81 = .ok (.if_icmp .ne 13, 3) := by decide +kernel
theorem dX12_positiveOf_84 : decode cX12_positiveOf 84 = .ok (.lload_n 2, 1) := by decide +kernel
theorem dX12_positiveOf_85 : decode cX12_positiveOf 85 = .ok (.lload 5, 2) := by decide +kernel
theorem dX12_positiveOf_87 : decode cX12_positiveOf 87 = .ok (.lcmp, 1) := by decide +kernel
theorem dX12_positiveOf_88 : decode cX12_positiveOf 88 = .ok (.ifCond .ge 37, 3) := by decide +kernel
theorem dX12_positiveOf_91 : decode cX12_positiveOf 91 = .ok (.goto 30, 3) := by decide +kernel
theorem dX12_positiveOf_94 : decode cX12_positiveOf 94 = .ok (.iload 4, 2) := by decide +kernel
theorem dX12_positiveOf_96 : decode cX12_positiveOf 96 = .ok (.bipush 62, 2) := by decide +kernel
theorem dX12_positiveOf_98 : decode cX12_positiveOf 98 = .ok (.invokestatic 228, 3) := by decide +kernel
theorem dX12_positiveOf_101 : decode cX12_positiveOf 101 = .ok (.if_icmp .ne 13, 3) := by decide +kernel
theorem dX12_positiveOf_104 : decode cX12_positiveOf 104 = .ok (.lload_n 2, 1) := by decide +kernel
theorem dX12_positiveOf_105 : decode cX12_positiveOf 105 = .ok (.lload 5, 2) := by decide +kernel
theorem dX12_positiveOf_107 : decode cX12_positiveOf 107 = .ok (.lcmp, 1) := by decide +kernel
theorem dX12_positiveOf_108 : decode cX12_positiveOf 108 = .ok (.ifCond .le 17, 3) := by decide +kernel
theorem dX12_positiveOf_111 : decode cX12_positiveOf 111 = .ok (.goto 10, 3) := by decide +kernel
theorem dX12_positiveOf_114 : decode cX12_positiveOf 114 = .ok (.lload_n 2, 1) := by decide +kernel
theorem dX12_positiveOf_115 : decode cX12_positiveOf 115 = .ok (.lload 5, 2) := by decide +kernel
theorem dX12_positiveOf_117 : decode cX12_positiveOf 117 = .ok (.lcmp, 1) := by decide +kernel
theorem dX12_positiveOf_118 : decode cX12_positiveOf 118 = .ok (.ifCond .ne 7, 3) := by decide +kernel
theorem dX12_positiveOf_121 : decode cX12_positiveOf 121 = .ok (.iconst 1, 1) := by decide +kernel
theorem dX12_positiveOf_122 : decode cX12_positiveOf 122 = .ok (.goto 4, 3) := by decide +kernel
theorem dX12_positiveOf_125 : decode cX12_positiveOf 125 = .ok (.iconst 0, 1) := by decide +kernel
theorem dX12_positiveOf_126 : decode cX12_positiveOf 126 = .ok (.ireturn, 1) := by decide +kernel
set_option maxRecDepth 20000 in
theorem s_X12_positiveOf {w : Wd} {d : Nat} {P : Int → IM → LM → Prop} {i : IM} {l : LM} (p0 : Int)  (hd : 1 ≤ d) (h : cI w d X_X12_passes0 [vR (some 99), vI 140] i l (fun r2 i2 l2 => (((r2 = 0) → cL w d X_X12_sumOf [vR (some 99), vI p0] i2 l2 (fun r5 i5 l5 => ((i5 99 19 < i5 99 20 → 0 ≤ 320 + (i5 99 19) ∧ 320 + (i5 99 19) < 5120) ∧ (rg ((i5 99 19) + 1)) ∧ cL w d X_X12_sumOf [vR (some 99), vI p0] (u2 i5 99 19 ((i5 99 19) + 1)) l5 (fun r11 i11 l11 => ((rg p0) ∧ (((p0 = 0) ∨ (¬ (i11 99 21 = 0) ∨ (((if i5 99 19 < i5 99 20 then i5 101 (320 + (i5 99 19)) else 0) = 160) ∧ (r11 ≤ r5)))) → P 0 i11 l11) ∧ ((¬ (p0 = 0) ∧ ((i11 99 21 = 0) ∧ (¬ ((if i5 99 19 < i5 99 20 then i5 101 (320 + (i5 99 19)) else 0) = 160) ∧ (¬ ((if i5 99 19 < i5 99 20 then i5 101 (320 + (i5 99 19)) else 0) = 162))))) → P (bI (r5 = r11)) i11 l11) ∧ ((¬ (p0 = 0) ∧ ((i11 99 21 = 0) ∧ (¬ ((if i5 99 19 < i5 99 20 then i5 101 (320 + (i5 99 19)) else 0) = 160) ∧ ((if i5 99 19 < i5 99 20 then i5 101 (320 + (i5 99 19)) else 0) = 162)))) → (((r5 ≤ r11) → P 0 i11 l11) ∧ ((¬ (r5 ≤ r11)) → P 1 i11 l11))) ∧ ((¬ (p0 = 0) ∧ ((i11 99 21 = 0) ∧ (((if i5 99 19 < i5 99 20 then i5 101 (320 + (i5 99 19)) else 0) = 160) ∧ (¬ (r11 ≤ r5))))) → P 1 i11 l11)))))) ∧ ((¬ (r2 = 0)) → cI w d X_X12_testOf [vR (some 99), vI p0] i2 l2 (fun r43 i43 l43 => ((rg ((i43 99 19) + 1)) ∧ (r43 = 0 ∨ r43 = 1) ∧ P r43 (u2 i43 99 19 ((i43 99 19) + 1)) l43)))))) : gI w d X_X12_positiveOf P i l 0 [(0, vR (some 99)), (1, vI p0)] [] := by
  refine g_aload_n (pc' := 1) 0 dX12_positiveOf_0 rfl rfl ?_
  refine g_bipush (pc' := 3) dX12_positiveOf_1 rfl rfl ?_
  refine g_pSI (pc' := 6) (vs := [vI 40]) (st := [vR (some 99)]) (val := 140) (sp_X12_sign (le_hd hd rfl) (rg_lit rfl)) mk_X12_sign ms_X12_sign lk_X12_228 rfl (Nat.le_of_ble_eq_true rfl) (Nat.le_of_ble_eq_true rfl) rfl dX12_positiveOf_3 rfl z2 (fun rg1 => ?_)
  refine g_cVI (pc' := 9) (vs := [vI 140]) (st := []) (c := 12) h mv_X12_passes0 lk_X12_278 rfl rfl rfl rfl (Nat.le_of_ble_eq_true rfl) (Nat.le_of_ble_eq_true rfl) rfl dX12_positiveOf_6 rfl z2 (fun r2 i2 l2 rg2 h => ?_)
  obtain ⟨hk47, hk48⟩ := h
  refine g_if_eq (tgt := 30) (pc' := 12) rg2 Iff.rfl dX12_positiveOf_9 rfl rfl (fun c4 => ?_) (fun c4 => ?_)
  · have h := hk47 c4
    refine g_aload_n (pc' := 31) 0 dX12_positiveOf_30 rfl rfl ?_
    refine g_iload_n (pc' := 32) 1 dX12_positiveOf_31 rfl rfl ?_
    refine g_cVL (pc' := 35) (vs := [vI p0]) (st := []) (c := 12) h mv_X12_sumOf lk_X12_281 rfl rfl rfl rfl (Nat.le_of_ble_eq_true rfl) (Nat.le_of_ble_eq_true rfl) rfl dX12_positiveOf_32 rfl z2 (fun r5 i5 l5 h => ?_)
    obtain ⟨ob7, ob10, h⟩ := h
    refine g_lstore_n (pc' := 36) (L' := [(2, vL r5), (0, vR (some 99)), (1, vI p0)]) dX12_positiveOf_35 rfl (Nat.le_of_ble_eq_true rfl) rfl ?_
    refine g_aload_n (pc' := 37) 1 dX12_positiveOf_36 rfl rfl ?_
    refine g_aload_n (pc' := 38) 1 dX12_positiveOf_37 rfl rfl ?_
    refine g_getI (pc' := 41) (z := 19) rfl fl_X12_253 rfl rfl dX12_positiveOf_38 rfl (fun rg6 => ?_)
    refine g_pVI (pc' := 44) (vs := [vI (i5 99 19)]) (st := []) (val := (if i5 99 19 < i5 99 20 then i5 101 (320 + (i5 99 19)) else 0)) (c := 12) (sp_X12_codeAt (le_hd hd rfl) rg6 ob7) mv_X12_codeAt lk_X12_256 rfl rfl rfl rfl (Nat.le_of_ble_eq_true rfl) (Nat.le_of_ble_eq_true rfl) rfl dX12_positiveOf_41 rfl z2 (fun rg8 => ?_)
    refine g_istore (pc' := 46) (L' := [(4, vI (if i5 99 19 < i5 99 20 then i5 101 (320 + (i5 99 19)) else 0)), (2, vL r5), (0, vR (some 99)), (1, vI p0)]) dX12_positiveOf_44 rfl (Nat.le_of_ble_eq_true rfl) rfl ?_
    refine g_aload_n (pc' := 47) 2 dX12_positiveOf_46 rfl rfl ?_
    refine g_dup (pc' := 48) dX12_positiveOf_47 rfl rfl ?_
    refine g_getI (pc' := 51) (z := 19) rfl fl_X12_253 rfl rfl dX12_positiveOf_48 rfl (fun rg9 => ?_)
    refine g_iconst (pc' := 52) dX12_positiveOf_51 rfl ?_
    refine g_iadd (pc' := 53) dX12_positiveOf_52 rfl ?_
    refine g_putI (pc' := 56) (z := 19) rfl fp_X12_253 rfl rfl ob10 dX12_positiveOf_53 rfl ?_
    refine g_aload_n (pc' := 57) 2 dX12_positiveOf_56 rfl rfl ?_
    refine g_iload_n (pc' := 58) 3 dX12_positiveOf_57 rfl rfl ?_
    refine g_cVL (pc' := 61) (vs := [vI p0]) (st := []) (c := 12) h mv_X12_sumOf lk_X12_281 rfl rfl rfl rfl (Nat.le_of_ble_eq_true rfl) (Nat.le_of_ble_eq_true rfl) rfl dX12_positiveOf_58 rfl z2 (fun r11 i11 l11 h => ?_)
    refine g_lstore (pc' := 63) (L' := [(5, vL r11), (4, vI (if i5 99 19 < i5 99 20 then i5 101 (320 + (i5 99 19)) else 0)), (2, vL r5), (0, vR (some 99)), (1, vI p0)]) dX12_positiveOf_61 rfl (Nat.le_of_ble_eq_true rfl) rfl ?_
    refine g_iload_n (pc' := 64) 4 dX12_positiveOf_63 rfl rfl ?_
    obtain ⟨hob24, hk39, hk40, hk41, hk42⟩ := h
    have hk39g : ((p0 = 0) ∨ (¬ (i11 99 21 = 0) ∨ (((if i5 99 19 < i5 99 20 then i5 101 (320 + (i5 99 19)) else 0) = 160) ∧ (r11 ≤ r5)))) → gI w d X_X12_positiveOf P i11 l11 126 [(5, vL r11), (4, vI (if i5 99 19 < i5 99 20 then i5 101 (320 + (i5 99 19)) else 0)), (2, vL r5), (0, vR (some 99)), (1, vI p0)] [vI 0] := by
      intro hp
      have h := hk39 hp
      exact g_retZ rfl (by decide) dX12_positiveOf_126 h
    have hk40g : (¬ (p0 = 0) ∧ ((i11 99 21 = 0) ∧ (¬ ((if i5 99 19 < i5 99 20 then i5 101 (320 + (i5 99 19)) else 0) = 160) ∧ (¬ ((if i5 99 19 < i5 99 20 then i5 101 (320 + (i5 99 19)) else 0) = 162))))) → gI w d X_X12_positiveOf P i11 l11 114 [(5, vL r11), (4, vI (if i5 99 19 < i5 99 20 then i5 101 (320 + (i5 99 19)) else 0)), (2, vL r5), (0, vR (some 99)), (1, vI p0)] [] := by
      intro hp
      have h := hk40 hp
      refine g_lload_n (pc' := 115) 2 dX12_positiveOf_114 rfl rfl ?_
      refine g_lload (pc' := 117) 0 dX12_positiveOf_115 rfl rfl ?_
      refine g_lcmp (pc' := 118) dX12_positiveOf_117 rfl ?_
      have hJ : gI w d X_X12_positiveOf P i11 l11 126 [(5, vL r11), (4, vI (if i5 99 19 < i5 99 20 then i5 101 (320 + (i5 99 19)) else 0)), (2, vL r5), (0, vR (some 99)), (1, vI p0)] [vI (bI (r5 = r11))] := by
        exact g_retZ rfl (bI_01 _) dX12_positiveOf_126 h
      refine g_if_ne (tgt := 125) (pc' := 121) (rg_lcmpI _ _) (lcmpI_eq _ _) dX12_positiveOf_118 rfl rfl (fun c34 => ?_) (fun c34 => ?_)
      · refine g_iconst (pc' := 126) dX12_positiveOf_125 rfl ?_
        rw [bI_f (p := (r5 = r11)) c34] at hJ
        exact hJ
      · refine g_iconst (pc' := 122) dX12_positiveOf_121 rfl ?_
        refine g_goto (tgt := 126) dX12_positiveOf_122 rfl ?_
        rw [bI_t (p := (r5 = r11)) c34] at hJ
        exact hJ
    have hk41g : (¬ (p0 = 0) ∧ ((i11 99 21 = 0) ∧ (¬ ((if i5 99 19 < i5 99 20 then i5 101 (320 + (i5 99 19)) else 0) = 160) ∧ ((if i5 99 19 < i5 99 20 then i5 101 (320 + (i5 99 19)) else 0) = 162)))) → gI w d X_X12_positiveOf P i11 l11 104 [(5, vL r11), (4, vI (if i5 99 19 < i5 99 20 then i5 101 (320 + (i5 99 19)) else 0)), (2, vL r5), (0, vR (some 99)), (1, vI p0)] [] := by
      intro hp
      have h := hk41 hp
      refine g_lload_n (pc' := 105) 2 dX12_positiveOf_104 rfl rfl ?_
      refine g_lload (pc' := 107) 0 dX12_positiveOf_105 rfl rfl ?_
      refine g_lcmp (pc' := 108) dX12_positiveOf_107 rfl ?_
      obtain ⟨hk37, hk38⟩ := h
      refine g_if_le (tgt := 125) (pc' := 111) (rg_lcmpI _ _) (lcmpI_le _ _) dX12_positiveOf_108 rfl rfl (fun c36 => ?_) (fun c36 => ?_)
      · refine g_iconst (pc' := 126) dX12_positiveOf_125 rfl ?_
        have h := hk37 c36
        exact g_retZ rfl (by decide) dX12_positiveOf_126 h
      · refine g_goto (tgt := 121) dX12_positiveOf_111 rfl ?_
        have h := hk38 c36
        refine g_iconst (pc' := 122) dX12_positiveOf_121 rfl ?_
        refine g_goto (tgt := 126) dX12_positiveOf_122 rfl ?_
        exact g_retZ rfl (by decide) dX12_positiveOf_126 h
    have hk42g : (¬ (p0 = 0) ∧ ((i11 99 21 = 0) ∧ (((if i5 99 19 < i5 99 20 then i5 101 (320 + (i5 99 19)) else 0) = 160) ∧ (¬ (r11 ≤ r5))))) → gI w d X_X12_positiveOf P i11 l11 121 [(5, vL r11), (4, vI (if i5 99 19 < i5 99 20 then i5 101 (320 + (i5 99 19)) else 0)), (2, vL r5), (0, vR (some 99)), (1, vI p0)] [] := by
      intro hp
      have h := hk42 hp
      refine g_iconst (pc' := 122) dX12_positiveOf_121 rfl ?_
      refine g_goto (tgt := 126) dX12_positiveOf_122 rfl ?_
      exact g_retZ rfl (by decide) dX12_positiveOf_126 h
    refine g_if_eq (tgt := 125) (pc' := 67) (hob24) Iff.rfl dX12_positiveOf_64 rfl rfl (fun c25 => ?_) (fun c25 => ?_)
    · refine g_iconst (pc' := 126) dX12_positiveOf_125 rfl ?_
      exact hk39g (Or.inl c25)
    · refine g_aload_n (pc' := 68) 3 dX12_positiveOf_67 rfl rfl ?_
      refine g_getI (pc' := 71) (z := 21) rfl fl_X12_263 rfl rfl dX12_positiveOf_68 rfl (fun rg26 => ?_)
      refine g_if_ne (tgt := 125) (pc' := 74) rg26 Iff.rfl dX12_positiveOf_71 rfl rfl (fun c27 => ?_) (fun c27 => ?_)
      · refine g_iconst (pc' := 126) dX12_positiveOf_125 rfl ?_
        exact hk39g (Or.inr (Or.inl c27))
      · refine g_iload (pc' := 76) 1 dX12_positiveOf_74 rfl rfl ?_
        refine g_bipush (pc' := 78) dX12_positiveOf_76 rfl rfl ?_
        refine g_pSI (pc' := 81) (vs := [vI 60]) (st := [vI (if i5 99 19 < i5 99 20 then i5 101 (320 + (i5 99 19)) else 0)]) (val := 160) (sp_X12_sign (le_hd hd rfl) (rg_lit rfl)) mk_X12_sign ms_X12_sign lk_X12_228 rfl (Nat.le_of_ble_eq_true rfl) (Nat.le_of_ble_eq_true rfl) rfl dX12_positiveOf_78 rfl z2 (fun rg28 => ?_)
        refine g_icmp_ne (tgt := 94) (pc' := 84) rg8 rg28 Iff.rfl dX12_positiveOf_81 rfl rfl (fun c29 => ?_) (fun c29 => ?_)
        · refine g_iload (pc' := 96) 1 dX12_positiveOf_94 rfl rfl ?_
          refine g_bipush (pc' := 98) dX12_positiveOf_96 rfl rfl ?_
          refine g_pSI (pc' := 101) (vs := [vI 62]) (st := [vI (if i5 99 19 < i5 99 20 then i5 101 (320 + (i5 99 19)) else 0)]) (val := 162) (sp_X12_sign (le_hd hd rfl) (rg_lit rfl)) mk_X12_sign ms_X12_sign lk_X12_228 rfl (Nat.le_of_ble_eq_true rfl) (Nat.le_of_ble_eq_true rfl) rfl dX12_positiveOf_98 rfl z2 (fun rg30 => ?_)
          refine g_icmp_ne (tgt := 114) (pc' := 104) rg8 rg30 Iff.rfl dX12_positiveOf_101 rfl rfl (fun c31 => ?_) (fun c31 => ?_)
          · exact hk40g ⟨c25, ⟨c27, ⟨c29, c31⟩⟩⟩
          · exact hk41g ⟨c25, ⟨c27, ⟨c29, c31⟩⟩⟩
        · refine g_lload_n (pc' := 85) 2 dX12_positiveOf_84 rfl rfl ?_
          refine g_lload (pc' := 87) 0 dX12_positiveOf_85 rfl rfl ?_
          refine g_lcmp (pc' := 88) dX12_positiveOf_87 rfl ?_
          refine g_if_ge (tgt := 125) (pc' := 91) (rg_lcmpI _ _) (lcmpI_ge _ _) dX12_positiveOf_88 rfl rfl (fun c32 => ?_) (fun c32 => ?_)
          · refine g_iconst (pc' := 126) dX12_positiveOf_125 rfl ?_
            exact hk39g (Or.inr (Or.inr ⟨c29, c32⟩))
          · refine g_goto (tgt := 121) dX12_positiveOf_91 rfl ?_
            exact hk42g ⟨c25, ⟨c27, ⟨c29, c32⟩⟩⟩
  · have h := hk48 c4
    refine g_aload_n (pc' := 13) 0 dX12_positiveOf_12 rfl rfl ?_
    refine g_iload_n (pc' := 14) 1 dX12_positiveOf_13 rfl rfl ?_
    refine g_cVI (pc' := 17) (vs := [vI p0]) (st := []) (c := 12) h mv_X12_testOf lk_X12_294 rfl rfl rfl rfl (Nat.le_of_ble_eq_true rfl) (Nat.le_of_ble_eq_true rfl) rfl dX12_positiveOf_14 rfl z2 (fun r43 i43 l43 rg43 h => ?_)
    obtain ⟨ob45, ob46, h⟩ := h
    refine g_istore_n (pc' := 18) (L' := [(2, vI r43), (0, vR (some 99)), (1, vI p0)]) dX12_positiveOf_17 rfl (Nat.le_of_ble_eq_true rfl) rfl ?_
    refine g_aload_n (pc' := 19) 1 dX12_positiveOf_18 rfl rfl ?_
    refine g_dup (pc' := 20) dX12_positiveOf_19 rfl rfl ?_
    refine g_getI (pc' := 23) (z := 19) rfl fl_X12_253 rfl rfl dX12_positiveOf_20 rfl (fun rg44 => ?_)
    refine g_iconst (pc' := 24) dX12_positiveOf_23 rfl ?_
    refine g_iadd (pc' := 25) dX12_positiveOf_24 rfl ?_
    refine g_putI (pc' := 28) (z := 19) rfl fp_X12_253 rfl rfl ob45 dX12_positiveOf_25 rfl ?_
    refine g_iload_n (pc' := 29) 0 dX12_positiveOf_28 rfl rfl ?_
    exact g_retZ rfl ob46 dX12_positiveOf_29 h
theorem e_X12_positiveOf {w : Wd} {d : Nat} {P : Int → IM → LM → Prop} {i : IM} {l : LM} {p0 : Int}  (h : gI w d X_X12_positiveOf P i l 0 [(0, vR (some 99)), (1, vI p0)] []) : cI w (d + 1) X_X12_positiveOf [vR (some 99), vI p0] i l P := CI_of (by decide +kernel) (Nat.le_of_ble_eq_true rfl) h

theorem dX12_told_0 : decode cX12_told 0 = .ok (.aload_n 0, 1) := by decide +kernel
theorem dX12_told_1 : decode cX12_told 1 = .ok (.getfield 20, 3) := by decide +kernel
theorem dX12_told_4 : decode cX12_told 4 = .ok (.sipush 312, 3) := by decide +kernel
theorem dX12_told_7 : decode cX12_told 7 = .ok (.iaload, 1) := by decide +kernel
theorem dX12_told_8 : decode cX12_told 8 = .ok (.iconst (-1), 1) := by decide +kernel
theorem dX12_told_9 : decode cX12_told 9 = .ok (.if_icmp .ne 6, 3) := by decide +kernel
theorem dX12_told_12 : decode cX12_told 12 = .ok (.iload 4, 2) := by decide +kernel
theorem dX12_told_14 : decode cX12_told 14 = .ok (.ireturn, 1) := by decide +kernel
theorem dX12_told_15 : decode cX12_told 15 = .ok (.aload_n 0, 1) := by decide +kernel
theorem dX12_told_16 : decode cX12_told 16 = .ok (.sipush 400, 3) := by decide +kernel
theorem dX12_told_19 : decode cX12_told 19 = .ok (.aload_n 0, 1) := by decide +kernel
theorem dX12_told_20 : decode cX12_told 20 = .ok (.getfield 20, 3) := by decide +kernel
theorem dX12_told_23 : decode cX12_told 23 = .ok (.sipush 312, 3) := by decide +kernel
theorem dX12_told_26 : decode cX12_told 26 = .ok (.iaload, 1) := by decide +kernel
theorem dX12_told_27 : decode cX12_told 27 = .ok (.imul, 1) := by decide +kernel
theorem dX12_told_28 : decode cX12_told 28 = .ok (.putfield 253, 3) := by decide +kernel
theorem dX12_told_31 : decode cX12_told 31 = .ok (.aload_n 0, 1) := by decide +kernel
theorem dX12_told_32 : decode cX12_told 32 = .ok (.aload_n 0, 1) := by decide +kernel
theorem dX12_told_33 : decode cX12_told 33 = .ok (.getfield 253, 3) := by decide +kernel
theorem dX12_told_36 : decode cX12_told 36 = .ok (.aload_n 0, 1) := by decide +kernel
theorem dX12_told_37 : decode cX12_told 37 = .ok (.getfield 20, 3) := by decide +kernel
theorem dX12_told_40 : decode cX12_told 40 = .ok (.sipush 314, 3) := by decide +kernel
theorem dX12_told_43 : decode cX12_told 43 = .ok (.aload_n 0, 1) := by decide +kernel
theorem dX12_told_44 : decode cX12_told 44 = .ok (.getfield 20, 3) := by decide +kernel
theorem dX12_told_47 : decode cX12_told 47 = .ok (.sipush 312, 3) := by decide +kernel
theorem dX12_told_50 : decode cX12_told 50 = .ok (.iaload, 1) := by decide +kernel
theorem dX12_told_51 : decode cX12_told 51 = .ok (.iadd, 1) := by decide +kernel
theorem dX12_told_52 : decode cX12_told 52 = .ok (.iaload, 1) := by decide +kernel
theorem dX12_told_53 : decode cX12_told 53 = .ok (.iadd, 1) := by decide +kernel
theorem dX12_told_54 : decode cX12_told 54 = .ok (.putfield 250, 3) := by decide +kernel
theorem dX12_told_57 : decode cX12_told 57 = .ok (.iload 4, 2) := by decide +kernel
theorem dX12_told_59 : decode cX12_told 59 = .ok (.istore 5, 2) := by decide +kernel
theorem dX12_told_61 : decode cX12_told 61 = .ok (.aload_n 0, 1) := by decide +kernel
theorem dX12_told_62 : decode cX12_told 62 = .ok (.getfield 253, 3) := by decide +kernel
theorem dX12_told_65 : decode cX12_told 65 = .ok (.aload_n 0, 1) := by decide +kernel
theorem dX12_told_66 : decode cX12_told 66 = .ok (.getfield 250, 3) := by decide +kernel
theorem dX12_told_69 : decode cX12_told 69 = .ok (.if_icmp .ge 156, 3) := by decide +kernel
theorem dX12_told_72 : decode cX12_told 72 = .ok (.aload_n 0, 1) := by decide +kernel
theorem dX12_told_73 : decode cX12_told 73 = .ok (.iconst 0, 1) := by decide +kernel
theorem dX12_told_74 : decode cX12_told 74 = .ok (.putfield 263, 3) := by decide +kernel
theorem dX12_told_77 : decode cX12_told 77 = .ok (.aload_n 0, 1) := by decide +kernel
theorem dX12_told_78 : decode cX12_told 78 = .ok (.aload_n 0, 1) := by decide +kernel
theorem dX12_told_79 : decode cX12_told 79 = .ok (.getfield 253, 3) := by decide +kernel
theorem dX12_told_82 : decode cX12_told 82 = .ok (.invokevirtual 256, 3) := by decide +kernel
theorem dX12_told_85 : decode cX12_told 85 = .ok (.istore 6, 2) := by decide +kernel
theorem dX12_told_87 : decode cX12_told 87 = .ok (.aload_n 0, 1) := by decide +kernel
theorem dX12_told_88 : decode cX12_told 88 = .ok (.dup, 1) := by decide +kernel
theorem dX12_told_89 : decode cX12_told 89 = .ok (.getfield 253, 3) := by decide +kernel
theorem dX12_told_92 : decode cX12_told 92 = .ok (.iconst 1, 1) := by decide +kernel
theorem dX12_told_93 : decode cX12_told 93 = .ok (.iadd, 1) := by decide +kernel
theorem dX12_told_94 : decode cX12_told 94 = .ok (.putfield 253, 3) := by decide +kernel
theorem dX12_told_97 : decode cX12_told 97 = .ok (.iload 6, 2) := by decide +kernel
theorem dX12_told_99 : decode cX12_told 99 = .ok (.iconst 3, 1) := by decide +kernel
theorem dX12_told_100 : decode cX12_told 100 = .ok (.if_icmp .ge 11, 3) := by decide +kernel
theorem dX12_told_103 : decode cX12_told 103 = .ok (.aload_n 0, 1) := by decide +kernel
theorem dX12_told_104 : decode cX12_told 104 = .ok (.iconst 1, 1) := by decide +kernel
theorem dX12_told_105 : decode cX12_told 105 = .ok (.invokevirtual 281, 3) := by decide +kernel
theorem dX12_told_108 : decode cX12_told 108 = .ok (.goto 4, 3) := by decide +kernel
theorem dX12_told_111 : decode cX12_told 111 = .ok (.lconst 1, 1) := by decide +kernel
theorem dX12_told_112 : decode cX12_told 112 = .ok (.lstore 7, 2) := by decide +kernel
theorem dX12_told_114 : decode cX12_told 114 = .ok (.aload_n 0, 1) := by decide +kernel
theorem dX12_told_115 : decode cX12_told 115 = .ok (.getfield 263, 3) := by decide +kernel
theorem dX12_told_118 : decode cX12_told 118 = .ok (.istore 9, 2) := by decide +kernel
theorem dX12_told_120 : decode cX12_told 120 = .ok (.aload_n 0, 1) := by decide +kernel
theorem dX12_told_121 : decode cX12_told 121 = .ok (.iconst 0, 1) := by decide +kernel
theorem dX12_told_122 : decode cX12_told 122 = .ok (.putfield 263, 3) := by decide +kernel
theorem dX12_told_125 : decode cX12_told 125 = .ok (.aload_n 0, 1) := by decide +kernel
theorem dX12_told_126 : decode cX12_told 126 = .ok (.iconst 5, 1) := by decide +kernel
theorem dX12_told_127 : decode cX12_told 127 = .ok (.invokevirtual 278, 3) := by decide +kernel
theorem dX12_told_130 : decode cX12_told 130 = .ok (.ifCond .eq 11, 3) := by decide +kernel
theorem dX12_told_133 : decode cX12_told 133 = .ok (.aload_n 0, 1) := by decide +kernel
theorem dX12_told_134 : decode cX12_told 134 = .ok (.iconst 1, 1) := by decide +kernel
theorem dX12_told_135 : decode cX12_told 135 = .ok (.invokevirtual 294, 3) := by decide +kernel
theorem dX12_told_138 : decode cX12_told 138 = .ok (.ifCond .eq 7, 3) := by decide +kernel
theorem dX12_told_141 : decode cX12_told 141 = .ok (.iconst 1, 1) := by decide +kernel
theorem dX12_told_142 : decode cX12_told 142 = .ok (.goto 4, 3) := by decide +kernel
theorem dX12_told_145 : decode cX12_told 145 = .ok (.iconst 0, 1) := by decide +kernel
theorem dX12_told_146 : decode cX12_told 146 = .ok (.istore 10, 2) := by decide +kernel
theorem dX12_told_148 : decode cX12_told 148 = .ok (.iload 10, 2) := by decide +kernel
theorem dX12_told_150 : decode cX12_told 150 = .ok (.ifCond .eq 25, 3) := by decide +kernel
theorem dX12_told_153 : decode cX12_told 153 = .ok (.aload_n 0, 1) := by decide +kernel
theorem dX12_told_154 : decode cX12_told 154 = .ok (.getfield 263, 3) := by decide +kernel
theorem dX12_told_157 : decode cX12_told 157 = .ok (.ifCond .ne 18, 3) := by decide +kernel
theorem dX12_told_160 : decode cX12_told 160 = .ok (.iload 9, 2) := by decide +kernel
theorem dX12_told_162 : decode cX12_told 162 = .ok (.ifCond .ne 13, 3) := by decide +kernel
theorem dX12_told_165 : decode cX12_told 165 = .ok (.iload 6, 2) := by decide +kernel
theorem dX12_told_167 : decode cX12_told 167 = .ok (.iload_n 1, 1) := by decide +kernel
theorem dX12_told_168 : decode cX12_told 168 = .ok (.if_icmp .ne 7, 3) := by decide +kernel
theorem dX12_told_171 : decode cX12_told 171 = .ok (.iconst 1, 1) := by decide +kernel
theorem dX12_told_172 : decode cX12_told 172 = .ok (.goto 4, 3) := by decide +kernel
theorem dX12_told_175 : decode cX12_told 175 = .ok (.iconst 0, 1) := by decide +kernel
theorem dX12_told_176 : decode cX12_told 176 = .ok (.istore 10, 2) := by decide +kernel
theorem dX12_told_178 : decode cX12_told 178 = .ok (.aload_n 0, 1) := by decide +kernel
theorem dX12_told_179 : decode cX12_told 179 = .ok (.dup, 1) := by decide +kernel
theorem dX12_told_180 : decode cX12_told 180 = .ok (.getfield 253, 3) := by decide +kernel
theorem dX12_told_183 : decode cX12_told 183 = .ok (.iconst 1, 1) := by decide +kernel
theorem dX12_told_184 : decode cX12_told 184 = .ok (.iadd, 1) := by decide +kernel
theorem dX12_told_185 : decode cX12_told 185 = .ok (.putfield 253, 3) := by decide +kernel
theorem dX12_told_188 : decode cX12_told 188 = .ok (.iload 10, 2) := by decide +kernel
theorem dX12_told_190 : decode cX12_told 190 = .ok (.ifCond .eq 32, 3) := by decide +kernel
theorem dX12_told_193 : decode cX12_told 193 = .ok (.lload 7, 2) := by decide +kernel
theorem dX12_told_195 : decode cX12_told 195 = .ok (.iload_n 2, 1) := by decide +kernel
theorem dX12_told_196 : decode cX12_told 196 = .ok (.i2l, 1) := by decide +kernel
theorem dX12_told_197 : decode cX12_told 197 = .ok (.lcmp, 1) := by decide +kernel
theorem dX12_told_198 : decode cX12_told 198 = .ok (.ifCond .ge 7, 3) := by decide +kernel
theorem dX12_told_201 : decode cX12_told 201 = .ok (.iload_n 2, 1) := by decide +kernel
theorem dX12_told_202 : decode cX12_told 202 = .ok (.goto 18, 3) := by decide +kernel
theorem dX12_told_205 : decode cX12_told 205 = .ok (.lload 7, 2) := by decide +kernel
theorem dX12_told_207 : decode cX12_told 207 = .ok (.iload_n 3, 1) := by decide +kernel
theorem dX12_told_208 : decode cX12_told 208 = .ok (.i2l, 1) := by decide +kernel
theorem dX12_told_209 : decode cX12_told 209 = .ok (.lcmp, 1) := by decide +kernel
theorem dX12_told_210 : decode cX12_told 210 = .ok (.ifCond .le 7, 3) := by decide +kernel
theorem dX12_told_213 : decode cX12_told 213 = .ok (.iload_n 3, 1) := by decide +kernel
theorem dX12_told_214 : decode cX12_told 214 = .ok (.goto 6, 3) := by decide +kernel
theorem dX12_told_217 : decode cX12_told 217 = .ok (.lload 7, 2) := by decide +kernel
theorem dX12_told_219 : decode cX12_told 219 = .ok (.l2i, 1) := by decide +kernel
theorem dX12_told_220 : decode cX12_told 220 = .ok (.istore 5, 2) := by decide +kernel
theorem dX12_told_222 : decode cX12_told 222 = .ok (.goto (-161), 3) := by decide +kernel
theorem dX12_told_225 : decode cX12_told 225 = .ok (.iload 5, 2) := by decide +kernel
theorem dX12_told_227 : decode cX12_told 227 = .ok (.ireturn, 1) := by decide +kernel
set_option maxRecDepth 20000 in
theorem s_X12_told {w : Wd} {d : Nat} {P : Int → IM → LM → Prop} {i : IM} {l : LM} (p0 : Int) (p1 : Int) (p2 : Int) (p3 : Int)  (h : (((i 101 312 = (-1)) → ((rg p3) ∧ P p3 i l)) ∧ ((¬ (i 101 312 = (-1))) → ((rg (400 * (i 101 312))) ∧ (0 ≤ 314 + ((u2 i 99 19 (400 * (i 101 312))) 101 312) ∧ 314 + ((u2 i 99 19 (400 * (i 101 312))) 101 312) < 5120) ∧ (rg (((u2 i 99 19 (400 * (i 101 312))) 99 19) + ((u2 i 99 19 (400 * (i 101 312))) 101 (314 + ((u2 i 99 19 (400 * (i 101 312))) 101 312))))) ∧ gI w d X_X12_told P (u2 (u2 i 99 19 (400 * (i 101 312))) 99 20 (((u2 i 99 19 (400 * (i 101 312))) 99 19) + ((u2 i 99 19 (400 * (i 101 312))) 101 (314 + ((u2 i 99 19 (400 * (i 101 312))) 101 312))))) l 61 [(0, vR (some 99)), (1, vI p0), (2, vI p1), (3, vI p2), (5, vI p3)] [])))) : gI w d X_X12_told P i l 0 [(0, vR (some 99)), (1, vI p0), (2, vI p1), (3, vI p2), (4, vI p3)] [] := by
  refine g_aload_n (pc' := 1) 0 dX12_told_0 rfl rfl ?_
  refine g_getR (pc' := 4) (o := some 101) fl_X12_20 rfl rfl rfl dX12_told_1 rfl ?_
  refine g_sipush (pc' := 7) dX12_told_4 rfl rfl ?_
  refine g_iald (pc' := 8) (N := 5120) rfl rfl (Nat.lt_of_lt_of_le (Nat.lt_succ_self _) (Nat.le_of_ble_eq_true rfl)) (by decide) dX12_told_7 rfl (fun rg1 => ?_)
  refine g_iconst (pc' := 9) dX12_told_8 rfl ?_
  obtain ⟨hk13, hk14⟩ := h
  refine g_icmp_ne (tgt := 15) (pc' := 12) rg1 (rg_lit rfl) Iff.rfl dX12_told_9 rfl rfl (fun c3 => ?_) (fun c3 => ?_)
  · have h := hk14 c3
    obtain ⟨ob6, ob9, ob11, h⟩ := h
    refine g_aload_n (pc' := 16) 0 dX12_told_15 rfl rfl ?_
    refine g_sipush (pc' := 19) dX12_told_16 rfl rfl ?_
    refine g_aload_n (pc' := 20) 0 dX12_told_19 rfl rfl ?_
    refine g_getR (pc' := 23) (o := some 101) fl_X12_20 rfl rfl rfl dX12_told_20 rfl ?_
    refine g_sipush (pc' := 26) dX12_told_23 rfl rfl ?_
    refine g_iald (pc' := 27) (N := 5120) rfl rfl (Nat.lt_of_lt_of_le (Nat.lt_succ_self _) (Nat.le_of_ble_eq_true rfl)) (by decide) dX12_told_26 rfl (fun rg5 => ?_)
    refine g_imul (pc' := 28) dX12_told_27 rfl ?_
    refine g_putI (pc' := 31) (z := 19) rfl fp_X12_253 rfl rfl ob6 dX12_told_28 rfl ?_
    refine g_aload_n (pc' := 32) 0 dX12_told_31 rfl rfl ?_
    refine g_aload_n (pc' := 33) 0 dX12_told_32 rfl rfl ?_
    refine g_getI (pc' := 36) (z := 19) rfl fl_X12_253 rfl rfl dX12_told_33 rfl (fun rg7 => ?_)
    refine g_aload_n (pc' := 37) 0 dX12_told_36 rfl rfl ?_
    refine g_getR (pc' := 40) (o := some 101) fl_X12_20 rfl rfl rfl dX12_told_37 rfl ?_
    refine g_sipush (pc' := 43) dX12_told_40 rfl rfl ?_
    refine g_aload_n (pc' := 44) 0 dX12_told_43 rfl rfl ?_
    refine g_getR (pc' := 47) (o := some 101) fl_X12_20 rfl rfl rfl dX12_told_44 rfl ?_
    refine g_sipush (pc' := 50) dX12_told_47 rfl rfl ?_
    refine g_iald (pc' := 51) (N := 5120) rfl rfl (Nat.lt_of_lt_of_le (Nat.lt_succ_self _) (Nat.le_of_ble_eq_true rfl)) (by decide) dX12_told_50 rfl (fun rg8 => ?_)
    refine g_iadd (pc' := 52) dX12_told_51 rfl ?_
    refine g_iald (pc' := 53) (N := 5120) rfl rfl (Nat.lt_of_lt_of_le (Nat.lt_succ_self _) (Nat.le_of_ble_eq_true rfl)) ob9 dX12_told_52 rfl (fun rg10 => ?_)
    refine g_iadd (pc' := 54) dX12_told_53 rfl ?_
    refine g_putI (pc' := 57) (z := 20) rfl fp_X12_250 rfl rfl ob11 dX12_told_54 rfl ?_
    refine g_iload (pc' := 59) 4 dX12_told_57 rfl rfl ?_
    refine g_istore (pc' := 61) (L' := [(5, vI p3), (0, vR (some 99)), (1, vI p0), (2, vI p1), (3, vI p2), (4, vI p3)]) dX12_told_59 rfl (Nat.le_of_ble_eq_true rfl) rfl ?_
    refine g_sub (L' := [(0, vR (some 99)), (1, vI p0), (2, vI p1), (3, vI p2), (5, vI p3)]) [1, 2, 3, 4, 0] rfl ?_
    exact h
  · have h := hk13 c3
    obtain ⟨ob12, h⟩ := h
    refine g_iload (pc' := 14) 4 dX12_told_12 rfl rfl ?_
    exact g_retI rfl ob12 dX12_told_14 h
theorem e_X12_told {w : Wd} {d : Nat} {P : Int → IM → LM → Prop} {i : IM} {l : LM} {p0 : Int} {p1 : Int} {p2 : Int} {p3 : Int}  (h : gI w d X_X12_told P i l 0 [(0, vR (some 99)), (1, vI p0), (2, vI p1), (3, vI p2), (4, vI p3)] []) : cI w (d + 1) X_X12_told [vR (some 99), vI p0, vI p1, vI p2, vI p3] i l P := CI_of (by decide +kernel) (Nat.le_of_ble_eq_true rfl) h
set_option maxRecDepth 20000 in
theorem s_X12_told_61 {w : Wd} {d : Nat} {P : Int → IM → LM → Prop} {i : IM} {l : LM} (x1 : Int) (x2 : Int) (x3 : Int) (x5 : Int)  (hd : 1 ≤ d) (h : (((i 99 20 ≤ i 99 19) → ((rg x5) ∧ P x5 i l)) ∧ ((¬ (i 99 20 ≤ i 99 19)) → (((u2 i 99 21 0) 99 19 < (u2 i 99 21 0) 99 20 → 0 ≤ 320 + ((u2 i 99 21 0) 99 19) ∧ 320 + ((u2 i 99 21 0) 99 19) < 5120) ∧ (rg (((u2 i 99 21 0) 99 19) + 1)) ∧ (((3 ≤ (if (u2 i 99 21 0) 99 19 < (u2 i 99 21 0) 99 20 then (u2 i 99 21 0) 101 (320 + ((u2 i 99 21 0) 99 19)) else 0)) → cI w d X_X12_passes0 [vR (some 99), vI 5] (u2 (u2 (u2 i 99 21 0) 99 19 (((u2 i 99 21 0) 99 19) + 1)) 99 21 0) l (fun r28 i28 l28 => (((r28 = 0) → gI w d X_X12_told P i28 l28 141 [(0, vR (some 99)), (1, vI x1), (2, vI x2), (3, vI x3), (5, vI x5), (6, vI (if (u2 i 99 21 0) 99 19 < (u2 i 99 21 0) 99 20 then (u2 i 99 21 0) 101 (320 + ((u2 i 99 21 0) 99 19)) else 0)), (7, vL 1), (9, vI ((u2 (u2 i 99 21 0) 99 19 (((u2 i 99 21 0) 99 19) + 1)) 99 21))] []) ∧ ((¬ (r28 = 0)) → cI w d X_X12_testOf [vR (some 99), vI 1] i28 l28 (fun r31 i31 l31 => (((r31 = 0) → gI w d X_X12_told P i31 l31 175 [(0, vR (some 99)), (1, vI x1), (2, vI x2), (3, vI x3), (5, vI x5), (7, vL 1)] []) ∧ ((¬ (r31 = 0)) → gI w d X_X12_told P i31 l31 141 [(0, vR (some 99)), (1, vI x1), (2, vI x2), (3, vI x3), (5, vI x5), (6, vI (if (u2 i 99 21 0) 99 19 < (u2 i 99 21 0) 99 20 then (u2 i 99 21 0) 101 (320 + ((u2 i 99 21 0) 99 19)) else 0)), (7, vL 1), (9, vI ((u2 (u2 i 99 21 0) 99 19 (((u2 i 99 21 0) 99 19) + 1)) 99 21))] []))))))) ∧ ((¬ (3 ≤ (if (u2 i 99 21 0) 99 19 < (u2 i 99 21 0) 99 20 then (u2 i 99 21 0) 101 (320 + ((u2 i 99 21 0) 99 19)) else 0))) → cL w d X_X12_sumOf [vR (some 99), vI 1] (u2 (u2 i 99 21 0) 99 19 (((u2 i 99 21 0) 99 19) + 1)) l (fun r38 i38 l38 => cI w d X_X12_passes0 [vR (some 99), vI 5] (u2 i38 99 21 0) l38 (fun r40 i40 l40 => (((r40 = 0) → gI w d X_X12_told P i40 l40 141 [(0, vR (some 99)), (1, vI x1), (2, vI x2), (3, vI x3), (5, vI x5), (6, vI (if (u2 i 99 21 0) 99 19 < (u2 i 99 21 0) 99 20 then (u2 i 99 21 0) 101 (320 + ((u2 i 99 21 0) 99 19)) else 0)), (7, vL r38), (9, vI (i38 99 21))] []) ∧ ((¬ (r40 = 0)) → cI w d X_X12_testOf [vR (some 99), vI 1] i40 l40 (fun r43 i43 l43 => (((r43 = 0) → gI w d X_X12_told P i43 l43 175 [(0, vR (some 99)), (1, vI x1), (2, vI x2), (3, vI x3), (5, vI x5), (7, vL r38)] []) ∧ ((¬ (r43 = 0)) → gI w d X_X12_told P i43 l43 141 [(0, vR (some 99)), (1, vI x1), (2, vI x2), (3, vI x3), (5, vI x5), (6, vI (if (u2 i 99 21 0) 99 19 < (u2 i 99 21 0) 99 20 then (u2 i 99 21 0) 101 (320 + ((u2 i 99 21 0) 99 19)) else 0)), (7, vL r38), (9, vI (i38 99 21))] []))))))))))))) : gI w d X_X12_told P i l 61 [(0, vR (some 99)), (1, vI x1), (2, vI x2), (3, vI x3), (5, vI x5)] [] := by
  refine g_aload_n (pc' := 62) 0 dX12_told_61 rfl rfl ?_
  refine g_getI (pc' := 65) (z := 19) rfl fl_X12_253 rfl rfl dX12_told_62 rfl (fun rg15 => ?_)
  refine g_aload_n (pc' := 66) 0 dX12_told_65 rfl rfl ?_
  refine g_getI (pc' := 69) (z := 20) rfl fl_X12_250 rfl rfl dX12_told_66 rfl (fun rg16 => ?_)
  obtain ⟨hk52, hk53⟩ := h
  refine g_icmp_ge (tgt := 225) (pc' := 72) rg15 rg16 Iff.rfl dX12_told_69 rfl rfl (fun c18 => ?_) (fun c18 => ?_)
  · have h := hk52 c18
    obtain ⟨ob19, h⟩ := h
    refine g_iload (pc' := 227) 4 dX12_told_225 rfl rfl ?_
    exact g_retI rfl ob19 dX12_told_227 h
  · have h := hk53 c18
    obtain ⟨ob21, ob24, h⟩ := h
    refine g_aload_n (pc' := 73) 0 dX12_told_72 rfl rfl ?_
    refine g_iconst (pc' := 74) dX12_told_73 rfl ?_
    refine g_putZ (pc' := 77) (z := 21) rfl fp_X12_263 rfl rfl (by decide) dX12_told_74 rfl ?_
    refine g_aload_n (pc' := 78) 0 dX12_told_77 rfl rfl ?_
    refine g_aload_n (pc' := 79) 0 dX12_told_78 rfl rfl ?_
    refine g_getI (pc' := 82) (z := 19) rfl fl_X12_253 rfl rfl dX12_told_79 rfl (fun rg20 => ?_)
    refine g_pVI (pc' := 85) (vs := [vI ((u2 i 99 21 0) 99 19)]) (st := []) (val := (if (u2 i 99 21 0) 99 19 < (u2 i 99 21 0) 99 20 then (u2 i 99 21 0) 101 (320 + ((u2 i 99 21 0) 99 19)) else 0)) (c := 12) (sp_X12_codeAt (le_hd hd rfl) rg20 ob21) mv_X12_codeAt lk_X12_256 rfl rfl rfl rfl (Nat.le_of_ble_eq_true rfl) (Nat.le_of_ble_eq_true rfl) rfl dX12_told_82 rfl z2 (fun rg22 => ?_)
    refine g_istore (pc' := 87) (L' := [(6, vI (if (u2 i 99 21 0) 99 19 < (u2 i 99 21 0) 99 20 then (u2 i 99 21 0) 101 (320 + ((u2 i 99 21 0) 99 19)) else 0)), (0, vR (some 99)), (1, vI x1), (2, vI x2), (3, vI x3), (5, vI x5)]) dX12_told_85 rfl (Nat.le_of_ble_eq_true rfl) rfl ?_
    refine g_aload_n (pc' := 88) 1 dX12_told_87 rfl rfl ?_
    refine g_dup (pc' := 89) dX12_told_88 rfl rfl ?_
    refine g_getI (pc' := 92) (z := 19) rfl fl_X12_253 rfl rfl dX12_told_89 rfl (fun rg23 => ?_)
    refine g_iconst (pc' := 93) dX12_told_92 rfl ?_
    refine g_iadd (pc' := 94) dX12_told_93 rfl ?_
    refine g_putI (pc' := 97) (z := 19) rfl fp_X12_253 rfl rfl ob24 dX12_told_94 rfl ?_
    refine g_iload (pc' := 99) 0 dX12_told_97 rfl rfl ?_
    refine g_iconst (pc' := 100) dX12_told_99 rfl ?_
    obtain ⟨hk50, hk51⟩ := h
    refine g_icmp_ge (tgt := 111) (pc' := 103) rg22 (rg_lit rfl) Iff.rfl dX12_told_100 rfl rfl (fun c26 => ?_) (fun c26 => ?_)
    · refine g_lconst (pc' := 112) (v := 1) dX12_told_111 rfl rfl ?_
      have h := hk50 c26
      refine g_lstore (pc' := 114) (L' := [(7, vL 1), (6, vI (if (u2 i 99 21 0) 99 19 < (u2 i 99 21 0) 99 20 then (u2 i 99 21 0) 101 (320 + ((u2 i 99 21 0) 99 19)) else 0)), (0, vR (some 99)), (1, vI x1), (2, vI x2), (3, vI x3), (5, vI x5)]) dX12_told_112 rfl (Nat.le_of_ble_eq_true rfl) rfl ?_
      refine g_aload_n (pc' := 115) 2 dX12_told_114 rfl rfl ?_
      refine g_getI (pc' := 118) (z := 21) rfl fl_X12_263 rfl rfl dX12_told_115 rfl (fun rg27 => ?_)
      refine g_istore (pc' := 120) (L' := [(9, vI ((u2 (u2 i 99 21 0) 99 19 (((u2 i 99 21 0) 99 19) + 1)) 99 21)), (7, vL 1), (6, vI (if (u2 i 99 21 0) 99 19 < (u2 i 99 21 0) 99 20 then (u2 i 99 21 0) 101 (320 + ((u2 i 99 21 0) 99 19)) else 0)), (0, vR (some 99)), (1, vI x1), (2, vI x2), (3, vI x3), (5, vI x5)]) dX12_told_118 rfl (Nat.le_of_ble_eq_true rfl) rfl ?_
      refine g_aload_n (pc' := 121) 3 dX12_told_120 rfl rfl ?_
      refine g_iconst (pc' := 122) dX12_told_121 rfl ?_
      refine g_putZ (pc' := 125) (z := 21) rfl fp_X12_263 rfl rfl (by decide) dX12_told_122 rfl ?_
      refine g_aload_n (pc' := 126) 3 dX12_told_125 rfl rfl ?_
      refine g_iconst (pc' := 127) dX12_told_126 rfl ?_
      refine g_cVI (pc' := 130) (vs := [vI 5]) (st := []) (c := 12) h mv_X12_passes0 lk_X12_278 rfl rfl rfl rfl (Nat.le_of_ble_eq_true rfl) (Nat.le_of_ble_eq_true rfl) rfl dX12_told_127 rfl z2 (fun r28 i28 l28 rg28 h => ?_)
      obtain ⟨hk36, hk37⟩ := h
      refine g_if_eq (tgt := 141) (pc' := 133) rg28 Iff.rfl dX12_told_130 rfl rfl (fun c30 => ?_) (fun c30 => ?_)
      · have h := hk36 c30
        refine g_sub (L' := [(0, vR (some 99)), (1, vI x1), (2, vI x2), (3, vI x3), (5, vI x5), (6, vI (if (u2 i 99 21 0) 99 19 < (u2 i 99 21 0) 99 20 then (u2 i 99 21 0) 101 (320 + ((u2 i 99 21 0) 99 19)) else 0)), (7, vL 1), (9, vI ((u2 (u2 i 99 21 0) 99 19 (((u2 i 99 21 0) 99 19) + 1)) 99 21))]) [3, 4, 5, 6, 7, 2, 1, 0] rfl ?_
        exact h
      · have h := hk37 c30
        refine g_aload_n (pc' := 134) 3 dX12_told_133 rfl rfl ?_
        refine g_iconst (pc' := 135) dX12_told_134 rfl ?_
        refine g_cVI (pc' := 138) (vs := [vI 1]) (st := []) (c := 12) h mv_X12_testOf lk_X12_294 rfl rfl rfl rfl (Nat.le_of_ble_eq_true rfl) (Nat.le_of_ble_eq_true rfl) rfl dX12_told_135 rfl z2 (fun r31 i31 l31 rg31 h => ?_)
        obtain ⟨hk34, hk35⟩ := h
        refine g_if_eq (tgt := 145) (pc' := 141) rg31 Iff.rfl dX12_told_138 rfl rfl (fun c33 => ?_) (fun c33 => ?_)
        · refine g_iconst (pc' := 146) dX12_told_145 rfl ?_
          have h := hk34 c33
          refine g_istore (pc' := 148) (L' := [(10, vI 0), (9, vI ((u2 (u2 i 99 21 0) 99 19 (((u2 i 99 21 0) 99 19) + 1)) 99 21)), (7, vL 1), (6, vI (if (u2 i 99 21 0) 99 19 < (u2 i 99 21 0) 99 20 then (u2 i 99 21 0) 101 (320 + ((u2 i 99 21 0) 99 19)) else 0)), (0, vR (some 99)), (1, vI x1), (2, vI x2), (3, vI x3), (5, vI x5)]) dX12_told_146 rfl (Nat.le_of_ble_eq_true rfl) rfl ?_
          refine g_iload (pc' := 150) 0 dX12_told_148 rfl rfl ?_
          refine g_if_eq (tgt := 175) (pc' := 153) (rg_lit rfl) Iff.rfl dX12_told_150 rfl rfl (fun _ => ?_) (fun c => absurd (by decide) c)
          refine g_sub (L' := [(0, vR (some 99)), (1, vI x1), (2, vI x2), (3, vI x3), (5, vI x5), (7, vL 1)]) [4, 5, 6, 7, 8, 2] rfl ?_
          exact h
        · have h := hk35 c33
          refine g_sub (L' := [(0, vR (some 99)), (1, vI x1), (2, vI x2), (3, vI x3), (5, vI x5), (6, vI (if (u2 i 99 21 0) 99 19 < (u2 i 99 21 0) 99 20 then (u2 i 99 21 0) 101 (320 + ((u2 i 99 21 0) 99 19)) else 0)), (7, vL 1), (9, vI ((u2 (u2 i 99 21 0) 99 19 (((u2 i 99 21 0) 99 19) + 1)) 99 21))]) [3, 4, 5, 6, 7, 2, 1, 0] rfl ?_
          exact h
    · have h := hk51 c26
      refine g_aload_n (pc' := 104) 1 dX12_told_103 rfl rfl ?_
      refine g_iconst (pc' := 105) dX12_told_104 rfl ?_
      refine g_cVL (pc' := 108) (vs := [vI 1]) (st := []) (c := 12) h mv_X12_sumOf lk_X12_281 rfl rfl rfl rfl (Nat.le_of_ble_eq_true rfl) (Nat.le_of_ble_eq_true rfl) rfl dX12_told_105 rfl z2 (fun r38 i38 l38 h => ?_)
      refine g_goto (tgt := 112) dX12_told_108 rfl ?_
      refine g_lstore (pc' := 114) (L' := [(7, vL r38), (6, vI (if (u2 i 99 21 0) 99 19 < (u2 i 99 21 0) 99 20 then (u2 i 99 21 0) 101 (320 + ((u2 i 99 21 0) 99 19)) else 0)), (0, vR (some 99)), (1, vI x1), (2, vI x2), (3, vI x3), (5, vI x5)]) dX12_told_112 rfl (Nat.le_of_ble_eq_true rfl) rfl ?_
      refine g_aload_n (pc' := 115) 2 dX12_told_114 rfl rfl ?_
      refine g_getI (pc' := 118) (z := 21) rfl fl_X12_263 rfl rfl dX12_told_115 rfl (fun rg39 => ?_)
      refine g_istore (pc' := 120) (L' := [(9, vI (i38 99 21)), (7, vL r38), (6, vI (if (u2 i 99 21 0) 99 19 < (u2 i 99 21 0) 99 20 then (u2 i 99 21 0) 101 (320 + ((u2 i 99 21 0) 99 19)) else 0)), (0, vR (some 99)), (1, vI x1), (2, vI x2), (3, vI x3), (5, vI x5)]) dX12_told_118 rfl (Nat.le_of_ble_eq_true rfl) rfl ?_
      refine g_aload_n (pc' := 121) 3 dX12_told_120 rfl rfl ?_
      refine g_iconst (pc' := 122) dX12_told_121 rfl ?_
      refine g_putZ (pc' := 125) (z := 21) rfl fp_X12_263 rfl rfl (by decide) dX12_told_122 rfl ?_
      refine g_aload_n (pc' := 126) 3 dX12_told_125 rfl rfl ?_
      refine g_iconst (pc' := 127) dX12_told_126 rfl ?_
      refine g_cVI (pc' := 130) (vs := [vI 5]) (st := []) (c := 12) h mv_X12_passes0 lk_X12_278 rfl rfl rfl rfl (Nat.le_of_ble_eq_true rfl) (Nat.le_of_ble_eq_true rfl) rfl dX12_told_127 rfl z2 (fun r40 i40 l40 rg40 h => ?_)
      obtain ⟨hk48, hk49⟩ := h
      refine g_if_eq (tgt := 141) (pc' := 133) rg40 Iff.rfl dX12_told_130 rfl rfl (fun c42 => ?_) (fun c42 => ?_)
      · have h := hk48 c42
        refine g_sub (L' := [(0, vR (some 99)), (1, vI x1), (2, vI x2), (3, vI x3), (5, vI x5), (6, vI (if (u2 i 99 21 0) 99 19 < (u2 i 99 21 0) 99 20 then (u2 i 99 21 0) 101 (320 + ((u2 i 99 21 0) 99 19)) else 0)), (7, vL r38), (9, vI (i38 99 21))]) [3, 4, 5, 6, 7, 2, 1, 0] rfl ?_
        exact h
      · have h := hk49 c42
        refine g_aload_n (pc' := 134) 3 dX12_told_133 rfl rfl ?_
        refine g_iconst (pc' := 135) dX12_told_134 rfl ?_
        refine g_cVI (pc' := 138) (vs := [vI 1]) (st := []) (c := 12) h mv_X12_testOf lk_X12_294 rfl rfl rfl rfl (Nat.le_of_ble_eq_true rfl) (Nat.le_of_ble_eq_true rfl) rfl dX12_told_135 rfl z2 (fun r43 i43 l43 rg43 h => ?_)
        obtain ⟨hk46, hk47⟩ := h
        refine g_if_eq (tgt := 145) (pc' := 141) rg43 Iff.rfl dX12_told_138 rfl rfl (fun c45 => ?_) (fun c45 => ?_)
        · refine g_iconst (pc' := 146) dX12_told_145 rfl ?_
          have h := hk46 c45
          refine g_istore (pc' := 148) (L' := [(10, vI 0), (9, vI (i38 99 21)), (7, vL r38), (6, vI (if (u2 i 99 21 0) 99 19 < (u2 i 99 21 0) 99 20 then (u2 i 99 21 0) 101 (320 + ((u2 i 99 21 0) 99 19)) else 0)), (0, vR (some 99)), (1, vI x1), (2, vI x2), (3, vI x3), (5, vI x5)]) dX12_told_146 rfl (Nat.le_of_ble_eq_true rfl) rfl ?_
          refine g_iload (pc' := 150) 0 dX12_told_148 rfl rfl ?_
          refine g_if_eq (tgt := 175) (pc' := 153) (rg_lit rfl) Iff.rfl dX12_told_150 rfl rfl (fun _ => ?_) (fun c => absurd (by decide) c)
          refine g_sub (L' := [(0, vR (some 99)), (1, vI x1), (2, vI x2), (3, vI x3), (5, vI x5), (7, vL r38)]) [4, 5, 6, 7, 8, 2] rfl ?_
          exact h
        · have h := hk47 c45
          refine g_sub (L' := [(0, vR (some 99)), (1, vI x1), (2, vI x2), (3, vI x3), (5, vI x5), (6, vI (if (u2 i 99 21 0) 99 19 < (u2 i 99 21 0) 99 20 then (u2 i 99 21 0) 101 (320 + ((u2 i 99 21 0) 99 19)) else 0)), (7, vL r38), (9, vI (i38 99 21))]) [3, 4, 5, 6, 7, 2, 1, 0] rfl ?_
          exact h
set_option maxRecDepth 20000 in
theorem s_X12_told_141 {w : Wd} {d : Nat} {P : Int → IM → LM → Prop} {i : IM} {l : LM} (x1 : Int) (x2 : Int) (x3 : Int) (x5 : Int) (x6 : Int) (x7 : Int64) (x9 : Int)  (h : (((i 99 21 = 0) → rg x9) ∧ ((i 99 21 = 0) → (x9 = 0) → rg x6) ∧ ((i 99 21 = 0) → (x9 = 0) → rg x1) ∧ (((i 99 21 = 0) ∧ ((x9 = 0) ∧ (x6 = x1))) → ((rg ((i 99 19) + 1)) ∧ gI w d X_X12_told P (u2 i 99 19 ((i 99 19) + 1)) l 61 [(0, vR (some 99)), (1, vI x1), (2, vI x2), (3, vI x3), (5, vI (if (i2l x2 ≤ x7) then (if (x7 ≤ i2l x3) then l2i x7 else x3) else x2))] [])) ∧ ((¬ ((i 99 21 = 0) ∧ ((x9 = 0) ∧ (x6 = x1)))) → gI w d X_X12_told P i l 175 [(0, vR (some 99)), (1, vI x1), (2, vI x2), (3, vI x3), (5, vI x5), (7, vL x7)] []))) : gI w d X_X12_told P i l 141 [(0, vR (some 99)), (1, vI x1), (2, vI x2), (3, vI x3), (5, vI x5), (6, vI x6), (7, vL x7), (9, vI x9)] [] := by
  refine g_iconst (pc' := 142) dX12_told_141 rfl ?_
  refine g_goto (tgt := 146) dX12_told_142 rfl ?_
  refine g_istore (pc' := 148) (L' := [(10, vI 1), (0, vR (some 99)), (1, vI x1), (2, vI x2), (3, vI x3), (5, vI x5), (6, vI x6), (7, vL x7), (9, vI x9)]) dX12_told_146 rfl (Nat.le_of_ble_eq_true rfl) rfl ?_
  refine g_iload (pc' := 150) 0 dX12_told_148 rfl rfl ?_
  refine g_if_eq (tgt := 175) (pc' := 153) (rg_lit rfl) Iff.rfl dX12_told_150 rfl rfl (fun c => absurd c (by decide)) (fun _ => ?_)
  refine g_aload_n (pc' := 154) 1 dX12_told_153 rfl rfl ?_
  refine g_getI (pc' := 157) (z := 21) rfl fl_X12_263 rfl rfl dX12_told_154 rfl (fun rg54 => ?_)
  obtain ⟨hob57, hob59, hob60, hk67, hk68⟩ := h
  have hk67g : ((i 99 21 = 0) ∧ ((x9 = 0) ∧ (x6 = x1))) → gI w d X_X12_told P i l 176 [(10, vI 1), (0, vR (some 99)), (1, vI x1), (2, vI x2), (3, vI x3), (5, vI x5), (6, vI x6), (7, vL x7), (9, vI x9)] [vI 1] := by
    intro hp
    have h := hk67 hp
    obtain ⟨ob63, h⟩ := h
    refine g_istore (pc' := 178) (L' := [(10, vI 1), (0, vR (some 99)), (1, vI x1), (2, vI x2), (3, vI x3), (5, vI x5), (6, vI x6), (7, vL x7), (9, vI x9)]) dX12_told_176 rfl (Nat.le_of_ble_eq_true rfl) rfl ?_
    refine g_aload_n (pc' := 179) 1 dX12_told_178 rfl rfl ?_
    refine g_dup (pc' := 180) dX12_told_179 rfl rfl ?_
    refine g_getI (pc' := 183) (z := 19) rfl fl_X12_253 rfl rfl dX12_told_180 rfl (fun rg62 => ?_)
    refine g_iconst (pc' := 184) dX12_told_183 rfl ?_
    refine g_iadd (pc' := 185) dX12_told_184 rfl ?_
    refine g_putI (pc' := 188) (z := 19) rfl fp_X12_253 rfl rfl ob63 dX12_told_185 rfl ?_
    refine g_iload (pc' := 190) 0 dX12_told_188 rfl rfl ?_
    refine g_if_eq (tgt := 222) (pc' := 193) (rg_lit rfl) Iff.rfl dX12_told_190 rfl rfl (fun c => absurd c (by decide)) (fun _ => ?_)
    refine g_lload (pc' := 195) 7 dX12_told_193 rfl rfl ?_
    refine g_iload_n (pc' := 196) 3 dX12_told_195 rfl rfl ?_
    refine g_i2l (pc' := 197) dX12_told_196 rfl ?_
    refine g_lcmp (pc' := 198) dX12_told_197 rfl ?_
    have hJ : gI w d X_X12_told P (u2 i 99 19 ((i 99 19) + 1)) l 220 [(10, vI 1), (0, vR (some 99)), (1, vI x1), (2, vI x2), (3, vI x3), (5, vI x5), (6, vI x6), (7, vL x7), (9, vI x9)] [vI (if (i2l x2 ≤ x7) then (if (x7 ≤ i2l x3) then l2i x7 else x3) else x2)] := by
      refine g_istore (pc' := 222) (L' := [(5, vI (if (i2l x2 ≤ x7) then (if (x7 ≤ i2l x3) then l2i x7 else x3) else x2)), (10, vI 1), (0, vR (some 99)), (1, vI x1), (2, vI x2), (3, vI x3), (6, vI x6), (7, vL x7), (9, vI x9)]) dX12_told_220 rfl (Nat.le_of_ble_eq_true rfl) rfl ?_
      refine g_goto (tgt := 61) dX12_told_222 rfl ?_
      refine g_sub (L' := [(0, vR (some 99)), (1, vI x1), (2, vI x2), (3, vI x3), (5, vI (if (i2l x2 ≤ x7) then (if (x7 ≤ i2l x3) then l2i x7 else x3) else x2))]) [2, 3, 4, 5, 0] rfl ?_
      exact h
    refine g_if_ge (tgt := 205) (pc' := 201) (rg_lcmpI _ _) (lcmpI_ge _ _) dX12_told_198 rfl rfl (fun c65 => ?_) (fun c65 => ?_)
    · refine g_lload (pc' := 207) 7 dX12_told_205 rfl rfl ?_
      refine g_iload_n (pc' := 208) 4 dX12_told_207 rfl rfl ?_
      refine g_i2l (pc' := 209) dX12_told_208 rfl ?_
      refine g_lcmp (pc' := 210) dX12_told_209 rfl ?_
      refine g_if_le (tgt := 217) (pc' := 213) (rg_lcmpI _ _) (lcmpI_le _ _) dX12_told_210 rfl rfl (fun c66 => ?_) (fun c66 => ?_)
      · refine g_lload (pc' := 219) 7 dX12_told_217 rfl rfl ?_
        refine g_l2i (pc' := 220) dX12_told_219 rfl ?_
        rw [if_pos c65 (α := Int) (t := (if (x7 ≤ i2l x3) then l2i x7 else x3)) (e := x2), if_pos c66 (α := Int) (t := l2i x7) (e := x3)] at hJ
        exact hJ
      · refine g_iload_n (pc' := 214) 4 dX12_told_213 rfl rfl ?_
        refine g_goto (tgt := 220) dX12_told_214 rfl ?_
        rw [if_pos c65 (α := Int) (t := (if (x7 ≤ i2l x3) then l2i x7 else x3)) (e := x2), if_neg c66 (α := Int) (t := l2i x7) (e := x3)] at hJ
        exact hJ
    · refine g_iload_n (pc' := 202) 3 dX12_told_201 rfl rfl ?_
      refine g_goto (tgt := 220) dX12_told_202 rfl ?_
      rw [if_neg c65 (α := Int) (t := (if (x7 ≤ i2l x3) then l2i x7 else x3)) (e := x2)] at hJ
      exact hJ
  have hk68g : (¬ ((i 99 21 = 0) ∧ ((x9 = 0) ∧ (x6 = x1)))) → gI w d X_X12_told P i l 175 [(10, vI 1), (0, vR (some 99)), (1, vI x1), (2, vI x2), (3, vI x3), (5, vI x5), (6, vI x6), (7, vL x7), (9, vI x9)] [] := by
    intro hp
    have h := hk68 hp
    refine g_sub (L' := [(0, vR (some 99)), (1, vI x1), (2, vI x2), (3, vI x3), (5, vI x5), (7, vL x7)]) [1, 2, 3, 4, 5, 7] rfl ?_
    exact h
  refine g_if_ne (tgt := 175) (pc' := 160) rg54 Iff.rfl dX12_told_157 rfl rfl (fun c56 => ?_) (fun c56 => ?_)
  · exact hk68g (fun q => c56 q.1)
  · refine g_iload (pc' := 162) 8 dX12_told_160 rfl rfl ?_
    refine g_if_ne (tgt := 175) (pc' := 165) (hob57 c56) Iff.rfl dX12_told_162 rfl rfl (fun c58 => ?_) (fun c58 => ?_)
    · exact hk68g (fun q => (fun q => c58 q.1) q.2)
    · refine g_iload (pc' := 167) 6 dX12_told_165 rfl rfl ?_
      refine g_iload_n (pc' := 168) 2 dX12_told_167 rfl rfl ?_
      refine g_icmp_ne (tgt := 175) (pc' := 171) (hob59 c56 c58) (hob60 c56 c58) Iff.rfl dX12_told_168 rfl rfl (fun c61 => ?_) (fun c61 => ?_)
      · exact hk68g (fun q => (fun q => c61 q.2) q.2)
      · refine g_iconst (pc' := 172) dX12_told_171 rfl ?_
        refine g_goto (tgt := 176) dX12_told_172 rfl ?_
        exact hk67g ⟨c56, ⟨c58, c61⟩⟩
set_option maxRecDepth 20000 in
theorem s_X12_told_175 {w : Wd} {d : Nat} {P : Int → IM → LM → Prop} {i : IM} {l : LM} (x1 : Int) (x2 : Int) (x3 : Int) (x5 : Int) (x7 : Int64)  (h : ((rg ((i 99 19) + 1)) ∧ gI w d X_X12_told P (u2 i 99 19 ((i 99 19) + 1)) l 61 [(0, vR (some 99)), (1, vI x1), (2, vI x2), (3, vI x3), (5, vI x5)] [])) : gI w d X_X12_told P i l 175 [(0, vR (some 99)), (1, vI x1), (2, vI x2), (3, vI x3), (5, vI x5), (7, vL x7)] [] := by
  obtain ⟨ob70, h⟩ := h
  refine g_iconst (pc' := 176) dX12_told_175 rfl ?_
  refine g_istore (pc' := 178) (L' := [(10, vI 0), (0, vR (some 99)), (1, vI x1), (2, vI x2), (3, vI x3), (5, vI x5), (7, vL x7)]) dX12_told_176 rfl (Nat.le_of_ble_eq_true rfl) rfl ?_
  refine g_aload_n (pc' := 179) 1 dX12_told_178 rfl rfl ?_
  refine g_dup (pc' := 180) dX12_told_179 rfl rfl ?_
  refine g_getI (pc' := 183) (z := 19) rfl fl_X12_253 rfl rfl dX12_told_180 rfl (fun rg69 => ?_)
  refine g_iconst (pc' := 184) dX12_told_183 rfl ?_
  refine g_iadd (pc' := 185) dX12_told_184 rfl ?_
  refine g_putI (pc' := 188) (z := 19) rfl fp_X12_253 rfl rfl ob70 dX12_told_185 rfl ?_
  refine g_iload (pc' := 190) 0 dX12_told_188 rfl rfl ?_
  refine g_if_eq (tgt := 222) (pc' := 193) (rg_lit rfl) Iff.rfl dX12_told_190 rfl rfl (fun _ => ?_) (fun c => absurd (by decide) c)
  refine g_goto (tgt := 61) dX12_told_222 rfl ?_
  refine g_sub (L' := [(0, vR (some 99)), (1, vI x1), (2, vI x2), (3, vI x3), (5, vI x5)]) [1, 2, 3, 4, 5] rfl ?_
  exact h

theorem dX12_asksOf_0 : decode cX12_asksOf 0 = .ok (.aload_n 0, 1) := by decide +kernel
theorem dX12_asksOf_1 : decode cX12_asksOf 1 = .ok (.getfield 52, 3) := by decide +kernel
theorem dX12_asksOf_4 : decode cX12_asksOf 4 = .ok (.iconst 0, 1) := by decide +kernel
theorem dX12_asksOf_5 : decode cX12_asksOf 5 = .ok (.iload_n 1, 1) := by decide +kernel
theorem dX12_asksOf_6 : decode cX12_asksOf 6 = .ok (.iastore, 1) := by decide +kernel
theorem dX12_asksOf_7 : decode cX12_asksOf 7 = .ok (.aload_n 0, 1) := by decide +kernel
theorem dX12_asksOf_8 : decode cX12_asksOf 8 = .ok (.getfield 52, 3) := by decide +kernel
theorem dX12_asksOf_11 : decode cX12_asksOf 11 = .ok (.iconst 1, 1) := by decide +kernel
theorem dX12_asksOf_12 : decode cX12_asksOf 12 = .ok (.iload_n 2, 1) := by decide +kernel
theorem dX12_asksOf_13 : decode cX12_asksOf 13 = .ok (.iastore, 1) := by decide +kernel
theorem dX12_asksOf_14 : decode cX12_asksOf 14 = .ok (.aload_n 0, 1) := by decide +kernel
theorem dX12_asksOf_15 : decode cX12_asksOf 15 = .ok (.getfield 52, 3) := by decide +kernel
theorem dX12_asksOf_18 : decode cX12_asksOf 18 = .ok (.iconst 2, 1) := by decide +kernel
theorem dX12_asksOf_19 : decode cX12_asksOf 19 = .ok (.iload_n 3, 1) := by decide +kernel
theorem dX12_asksOf_20 : decode cX12_asksOf 20 = .ok (.iastore, 1) := by decide +kernel
theorem dX12_asksOf_21 : decode cX12_asksOf 21 = .ok (.aload_n 0, 1) := by decide +kernel
theorem dX12_asksOf_22 : decode cX12_asksOf 22 = .ok (.getfield 52, 3) := by decide +kernel
theorem dX12_asksOf_25 : decode cX12_asksOf 25 = .ok (.iconst 3, 1) := by decide +kernel
theorem dX12_asksOf_26 : decode cX12_asksOf 26 = .ok (.iload 4, 2) := by decide +kernel
theorem dX12_asksOf_28 : decode cX12_asksOf 28 = .ok (.iastore, 1) := by decide +kernel
theorem dX12_asksOf_29 : decode cX12_asksOf 29 = .ok (.aload_n 0, 1) := by decide +kernel
theorem dX12_asksOf_30 : decode cX12_asksOf 30 = .ok (.getfield 52, 3) := by decide +kernel
theorem dX12_asksOf_33 : decode cX12_asksOf 33 = .ok (.iconst 4, 1) := by decide +kernel
theorem dX12_asksOf_34 : decode cX12_asksOf 34 = .ok (.iload 5, 2) := by decide +kernel
theorem dX12_asksOf_36 : decode cX12_asksOf 36 = .ok (.iastore, 1) := by decide +kernel
theorem dX12_asksOf_37 : decode cX12_asksOf 37 = .ok (.aload_n 0, 1) := by decide +kernel
theorem dX12_asksOf_38 : decode cX12_asksOf 38 = .ok (.getfield 52, 3) := by decide +kernel
theorem dX12_asksOf_41 : decode cX12_asksOf 41 = .ok (.iconst 5, 1) := by decide +kernel
theorem dX12_asksOf_42 : decode cX12_asksOf 42 = .ok (.iload 6, 2) := by decide +kernel
theorem dX12_asksOf_44 : decode cX12_asksOf 44 = .ok (.iastore, 1) := by decide +kernel
theorem dX12_asksOf_45 : decode cX12_asksOf 45 = .ok (.aload_n 0, 1) := by decide +kernel
theorem dX12_asksOf_46 : decode cX12_asksOf 46 = .ok (.getfield 52, 3) := by decide +kernel
theorem dX12_asksOf_49 : decode cX12_asksOf 49 = .ok (.bipush 6, 2) := by decide +kernel
theorem dX12_asksOf_51 : decode cX12_asksOf 51 = .ok (.iload 7, 2) := by decide +kernel
theorem dX12_asksOf_53 : decode cX12_asksOf 53 = .ok (.iastore, 1) := by decide +kernel
theorem dX12_asksOf_54 : decode cX12_asksOf 54 = .ok (.aload_n 0, 1) := by decide +kernel
theorem dX12_asksOf_55 : decode cX12_asksOf 55 = .ok (.getfield 52, 3) := by decide +kernel
theorem dX12_asksOf_58 : decode cX12_asksOf 58 = .ok (.bipush 7, 2) := by decide +kernel
theorem dX12_asksOf_60 : decode cX12_asksOf 60 = .ok (.iload 8, 2) := by decide +kernel
theorem dX12_asksOf_62 : decode cX12_asksOf 62 = .ok (.iastore, 1) := by decide +kernel
theorem dX12_asksOf_63 : decode cX12_asksOf 63 = .ok (.aload_n 0, 1) := by decide +kernel
theorem dX12_asksOf_64 : decode cX12_asksOf 64 = .ok (.getfield 52, 3) := by decide +kernel
theorem dX12_asksOf_67 : decode cX12_asksOf 67 = .ok (.bipush 8, 2) := by decide +kernel
theorem dX12_asksOf_69 : decode cX12_asksOf 69 = .ok (.iload 9, 2) := by decide +kernel
theorem dX12_asksOf_71 : decode cX12_asksOf 71 = .ok (.iastore, 1) := by decide +kernel
theorem dX12_asksOf_72 : decode cX12_asksOf 72 = .ok (.return_, 1) := by decide +kernel
set_option maxRecDepth 20000 in
theorem s_X12_asksOf {w : Wd} {d : Nat} {P : IM → LM → Prop} {i : IM} {l : LM} (p0 : Int) (p1 : Int) (p2 : Int) (p3 : Int) (p4 : Int) (p5 : Int) (p6 : Int) (p7 : Int) (p8 : Int)  (h : ((rg p0) ∧ (rg p1) ∧ (rg p2) ∧ (rg p3) ∧ (rg p4) ∧ (rg p5) ∧ (rg p6) ∧ (rg p7) ∧ (rg p8) ∧ P (u2 (u2 (u2 (u2 (u2 (u2 (u2 (u2 (u2 i 110 0 p0) 110 1 p1) 110 2 p2) 110 3 p3) 110 4 p4) 110 5 p5) 110 6 p6) 110 7 p7) 110 8 p8) l)) : gV w d X_X12_asksOf P i l 0 [(0, vR (some 99)), (1, vI p0), (2, vI p1), (3, vI p2), (4, vI p3), (5, vI p4), (6, vI p5), (7, vI p6), (8, vI p7), (9, vI p8)] [] := by
  obtain ⟨ob1, ob2, ob3, ob4, ob5, ob6, ob7, ob8, ob9, h⟩ := h
  refine g_aload_n (pc' := 1) 0 dX12_asksOf_0 rfl rfl ?_
  refine g_getR (pc' := 4) (o := some 110) fl_X12_52 rfl rfl rfl dX12_asksOf_1 rfl ?_
  refine g_iconst (pc' := 5) dX12_asksOf_4 rfl ?_
  refine g_iload_n (pc' := 6) 1 dX12_asksOf_5 rfl rfl ?_
  refine g_iast (pc' := 7) (N := 9) rfl rfl (Nat.lt_of_lt_of_le (Nat.lt_succ_self _) (Nat.le_of_ble_eq_true rfl)) (by decide) ob1 dX12_asksOf_6 rfl ?_
  refine g_aload_n (pc' := 8) 0 dX12_asksOf_7 rfl rfl ?_
  refine g_getR (pc' := 11) (o := some 110) fl_X12_52 rfl rfl rfl dX12_asksOf_8 rfl ?_
  refine g_iconst (pc' := 12) dX12_asksOf_11 rfl ?_
  refine g_iload_n (pc' := 13) 2 dX12_asksOf_12 rfl rfl ?_
  refine g_iast (pc' := 14) (N := 9) rfl rfl (Nat.lt_of_lt_of_le (Nat.lt_succ_self _) (Nat.le_of_ble_eq_true rfl)) (by decide) ob2 dX12_asksOf_13 rfl ?_
  refine g_aload_n (pc' := 15) 0 dX12_asksOf_14 rfl rfl ?_
  refine g_getR (pc' := 18) (o := some 110) fl_X12_52 rfl rfl rfl dX12_asksOf_15 rfl ?_
  refine g_iconst (pc' := 19) dX12_asksOf_18 rfl ?_
  refine g_iload_n (pc' := 20) 3 dX12_asksOf_19 rfl rfl ?_
  refine g_iast (pc' := 21) (N := 9) rfl rfl (Nat.lt_of_lt_of_le (Nat.lt_succ_self _) (Nat.le_of_ble_eq_true rfl)) (by decide) ob3 dX12_asksOf_20 rfl ?_
  refine g_aload_n (pc' := 22) 0 dX12_asksOf_21 rfl rfl ?_
  refine g_getR (pc' := 25) (o := some 110) fl_X12_52 rfl rfl rfl dX12_asksOf_22 rfl ?_
  refine g_iconst (pc' := 26) dX12_asksOf_25 rfl ?_
  refine g_iload (pc' := 28) 4 dX12_asksOf_26 rfl rfl ?_
  refine g_iast (pc' := 29) (N := 9) rfl rfl (Nat.lt_of_lt_of_le (Nat.lt_succ_self _) (Nat.le_of_ble_eq_true rfl)) (by decide) ob4 dX12_asksOf_28 rfl ?_
  refine g_aload_n (pc' := 30) 0 dX12_asksOf_29 rfl rfl ?_
  refine g_getR (pc' := 33) (o := some 110) fl_X12_52 rfl rfl rfl dX12_asksOf_30 rfl ?_
  refine g_iconst (pc' := 34) dX12_asksOf_33 rfl ?_
  refine g_iload (pc' := 36) 5 dX12_asksOf_34 rfl rfl ?_
  refine g_iast (pc' := 37) (N := 9) rfl rfl (Nat.lt_of_lt_of_le (Nat.lt_succ_self _) (Nat.le_of_ble_eq_true rfl)) (by decide) ob5 dX12_asksOf_36 rfl ?_
  refine g_aload_n (pc' := 38) 0 dX12_asksOf_37 rfl rfl ?_
  refine g_getR (pc' := 41) (o := some 110) fl_X12_52 rfl rfl rfl dX12_asksOf_38 rfl ?_
  refine g_iconst (pc' := 42) dX12_asksOf_41 rfl ?_
  refine g_iload (pc' := 44) 6 dX12_asksOf_42 rfl rfl ?_
  refine g_iast (pc' := 45) (N := 9) rfl rfl (Nat.lt_of_lt_of_le (Nat.lt_succ_self _) (Nat.le_of_ble_eq_true rfl)) (by decide) ob6 dX12_asksOf_44 rfl ?_
  refine g_aload_n (pc' := 46) 0 dX12_asksOf_45 rfl rfl ?_
  refine g_getR (pc' := 49) (o := some 110) fl_X12_52 rfl rfl rfl dX12_asksOf_46 rfl ?_
  refine g_bipush (pc' := 51) dX12_asksOf_49 rfl rfl ?_
  refine g_iload (pc' := 53) 7 dX12_asksOf_51 rfl rfl ?_
  refine g_iast (pc' := 54) (N := 9) rfl rfl (Nat.lt_of_lt_of_le (Nat.lt_succ_self _) (Nat.le_of_ble_eq_true rfl)) (by decide) ob7 dX12_asksOf_53 rfl ?_
  refine g_aload_n (pc' := 55) 0 dX12_asksOf_54 rfl rfl ?_
  refine g_getR (pc' := 58) (o := some 110) fl_X12_52 rfl rfl rfl dX12_asksOf_55 rfl ?_
  refine g_bipush (pc' := 60) dX12_asksOf_58 rfl rfl ?_
  refine g_iload (pc' := 62) 8 dX12_asksOf_60 rfl rfl ?_
  refine g_iast (pc' := 63) (N := 9) rfl rfl (Nat.lt_of_lt_of_le (Nat.lt_succ_self _) (Nat.le_of_ble_eq_true rfl)) (by decide) ob8 dX12_asksOf_62 rfl ?_
  refine g_aload_n (pc' := 64) 0 dX12_asksOf_63 rfl rfl ?_
  refine g_getR (pc' := 67) (o := some 110) fl_X12_52 rfl rfl rfl dX12_asksOf_64 rfl ?_
  refine g_bipush (pc' := 69) dX12_asksOf_67 rfl rfl ?_
  refine g_iload (pc' := 71) 9 dX12_asksOf_69 rfl rfl ?_
  refine g_iast (pc' := 72) (N := 9) rfl rfl (Nat.lt_of_lt_of_le (Nat.lt_succ_self _) (Nat.le_of_ble_eq_true rfl)) (by decide) ob9 dX12_asksOf_71 rfl ?_
  exact g_retV rfl dX12_asksOf_72 h
theorem e_X12_asksOf {w : Wd} {d : Nat} {P : IM → LM → Prop} {i : IM} {l : LM} {p0 : Int} {p1 : Int} {p2 : Int} {p3 : Int} {p4 : Int} {p5 : Int} {p6 : Int} {p7 : Int} {p8 : Int}  (h : gV w d X_X12_asksOf P i l 0 [(0, vR (some 99)), (1, vI p0), (2, vI p1), (3, vI p2), (4, vI p3), (5, vI p4), (6, vI p5), (7, vI p6), (8, vI p7), (9, vI p8)] []) : cVd w (d + 1) X_X12_asksOf [vR (some 99), vI p0, vI p1, vI p2, vI p3, vI p4, vI p5, vI p6, vI p7, vI p8] i l P := CV_of (by decide +kernel) (Nat.le_of_ble_eq_true rfl) h

theorem dX12_limitOf_0 : decode cX12_limitOf 0 = .ok (.aload_n 0, 1) := by decide +kernel
theorem dX12_limitOf_1 : decode cX12_limitOf 1 = .ok (.iload_n 1, 1) := by decide +kernel
theorem dX12_limitOf_2 : decode cX12_limitOf 2 = .ok (.iconst 0, 1) := by decide +kernel
theorem dX12_limitOf_3 : decode cX12_limitOf 3 = .ok (.iconst 0, 1) := by decide +kernel
theorem dX12_limitOf_4 : decode cX12_limitOf 4 = .ok (.iconst 0, 1) := by decide +kernel
theorem dX12_limitOf_5 : decode cX12_limitOf 5 = .ok (.iconst 0, 1) := by decide +kernel
theorem dX12_limitOf_6 : decode cX12_limitOf 6 = .ok (.iload_n 2, 1) := by decide +kernel
theorem dX12_limitOf_7 : decode cX12_limitOf 7 = .ok (.iload_n 3, 1) := by decide +kernel
theorem dX12_limitOf_8 : decode cX12_limitOf 8 = .ok (.iconst 0, 1) := by decide +kernel
theorem dX12_limitOf_9 : decode cX12_limitOf 9 = .ok (.iconst 0, 1) := by decide +kernel
theorem dX12_limitOf_10 : decode cX12_limitOf 10 = .ok (.invokevirtual 297, 3) := by decide +kernel
theorem dX12_limitOf_13 : decode cX12_limitOf 13 = .ok (.aload_n 0, 1) := by decide +kernel
theorem dX12_limitOf_14 : decode cX12_limitOf 14 = .ok (.iconst 1, 1) := by decide +kernel
theorem dX12_limitOf_15 : decode cX12_limitOf 15 = .ok (.iconst 0, 1) := by decide +kernel
theorem dX12_limitOf_16 : decode cX12_limitOf 16 = .ok (.bipush 8, 2) := by decide +kernel
theorem dX12_limitOf_18 : decode cX12_limitOf 18 = .ok (.iconst 3, 1) := by decide +kernel
theorem dX12_limitOf_19 : decode cX12_limitOf 19 = .ok (.invokevirtual 301, 3) := by decide +kernel
theorem dX12_limitOf_22 : decode cX12_limitOf 22 = .ok (.ireturn, 1) := by decide +kernel
set_option maxRecDepth 20000 in
theorem s_X12_limitOf {w : Wd} {d : Nat} {P : Int → IM → LM → Prop} {i : IM} {l : LM} (p0 : Int) (p1 : Int) (p2 : Int)  (h : cVd w d X_X12_asksOf [vR (some 99), vI p0, vI 0, vI 0, vI 0, vI 0, vI p1, vI p2, vI 0, vI 0] i l (fun i1 l1 => cI w d X_X12_told [vR (some 99), vI 1, vI 0, vI 8, vI 3] i1 l1 (fun r2 i2 l2 => P r2 i2 l2))) : gI w d X_X12_limitOf P i l 0 [(0, vR (some 99)), (1, vI p0), (2, vI p1), (3, vI p2)] [] := by
  refine g_aload_n (pc' := 1) 0 dX12_limitOf_0 rfl rfl ?_
  refine g_iload_n (pc' := 2) 1 dX12_limitOf_1 rfl rfl ?_
  refine g_iconst (pc' := 3) dX12_limitOf_2 rfl ?_
  refine g_iconst (pc' := 4) dX12_limitOf_3 rfl ?_
  refine g_iconst (pc' := 5) dX12_limitOf_4 rfl ?_
  refine g_iconst (pc' := 6) dX12_limitOf_5 rfl ?_
  refine g_iload_n (pc' := 7) 2 dX12_limitOf_6 rfl rfl ?_
  refine g_iload_n (pc' := 8) 3 dX12_limitOf_7 rfl rfl ?_
  refine g_iconst (pc' := 9) dX12_limitOf_8 rfl ?_
  refine g_iconst (pc' := 10) dX12_limitOf_9 rfl ?_
  refine g_cVV (pc' := 13) (vs := [vI p0, vI 0, vI 0, vI 0, vI 0, vI p1, vI p2, vI 0, vI 0]) (st := []) (c := 12) h mv_X12_asksOf lk_X12_297 rfl rfl rfl rfl (Nat.le_of_ble_eq_true rfl) (Nat.le_of_ble_eq_true rfl) rfl dX12_limitOf_10 rfl z2 (fun i1 l1 h => ?_)
  refine g_aload_n (pc' := 14) 0 dX12_limitOf_13 rfl rfl ?_
  refine g_iconst (pc' := 15) dX12_limitOf_14 rfl ?_
  refine g_iconst (pc' := 16) dX12_limitOf_15 rfl ?_
  refine g_bipush (pc' := 18) dX12_limitOf_16 rfl rfl ?_
  refine g_iconst (pc' := 19) dX12_limitOf_18 rfl ?_
  refine g_cVI (pc' := 22) (vs := [vI 1, vI 0, vI 8, vI 3]) (st := []) (c := 12) h mv_X12_told lk_X12_301 rfl rfl rfl rfl (Nat.le_of_ble_eq_true rfl) (Nat.le_of_ble_eq_true rfl) rfl dX12_limitOf_19 rfl z2 (fun r2 i2 l2 rg2 h => ?_)
  exact g_retI rfl rg2 dX12_limitOf_22 h
theorem e_X12_limitOf {w : Wd} {d : Nat} {P : Int → IM → LM → Prop} {i : IM} {l : LM} {p0 : Int} {p1 : Int} {p2 : Int}  (h : gI w d X_X12_limitOf P i l 0 [(0, vR (some 99)), (1, vI p0), (2, vI p1), (3, vI p2)] []) : cI w (d + 1) X_X12_limitOf [vR (some 99), vI p0, vI p1, vI p2] i l P := CI_of (by decide +kernel) (Nat.le_of_ble_eq_true rfl) h

theorem dX12_priceOf_0 : decode cX12_priceOf 0 = .ok (.aload_n 0, 1) := by decide +kernel
theorem dX12_priceOf_1 : decode cX12_priceOf 1 = .ok (.iconst 0, 1) := by decide +kernel
theorem dX12_priceOf_2 : decode cX12_priceOf 2 = .ok (.iload_n 1, 1) := by decide +kernel
theorem dX12_priceOf_3 : decode cX12_priceOf 3 = .ok (.iconst 0, 1) := by decide +kernel
theorem dX12_priceOf_4 : decode cX12_priceOf 4 = .ok (.iload_n 2, 1) := by decide +kernel
theorem dX12_priceOf_5 : decode cX12_priceOf 5 = .ok (.aload_n 0, 1) := by decide +kernel
theorem dX12_priceOf_6 : decode cX12_priceOf 6 = .ok (.iload_n 1, 1) := by decide +kernel
theorem dX12_priceOf_7 : decode cX12_priceOf 7 = .ok (.iconst 0, 1) := by decide +kernel
theorem dX12_priceOf_8 : decode cX12_priceOf 8 = .ok (.invokevirtual 144, 3) := by decide +kernel
theorem dX12_priceOf_11 : decode cX12_priceOf 11 = .ok (.iconst 0, 1) := by decide +kernel
theorem dX12_priceOf_12 : decode cX12_priceOf 12 = .ok (.iconst 0, 1) := by decide +kernel
theorem dX12_priceOf_13 : decode cX12_priceOf 13 = .ok (.iconst 0, 1) := by decide +kernel
theorem dX12_priceOf_14 : decode cX12_priceOf 14 = .ok (.iconst 0, 1) := by decide +kernel
theorem dX12_priceOf_15 : decode cX12_priceOf 15 = .ok (.invokevirtual 297, 3) := by decide +kernel
theorem dX12_priceOf_18 : decode cX12_priceOf 18 = .ok (.aload_n 0, 1) := by decide +kernel
theorem dX12_priceOf_19 : decode cX12_priceOf 19 = .ok (.iconst 2, 1) := by decide +kernel
theorem dX12_priceOf_20 : decode cX12_priceOf 20 = .ok (.iconst 0, 1) := by decide +kernel
theorem dX12_priceOf_21 : decode cX12_priceOf 21 = .ok (.bipush 99, 2) := by decide +kernel
theorem dX12_priceOf_23 : decode cX12_priceOf 23 = .ok (.aload_n 0, 1) := by decide +kernel
theorem dX12_priceOf_24 : decode cX12_priceOf 24 = .ok (.iload_n 1, 1) := by decide +kernel
theorem dX12_priceOf_25 : decode cX12_priceOf 25 = .ok (.iconst 3, 1) := by decide +kernel
theorem dX12_priceOf_26 : decode cX12_priceOf 26 = .ok (.invokevirtual 144, 3) := by decide +kernel
theorem dX12_priceOf_29 : decode cX12_priceOf 29 = .ok (.invokevirtual 301, 3) := by decide +kernel
theorem dX12_priceOf_32 : decode cX12_priceOf 32 = .ok (.ireturn, 1) := by decide +kernel
set_option maxRecDepth 20000 in
theorem s_X12_priceOf {w : Wd} {d : Nat} {P : Int → IM → LM → Prop} {i : IM} {l : LM} (p0 : Int) (p1 : Int)  (hd : 1 ≤ d) (h : ((0 ≤ 8 * p0 + 0 ∧ 8 * p0 + 0 < 5120) ∧ cVd w d X_X12_asksOf [vR (some 99), vI 0, vI p0, vI 0, vI p1, vI (i 101 (8 * p0 + 0)), vI 0, vI 0, vI 0, vI 0] i l (fun i3 l3 => ((0 ≤ 8 * p0 + 3 ∧ 8 * p0 + 3 < 5120) ∧ cI w d X_X12_told [vR (some 99), vI 2, vI 0, vI 99, vI (i3 101 (8 * p0 + 3))] i3 l3 (fun r6 i6 l6 => P r6 i6 l6))))) : gI w d X_X12_priceOf P i l 0 [(0, vR (some 99)), (1, vI p0), (2, vI p1)] [] := by
  obtain ⟨ob1, h⟩ := h
  refine g_aload_n (pc' := 1) 0 dX12_priceOf_0 rfl rfl ?_
  refine g_iconst (pc' := 2) dX12_priceOf_1 rfl ?_
  refine g_iload_n (pc' := 3) 1 dX12_priceOf_2 rfl rfl ?_
  refine g_iconst (pc' := 4) dX12_priceOf_3 rfl ?_
  refine g_iload_n (pc' := 5) 2 dX12_priceOf_4 rfl rfl ?_
  refine g_aload_n (pc' := 6) 0 dX12_priceOf_5 rfl rfl ?_
  refine g_iload_n (pc' := 7) 1 dX12_priceOf_6 rfl rfl ?_
  refine g_iconst (pc' := 8) dX12_priceOf_7 rfl ?_
  refine g_pVI (pc' := 11) (vs := [vI p0, vI 0]) (st := [vI p1, vI 0, vI p0, vI 0, vR (some 99)]) (val := i 101 (8 * p0 + 0)) (c := 12) (sp_X12_thingOf (le_hd hd rfl) ob1) mv_X12_thingOf lk_X12_144 rfl rfl rfl rfl (Nat.le_of_ble_eq_true rfl) (Nat.le_of_ble_eq_true rfl) rfl dX12_priceOf_8 rfl z2 (fun rg2 => ?_)
  refine g_iconst (pc' := 12) dX12_priceOf_11 rfl ?_
  refine g_iconst (pc' := 13) dX12_priceOf_12 rfl ?_
  refine g_iconst (pc' := 14) dX12_priceOf_13 rfl ?_
  refine g_iconst (pc' := 15) dX12_priceOf_14 rfl ?_
  refine g_cVV (pc' := 18) (vs := [vI 0, vI p0, vI 0, vI p1, vI (i 101 (8 * p0 + 0)), vI 0, vI 0, vI 0, vI 0]) (st := []) (c := 12) h mv_X12_asksOf lk_X12_297 rfl rfl rfl rfl (Nat.le_of_ble_eq_true rfl) (Nat.le_of_ble_eq_true rfl) rfl dX12_priceOf_15 rfl z2 (fun i3 l3 h => ?_)
  obtain ⟨ob4, h⟩ := h
  refine g_aload_n (pc' := 19) 0 dX12_priceOf_18 rfl rfl ?_
  refine g_iconst (pc' := 20) dX12_priceOf_19 rfl ?_
  refine g_iconst (pc' := 21) dX12_priceOf_20 rfl ?_
  refine g_bipush (pc' := 23) dX12_priceOf_21 rfl rfl ?_
  refine g_aload_n (pc' := 24) 0 dX12_priceOf_23 rfl rfl ?_
  refine g_iload_n (pc' := 25) 1 dX12_priceOf_24 rfl rfl ?_
  refine g_iconst (pc' := 26) dX12_priceOf_25 rfl ?_
  refine g_pVI (pc' := 29) (vs := [vI p0, vI 3]) (st := [vI 99, vI 0, vI 2, vR (some 99)]) (val := i3 101 (8 * p0 + 3)) (c := 12) (sp_X12_thingOf (le_hd hd rfl) ob4) mv_X12_thingOf lk_X12_144 rfl rfl rfl rfl (Nat.le_of_ble_eq_true rfl) (Nat.le_of_ble_eq_true rfl) rfl dX12_priceOf_26 rfl z2 (fun rg5 => ?_)
  refine g_cVI (pc' := 32) (vs := [vI 2, vI 0, vI 99, vI (i3 101 (8 * p0 + 3))]) (st := []) (c := 12) h mv_X12_told lk_X12_301 rfl rfl rfl rfl (Nat.le_of_ble_eq_true rfl) (Nat.le_of_ble_eq_true rfl) rfl dX12_priceOf_29 rfl z2 (fun r6 i6 l6 rg6 h => ?_)
  exact g_retI rfl rg6 dX12_priceOf_32 h
theorem e_X12_priceOf {w : Wd} {d : Nat} {P : Int → IM → LM → Prop} {i : IM} {l : LM} {p0 : Int} {p1 : Int}  (h : gI w d X_X12_priceOf P i l 0 [(0, vR (some 99)), (1, vI p0), (2, vI p1)] []) : cI w (d + 1) X_X12_priceOf [vR (some 99), vI p0, vI p1] i l P := CI_of (by decide +kernel) (Nat.le_of_ble_eq_true rfl) h

theorem dX12_costs_0 : decode cX12_costs 0 = .ok (.aload_n 0, 1) := by decide +kernel
theorem dX12_costs_1 : decode cX12_costs 1 = .ok (.iload_n 1, 1) := by decide +kernel
theorem dX12_costs_2 : decode cX12_costs 2 = .ok (.invokevirtual 134, 3) := by decide +kernel
theorem dX12_costs_5 : decode cX12_costs 5 = .ok (.ifCond .eq 33, 3) := by decide +kernel
theorem dX12_costs_8 : decode cX12_costs 8 = .ok (.iload_n 2, 1) := by decide +kernel
theorem dX12_costs_9 : decode cX12_costs 9 = .ok (.invokestatic 127, 3) := by decide +kernel
theorem dX12_costs_12 : decode cX12_costs 12 = .ok (.ifCond .eq 26, 3) := by decide +kernel
theorem dX12_costs_15 : decode cX12_costs 15 = .ok (.iload_n 2, 1) := by decide +kernel
theorem dX12_costs_16 : decode cX12_costs 16 = .ok (.aload_n 0, 1) := by decide +kernel
theorem dX12_costs_17 : decode cX12_costs 17 = .ok (.iload_n 1, 1) := by decide +kernel
theorem dX12_costs_18 : decode cX12_costs 18 = .ok (.iconst 1, 1) := by decide +kernel
theorem dX12_costs_19 : decode cX12_costs 19 = .ok (.invokevirtual 144, 3) := by decide +kernel
theorem dX12_costs_22 : decode cX12_costs 22 = .ok (.if_icmp .ne 7, 3) := by decide +kernel
theorem dX12_costs_25 : decode cX12_costs 25 = .ok (.iconst 0, 1) := by decide +kernel
theorem dX12_costs_26 : decode cX12_costs 26 = .ok (.goto 13, 3) := by decide +kernel
theorem dX12_costs_29 : decode cX12_costs 29 = .ok (.aload_n 0, 1) := by decide +kernel
theorem dX12_costs_30 : decode cX12_costs 30 = .ok (.iload_n 1, 1) := by decide +kernel
theorem dX12_costs_31 : decode cX12_costs 31 = .ok (.iload_n 2, 1) := by decide +kernel
theorem dX12_costs_32 : decode cX12_costs 32 = .ok (.invokevirtual 305, 3) := by decide +kernel
theorem dX12_costs_35 : decode cX12_costs 35 = .ok (.goto 4, 3) := by decide +kernel
theorem dX12_costs_38 : decode cX12_costs 38 = .ok (.iconst (-1), 1) := by decide +kernel
theorem dX12_costs_39 : decode cX12_costs 39 = .ok (.ireturn, 1) := by decide +kernel
set_option maxRecDepth 20000 in
theorem s_X12_costs {w : Wd} {d : Nat} {P : Int → IM → LM → Prop} {i : IM} {l : LM} (p0 : Int) (p1 : Int)  (hd : 2 ≤ d) (h : ((rg p0) ∧ (rg (i 101 307 - 1)) ∧ (((0 ≤ p0 ∧ p0 < i 101 307) → rg p1) ∧ (((0 ≤ p0 ∧ p0 < i 101 307) ∧ (0 ≤ p1 ∧ p1 ≤ 7)) → ((0 ≤ 8 * p0 + 1 ∧ 8 * p0 + 1 < 5120) ∧ ((rg p1) ∧ ((p1 = i 101 (8 * p0 + 1)) → P 0 i l) ∧ ((¬ (p1 = i 101 (8 * p0 + 1))) → cI w d X_X12_priceOf [vR (some 99), vI p0, vI p1] i l (fun r37 i37 l37 => P r37 i37 l37))))) ∧ ((¬ ((0 ≤ p0 ∧ p0 < i 101 307) ∧ (0 ≤ p1 ∧ p1 ≤ 7))) → P (-1) i l)))) : gI w d X_X12_costs P i l 0 [(0, vR (some 99)), (1, vI p0), (2, vI p1)] [] := by
  obtain ⟨ob1, ob2, h⟩ := h
  refine g_aload_n (pc' := 1) 0 dX12_costs_0 rfl rfl ?_
  refine g_iload_n (pc' := 2) 1 dX12_costs_1 rfl rfl ?_
  refine g_pVI (pc' := 5) (vs := [vI p0]) (st := []) (val := bI (0 ≤ p0 ∧ p0 < i 101 307)) (c := 12) (sp_X12_isThing (le_hd hd rfl) ob1 ob2) mv_X12_isThing lk_X12_134 rfl rfl rfl rfl (Nat.le_of_ble_eq_true rfl) (Nat.le_of_ble_eq_true rfl) rfl dX12_costs_2 rfl z2 (fun rg3 => ?_)
  obtain ⟨hob27, hk40, hk41⟩ := h
  have hk40g : ((0 ≤ p0 ∧ p0 < i 101 307) ∧ (0 ≤ p1 ∧ p1 ≤ 7)) → gI w d X_X12_costs P i l 15 [(0, vR (some 99)), (1, vI p0), (2, vI p1)] [] := by
    intro hp
    have h := hk40 hp
    obtain ⟨ob32, h⟩ := h
    refine g_iload_n (pc' := 16) 2 dX12_costs_15 rfl rfl ?_
    refine g_aload_n (pc' := 17) 0 dX12_costs_16 rfl rfl ?_
    refine g_iload_n (pc' := 18) 1 dX12_costs_17 rfl rfl ?_
    refine g_iconst (pc' := 19) dX12_costs_18 rfl ?_
    refine g_pVI (pc' := 22) (vs := [vI p0, vI 1]) (st := [vI p1]) (val := i 101 (8 * p0 + 1)) (c := 12) (sp_X12_thingOf (le_hd hd rfl) ob32) mv_X12_thingOf lk_X12_144 rfl rfl rfl rfl (Nat.le_of_ble_eq_true rfl) (Nat.le_of_ble_eq_true rfl) rfl dX12_costs_19 rfl z2 (fun rg33 => ?_)
    obtain ⟨hob35, hk38, hk39⟩ := h
    refine g_icmp_ne (tgt := 29) (pc' := 25) (hob35) rg33 Iff.rfl dX12_costs_22 rfl rfl (fun c36 => ?_) (fun c36 => ?_)
    · have h := hk39 c36
      refine g_aload_n (pc' := 30) 0 dX12_costs_29 rfl rfl ?_
      refine g_iload_n (pc' := 31) 1 dX12_costs_30 rfl rfl ?_
      refine g_iload_n (pc' := 32) 2 dX12_costs_31 rfl rfl ?_
      refine g_cVI (pc' := 35) (vs := [vI p0, vI p1]) (st := []) (c := 12) h mv_X12_priceOf lk_X12_305 rfl rfl rfl rfl (Nat.le_of_ble_eq_true rfl) (Nat.le_of_ble_eq_true rfl) rfl dX12_costs_32 rfl z2 (fun r37 i37 l37 rg37 h => ?_)
      refine g_goto (tgt := 39) dX12_costs_35 rfl ?_
      exact g_retI rfl rg37 dX12_costs_39 h
    · refine g_iconst (pc' := 26) dX12_costs_25 rfl ?_
      refine g_goto (tgt := 39) dX12_costs_26 rfl ?_
      have h := hk38 c36
      exact g_retI rfl (rg_lit rfl) dX12_costs_39 h
  have hk41g : (¬ ((0 ≤ p0 ∧ p0 < i 101 307) ∧ (0 ≤ p1 ∧ p1 ≤ 7))) → gI w d X_X12_costs P i l 39 [(0, vR (some 99)), (1, vI p0), (2, vI p1)] [vI (-1)] := by
    intro hp
    have h := hk41 hp
    exact g_retI rfl (rg_lit rfl) dX12_costs_39 h
  refine g_if_eq (tgt := 38) (pc' := 8) rg3 (bI_eq _) dX12_costs_5 rfl rfl (fun c26 => ?_) (fun c26n => ?_)
  · refine g_iconst (pc' := 39) dX12_costs_38 rfl ?_
    exact hk41g (fun q => c26 q.1)
  · have c26 := Decidable.of_not_not c26n
    refine g_iload_n (pc' := 9) 2 dX12_costs_8 rfl rfl ?_
    refine g_pSI (pc' := 12) (vs := [vI p1]) (st := []) (val := bI (0 ≤ p1 ∧ p1 ≤ 7)) (sp_X12_isColour (le_hd hd rfl) (hob27 c26)) mk_X12_isColour ms_X12_isColour lk_X12_127 rfl (Nat.le_of_ble_eq_true rfl) (Nat.le_of_ble_eq_true rfl) rfl dX12_costs_9 rfl z2 (fun rg28 => ?_)
    refine g_if_eq (tgt := 38) (pc' := 15) rg28 (bI_eq _) dX12_costs_12 rfl rfl (fun c29 => ?_) (fun c29n => ?_)
    · refine g_iconst (pc' := 39) dX12_costs_38 rfl ?_
      exact hk41g (fun q => c29 q.2)
    · have c29 := Decidable.of_not_not c29n
      exact hk40g ⟨c26, c29⟩
theorem e_X12_costs {w : Wd} {d : Nat} {P : Int → IM → LM → Prop} {i : IM} {l : LM} {p0 : Int} {p1 : Int}  (h : gI w d X_X12_costs P i l 0 [(0, vR (some 99)), (1, vI p0), (2, vI p1)] []) : cI w (d + 1) X_X12_costs [vR (some 99), vI p0, vI p1] i l P := CI_of (by decide +kernel) (Nat.le_of_ble_eq_true rfl) h

theorem dX12_doesCount_0 : decode cX12_doesCount 0 = .ok (.aload_n 0, 1) := by decide +kernel
theorem dX12_doesCount_1 : decode cX12_doesCount 1 = .ok (.iconst 4, 1) := by decide +kernel
theorem dX12_doesCount_2 : decode cX12_doesCount 2 = .ok (.iconst 1, 1) := by decide +kernel
theorem dX12_doesCount_3 : decode cX12_doesCount 3 = .ok (.iconst 1, 1) := by decide +kernel
theorem dX12_doesCount_4 : decode cX12_doesCount 4 = .ok (.iconst 0, 1) := by decide +kernel
theorem dX12_doesCount_5 : decode cX12_doesCount 5 = .ok (.invokevirtual 301, 3) := by decide +kernel
theorem dX12_doesCount_8 : decode cX12_doesCount 8 = .ok (.ifCond .ne 18, 3) := by decide +kernel
theorem dX12_doesCount_11 : decode cX12_doesCount 11 = .ok (.aload_n 0, 1) := by decide +kernel
theorem dX12_doesCount_12 : decode cX12_doesCount 12 = .ok (.iconst 3, 1) := by decide +kernel
theorem dX12_doesCount_13 : decode cX12_doesCount 13 = .ok (.iconst 1, 1) := by decide +kernel
theorem dX12_doesCount_14 : decode cX12_doesCount 14 = .ok (.iconst 1, 1) := by decide +kernel
theorem dX12_doesCount_15 : decode cX12_doesCount 15 = .ok (.iconst 0, 1) := by decide +kernel
theorem dX12_doesCount_16 : decode cX12_doesCount 16 = .ok (.invokevirtual 301, 3) := by decide +kernel
theorem dX12_doesCount_19 : decode cX12_doesCount 19 = .ok (.ifCond .ne 7, 3) := by decide +kernel
theorem dX12_doesCount_22 : decode cX12_doesCount 22 = .ok (.iconst 1, 1) := by decide +kernel
theorem dX12_doesCount_23 : decode cX12_doesCount 23 = .ok (.goto 4, 3) := by decide +kernel
theorem dX12_doesCount_26 : decode cX12_doesCount 26 = .ok (.iconst 0, 1) := by decide +kernel
theorem dX12_doesCount_27 : decode cX12_doesCount 27 = .ok (.ireturn, 1) := by decide +kernel
set_option maxRecDepth 20000 in
theorem s_X12_doesCount {w : Wd} {d : Nat} {P : Int → IM → LM → Prop} {i : IM} {l : LM}   (h : cI w d X_X12_told [vR (some 99), vI 4, vI 1, vI 1, vI 0] i l (fun r1 i1 l1 => (((r1 = 0) → cI w d X_X12_told [vR (some 99), vI 3, vI 1, vI 1, vI 0] i1 l1 (fun r4 i4 l4 => P (bI (r4 = 0)) i4 l4)) ∧ ((¬ (r1 = 0)) → P 0 i1 l1)))) : gI w d X_X12_doesCount P i l 0 [(0, vR (some 99))] [] := by
  refine g_aload_n (pc' := 1) 0 dX12_doesCount_0 rfl rfl ?_
  refine g_iconst (pc' := 2) dX12_doesCount_1 rfl ?_
  refine g_iconst (pc' := 3) dX12_doesCount_2 rfl ?_
  refine g_iconst (pc' := 4) dX12_doesCount_3 rfl ?_
  refine g_iconst (pc' := 5) dX12_doesCount_4 rfl ?_
  refine g_cVI (pc' := 8) (vs := [vI 4, vI 1, vI 1, vI 0]) (st := []) (c := 12) h mv_X12_told lk_X12_301 rfl rfl rfl rfl (Nat.le_of_ble_eq_true rfl) (Nat.le_of_ble_eq_true rfl) rfl dX12_doesCount_5 rfl z2 (fun r1 i1 l1 rg1 h => ?_)
  obtain ⟨hk7, hk8⟩ := h
  refine g_if_ne (tgt := 26) (pc' := 11) rg1 Iff.rfl dX12_doesCount_8 rfl rfl (fun c3 => ?_) (fun c3 => ?_)
  · refine g_iconst (pc' := 27) dX12_doesCount_26 rfl ?_
    have h := hk8 c3
    exact g_retZ rfl (by decide) dX12_doesCount_27 h
  · have h := hk7 c3
    refine g_aload_n (pc' := 12) 0 dX12_doesCount_11 rfl rfl ?_
    refine g_iconst (pc' := 13) dX12_doesCount_12 rfl ?_
    refine g_iconst (pc' := 14) dX12_doesCount_13 rfl ?_
    refine g_iconst (pc' := 15) dX12_doesCount_14 rfl ?_
    refine g_iconst (pc' := 16) dX12_doesCount_15 rfl ?_
    refine g_cVI (pc' := 19) (vs := [vI 3, vI 1, vI 1, vI 0]) (st := []) (c := 12) h mv_X12_told lk_X12_301 rfl rfl rfl rfl (Nat.le_of_ble_eq_true rfl) (Nat.le_of_ble_eq_true rfl) rfl dX12_doesCount_16 rfl z2 (fun r4 i4 l4 rg4 h => ?_)
    have hJ : gI w d X_X12_doesCount P i4 l4 27 [(0, vR (some 99))] [vI (bI (r4 = 0))] := by
      exact g_retZ rfl (bI_01 _) dX12_doesCount_27 h
    refine g_if_ne (tgt := 26) (pc' := 22) rg4 Iff.rfl dX12_doesCount_19 rfl rfl (fun c6 => ?_) (fun c6 => ?_)
    · refine g_iconst (pc' := 27) dX12_doesCount_26 rfl ?_
      rw [bI_f (p := (r4 = 0)) c6] at hJ
      exact hJ
    · refine g_iconst (pc' := 23) dX12_doesCount_22 rfl ?_
      refine g_goto (tgt := 27) dX12_doesCount_23 rfl ?_
      rw [bI_t (p := (r4 = 0)) c6] at hJ
      exact hJ
theorem e_X12_doesCount {w : Wd} {d : Nat} {P : Int → IM → LM → Prop} {i : IM} {l : LM}   (h : gI w d X_X12_doesCount P i l 0 [(0, vR (some 99))] []) : cI w (d + 1) X_X12_doesCount [vR (some 99)] i l P := CI_of (by decide +kernel) (Nat.le_of_ble_eq_true rfl) h

theorem dX12_bitOf_0 : decode cX12_bitOf 0 = .ok (.aload_n 0, 1) := by decide +kernel
theorem dX12_bitOf_1 : decode cX12_bitOf 1 = .ok (.iload_n 1, 1) := by decide +kernel
theorem dX12_bitOf_2 : decode cX12_bitOf 2 = .ok (.iconst 0, 1) := by decide +kernel
theorem dX12_bitOf_3 : decode cX12_bitOf 3 = .ok (.invokevirtual 308, 3) := by decide +kernel
theorem dX12_bitOf_6 : decode cX12_bitOf 6 = .ok (.iload_n 2, 1) := by decide +kernel
theorem dX12_bitOf_7 : decode cX12_bitOf 7 = .ok (.invokestatic 147, 3) := by decide +kernel
theorem dX12_bitOf_10 : decode cX12_bitOf 10 = .ok (.ifCond .ne 5, 3) := by decide +kernel
theorem dX12_bitOf_13 : decode cX12_bitOf 13 = .ok (.iconst 0, 1) := by decide +kernel
theorem dX12_bitOf_14 : decode cX12_bitOf 14 = .ok (.ireturn, 1) := by decide +kernel
theorem dX12_bitOf_15 : decode cX12_bitOf 15 = .ok (.aload_n 0, 1) := by decide +kernel
theorem dX12_bitOf_16 : decode cX12_bitOf 16 = .ok (.iload_n 2, 1) := by decide +kernel
theorem dX12_bitOf_17 : decode cX12_bitOf 17 = .ok (.iload_n 3, 1) := by decide +kernel
theorem dX12_bitOf_18 : decode cX12_bitOf 18 = .ok (.iload 4, 2) := by decide +kernel
theorem dX12_bitOf_20 : decode cX12_bitOf 20 = .ok (.invokevirtual 151, 3) := by decide +kernel
theorem dX12_bitOf_23 : decode cX12_bitOf 23 = .ok (.istore 6, 2) := by decide +kernel
theorem dX12_bitOf_25 : decode cX12_bitOf 25 = .ok (.aload_n 0, 1) := by decide +kernel
theorem dX12_bitOf_26 : decode cX12_bitOf 26 = .ok (.iload_n 1, 1) := by decide +kernel
theorem dX12_bitOf_27 : decode cX12_bitOf 27 = .ok (.iload_n 2, 1) := by decide +kernel
theorem dX12_bitOf_28 : decode cX12_bitOf 28 = .ok (.iconst 0, 1) := by decide +kernel
theorem dX12_bitOf_29 : decode cX12_bitOf 29 = .ok (.iload 6, 2) := by decide +kernel
theorem dX12_bitOf_31 : decode cX12_bitOf 31 = .ok (.aload_n 0, 1) := by decide +kernel
theorem dX12_bitOf_32 : decode cX12_bitOf 32 = .ok (.iload_n 2, 1) := by decide +kernel
theorem dX12_bitOf_33 : decode cX12_bitOf 33 = .ok (.iconst 0, 1) := by decide +kernel
theorem dX12_bitOf_34 : decode cX12_bitOf 34 = .ok (.invokevirtual 144, 3) := by decide +kernel
theorem dX12_bitOf_37 : decode cX12_bitOf 37 = .ok (.iload 4, 2) := by decide +kernel
theorem dX12_bitOf_39 : decode cX12_bitOf 39 = .ok (.iload 5, 2) := by decide +kernel
theorem dX12_bitOf_41 : decode cX12_bitOf 41 = .ok (.iconst 0, 1) := by decide +kernel
theorem dX12_bitOf_42 : decode cX12_bitOf 42 = .ok (.iconst 0, 1) := by decide +kernel
theorem dX12_bitOf_43 : decode cX12_bitOf 43 = .ok (.invokevirtual 297, 3) := by decide +kernel
theorem dX12_bitOf_46 : decode cX12_bitOf 46 = .ok (.aload_n 0, 1) := by decide +kernel
theorem dX12_bitOf_47 : decode cX12_bitOf 47 = .ok (.invokevirtual 311, 3) := by decide +kernel
theorem dX12_bitOf_50 : decode cX12_bitOf 50 = .ok (.ifCond .eq 14, 3) := by decide +kernel
theorem dX12_bitOf_53 : decode cX12_bitOf 53 = .ok (.iconst 1, 1) := by decide +kernel
theorem dX12_bitOf_54 : decode cX12_bitOf 54 = .ok (.aload_n 0, 1) := by decide +kernel
theorem dX12_bitOf_55 : decode cX12_bitOf 55 = .ok (.iload 6, 2) := by decide +kernel
theorem dX12_bitOf_57 : decode cX12_bitOf 57 = .ok (.invokevirtual 161, 3) := by decide +kernel
theorem dX12_bitOf_60 : decode cX12_bitOf 60 = .ok (.ishl, 1) := by decide +kernel
theorem dX12_bitOf_61 : decode cX12_bitOf 61 = .ok (.goto 4, 3) := by decide +kernel
theorem dX12_bitOf_64 : decode cX12_bitOf 64 = .ok (.iconst 0, 1) := by decide +kernel
theorem dX12_bitOf_65 : decode cX12_bitOf 65 = .ok (.ireturn, 1) := by decide +kernel
set_option maxRecDepth 20000 in
theorem s_X12_bitOf {w : Wd} {d : Nat} {P : Int → IM → LM → Prop} {i : IM} {l : LM} (p0 : Int) (p1 : Int) (p2 : Int) (p3 : Int) (p4 : Int)  (hd : 2 ≤ d) (h : ((0 ≤ 80 + 3 * p0 + 0 ∧ 80 + 3 * p0 + 0 < 5120) ∧ (((iand (ishr (i 101 (80 + 3 * p0 + 0)) p1) 1 = 1) → ((rg p2) ∧ (0 ≤ p1 ∧ p1 < 10) ∧ (0 ≤ 8 * p1 + 0 ∧ 8 * p1 + 0 < 5120) ∧ cVd w d X_X12_asksOf [vR (some 99), vI p0, vI p1, vI 0, vI (mShows i p1 p2 p3), vI (i 101 (8 * p1 + 0)), vI p3, vI p4, vI 0, vI 0] i l (fun i14 l14 => cI w d X_X12_doesCount [vR (some 99)] i14 l14 (fun r15 i15 l15 => ((¬ (r15 = 0) → 0 ≤ mShows i p1 p2 p3 ∧ mShows i p1 p2 p3 < 8) ∧ (¬ (r15 = 0) → sameOK i15) ∧ P (if (r15 = 0) then 0 else ishl 1 (mLow i15 (mShows i p1 p2 p3))) i15 l15))))) ∧ ((¬ (iand (ishr (i 101 (80 + 3 * p0 + 0)) p1) 1 = 1)) → P 0 i l)))) : gI w d X_X12_bitOf P i l 0 [(0, vR (some 99)), (1, vI p0), (2, vI p1), (3, vI p2), (4, vI p3), (5, vI p4)] [] := by
  obtain ⟨ob1, h⟩ := h
  refine g_aload_n (pc' := 1) 0 dX12_bitOf_0 rfl rfl ?_
  refine g_iload_n (pc' := 2) 1 dX12_bitOf_1 rfl rfl ?_
  refine g_iconst (pc' := 3) dX12_bitOf_2 rfl ?_
  refine g_pVI (pc' := 6) (vs := [vI p0, vI 0]) (st := []) (val := i 101 (80 + 3 * p0 + 0)) (c := 12) (sp_X12_windowOf (le_hd hd rfl) ob1) mv_X12_windowOf lk_X12_308 rfl rfl rfl rfl (Nat.le_of_ble_eq_true rfl) (Nat.le_of_ble_eq_true rfl) rfl dX12_bitOf_3 rfl z2 (fun rg2 => ?_)
  refine g_iload_n (pc' := 7) 2 dX12_bitOf_6 rfl rfl ?_
  refine g_pSI (pc' := 10) (vs := [vI (i 101 (80 + 3 * p0 + 0)), vI p1]) (st := []) (val := bI (iand (ishr (i 101 (80 + 3 * p0 + 0)) p1) 1 = 1)) (sp_X12_isIn (le_hd hd rfl) ) mk_X12_isIn ms_X12_isIn lk_X12_147 rfl (Nat.le_of_ble_eq_true rfl) (Nat.le_of_ble_eq_true rfl) rfl dX12_bitOf_7 rfl z2 (fun rg3 => ?_)
  obtain ⟨hk21, hk22⟩ := h
  have hk21g : (iand (ishr (i 101 (80 + 3 * p0 + 0)) p1) 1 = 1) → gI w d X_X12_bitOf P i l 15 [(0, vR (some 99)), (1, vI p0), (2, vI p1), (3, vI p2), (4, vI p3), (5, vI p4)] [] := by
    intro hp
    have h := hk21 hp
    obtain ⟨ob9, ob10, ob12, h⟩ := h
    refine g_aload_n (pc' := 16) 0 dX12_bitOf_15 rfl rfl ?_
    refine g_iload_n (pc' := 17) 2 dX12_bitOf_16 rfl rfl ?_
    refine g_iload_n (pc' := 18) 3 dX12_bitOf_17 rfl rfl ?_
    refine g_iload (pc' := 20) 4 dX12_bitOf_18 rfl rfl ?_
    refine g_pVI (pc' := 23) (vs := [vI p1, vI p2, vI p3]) (st := []) (val := mShows i p1 p2 p3) (c := 12) (sp_X12_shows (le_hd hd rfl) ob9 ob10) mv_X12_shows lk_X12_151 rfl rfl rfl rfl (Nat.le_of_ble_eq_true rfl) (Nat.le_of_ble_eq_true rfl) rfl dX12_bitOf_20 rfl z2 (fun rg11 => ?_)
    refine g_istore (pc' := 25) (L' := [(6, vI (mShows i p1 p2 p3)), (0, vR (some 99)), (1, vI p0), (2, vI p1), (3, vI p2), (4, vI p3), (5, vI p4)]) dX12_bitOf_23 rfl (Nat.le_of_ble_eq_true rfl) rfl ?_
    refine g_aload_n (pc' := 26) 1 dX12_bitOf_25 rfl rfl ?_
    refine g_iload_n (pc' := 27) 2 dX12_bitOf_26 rfl rfl ?_
    refine g_iload_n (pc' := 28) 3 dX12_bitOf_27 rfl rfl ?_
    refine g_iconst (pc' := 29) dX12_bitOf_28 rfl ?_
    refine g_iload (pc' := 31) 0 dX12_bitOf_29 rfl rfl ?_
    refine g_aload_n (pc' := 32) 1 dX12_bitOf_31 rfl rfl ?_
    refine g_iload_n (pc' := 33) 3 dX12_bitOf_32 rfl rfl ?_
    refine g_iconst (pc' := 34) dX12_bitOf_33 rfl ?_
    refine g_pVI (pc' := 37) (vs := [vI p1, vI 0]) (st := [vI (mShows i p1 p2 p3), vI 0, vI p1, vI p0, vR (some 99)]) (val := i 101 (8 * p1 + 0)) (c := 12) (sp_X12_thingOf (le_hd hd rfl) ob12) mv_X12_thingOf lk_X12_144 rfl rfl rfl rfl (Nat.le_of_ble_eq_true rfl) (Nat.le_of_ble_eq_true rfl) rfl dX12_bitOf_34 rfl z2 (fun rg13 => ?_)
    refine g_iload (pc' := 39) 5 dX12_bitOf_37 rfl rfl ?_
    refine g_iload (pc' := 41) 6 dX12_bitOf_39 rfl rfl ?_
    refine g_iconst (pc' := 42) dX12_bitOf_41 rfl ?_
    refine g_iconst (pc' := 43) dX12_bitOf_42 rfl ?_
    refine g_cVV (pc' := 46) (vs := [vI p0, vI p1, vI 0, vI (mShows i p1 p2 p3), vI (i 101 (8 * p1 + 0)), vI p3, vI p4, vI 0, vI 0]) (st := []) (c := 12) h mv_X12_asksOf lk_X12_297 rfl rfl rfl rfl (Nat.le_of_ble_eq_true rfl) (Nat.le_of_ble_eq_true rfl) rfl dX12_bitOf_43 rfl z2 (fun i14 l14 h => ?_)
    refine g_aload_n (pc' := 47) 1 dX12_bitOf_46 rfl rfl ?_
    refine g_cVI (pc' := 50) (vs := []) (st := []) (c := 12) h mv_X12_doesCount lk_X12_311 rfl rfl rfl rfl (Nat.le_of_ble_eq_true rfl) (Nat.le_of_ble_eq_true rfl) rfl dX12_bitOf_47 rfl z2 (fun r15 i15 l15 rg15 h => ?_)
    obtain ⟨hob18, hob19, h⟩ := h
    have hJ : gI w d X_X12_bitOf P i15 l15 65 [(6, vI (mShows i p1 p2 p3)), (0, vR (some 99)), (1, vI p0), (2, vI p1), (3, vI p2), (4, vI p3), (5, vI p4)] [vI (if (r15 = 0) then 0 else ishl 1 (mLow i15 (mShows i p1 p2 p3)))] := by
      exact g_retI rfl (rg_ite (rg_lit rfl) (rg_ishl _ _)) dX12_bitOf_65 h
    refine g_if_eq (tgt := 64) (pc' := 53) rg15 Iff.rfl dX12_bitOf_50 rfl rfl (fun c17 => ?_) (fun c17 => ?_)
    · refine g_iconst (pc' := 65) dX12_bitOf_64 rfl ?_
      rw [if_pos c17 (α := Int) (t := 0) (e := ishl 1 (mLow i15 (mShows i p1 p2 p3)))] at hJ
      exact hJ
    · refine g_iconst (pc' := 54) dX12_bitOf_53 rfl ?_
      refine g_aload_n (pc' := 55) 1 dX12_bitOf_54 rfl rfl ?_
      refine g_iload (pc' := 57) 0 dX12_bitOf_55 rfl rfl ?_
      refine g_pVI (pc' := 60) (vs := [vI (mShows i p1 p2 p3)]) (st := [vI 1]) (val := mLow i15 (mShows i p1 p2 p3)) (c := 12) (sp_X12_lowestOf (le_hd hd rfl) (hob18 c17) (hob19 c17)) mv_X12_lowestOf lk_X12_161 rfl rfl rfl rfl (Nat.le_of_ble_eq_true rfl) (Nat.le_of_ble_eq_true rfl) rfl dX12_bitOf_57 rfl z2 (fun rg20 => ?_)
      refine g_ishl (pc' := 61) dX12_bitOf_60 rfl ?_
      refine g_goto (tgt := 65) dX12_bitOf_61 rfl ?_
      rw [if_neg c17 (α := Int) (t := 0) (e := ishl 1 (mLow i15 (mShows i p1 p2 p3)))] at hJ
      exact hJ
  have hk22g : (¬ (iand (ishr (i 101 (80 + 3 * p0 + 0)) p1) 1 = 1)) → gI w d X_X12_bitOf P i l 13 [(0, vR (some 99)), (1, vI p0), (2, vI p1), (3, vI p2), (4, vI p3), (5, vI p4)] [] := by
    intro hp
    have h := hk22 hp
    refine g_iconst (pc' := 14) dX12_bitOf_13 rfl ?_
    exact g_retI rfl (rg_lit rfl) dX12_bitOf_14 h
  refine g_if_ne (tgt := 15) (pc' := 13) rg3 (bI_eq _) dX12_bitOf_10 rfl rfl (fun c5n => ?_) (fun c5 => ?_)
  · have c5 := Decidable.of_not_not c5n
    exact hk21g c5
  · exact hk22g c5
theorem e_X12_bitOf {w : Wd} {d : Nat} {P : Int → IM → LM → Prop} {i : IM} {l : LM} {p0 : Int} {p1 : Int} {p2 : Int} {p3 : Int} {p4 : Int}  (h : gI w d X_X12_bitOf P i l 0 [(0, vR (some 99)), (1, vI p0), (2, vI p1), (3, vI p2), (4, vI p3), (5, vI p4)] []) : cI w (d + 1) X_X12_bitOf [vR (some 99), vI p0, vI p1, vI p2, vI p3, vI p4] i l P := CI_of (by decide +kernel) (Nat.le_of_ble_eq_true rfl) h

theorem dX12_coatBit_0 : decode cX12_coatBit 0 = .ok (.iload_n 3, 1) := by decide +kernel
theorem dX12_coatBit_1 : decode cX12_coatBit 1 = .ok (.iconst (-1), 1) := by decide +kernel
theorem dX12_coatBit_2 : decode cX12_coatBit 2 = .ok (.if_icmp .eq 16, 3) := by decide +kernel
theorem dX12_coatBit_5 : decode cX12_coatBit 5 = .ok (.aload_n 0, 1) := by decide +kernel
theorem dX12_coatBit_6 : decode cX12_coatBit 6 = .ok (.iload_n 1, 1) := by decide +kernel
theorem dX12_coatBit_7 : decode cX12_coatBit 7 = .ok (.iconst 1, 1) := by decide +kernel
theorem dX12_coatBit_8 : decode cX12_coatBit 8 = .ok (.invokevirtual 308, 3) := by decide +kernel
theorem dX12_coatBit_11 : decode cX12_coatBit 11 = .ok (.iload_n 3, 1) := by decide +kernel
theorem dX12_coatBit_12 : decode cX12_coatBit 12 = .ok (.invokestatic 147, 3) := by decide +kernel
theorem dX12_coatBit_15 : decode cX12_coatBit 15 = .ok (.ifCond .ne 5, 3) := by decide +kernel
theorem dX12_coatBit_18 : decode cX12_coatBit 18 = .ok (.iconst 0, 1) := by decide +kernel
theorem dX12_coatBit_19 : decode cX12_coatBit 19 = .ok (.ireturn, 1) := by decide +kernel
theorem dX12_coatBit_20 : decode cX12_coatBit 20 = .ok (.aload_n 0, 1) := by decide +kernel
theorem dX12_coatBit_21 : decode cX12_coatBit 21 = .ok (.getfield 20, 3) := by decide +kernel
theorem dX12_coatBit_24 : decode cX12_coatBit 24 = .ok (.bipush 114, 2) := by decide +kernel
theorem dX12_coatBit_26 : decode cX12_coatBit 26 = .ok (.iload_n 2, 1) := by decide +kernel
theorem dX12_coatBit_27 : decode cX12_coatBit 27 = .ok (.iadd, 1) := by decide +kernel
theorem dX12_coatBit_28 : decode cX12_coatBit 28 = .ok (.iaload, 1) := by decide +kernel
theorem dX12_coatBit_29 : decode cX12_coatBit 29 = .ok (.istore 6, 2) := by decide +kernel
theorem dX12_coatBit_31 : decode cX12_coatBit 31 = .ok (.aload_n 0, 1) := by decide +kernel
theorem dX12_coatBit_32 : decode cX12_coatBit 32 = .ok (.iload_n 1, 1) := by decide +kernel
theorem dX12_coatBit_33 : decode cX12_coatBit 33 = .ok (.iconst 0, 1) := by decide +kernel
theorem dX12_coatBit_34 : decode cX12_coatBit 34 = .ok (.iload_n 3, 1) := by decide +kernel
theorem dX12_coatBit_35 : decode cX12_coatBit 35 = .ok (.iload 6, 2) := by decide +kernel
theorem dX12_coatBit_37 : decode cX12_coatBit 37 = .ok (.iconst 0, 1) := by decide +kernel
theorem dX12_coatBit_38 : decode cX12_coatBit 38 = .ok (.iload 4, 2) := by decide +kernel
theorem dX12_coatBit_40 : decode cX12_coatBit 40 = .ok (.iload 5, 2) := by decide +kernel
theorem dX12_coatBit_42 : decode cX12_coatBit 42 = .ok (.iconst 1, 1) := by decide +kernel
theorem dX12_coatBit_43 : decode cX12_coatBit 43 = .ok (.iload_n 2, 1) := by decide +kernel
theorem dX12_coatBit_44 : decode cX12_coatBit 44 = .ok (.invokevirtual 297, 3) := by decide +kernel
theorem dX12_coatBit_47 : decode cX12_coatBit 47 = .ok (.aload_n 0, 1) := by decide +kernel
theorem dX12_coatBit_48 : decode cX12_coatBit 48 = .ok (.invokevirtual 311, 3) := by decide +kernel
theorem dX12_coatBit_51 : decode cX12_coatBit 51 = .ok (.ifCond .eq 14, 3) := by decide +kernel
theorem dX12_coatBit_54 : decode cX12_coatBit 54 = .ok (.iconst 1, 1) := by decide +kernel
theorem dX12_coatBit_55 : decode cX12_coatBit 55 = .ok (.aload_n 0, 1) := by decide +kernel
theorem dX12_coatBit_56 : decode cX12_coatBit 56 = .ok (.iload 6, 2) := by decide +kernel
theorem dX12_coatBit_58 : decode cX12_coatBit 58 = .ok (.invokevirtual 161, 3) := by decide +kernel
theorem dX12_coatBit_61 : decode cX12_coatBit 61 = .ok (.ishl, 1) := by decide +kernel
theorem dX12_coatBit_62 : decode cX12_coatBit 62 = .ok (.goto 4, 3) := by decide +kernel
theorem dX12_coatBit_65 : decode cX12_coatBit 65 = .ok (.iconst 0, 1) := by decide +kernel
theorem dX12_coatBit_66 : decode cX12_coatBit 66 = .ok (.ireturn, 1) := by decide +kernel
set_option maxRecDepth 20000 in
theorem s_X12_coatBit {w : Wd} {d : Nat} {P : Int → IM → LM → Prop} {i : IM} {l : LM} (p0 : Int) (p1 : Int) (p2 : Int) (p3 : Int) (p4 : Int)  (hd : 2 ≤ d) (h : ((rg p2) ∧ (¬ (p2 = (-1)) → 0 ≤ 80 + 3 * p0 + 1 ∧ 80 + 3 * p0 + 1 < 5120) ∧ (((p2 = (-1)) ∨ (¬ (iand (ishr (i 101 (80 + 3 * p0 + 1)) p2) 1 = 1))) → P 0 i l) ∧ ((¬ ((p2 = (-1)) ∨ (¬ (iand (ishr (i 101 (80 + 3 * p0 + 1)) p2) 1 = 1)))) → ((0 ≤ 114 + p1 ∧ 114 + p1 < 5120) ∧ cVd w d X_X12_asksOf [vR (some 99), vI p0, vI 0, vI p2, vI (i 101 (114 + p1)), vI 0, vI p3, vI p4, vI 1, vI p1] i l (fun i12 l12 => cI w d X_X12_doesCount [vR (some 99)] i12 l12 (fun r13 i13 l13 => ((¬ (r13 = 0) → 0 ≤ i 101 (114 + p1) ∧ i 101 (114 + p1) < 8) ∧ (¬ (r13 = 0) → sameOK i13) ∧ P (if (r13 = 0) then 0 else ishl 1 (mLow i13 (i 101 (114 + p1)))) i13 l13))))))) : gI w d X_X12_coatBit P i l 0 [(0, vR (some 99)), (1, vI p0), (2, vI p1), (3, vI p2), (4, vI p3), (5, vI p4)] [] := by
  refine g_iload_n (pc' := 1) 3 dX12_coatBit_0 rfl rfl ?_
  refine g_iconst (pc' := 2) dX12_coatBit_1 rfl ?_
  obtain ⟨hob2, hob4, hk19, hk20⟩ := h
  have hk19g : ((p2 = (-1)) ∨ (¬ (iand (ishr (i 101 (80 + 3 * p0 + 1)) p2) 1 = 1))) → gI w d X_X12_coatBit P i l 18 [(0, vR (some 99)), (1, vI p0), (2, vI p1), (3, vI p2), (4, vI p3), (5, vI p4)] [] := by
    intro hp
    have h := hk19 hp
    refine g_iconst (pc' := 19) dX12_coatBit_18 rfl ?_
    exact g_retI rfl (rg_lit rfl) dX12_coatBit_19 h
  have hk20g : (¬ ((p2 = (-1)) ∨ (¬ (iand (ishr (i 101 (80 + 3 * p0 + 1)) p2) 1 = 1)))) → gI w d X_X12_coatBit P i l 20 [(0, vR (some 99)), (1, vI p0), (2, vI p1), (3, vI p2), (4, vI p3), (5, vI p4)] [] := by
    intro hp
    have h := hk20 hp
    obtain ⟨ob10, h⟩ := h
    refine g_aload_n (pc' := 21) 0 dX12_coatBit_20 rfl rfl ?_
    refine g_getR (pc' := 24) (o := some 101) fl_X12_20 rfl rfl rfl dX12_coatBit_21 rfl ?_
    refine g_bipush (pc' := 26) dX12_coatBit_24 rfl rfl ?_
    refine g_iload_n (pc' := 27) 2 dX12_coatBit_26 rfl rfl ?_
    refine g_iadd (pc' := 28) dX12_coatBit_27 rfl ?_
    refine g_iald (pc' := 29) (N := 5120) rfl rfl (Nat.lt_of_lt_of_le (Nat.lt_succ_self _) (Nat.le_of_ble_eq_true rfl)) ob10 dX12_coatBit_28 rfl (fun rg11 => ?_)
    refine g_istore (pc' := 31) (L' := [(6, vI (i 101 (114 + p1))), (0, vR (some 99)), (1, vI p0), (2, vI p1), (3, vI p2), (4, vI p3), (5, vI p4)]) dX12_coatBit_29 rfl (Nat.le_of_ble_eq_true rfl) rfl ?_
    refine g_aload_n (pc' := 32) 1 dX12_coatBit_31 rfl rfl ?_
    refine g_iload_n (pc' := 33) 2 dX12_coatBit_32 rfl rfl ?_
    refine g_iconst (pc' := 34) dX12_coatBit_33 rfl ?_
    refine g_iload_n (pc' := 35) 4 dX12_coatBit_34 rfl rfl ?_
    refine g_iload (pc' := 37) 0 dX12_coatBit_35 rfl rfl ?_
    refine g_iconst (pc' := 38) dX12_coatBit_37 rfl ?_
    refine g_iload (pc' := 40) 5 dX12_coatBit_38 rfl rfl ?_
    refine g_iload (pc' := 42) 6 dX12_coatBit_40 rfl rfl ?_
    refine g_iconst (pc' := 43) dX12_coatBit_42 rfl ?_
    refine g_iload_n (pc' := 44) 3 dX12_coatBit_43 rfl rfl ?_
    refine g_cVV (pc' := 47) (vs := [vI p0, vI 0, vI p2, vI (i 101 (114 + p1)), vI 0, vI p3, vI p4, vI 1, vI p1]) (st := []) (c := 12) h mv_X12_asksOf lk_X12_297 rfl rfl rfl rfl (Nat.le_of_ble_eq_true rfl) (Nat.le_of_ble_eq_true rfl) rfl dX12_coatBit_44 rfl z2 (fun i12 l12 h => ?_)
    refine g_aload_n (pc' := 48) 1 dX12_coatBit_47 rfl rfl ?_
    refine g_cVI (pc' := 51) (vs := []) (st := []) (c := 12) h mv_X12_doesCount lk_X12_311 rfl rfl rfl rfl (Nat.le_of_ble_eq_true rfl) (Nat.le_of_ble_eq_true rfl) rfl dX12_coatBit_48 rfl z2 (fun r13 i13 l13 rg13 h => ?_)
    obtain ⟨hob16, hob17, h⟩ := h
    have hJ : gI w d X_X12_coatBit P i13 l13 66 [(6, vI (i 101 (114 + p1))), (0, vR (some 99)), (1, vI p0), (2, vI p1), (3, vI p2), (4, vI p3), (5, vI p4)] [vI (if (r13 = 0) then 0 else ishl 1 (mLow i13 (i 101 (114 + p1))))] := by
      exact g_retI rfl (rg_ite (rg_lit rfl) (rg_ishl _ _)) dX12_coatBit_66 h
    refine g_if_eq (tgt := 65) (pc' := 54) rg13 Iff.rfl dX12_coatBit_51 rfl rfl (fun c15 => ?_) (fun c15 => ?_)
    · refine g_iconst (pc' := 66) dX12_coatBit_65 rfl ?_
      rw [if_pos c15 (α := Int) (t := 0) (e := ishl 1 (mLow i13 (i 101 (114 + p1))))] at hJ
      exact hJ
    · refine g_iconst (pc' := 55) dX12_coatBit_54 rfl ?_
      refine g_aload_n (pc' := 56) 1 dX12_coatBit_55 rfl rfl ?_
      refine g_iload (pc' := 58) 0 dX12_coatBit_56 rfl rfl ?_
      refine g_pVI (pc' := 61) (vs := [vI (i 101 (114 + p1))]) (st := [vI 1]) (val := mLow i13 (i 101 (114 + p1))) (c := 12) (sp_X12_lowestOf (le_hd hd rfl) (hob16 c15) (hob17 c15)) mv_X12_lowestOf lk_X12_161 rfl rfl rfl rfl (Nat.le_of_ble_eq_true rfl) (Nat.le_of_ble_eq_true rfl) rfl dX12_coatBit_58 rfl z2 (fun rg18 => ?_)
      refine g_ishl (pc' := 62) dX12_coatBit_61 rfl ?_
      refine g_goto (tgt := 66) dX12_coatBit_62 rfl ?_
      rw [if_neg c15 (α := Int) (t := 0) (e := ishl 1 (mLow i13 (i 101 (114 + p1))))] at hJ
      exact hJ
  refine g_icmp_eq (tgt := 18) (pc' := 5) (hob2) (rg_lit rfl) Iff.rfl dX12_coatBit_2 rfl rfl (fun c3 => ?_) (fun c3 => ?_)
  · exact hk19g (Or.inl c3)
  · refine g_aload_n (pc' := 6) 0 dX12_coatBit_5 rfl rfl ?_
    refine g_iload_n (pc' := 7) 1 dX12_coatBit_6 rfl rfl ?_
    refine g_iconst (pc' := 8) dX12_coatBit_7 rfl ?_
    refine g_pVI (pc' := 11) (vs := [vI p0, vI 1]) (st := []) (val := i 101 (80 + 3 * p0 + 1)) (c := 12) (sp_X12_windowOf (le_hd hd rfl) (hob4 c3)) mv_X12_windowOf lk_X12_308 rfl rfl rfl rfl (Nat.le_of_ble_eq_true rfl) (Nat.le_of_ble_eq_true rfl) rfl dX12_coatBit_8 rfl z2 (fun rg5 => ?_)
    refine g_iload_n (pc' := 12) 3 dX12_coatBit_11 rfl rfl ?_
    refine g_pSI (pc' := 15) (vs := [vI (i 101 (80 + 3 * p0 + 1)), vI p2]) (st := []) (val := bI (iand (ishr (i 101 (80 + 3 * p0 + 1)) p2) 1 = 1)) (sp_X12_isIn (le_hd hd rfl) ) mk_X12_isIn ms_X12_isIn lk_X12_147 rfl (Nat.le_of_ble_eq_true rfl) (Nat.le_of_ble_eq_true rfl) rfl dX12_coatBit_12 rfl z2 (fun rg6 => ?_)
    refine g_if_ne (tgt := 20) (pc' := 18) rg6 (bI_eq _) dX12_coatBit_15 rfl rfl (fun c7n => ?_) (fun c7 => ?_)
    · have c7 := Decidable.of_not_not c7n
      exact hk20g (fun q => q.elim c3 (fun q => q c7))
    · exact hk19g (Or.inr c7)
theorem e_X12_coatBit {w : Wd} {d : Nat} {P : Int → IM → LM → Prop} {i : IM} {l : LM} {p0 : Int} {p1 : Int} {p2 : Int} {p3 : Int} {p4 : Int}  (h : gI w d X_X12_coatBit P i l 0 [(0, vR (some 99)), (1, vI p0), (2, vI p1), (3, vI p2), (4, vI p3), (5, vI p4)] []) : cI w (d + 1) X_X12_coatBit [vR (some 99), vI p0, vI p1, vI p2, vI p3, vI p4] i l P := CI_of (by decide +kernel) (Nat.le_of_ble_eq_true rfl) h

theorem dX12_thingsSeen_0 : decode cX12_thingsSeen 0 = .ok (.iconst 0, 1) := by decide +kernel
theorem dX12_thingsSeen_1 : decode cX12_thingsSeen 1 = .ok (.istore 4, 2) := by decide +kernel
theorem dX12_thingsSeen_3 : decode cX12_thingsSeen 3 = .ok (.iconst 0, 1) := by decide +kernel
theorem dX12_thingsSeen_4 : decode cX12_thingsSeen 4 = .ok (.istore 5, 2) := by decide +kernel
theorem dX12_thingsSeen_6 : decode cX12_thingsSeen 6 = .ok (.iload 5, 2) := by decide +kernel
theorem dX12_thingsSeen_8 : decode cX12_thingsSeen 8 = .ok (.aload_n 0, 1) := by decide +kernel
theorem dX12_thingsSeen_9 : decode cX12_thingsSeen 9 = .ok (.invokevirtual 117, 3) := by decide +kernel
theorem dX12_thingsSeen_12 : decode cX12_thingsSeen 12 = .ok (.if_icmp .ge 30, 3) := by decide +kernel
theorem dX12_thingsSeen_15 : decode cX12_thingsSeen 15 = .ok (.iload 4, 2) := by decide +kernel
theorem dX12_thingsSeen_17 : decode cX12_thingsSeen 17 = .ok (.aload_n 0, 1) := by decide +kernel
theorem dX12_thingsSeen_18 : decode cX12_thingsSeen 18 = .ok (.iload_n 1, 1) := by decide +kernel
theorem dX12_thingsSeen_19 : decode cX12_thingsSeen 19 = .ok (.iload 5, 2) := by decide +kernel
theorem dX12_thingsSeen_21 : decode cX12_thingsSeen 21 = .ok (.aload_n 0, 1) := by decide +kernel
theorem dX12_thingsSeen_22 : decode cX12_thingsSeen 22 = .ok (.iload 5, 2) := by decide +kernel
theorem dX12_thingsSeen_24 : decode cX12_thingsSeen 24 = .ok (.iconst 1, 1) := by decide +kernel
theorem dX12_thingsSeen_25 : decode cX12_thingsSeen 25 = .ok (.invokevirtual 144, 3) := by decide +kernel
theorem dX12_thingsSeen_28 : decode cX12_thingsSeen 28 = .ok (.iload_n 2, 1) := by decide +kernel
theorem dX12_thingsSeen_29 : decode cX12_thingsSeen 29 = .ok (.iload_n 3, 1) := by decide +kernel
theorem dX12_thingsSeen_30 : decode cX12_thingsSeen 30 = .ok (.invokevirtual 314, 3) := by decide +kernel
theorem dX12_thingsSeen_33 : decode cX12_thingsSeen 33 = .ok (.ior, 1) := by decide +kernel
theorem dX12_thingsSeen_34 : decode cX12_thingsSeen 34 = .ok (.istore 4, 2) := by decide +kernel
theorem dX12_thingsSeen_36 : decode cX12_thingsSeen 36 = .ok (.iinc 5 1, 3) := by decide +kernel
theorem dX12_thingsSeen_39 : decode cX12_thingsSeen 39 = .ok (.goto (-33), 3) := by decide +kernel
theorem dX12_thingsSeen_42 : decode cX12_thingsSeen 42 = .ok (.iload 4, 2) := by decide +kernel
theorem dX12_thingsSeen_44 : decode cX12_thingsSeen 44 = .ok (.ireturn, 1) := by decide +kernel
set_option maxRecDepth 20000 in
theorem s_X12_thingsSeen {w : Wd} {d : Nat} {P : Int → IM → LM → Prop} {i : IM} {l : LM} (p0 : Int) (p1 : Int) (p2 : Int)  (h : gI w d X_X12_thingsSeen P i l 6 [(0, vR (some 99)), (1, vI p0), (2, vI p1), (3, vI p2), (4, vI 0), (5, vI 0)] []) : gI w d X_X12_thingsSeen P i l 0 [(0, vR (some 99)), (1, vI p0), (2, vI p1), (3, vI p2)] [] := by
  refine g_iconst (pc' := 1) dX12_thingsSeen_0 rfl ?_
  refine g_istore (pc' := 3) (L' := [(4, vI 0), (0, vR (some 99)), (1, vI p0), (2, vI p1), (3, vI p2)]) dX12_thingsSeen_1 rfl (Nat.le_of_ble_eq_true rfl) rfl ?_
  refine g_iconst (pc' := 4) dX12_thingsSeen_3 rfl ?_
  refine g_istore (pc' := 6) (L' := [(5, vI 0), (4, vI 0), (0, vR (some 99)), (1, vI p0), (2, vI p1), (3, vI p2)]) dX12_thingsSeen_4 rfl (Nat.le_of_ble_eq_true rfl) rfl ?_
  refine g_sub (L' := [(0, vR (some 99)), (1, vI p0), (2, vI p1), (3, vI p2), (4, vI 0), (5, vI 0)]) [2, 3, 4, 5, 1, 0] rfl ?_
  exact h
theorem e_X12_thingsSeen {w : Wd} {d : Nat} {P : Int → IM → LM → Prop} {i : IM} {l : LM} {p0 : Int} {p1 : Int} {p2 : Int}  (h : gI w d X_X12_thingsSeen P i l 0 [(0, vR (some 99)), (1, vI p0), (2, vI p1), (3, vI p2)] []) : cI w (d + 1) X_X12_thingsSeen [vR (some 99), vI p0, vI p1, vI p2] i l P := CI_of (by decide +kernel) (Nat.le_of_ble_eq_true rfl) h
set_option maxRecDepth 20000 in
theorem s_X12_thingsSeen_6 {w : Wd} {d : Nat} {P : Int → IM → LM → Prop} {i : IM} {l : LM} (x1 : Int) (x2 : Int) (x3 : Int) (x4 : Int) (x5 : Int)  (hd : 1 ≤ d) (h : ((rg x5) ∧ ((i 101 307 ≤ x5) → ((rg x4) ∧ P x4 i l)) ∧ ((¬ (i 101 307 ≤ x5)) → ((0 ≤ 8 * x5 + 1 ∧ 8 * x5 + 1 < 5120) ∧ cI w d X_X12_bitOf [vR (some 99), vI x1, vI x5, vI (i 101 (8 * x5 + 1)), vI x2, vI x3] i l (fun r10 i10 l10 => gI w d X_X12_thingsSeen P i10 l10 6 [(0, vR (some 99)), (1, vI x1), (2, vI x2), (3, vI x3), (4, vI (ior x4 r10)), (5, vI (x5 + 1))] []))))) : gI w d X_X12_thingsSeen P i l 6 [(0, vR (some 99)), (1, vI x1), (2, vI x2), (3, vI x3), (4, vI x4), (5, vI x5)] [] := by
  refine g_iload (pc' := 8) 5 dX12_thingsSeen_6 rfl rfl ?_
  refine g_aload_n (pc' := 9) 0 dX12_thingsSeen_8 rfl rfl ?_
  refine g_pVI (pc' := 12) (vs := []) (st := [vI x5]) (val := i 101 307) (c := 12) (sp_X12_things (le_hd hd rfl) ) mv_X12_things lk_X12_117 rfl rfl rfl rfl (Nat.le_of_ble_eq_true rfl) (Nat.le_of_ble_eq_true rfl) rfl dX12_thingsSeen_9 rfl z2 (fun rg1 => ?_)
  obtain ⟨hob3, hk11, hk12⟩ := h
  refine g_icmp_ge (tgt := 42) (pc' := 15) (hob3) rg1 Iff.rfl dX12_thingsSeen_12 rfl rfl (fun c4 => ?_) (fun c4 => ?_)
  · have h := hk11 c4
    obtain ⟨ob7, h⟩ := h
    refine g_iload (pc' := 44) 4 dX12_thingsSeen_42 rfl rfl ?_
    exact g_retI rfl ob7 dX12_thingsSeen_44 h
  · have h := hk12 c4
    obtain ⟨ob8, h⟩ := h
    refine g_iload (pc' := 17) 4 dX12_thingsSeen_15 rfl rfl ?_
    refine g_aload_n (pc' := 18) 0 dX12_thingsSeen_17 rfl rfl ?_
    refine g_iload_n (pc' := 19) 1 dX12_thingsSeen_18 rfl rfl ?_
    refine g_iload (pc' := 21) 5 dX12_thingsSeen_19 rfl rfl ?_
    refine g_aload_n (pc' := 22) 0 dX12_thingsSeen_21 rfl rfl ?_
    refine g_iload (pc' := 24) 5 dX12_thingsSeen_22 rfl rfl ?_
    refine g_iconst (pc' := 25) dX12_thingsSeen_24 rfl ?_
    refine g_pVI (pc' := 28) (vs := [vI x5, vI 1]) (st := [vI x5, vI x1, vR (some 99), vI x4]) (val := i 101 (8 * x5 + 1)) (c := 12) (sp_X12_thingOf (le_hd hd rfl) ob8) mv_X12_thingOf lk_X12_144 rfl rfl rfl rfl (Nat.le_of_ble_eq_true rfl) (Nat.le_of_ble_eq_true rfl) rfl dX12_thingsSeen_25 rfl z2 (fun rg9 => ?_)
    refine g_iload_n (pc' := 29) 2 dX12_thingsSeen_28 rfl rfl ?_
    refine g_iload_n (pc' := 30) 3 dX12_thingsSeen_29 rfl rfl ?_
    refine g_cVI (pc' := 33) (vs := [vI x1, vI x5, vI (i 101 (8 * x5 + 1)), vI x2, vI x3]) (st := [vI x4]) (c := 12) h mv_X12_bitOf lk_X12_314 rfl rfl rfl rfl (Nat.le_of_ble_eq_true rfl) (Nat.le_of_ble_eq_true rfl) rfl dX12_thingsSeen_30 rfl z2 (fun r10 i10 l10 rg10 h => ?_)
    refine g_ior (pc' := 34) dX12_thingsSeen_33 rfl ?_
    refine g_istore (pc' := 36) (L' := [(4, vI (ior x4 r10)), (0, vR (some 99)), (1, vI x1), (2, vI x2), (3, vI x3), (5, vI x5)]) dX12_thingsSeen_34 rfl (Nat.le_of_ble_eq_true rfl) rfl ?_
    refine g_iinc (pc' := 39) (L' := [(5, vI (x5 + 1)), (4, vI (ior x4 r10)), (0, vR (some 99)), (1, vI x1), (2, vI x2), (3, vI x3)]) 5 dX12_thingsSeen_36 rfl (Nat.le_of_ble_eq_true rfl) rfl rfl ?_
    refine g_goto (tgt := 6) dX12_thingsSeen_39 rfl ?_
    refine g_sub (L' := [(0, vR (some 99)), (1, vI x1), (2, vI x2), (3, vI x3), (4, vI (ior x4 r10)), (5, vI (x5 + 1))]) [2, 3, 4, 5, 1, 0] rfl ?_
    exact h

theorem dX12_seen_0 : decode cX12_seen 0 = .ok (.aload_n 0, 1) := by decide +kernel
theorem dX12_seen_1 : decode cX12_seen 1 = .ok (.iload_n 1, 1) := by decide +kernel
theorem dX12_seen_2 : decode cX12_seen 2 = .ok (.aload_n 0, 1) := by decide +kernel
theorem dX12_seen_3 : decode cX12_seen 3 = .ok (.getfield 20, 3) := by decide +kernel
theorem dX12_seen_6 : decode cX12_seen 6 = .ok (.sipush 313, 3) := by decide +kernel
theorem dX12_seen_9 : decode cX12_seen 9 = .ok (.iaload, 1) := by decide +kernel
theorem dX12_seen_10 : decode cX12_seen 10 = .ok (.iload_n 2, 1) := by decide +kernel
theorem dX12_seen_11 : decode cX12_seen 11 = .ok (.invokevirtual 318, 3) := by decide +kernel
theorem dX12_seen_14 : decode cX12_seen 14 = .ok (.istore 5, 2) := by decide +kernel
theorem dX12_seen_16 : decode cX12_seen 16 = .ok (.iconst 0, 1) := by decide +kernel
theorem dX12_seen_17 : decode cX12_seen 17 = .ok (.istore 6, 2) := by decide +kernel
theorem dX12_seen_19 : decode cX12_seen 19 = .ok (.iload 6, 2) := by decide +kernel
theorem dX12_seen_21 : decode cX12_seen 21 = .ok (.aload_n 0, 1) := by decide +kernel
theorem dX12_seen_22 : decode cX12_seen 22 = .ok (.invokevirtual 124, 3) := by decide +kernel
theorem dX12_seen_25 : decode cX12_seen 25 = .ok (.if_icmp .ge 48, 3) := by decide +kernel
theorem dX12_seen_28 : decode cX12_seen 28 = .ok (.iload 5, 2) := by decide +kernel
theorem dX12_seen_30 : decode cX12_seen 30 = .ok (.aload_n 0, 1) := by decide +kernel
theorem dX12_seen_31 : decode cX12_seen 31 = .ok (.iload_n 1, 1) := by decide +kernel
theorem dX12_seen_32 : decode cX12_seen 32 = .ok (.iload 6, 2) := by decide +kernel
theorem dX12_seen_34 : decode cX12_seen 34 = .ok (.iload 6, 2) := by decide +kernel
theorem dX12_seen_36 : decode cX12_seen 36 = .ok (.iload_n 3, 1) := by decide +kernel
theorem dX12_seen_37 : decode cX12_seen 37 = .ok (.if_icmp .ne 8, 3) := by decide +kernel
theorem dX12_seen_40 : decode cX12_seen 40 = .ok (.iload 4, 2) := by decide +kernel
theorem dX12_seen_42 : decode cX12_seen 42 = .ok (.goto 10, 3) := by decide +kernel
theorem dX12_seen_45 : decode cX12_seen 45 = .ok (.aload_n 0, 1) := by decide +kernel
theorem dX12_seen_46 : decode cX12_seen 46 = .ok (.iload 6, 2) := by decide +kernel
theorem dX12_seen_48 : decode cX12_seen 48 = .ok (.iload_n 2, 1) := by decide +kernel
theorem dX12_seen_49 : decode cX12_seen 49 = .ok (.invokevirtual 171, 3) := by decide +kernel
theorem dX12_seen_52 : decode cX12_seen 52 = .ok (.aload_n 0, 1) := by decide +kernel
theorem dX12_seen_53 : decode cX12_seen 53 = .ok (.getfield 20, 3) := by decide +kernel
theorem dX12_seen_56 : decode cX12_seen 56 = .ok (.sipush 313, 3) := by decide +kernel
theorem dX12_seen_59 : decode cX12_seen 59 = .ok (.iaload, 1) := by decide +kernel
theorem dX12_seen_60 : decode cX12_seen 60 = .ok (.iload_n 2, 1) := by decide +kernel
theorem dX12_seen_61 : decode cX12_seen 61 = .ok (.invokevirtual 321, 3) := by decide +kernel
theorem dX12_seen_64 : decode cX12_seen 64 = .ok (.ior, 1) := by decide +kernel
theorem dX12_seen_65 : decode cX12_seen 65 = .ok (.istore 5, 2) := by decide +kernel
theorem dX12_seen_67 : decode cX12_seen 67 = .ok (.iinc 6 1, 3) := by decide +kernel
theorem dX12_seen_70 : decode cX12_seen 70 = .ok (.goto (-51), 3) := by decide +kernel
theorem dX12_seen_73 : decode cX12_seen 73 = .ok (.iload 5, 2) := by decide +kernel
theorem dX12_seen_75 : decode cX12_seen 75 = .ok (.ireturn, 1) := by decide +kernel
set_option maxRecDepth 20000 in
theorem s_X12_seen {w : Wd} {d : Nat} {P : Int → IM → LM → Prop} {i : IM} {l : LM} (p0 : Int) (p1 : Int) (p2 : Int) (p3 : Int)  (h : cI w d X_X12_thingsSeen [vR (some 99), vI p0, vI (i 101 313), vI p1] i l (fun r2 i2 l2 => gI w d X_X12_seen P i2 l2 19 [(0, vR (some 99)), (1, vI p0), (2, vI p1), (3, vI p2), (4, vI p3), (5, vI r2), (6, vI 0)] [])) : gI w d X_X12_seen P i l 0 [(0, vR (some 99)), (1, vI p0), (2, vI p1), (3, vI p2), (4, vI p3)] [] := by
  refine g_aload_n (pc' := 1) 0 dX12_seen_0 rfl rfl ?_
  refine g_iload_n (pc' := 2) 1 dX12_seen_1 rfl rfl ?_
  refine g_aload_n (pc' := 3) 0 dX12_seen_2 rfl rfl ?_
  refine g_getR (pc' := 6) (o := some 101) fl_X12_20 rfl rfl rfl dX12_seen_3 rfl ?_
  refine g_sipush (pc' := 9) dX12_seen_6 rfl rfl ?_
  refine g_iald (pc' := 10) (N := 5120) rfl rfl (Nat.lt_of_lt_of_le (Nat.lt_succ_self _) (Nat.le_of_ble_eq_true rfl)) (by decide) dX12_seen_9 rfl (fun rg1 => ?_)
  refine g_iload_n (pc' := 11) 2 dX12_seen_10 rfl rfl ?_
  refine g_cVI (pc' := 14) (vs := [vI p0, vI (i 101 313), vI p1]) (st := []) (c := 12) h mv_X12_thingsSeen lk_X12_318 rfl rfl rfl rfl (Nat.le_of_ble_eq_true rfl) (Nat.le_of_ble_eq_true rfl) rfl dX12_seen_11 rfl z2 (fun r2 i2 l2 rg2 h => ?_)
  refine g_istore (pc' := 16) (L' := [(5, vI r2), (0, vR (some 99)), (1, vI p0), (2, vI p1), (3, vI p2), (4, vI p3)]) dX12_seen_14 rfl (Nat.le_of_ble_eq_true rfl) rfl ?_
  refine g_iconst (pc' := 17) dX12_seen_16 rfl ?_
  refine g_istore (pc' := 19) (L' := [(6, vI 0), (5, vI r2), (0, vR (some 99)), (1, vI p0), (2, vI p1), (3, vI p2), (4, vI p3)]) dX12_seen_17 rfl (Nat.le_of_ble_eq_true rfl) rfl ?_
  refine g_sub (L' := [(0, vR (some 99)), (1, vI p0), (2, vI p1), (3, vI p2), (4, vI p3), (5, vI r2), (6, vI 0)]) [2, 3, 4, 5, 6, 1, 0] rfl ?_
  exact h
theorem e_X12_seen {w : Wd} {d : Nat} {P : Int → IM → LM → Prop} {i : IM} {l : LM} {p0 : Int} {p1 : Int} {p2 : Int} {p3 : Int}  (h : gI w d X_X12_seen P i l 0 [(0, vR (some 99)), (1, vI p0), (2, vI p1), (3, vI p2), (4, vI p3)] []) : cI w (d + 1) X_X12_seen [vR (some 99), vI p0, vI p1, vI p2, vI p3] i l P := CI_of (by decide +kernel) (Nat.le_of_ble_eq_true rfl) h
set_option maxRecDepth 20000 in
theorem s_X12_seen_19 {w : Wd} {d : Nat} {P : Int → IM → LM → Prop} {i : IM} {l : LM} (x1 : Int) (x2 : Int) (x3 : Int) (x4 : Int) (x5 : Int) (x6 : Int)  (hd : 1 ≤ d) (h : ((rg x6) ∧ ((i 101 309 ≤ x6) → ((rg x5) ∧ P x5 i l)) ∧ ((¬ (i 101 309 ≤ x6)) → ((rg x6) ∧ (rg x3) ∧ (¬ (x6 = x3) → rg x2) ∧ (¬ (x6 = x3) → 0 ≤ i 101 310 ∧ i 101 310 ≤ 60) ∧ cI w d X_X12_coatBit [vR (some 99), vI x1, vI x6, vI (if (x6 = x3) then x4 else mWhere i x6 x2), vI (i 101 313), vI x2] i l (fun r44 i44 l44 => gI w d X_X12_seen P i44 l44 19 [(0, vR (some 99)), (1, vI x1), (2, vI x2), (3, vI x3), (4, vI x4), (5, vI (ior x5 r44)), (6, vI (x6 + 1))] []))))) : gI w d X_X12_seen P i l 19 [(0, vR (some 99)), (1, vI x1), (2, vI x2), (3, vI x3), (4, vI x4), (5, vI x5), (6, vI x6)] [] := by
  refine g_iload (pc' := 21) 6 dX12_seen_19 rfl rfl ?_
  refine g_aload_n (pc' := 22) 0 dX12_seen_21 rfl rfl ?_
  refine g_pVI (pc' := 25) (vs := []) (st := [vI x6]) (val := i 101 309) (c := 12) (sp_X12_people (le_hd hd rfl) ) mv_X12_people lk_X12_124 rfl rfl rfl rfl (Nat.le_of_ble_eq_true rfl) (Nat.le_of_ble_eq_true rfl) rfl dX12_seen_22 rfl z2 (fun rg3 => ?_)
  obtain ⟨hob33, hk45, hk46⟩ := h
  refine g_icmp_ge (tgt := 73) (pc' := 28) (hob33) rg3 Iff.rfl dX12_seen_25 rfl rfl (fun c34 => ?_) (fun c34 => ?_)
  · have h := hk45 c34
    obtain ⟨ob35, h⟩ := h
    refine g_iload (pc' := 75) 5 dX12_seen_73 rfl rfl ?_
    exact g_retI rfl ob35 dX12_seen_75 h
  · have h := hk46 c34
    refine g_iload (pc' := 30) 5 dX12_seen_28 rfl rfl ?_
    refine g_aload_n (pc' := 31) 0 dX12_seen_30 rfl rfl ?_
    refine g_iload_n (pc' := 32) 1 dX12_seen_31 rfl rfl ?_
    refine g_iload (pc' := 34) 6 dX12_seen_32 rfl rfl ?_
    refine g_iload (pc' := 36) 6 dX12_seen_34 rfl rfl ?_
    refine g_iload_n (pc' := 37) 3 dX12_seen_36 rfl rfl ?_
    obtain ⟨hob37, hob38, hob40, hob41, h⟩ := h
    have hJ : gI w d X_X12_seen P i l 52 [(0, vR (some 99)), (1, vI x1), (2, vI x2), (3, vI x3), (4, vI x4), (5, vI x5), (6, vI x6)] [vI (if (x6 = x3) then x4 else mWhere i x6 x2), vI x6, vI x1, vR (some 99), vI x5] := by
      refine g_aload_n (pc' := 53) 0 dX12_seen_52 rfl rfl ?_
      refine g_getR (pc' := 56) (o := some 101) fl_X12_20 rfl rfl rfl dX12_seen_53 rfl ?_
      refine g_sipush (pc' := 59) dX12_seen_56 rfl rfl ?_
      refine g_iald (pc' := 60) (N := 5120) rfl rfl (Nat.lt_of_lt_of_le (Nat.lt_succ_self _) (Nat.le_of_ble_eq_true rfl)) (by decide) dX12_seen_59 rfl (fun rg43 => ?_)
      refine g_iload_n (pc' := 61) 2 dX12_seen_60 rfl rfl ?_
      refine g_cVI (pc' := 64) (vs := [vI x1, vI x6, vI (if (x6 = x3) then x4 else mWhere i x6 x2), vI (i 101 313), vI x2]) (st := [vI x5]) (c := 12) h mv_X12_coatBit lk_X12_321 rfl rfl rfl rfl (Nat.le_of_ble_eq_true rfl) (Nat.le_of_ble_eq_true rfl) rfl dX12_seen_61 rfl z2 (fun r44 i44 l44 rg44 h => ?_)
      refine g_ior (pc' := 65) dX12_seen_64 rfl ?_
      refine g_istore (pc' := 67) (L' := [(5, vI (ior x5 r44)), (0, vR (some 99)), (1, vI x1), (2, vI x2), (3, vI x3), (4, vI x4), (6, vI x6)]) dX12_seen_65 rfl (Nat.le_of_ble_eq_true rfl) rfl ?_
      refine g_iinc (pc' := 70) (L' := [(6, vI (x6 + 1)), (5, vI (ior x5 r44)), (0, vR (some 99)), (1, vI x1), (2, vI x2), (3, vI x3), (4, vI x4)]) 6 dX12_seen_67 rfl (Nat.le_of_ble_eq_true rfl) rfl rfl ?_
      refine g_goto (tgt := 19) dX12_seen_70 rfl ?_
      refine g_sub (L' := [(0, vR (some 99)), (1, vI x1), (2, vI x2), (3, vI x3), (4, vI x4), (5, vI (ior x5 r44)), (6, vI (x6 + 1))]) [2, 3, 4, 5, 6, 1, 0] rfl ?_
      exact h
    refine g_icmp_ne (tgt := 45) (pc' := 40) (hob37) (hob38) Iff.rfl dX12_seen_37 rfl rfl (fun c39 => ?_) (fun c39 => ?_)
    · refine g_aload_n (pc' := 46) 0 dX12_seen_45 rfl rfl ?_
      refine g_iload (pc' := 48) 6 dX12_seen_46 rfl rfl ?_
      refine g_iload_n (pc' := 49) 2 dX12_seen_48 rfl rfl ?_
      refine g_pVI (pc' := 52) (vs := [vI x6, vI x2]) (st := [vI x6, vI x1, vR (some 99), vI x5]) (val := mWhere i x6 x2) (c := 12) (sp_X12_whereOf (le_hd hd rfl) (hob37) (hob40 c39) (hob41 c39)) mv_X12_whereOf lk_X12_171 rfl rfl rfl rfl (Nat.le_of_ble_eq_true rfl) (Nat.le_of_ble_eq_true rfl) rfl dX12_seen_49 rfl z2 (fun rg42 => ?_)
      rw [if_neg c39 (α := Int) (t := x4) (e := mWhere i x6 x2)] at hJ
      exact hJ
    · refine g_iload (pc' := 42) 4 dX12_seen_40 rfl rfl ?_
      refine g_goto (tgt := 52) dX12_seen_42 rfl ?_
      rw [if_pos c39 (α := Int) (t := x4) (e := mWhere i x6 x2)] at hJ
      exact hJ

theorem dX12_holds_0 : decode cX12_holds 0 = .ok (.aload_n 0, 1) := by decide +kernel
theorem dX12_holds_1 : decode cX12_holds 1 = .ok (.iload_n 1, 1) := by decide +kernel
theorem dX12_holds_2 : decode cX12_holds 2 = .ok (.iload_n 2, 1) := by decide +kernel
theorem dX12_holds_3 : decode cX12_holds 3 = .ok (.iconst (-1), 1) := by decide +kernel
theorem dX12_holds_4 : decode cX12_holds 4 = .ok (.iconst (-1), 1) := by decide +kernel
theorem dX12_holds_5 : decode cX12_holds 5 = .ok (.invokevirtual 324, 3) := by decide +kernel
theorem dX12_holds_8 : decode cX12_holds 8 = .ok (.invokestatic 327, 3) := by decide +kernel
theorem dX12_holds_11 : decode cX12_holds 11 = .ok (.aload_n 0, 1) := by decide +kernel
theorem dX12_holds_12 : decode cX12_holds 12 = .ok (.iload_n 1, 1) := by decide +kernel
theorem dX12_holds_13 : decode cX12_holds 13 = .ok (.aload_n 0, 1) := by decide +kernel
theorem dX12_holds_14 : decode cX12_holds 14 = .ok (.getfield 20, 3) := by decide +kernel
theorem dX12_holds_17 : decode cX12_holds 17 = .ok (.sipush 313, 3) := by decide +kernel
theorem dX12_holds_20 : decode cX12_holds 20 = .ok (.iaload, 1) := by decide +kernel
theorem dX12_holds_21 : decode cX12_holds 21 = .ok (.iload_n 2, 1) := by decide +kernel
theorem dX12_holds_22 : decode cX12_holds 22 = .ok (.invokevirtual 330, 3) := by decide +kernel
theorem dX12_holds_25 : decode cX12_holds 25 = .ok (.if_icmp .gt 7, 3) := by decide +kernel
theorem dX12_holds_28 : decode cX12_holds 28 = .ok (.iconst 1, 1) := by decide +kernel
theorem dX12_holds_29 : decode cX12_holds 29 = .ok (.goto 4, 3) := by decide +kernel
theorem dX12_holds_32 : decode cX12_holds 32 = .ok (.iconst 0, 1) := by decide +kernel
theorem dX12_holds_33 : decode cX12_holds 33 = .ok (.ireturn, 1) := by decide +kernel
set_option maxRecDepth 20000 in
theorem s_X12_holds {w : Wd} {d : Nat} {P : Int → IM → LM → Prop} {i : IM} {l : LM} (p0 : Int) (p1 : Int)  (hd : 1 ≤ d) (h : cI w d X_X12_seen [vR (some 99), vI p0, vI p1, vI (-1), vI (-1)] i l (fun r1 i1 l1 => ((0 ≤ r1 ∧ r1 < 2147483648) ∧ cI w d X_X12_limitOf [vR (some 99), vI p0, vI (i1 101 313), vI p1] i1 l1 (fun r5 i5 l5 => P (bI (¬ (r5 < popI r1))) i5 l5)))) : gI w d X_X12_holds P i l 0 [(0, vR (some 99)), (1, vI p0), (2, vI p1)] [] := by
  refine g_aload_n (pc' := 1) 0 dX12_holds_0 rfl rfl ?_
  refine g_iload_n (pc' := 2) 1 dX12_holds_1 rfl rfl ?_
  refine g_iload_n (pc' := 3) 2 dX12_holds_2 rfl rfl ?_
  refine g_iconst (pc' := 4) dX12_holds_3 rfl ?_
  refine g_iconst (pc' := 5) dX12_holds_4 rfl ?_
  refine g_cVI (pc' := 8) (vs := [vI p0, vI p1, vI (-1), vI (-1)]) (st := []) (c := 12) h mv_X12_seen lk_X12_324 rfl rfl rfl rfl (Nat.le_of_ble_eq_true rfl) (Nat.le_of_ble_eq_true rfl) rfl dX12_holds_5 rfl z2 (fun r1 i1 l1 rg1 h => ?_)
  obtain ⟨ob2, h⟩ := h
  refine g_pSI (pc' := 11) (vs := [vI r1]) (st := []) (val := popI r1) (sp_X12_ones (le_hd hd rfl) ob2) mk_X12_ones ms_X12_ones lk_X12_327 rfl (Nat.le_of_ble_eq_true rfl) (Nat.le_of_ble_eq_true rfl) rfl dX12_holds_8 rfl z2 (fun rg3 => ?_)
  refine g_aload_n (pc' := 12) 0 dX12_holds_11 rfl rfl ?_
  refine g_iload_n (pc' := 13) 1 dX12_holds_12 rfl rfl ?_
  refine g_aload_n (pc' := 14) 0 dX12_holds_13 rfl rfl ?_
  refine g_getR (pc' := 17) (o := some 101) fl_X12_20 rfl rfl rfl dX12_holds_14 rfl ?_
  refine g_sipush (pc' := 20) dX12_holds_17 rfl rfl ?_
  refine g_iald (pc' := 21) (N := 5120) rfl rfl (Nat.lt_of_lt_of_le (Nat.lt_succ_self _) (Nat.le_of_ble_eq_true rfl)) (by decide) dX12_holds_20 rfl (fun rg4 => ?_)
  refine g_iload_n (pc' := 22) 2 dX12_holds_21 rfl rfl ?_
  refine g_cVI (pc' := 25) (vs := [vI p0, vI (i1 101 313), vI p1]) (st := [vI (popI r1)]) (c := 12) h mv_X12_limitOf lk_X12_330 rfl rfl rfl rfl (Nat.le_of_ble_eq_true rfl) (Nat.le_of_ble_eq_true rfl) rfl dX12_holds_22 rfl z2 (fun r5 i5 l5 rg5 h => ?_)
  have hJ : gI w d X_X12_holds P i5 l5 33 [(0, vR (some 99)), (1, vI p0), (2, vI p1)] [vI (bI (¬ (r5 < popI r1)))] := by
    exact g_retZ rfl (bI_01 _) dX12_holds_33 h
  refine g_icmp_gt (tgt := 32) (pc' := 28) rg3 rg5 Iff.rfl dX12_holds_25 rfl rfl (fun c7 => ?_) (fun c7 => ?_)
  · refine g_iconst (pc' := 33) dX12_holds_32 rfl ?_
    rw [bI_f (p := (¬ (r5 < popI r1))) (fun q => q c7)] at hJ
    exact hJ
  · refine g_iconst (pc' := 29) dX12_holds_28 rfl ?_
    refine g_goto (tgt := 33) dX12_holds_29 rfl ?_
    rw [bI_t (p := (¬ (r5 < popI r1))) c7] at hJ
    exact hJ
theorem e_X12_holds {w : Wd} {d : Nat} {P : Int → IM → LM → Prop} {i : IM} {l : LM} {p0 : Int} {p1 : Int}  (h : gI w d X_X12_holds P i l 0 [(0, vR (some 99)), (1, vI p0), (2, vI p1)] []) : cI w (d + 1) X_X12_holds [vR (some 99), vI p0, vI p1] i l P := CI_of (by decide +kernel) (Nat.le_of_ble_eq_true rfl) h

theorem dX12_sees_0 : decode cX12_sees 0 = .ok (.aload_n 0, 1) := by decide +kernel
theorem dX12_sees_1 : decode cX12_sees 1 = .ok (.iload_n 1, 1) := by decide +kernel
theorem dX12_sees_2 : decode cX12_sees 2 = .ok (.invokevirtual 141, 3) := by decide +kernel
theorem dX12_sees_5 : decode cX12_sees 5 = .ok (.ifCond .eq 19, 3) := by decide +kernel
theorem dX12_sees_8 : decode cX12_sees 8 = .ok (.iload_n 2, 1) := by decide +kernel
theorem dX12_sees_9 : decode cX12_sees 9 = .ok (.invokestatic 164, 3) := by decide +kernel
theorem dX12_sees_12 : decode cX12_sees 12 = .ok (.ifCond .eq 12, 3) := by decide +kernel
theorem dX12_sees_15 : decode cX12_sees 15 = .ok (.iload_n 3, 1) := by decide +kernel
theorem dX12_sees_16 : decode cX12_sees 16 = .ok (.iconst 0, 1) := by decide +kernel
theorem dX12_sees_17 : decode cX12_sees 17 = .ok (.iconst 2, 1) := by decide +kernel
theorem dX12_sees_18 : decode cX12_sees 18 = .ok (.invokestatic 106, 3) := by decide +kernel
theorem dX12_sees_21 : decode cX12_sees 21 = .ok (.ifCond .ne 5, 3) := by decide +kernel
theorem dX12_sees_24 : decode cX12_sees 24 = .ok (.iconst (-1), 1) := by decide +kernel
theorem dX12_sees_25 : decode cX12_sees 25 = .ok (.ireturn, 1) := by decide +kernel
theorem dX12_sees_26 : decode cX12_sees 26 = .ok (.iload_n 3, 1) := by decide +kernel
theorem dX12_sees_27 : decode cX12_sees 27 = .ok (.ifCond .ne 14, 3) := by decide +kernel
theorem dX12_sees_30 : decode cX12_sees 30 = .ok (.aload_n 0, 1) := by decide +kernel
theorem dX12_sees_31 : decode cX12_sees 31 = .ok (.iload_n 1, 1) := by decide +kernel
theorem dX12_sees_32 : decode cX12_sees 32 = .ok (.iload_n 2, 1) := by decide +kernel
theorem dX12_sees_33 : decode cX12_sees 33 = .ok (.iconst (-1), 1) := by decide +kernel
theorem dX12_sees_34 : decode cX12_sees 34 = .ok (.iconst (-1), 1) := by decide +kernel
theorem dX12_sees_35 : decode cX12_sees 35 = .ok (.invokevirtual 324, 3) := by decide +kernel
theorem dX12_sees_38 : decode cX12_sees 38 = .ok (.goto 39, 3) := by decide +kernel
theorem dX12_sees_41 : decode cX12_sees 41 = .ok (.iload_n 3, 1) := by decide +kernel
theorem dX12_sees_42 : decode cX12_sees 42 = .ok (.iconst 1, 1) := by decide +kernel
theorem dX12_sees_43 : decode cX12_sees 43 = .ok (.if_icmp .ne 20, 3) := by decide +kernel
theorem dX12_sees_46 : decode cX12_sees 46 = .ok (.aload_n 0, 1) := by decide +kernel
theorem dX12_sees_47 : decode cX12_sees 47 = .ok (.iload_n 1, 1) := by decide +kernel
theorem dX12_sees_48 : decode cX12_sees 48 = .ok (.aload_n 0, 1) := by decide +kernel
theorem dX12_sees_49 : decode cX12_sees 49 = .ok (.getfield 20, 3) := by decide +kernel
theorem dX12_sees_52 : decode cX12_sees 52 = .ok (.sipush 313, 3) := by decide +kernel
theorem dX12_sees_55 : decode cX12_sees 55 = .ok (.iaload, 1) := by decide +kernel
theorem dX12_sees_56 : decode cX12_sees 56 = .ok (.iload_n 2, 1) := by decide +kernel
theorem dX12_sees_57 : decode cX12_sees 57 = .ok (.invokevirtual 330, 3) := by decide +kernel
theorem dX12_sees_60 : decode cX12_sees 60 = .ok (.goto 17, 3) := by decide +kernel
theorem dX12_sees_63 : decode cX12_sees 63 = .ok (.aload_n 0, 1) := by decide +kernel
theorem dX12_sees_64 : decode cX12_sees 64 = .ok (.iload_n 1, 1) := by decide +kernel
theorem dX12_sees_65 : decode cX12_sees 65 = .ok (.iload_n 2, 1) := by decide +kernel
theorem dX12_sees_66 : decode cX12_sees 66 = .ok (.invokevirtual 333, 3) := by decide +kernel
theorem dX12_sees_69 : decode cX12_sees 69 = .ok (.ifCond .eq 7, 3) := by decide +kernel
theorem dX12_sees_72 : decode cX12_sees 72 = .ok (.iconst 1, 1) := by decide +kernel
theorem dX12_sees_73 : decode cX12_sees 73 = .ok (.goto 4, 3) := by decide +kernel
theorem dX12_sees_76 : decode cX12_sees 76 = .ok (.iconst 0, 1) := by decide +kernel
theorem dX12_sees_77 : decode cX12_sees 77 = .ok (.ireturn, 1) := by decide +kernel
set_option maxRecDepth 20000 in
theorem s_X12_sees {w : Wd} {d : Nat} {P : Int → IM → LM → Prop} {i : IM} {l : LM} (p0 : Int) (p1 : Int) (p2 : Int)  (hd : 2 ≤ d) (h : ((rg p0) ∧ (rg (i 101 308 - 1)) ∧ (((0 ≤ p0 ∧ p0 < i 101 308) → rg p1) ∧ ((0 ≤ p0 ∧ p0 < i 101 308) → (0 ≤ p1 ∧ p1 ≤ 119) → rg p2) ∧ ((¬ (0 ≤ p0 ∧ p0 < i 101 308) ∨ (¬ (0 ≤ p1 ∧ p1 ≤ 119) ∨ (¬ (0 ≤ p2 ∧ p2 ≤ 2)))) → P (-1) i l) ∧ (((0 ≤ p0 ∧ p0 < i 101 308) ∧ ((0 ≤ p1 ∧ p1 ≤ 119) ∧ ((0 ≤ p2 ∧ p2 ≤ 2) ∧ (¬ (p2 = 0) ∧ (¬ (p2 = 1)))))) → cI w d X_X12_holds [vR (some 99), vI p0, vI p1] i l (fun r15 i15 l15 => P (bI (¬ (r15 = 0))) i15 l15)) ∧ (((0 ≤ p0 ∧ p0 < i 101 308) ∧ ((0 ≤ p1 ∧ p1 ≤ 119) ∧ ((0 ≤ p2 ∧ p2 ≤ 2) ∧ (¬ (p2 = 0) ∧ (p2 = 1))))) → cI w d X_X12_limitOf [vR (some 99), vI p0, vI (i 101 313), vI p1] i l (fun r19 i19 l19 => P r19 i19 l19)) ∧ (((0 ≤ p0 ∧ p0 < i 101 308) ∧ ((0 ≤ p1 ∧ p1 ≤ 119) ∧ ((0 ≤ p2 ∧ p2 ≤ 2) ∧ (p2 = 0)))) → cI w d X_X12_seen [vR (some 99), vI p0, vI p1, vI (-1), vI (-1)] i l (fun r20 i20 l20 => P r20 i20 l20))))) : gI w d X_X12_sees P i l 0 [(0, vR (some 99)), (1, vI p0), (2, vI p1), (3, vI p2)] [] := by
  obtain ⟨ob1, ob2, h⟩ := h
  refine g_aload_n (pc' := 1) 0 dX12_sees_0 rfl rfl ?_
  refine g_iload_n (pc' := 2) 1 dX12_sees_1 rfl rfl ?_
  refine g_pVI (pc' := 5) (vs := [vI p0]) (st := []) (val := bI (0 ≤ p0 ∧ p0 < i 101 308)) (c := 12) (sp_X12_isWindow (le_hd hd rfl) ob1 ob2) mv_X12_isWindow lk_X12_141 rfl rfl rfl rfl (Nat.le_of_ble_eq_true rfl) (Nat.le_of_ble_eq_true rfl) rfl dX12_sees_2 rfl z2 (fun rg3 => ?_)
  obtain ⟨hob6, hob9, hk21, hk22, hk23, hk24⟩ := h
  have hk21g : (¬ (0 ≤ p0 ∧ p0 < i 101 308) ∨ (¬ (0 ≤ p1 ∧ p1 ≤ 119) ∨ (¬ (0 ≤ p2 ∧ p2 ≤ 2)))) → gI w d X_X12_sees P i l 24 [(0, vR (some 99)), (1, vI p0), (2, vI p1), (3, vI p2)] [] := by
    intro hp
    have h := hk21 hp
    refine g_iconst (pc' := 25) dX12_sees_24 rfl ?_
    exact g_retI rfl (rg_lit rfl) dX12_sees_25 h
  have hk22g : ((0 ≤ p0 ∧ p0 < i 101 308) ∧ ((0 ≤ p1 ∧ p1 ≤ 119) ∧ ((0 ≤ p2 ∧ p2 ≤ 2) ∧ (¬ (p2 = 0) ∧ (¬ (p2 = 1)))))) → gI w d X_X12_sees P i l 63 [(0, vR (some 99)), (1, vI p0), (2, vI p1), (3, vI p2)] [] := by
    intro hp
    have h := hk22 hp
    refine g_aload_n (pc' := 64) 0 dX12_sees_63 rfl rfl ?_
    refine g_iload_n (pc' := 65) 1 dX12_sees_64 rfl rfl ?_
    refine g_iload_n (pc' := 66) 2 dX12_sees_65 rfl rfl ?_
    refine g_cVI (pc' := 69) (vs := [vI p0, vI p1]) (st := []) (c := 12) h mv_X12_holds lk_X12_333 rfl rfl rfl rfl (Nat.le_of_ble_eq_true rfl) (Nat.le_of_ble_eq_true rfl) rfl dX12_sees_66 rfl z2 (fun r15 i15 l15 rg15 h => ?_)
    have hJ : gI w d X_X12_sees P i15 l15 77 [(0, vR (some 99)), (1, vI p0), (2, vI p1), (3, vI p2)] [vI (bI (¬ (r15 = 0)))] := by
      exact g_retI rfl (rg_bI _) dX12_sees_77 h
    refine g_if_eq (tgt := 76) (pc' := 72) rg15 Iff.rfl dX12_sees_69 rfl rfl (fun c17 => ?_) (fun c17 => ?_)
    · refine g_iconst (pc' := 77) dX12_sees_76 rfl ?_
      rw [bI_f (p := (¬ (r15 = 0))) (fun q => q c17)] at hJ
      exact hJ
    · refine g_iconst (pc' := 73) dX12_sees_72 rfl ?_
      refine g_goto (tgt := 77) dX12_sees_73 rfl ?_
      rw [bI_t (p := (¬ (r15 = 0))) c17] at hJ
      exact hJ
  have hk23g : ((0 ≤ p0 ∧ p0 < i 101 308) ∧ ((0 ≤ p1 ∧ p1 ≤ 119) ∧ ((0 ≤ p2 ∧ p2 ≤ 2) ∧ (¬ (p2 = 0) ∧ (p2 = 1))))) → gI w d X_X12_sees P i l 46 [(0, vR (some 99)), (1, vI p0), (2, vI p1), (3, vI p2)] [] := by
    intro hp
    have h := hk23 hp
    refine g_aload_n (pc' := 47) 0 dX12_sees_46 rfl rfl ?_
    refine g_iload_n (pc' := 48) 1 dX12_sees_47 rfl rfl ?_
    refine g_aload_n (pc' := 49) 0 dX12_sees_48 rfl rfl ?_
    refine g_getR (pc' := 52) (o := some 101) fl_X12_20 rfl rfl rfl dX12_sees_49 rfl ?_
    refine g_sipush (pc' := 55) dX12_sees_52 rfl rfl ?_
    refine g_iald (pc' := 56) (N := 5120) rfl rfl (Nat.lt_of_lt_of_le (Nat.lt_succ_self _) (Nat.le_of_ble_eq_true rfl)) (by decide) dX12_sees_55 rfl (fun rg18 => ?_)
    refine g_iload_n (pc' := 57) 2 dX12_sees_56 rfl rfl ?_
    refine g_cVI (pc' := 60) (vs := [vI p0, vI (i 101 313), vI p1]) (st := []) (c := 12) h mv_X12_limitOf lk_X12_330 rfl rfl rfl rfl (Nat.le_of_ble_eq_true rfl) (Nat.le_of_ble_eq_true rfl) rfl dX12_sees_57 rfl z2 (fun r19 i19 l19 rg19 h => ?_)
    refine g_goto (tgt := 77) dX12_sees_60 rfl ?_
    exact g_retI rfl rg19 dX12_sees_77 h
  have hk24g : ((0 ≤ p0 ∧ p0 < i 101 308) ∧ ((0 ≤ p1 ∧ p1 ≤ 119) ∧ ((0 ≤ p2 ∧ p2 ≤ 2) ∧ (p2 = 0)))) → gI w d X_X12_sees P i l 30 [(0, vR (some 99)), (1, vI p0), (2, vI p1), (3, vI p2)] [] := by
    intro hp
    have h := hk24 hp
    refine g_aload_n (pc' := 31) 0 dX12_sees_30 rfl rfl ?_
    refine g_iload_n (pc' := 32) 1 dX12_sees_31 rfl rfl ?_
    refine g_iload_n (pc' := 33) 2 dX12_sees_32 rfl rfl ?_
    refine g_iconst (pc' := 34) dX12_sees_33 rfl ?_
    refine g_iconst (pc' := 35) dX12_sees_34 rfl ?_
    refine g_cVI (pc' := 38) (vs := [vI p0, vI p1, vI (-1), vI (-1)]) (st := []) (c := 12) h mv_X12_seen lk_X12_324 rfl rfl rfl rfl (Nat.le_of_ble_eq_true rfl) (Nat.le_of_ble_eq_true rfl) rfl dX12_sees_35 rfl z2 (fun r20 i20 l20 rg20 h => ?_)
    refine g_goto (tgt := 77) dX12_sees_38 rfl ?_
    exact g_retI rfl rg20 dX12_sees_77 h
  refine g_if_eq (tgt := 24) (pc' := 8) rg3 (bI_eq _) dX12_sees_5 rfl rfl (fun c5 => ?_) (fun c5n => ?_)
  · exact hk21g (Or.inl c5)
  · have c5 := Decidable.of_not_not c5n
    refine g_iload_n (pc' := 9) 2 dX12_sees_8 rfl rfl ?_
    refine g_pSI (pc' := 12) (vs := [vI p1]) (st := []) (val := bI (0 ≤ p1 ∧ p1 ≤ 119)) (sp_X12_isMinute (le_hd hd rfl) (hob6 c5)) mk_X12_isMinute ms_X12_isMinute lk_X12_164 rfl (Nat.le_of_ble_eq_true rfl) (Nat.le_of_ble_eq_true rfl) rfl dX12_sees_9 rfl z2 (fun rg7 => ?_)
    refine g_if_eq (tgt := 24) (pc' := 15) rg7 (bI_eq _) dX12_sees_12 rfl rfl (fun c8 => ?_) (fun c8n => ?_)
    · exact hk21g (Or.inr (Or.inl c8))
    · have c8 := Decidable.of_not_not c8n
      refine g_iload_n (pc' := 16) 3 dX12_sees_15 rfl rfl ?_
      refine g_iconst (pc' := 17) dX12_sees_16 rfl ?_
      refine g_iconst (pc' := 18) dX12_sees_17 rfl ?_
      refine g_pSI (pc' := 21) (vs := [vI p2, vI 0, vI 2]) (st := []) (val := bI (0 ≤ p2 ∧ p2 ≤ 2)) (sp_X12_lies (le_hd hd rfl) (hob9 c5 c8) (rg_lit rfl) (rg_lit rfl)) mk_X12_lies ms_X12_lies lk_X12_106 rfl (Nat.le_of_ble_eq_true rfl) (Nat.le_of_ble_eq_true rfl) rfl dX12_sees_18 rfl z2 (fun rg10 => ?_)
      refine g_if_ne (tgt := 26) (pc' := 24) rg10 (bI_eq _) dX12_sees_21 rfl rfl (fun c11n => ?_) (fun c11 => ?_)
      · have c11 := Decidable.of_not_not c11n
        refine g_iload_n (pc' := 27) 3 dX12_sees_26 rfl rfl ?_
        refine g_if_ne (tgt := 41) (pc' := 30) (hob9 c5 c8) Iff.rfl dX12_sees_27 rfl rfl (fun c12 => ?_) (fun c12 => ?_)
        · refine g_iload_n (pc' := 42) 3 dX12_sees_41 rfl rfl ?_
          refine g_iconst (pc' := 43) dX12_sees_42 rfl ?_
          refine g_icmp_ne (tgt := 63) (pc' := 46) (hob9 c5 c8) (rg_lit rfl) Iff.rfl dX12_sees_43 rfl rfl (fun c13 => ?_) (fun c13 => ?_)
          · exact hk22g ⟨c5, ⟨c8, ⟨c11, ⟨c12, c13⟩⟩⟩⟩
          · exact hk23g ⟨c5, ⟨c8, ⟨c11, ⟨c12, c13⟩⟩⟩⟩
        · exact hk24g ⟨c5, ⟨c8, ⟨c11, c12⟩⟩⟩
      · exact hk21g (Or.inr (Or.inr c11))
theorem e_X12_sees {w : Wd} {d : Nat} {P : Int → IM → LM → Prop} {i : IM} {l : LM} {p0 : Int} {p1 : Int} {p2 : Int}  (h : gI w d X_X12_sees P i l 0 [(0, vR (some 99)), (1, vI p0), (2, vI p1), (3, vI p2)] []) : cI w (d + 1) X_X12_sees [vR (some 99), vI p0, vI p1, vI p2] i l P := CI_of (by decide +kernel) (Nat.le_of_ble_eq_true rfl) h

theorem dX12_judge_0 : decode cX12_judge 0 = .ok (.iload_n 1, 1) := by decide +kernel
theorem dX12_judge_1 : decode cX12_judge 1 = .ok (.iconst 0, 1) := by decide +kernel
theorem dX12_judge_2 : decode cX12_judge 2 = .ok (.iconst 2, 1) := by decide +kernel
theorem dX12_judge_3 : decode cX12_judge 3 = .ok (.invokestatic 106, 3) := by decide +kernel
theorem dX12_judge_6 : decode cX12_judge 6 = .ok (.ifCond .ne 5, 3) := by decide +kernel
theorem dX12_judge_9 : decode cX12_judge 9 = .ok (.iconst (-1), 1) := by decide +kernel
theorem dX12_judge_10 : decode cX12_judge 10 = .ok (.ireturn, 1) := by decide +kernel
theorem dX12_judge_11 : decode cX12_judge 11 = .ok (.iconst 0, 1) := by decide +kernel
theorem dX12_judge_12 : decode cX12_judge 12 = .ok (.istore_n 2, 1) := by decide +kernel
theorem dX12_judge_13 : decode cX12_judge 13 = .ok (.iconst 0, 1) := by decide +kernel
theorem dX12_judge_14 : decode cX12_judge 14 = .ok (.istore_n 3, 1) := by decide +kernel
theorem dX12_judge_15 : decode cX12_judge 15 = .ok (.iload_n 3, 1) := by decide +kernel
theorem dX12_judge_16 : decode cX12_judge 16 = .ok (.bipush 120, 2) := by decide +kernel
theorem dX12_judge_18 : decode cX12_judge 18 = .ok (.if_icmp .ge 57, 3) := by decide +kernel
theorem dX12_judge_21 : decode cX12_judge 21 = .ok (.iconst 0, 1) := by decide +kernel
theorem dX12_judge_22 : decode cX12_judge 22 = .ok (.istore 4, 2) := by decide +kernel
theorem dX12_judge_24 : decode cX12_judge 24 = .ok (.iload 4, 2) := by decide +kernel
theorem dX12_judge_26 : decode cX12_judge 26 = .ok (.aload_n 0, 1) := by decide +kernel
theorem dX12_judge_27 : decode cX12_judge 27 = .ok (.invokevirtual 121, 3) := by decide +kernel
theorem dX12_judge_30 : decode cX12_judge 30 = .ok (.if_icmp .ge 39, 3) := by decide +kernel
theorem dX12_judge_33 : decode cX12_judge 33 = .ok (.aload_n 0, 1) := by decide +kernel
theorem dX12_judge_34 : decode cX12_judge 34 = .ok (.iload 4, 2) := by decide +kernel
theorem dX12_judge_36 : decode cX12_judge 36 = .ok (.iload_n 3, 1) := by decide +kernel
theorem dX12_judge_37 : decode cX12_judge 37 = .ok (.invokevirtual 333, 3) := by decide +kernel
theorem dX12_judge_40 : decode cX12_judge 40 = .ok (.ifCond .eq 6, 3) := by decide +kernel
theorem dX12_judge_43 : decode cX12_judge 43 = .ok (.goto 20, 3) := by decide +kernel
theorem dX12_judge_46 : decode cX12_judge 46 = .ok (.iload_n 1, 1) := by decide +kernel
theorem dX12_judge_47 : decode cX12_judge 47 = .ok (.ifCond .ne 5, 3) := by decide +kernel
theorem dX12_judge_50 : decode cX12_judge 50 = .ok (.iload_n 3, 1) := by decide +kernel
theorem dX12_judge_51 : decode cX12_judge 51 = .ok (.ireturn, 1) := by decide +kernel
theorem dX12_judge_52 : decode cX12_judge 52 = .ok (.iload_n 1, 1) := by decide +kernel
theorem dX12_judge_53 : decode cX12_judge 53 = .ok (.iconst 1, 1) := by decide +kernel
theorem dX12_judge_54 : decode cX12_judge 54 = .ok (.if_icmp .ne 6, 3) := by decide +kernel
theorem dX12_judge_57 : decode cX12_judge 57 = .ok (.iload 4, 2) := by decide +kernel
theorem dX12_judge_59 : decode cX12_judge 59 = .ok (.ireturn, 1) := by decide +kernel
theorem dX12_judge_60 : decode cX12_judge 60 = .ok (.iinc 2 1, 3) := by decide +kernel
theorem dX12_judge_63 : decode cX12_judge 63 = .ok (.iinc 4 1, 3) := by decide +kernel
theorem dX12_judge_66 : decode cX12_judge 66 = .ok (.goto (-42), 3) := by decide +kernel
theorem dX12_judge_69 : decode cX12_judge 69 = .ok (.iinc 3 1, 3) := by decide +kernel
theorem dX12_judge_72 : decode cX12_judge 72 = .ok (.goto (-57), 3) := by decide +kernel
theorem dX12_judge_75 : decode cX12_judge 75 = .ok (.iload_n 1, 1) := by decide +kernel
theorem dX12_judge_76 : decode cX12_judge 76 = .ok (.iconst 2, 1) := by decide +kernel
theorem dX12_judge_77 : decode cX12_judge 77 = .ok (.if_icmp .ne 7, 3) := by decide +kernel
theorem dX12_judge_80 : decode cX12_judge 80 = .ok (.iload_n 2, 1) := by decide +kernel
theorem dX12_judge_81 : decode cX12_judge 81 = .ok (.goto 4, 3) := by decide +kernel
theorem dX12_judge_84 : decode cX12_judge 84 = .ok (.iconst (-1), 1) := by decide +kernel
theorem dX12_judge_85 : decode cX12_judge 85 = .ok (.ireturn, 1) := by decide +kernel
set_option maxRecDepth 20000 in
theorem s_X12_judge {w : Wd} {d : Nat} {P : Int → IM → LM → Prop} {i : IM} {l : LM} (p0 : Int)  (hd : 1 ≤ d) (h : ((rg p0) ∧ (((0 ≤ p0 ∧ p0 ≤ 2) → gI w d X_X12_judge P i l 15 [(0, vR (some 99)), (1, vI p0), (2, vI 0), (3, vI 0)] []) ∧ ((¬ (0 ≤ p0 ∧ p0 ≤ 2)) → P (-1) i l)))) : gI w d X_X12_judge P i l 0 [(0, vR (some 99)), (1, vI p0)] [] := by
  obtain ⟨ob1, h⟩ := h
  refine g_iload_n (pc' := 1) 1 dX12_judge_0 rfl rfl ?_
  refine g_iconst (pc' := 2) dX12_judge_1 rfl ?_
  refine g_iconst (pc' := 3) dX12_judge_2 rfl ?_
  refine g_pSI (pc' := 6) (vs := [vI p0, vI 0, vI 2]) (st := []) (val := bI (0 ≤ p0 ∧ p0 ≤ 2)) (sp_X12_lies (le_hd hd rfl) ob1 (rg_lit rfl) (rg_lit rfl)) mk_X12_lies ms_X12_lies lk_X12_106 rfl (Nat.le_of_ble_eq_true rfl) (Nat.le_of_ble_eq_true rfl) rfl dX12_judge_3 rfl z2 (fun rg2 => ?_)
  obtain ⟨hk5, hk6⟩ := h
  have hk5g : (0 ≤ p0 ∧ p0 ≤ 2) → gI w d X_X12_judge P i l 11 [(0, vR (some 99)), (1, vI p0)] [] := by
    intro hp
    have h := hk5 hp
    refine g_iconst (pc' := 12) dX12_judge_11 rfl ?_
    refine g_istore_n (pc' := 13) (L' := [(2, vI 0), (0, vR (some 99)), (1, vI p0)]) dX12_judge_12 rfl (Nat.le_of_ble_eq_true rfl) rfl ?_
    refine g_iconst (pc' := 14) dX12_judge_13 rfl ?_
    refine g_istore_n (pc' := 15) (L' := [(3, vI 0), (2, vI 0), (0, vR (some 99)), (1, vI p0)]) dX12_judge_14 rfl (Nat.le_of_ble_eq_true rfl) rfl ?_
    refine g_sub (L' := [(0, vR (some 99)), (1, vI p0), (2, vI 0), (3, vI 0)]) [2, 3, 1, 0] rfl ?_
    exact h
  have hk6g : (¬ (0 ≤ p0 ∧ p0 ≤ 2)) → gI w d X_X12_judge P i l 9 [(0, vR (some 99)), (1, vI p0)] [] := by
    intro hp
    have h := hk6 hp
    refine g_iconst (pc' := 10) dX12_judge_9 rfl ?_
    exact g_retI rfl (rg_lit rfl) dX12_judge_10 h
  refine g_if_ne (tgt := 11) (pc' := 9) rg2 (bI_eq _) dX12_judge_6 rfl rfl (fun c4n => ?_) (fun c4 => ?_)
  · have c4 := Decidable.of_not_not c4n
    exact hk5g c4
  · exact hk6g c4
theorem e_X12_judge {w : Wd} {d : Nat} {P : Int → IM → LM → Prop} {i : IM} {l : LM} {p0 : Int}  (h : gI w d X_X12_judge P i l 0 [(0, vR (some 99)), (1, vI p0)] []) : cI w (d + 1) X_X12_judge [vR (some 99), vI p0] i l P := CI_of (by decide +kernel) (Nat.le_of_ble_eq_true rfl) h
set_option maxRecDepth 20000 in
theorem s_X12_judge_15 {w : Wd} {d : Nat} {P : Int → IM → LM → Prop} {i : IM} {l : LM} (x1 : Int) (x2 : Int) (x3 : Int)  (h : ((rg x3) ∧ ((120 ≤ x3) → ((rg x1) ∧ ((rg (if (x1 = 2) then x2 else (-1))) ∧ P (if (x1 = 2) then x2 else (-1)) i l))) ∧ ((¬ (120 ≤ x3)) → gI w d X_X12_judge P i l 24 [(0, vR (some 99)), (1, vI x1), (2, vI x2), (3, vI x3), (4, vI 0)] []))) : gI w d X_X12_judge P i l 15 [(0, vR (some 99)), (1, vI x1), (2, vI x2), (3, vI x3)] [] := by
  refine g_iload_n (pc' := 16) 3 dX12_judge_15 rfl rfl ?_
  refine g_bipush (pc' := 18) dX12_judge_16 rfl rfl ?_
  obtain ⟨hob24, hk30, hk31⟩ := h
  refine g_icmp_ge (tgt := 75) (pc' := 21) (hob24) (rg_lit rfl) Iff.rfl dX12_judge_18 rfl rfl (fun c25 => ?_) (fun c25 => ?_)
  · have h := hk30 c25
    refine g_iload_n (pc' := 76) 1 dX12_judge_75 rfl rfl ?_
    refine g_iconst (pc' := 77) dX12_judge_76 rfl ?_
    obtain ⟨hob27, h⟩ := h
    have hJ : gI w d X_X12_judge P i l 85 [(0, vR (some 99)), (1, vI x1), (2, vI x2), (3, vI x3)] [vI (if (x1 = 2) then x2 else (-1))] := by
      obtain ⟨ob29, h⟩ := h
      exact g_retI rfl ob29 dX12_judge_85 h
    refine g_icmp_ne (tgt := 84) (pc' := 80) (hob27) (rg_lit rfl) Iff.rfl dX12_judge_77 rfl rfl (fun c28 => ?_) (fun c28 => ?_)
    · refine g_iconst (pc' := 85) dX12_judge_84 rfl ?_
      rw [if_neg c28 (α := Int) (t := x2) (e := (-1))] at hJ
      exact hJ
    · refine g_iload_n (pc' := 81) 2 dX12_judge_80 rfl rfl ?_
      refine g_goto (tgt := 85) dX12_judge_81 rfl ?_
      rw [if_pos c28 (α := Int) (t := x2) (e := (-1))] at hJ
      exact hJ
  · have h := hk31 c25
    refine g_iconst (pc' := 22) dX12_judge_21 rfl ?_
    refine g_istore (pc' := 24) (L' := [(4, vI 0), (0, vR (some 99)), (1, vI x1), (2, vI x2), (3, vI x3)]) dX12_judge_22 rfl (Nat.le_of_ble_eq_true rfl) rfl ?_
    refine g_sub (L' := [(0, vR (some 99)), (1, vI x1), (2, vI x2), (3, vI x3), (4, vI 0)]) [1, 2, 3, 4, 0] rfl ?_
    exact h
set_option maxRecDepth 20000 in
theorem s_X12_judge_24 {w : Wd} {d : Nat} {P : Int → IM → LM → Prop} {i : IM} {l : LM} (x1 : Int) (x2 : Int) (x3 : Int) (x4 : Int)  (hd : 1 ≤ d) (h : ((rg x4) ∧ ((i 101 308 ≤ x4) → gI w d X_X12_judge P i l 15 [(0, vR (some 99)), (1, vI x1), (2, vI x2), (3, vI (x3 + 1))] []) ∧ ((¬ (i 101 308 ≤ x4)) → cI w d X_X12_holds [vR (some 99), vI x4, vI x3] i l (fun r36 i36 l36 => (((r36 = 0) → rg x1) ∧ (((r36 = 0) ∧ (¬ (x1 = 0) ∧ (¬ (x1 = 1)))) → gI w d X_X12_judge P i36 l36 24 [(0, vR (some 99)), (1, vI x1), (2, vI (x2 + 1)), (3, vI x3), (4, vI (x4 + 1))] []) ∧ (((r36 = 0) ∧ (¬ (x1 = 0) ∧ (x1 = 1))) → ((rg x4) ∧ P x4 i36 l36)) ∧ (((r36 = 0) ∧ (x1 = 0)) → ((rg x3) ∧ P x3 i36 l36)) ∧ ((¬ (r36 = 0)) → gI w d X_X12_judge P i36 l36 24 [(0, vR (some 99)), (1, vI x1), (2, vI x2), (3, vI x3), (4, vI (x4 + 1))] [])))))) : gI w d X_X12_judge P i l 24 [(0, vR (some 99)), (1, vI x1), (2, vI x2), (3, vI x3), (4, vI x4)] [] := by
  refine g_iload (pc' := 26) 4 dX12_judge_24 rfl rfl ?_
  refine g_aload_n (pc' := 27) 0 dX12_judge_26 rfl rfl ?_
  refine g_pVI (pc' := 30) (vs := []) (st := [vI x4]) (val := i 101 308) (c := 12) (sp_X12_windows (le_hd hd rfl) ) mv_X12_windows lk_X12_121 rfl rfl rfl rfl (Nat.le_of_ble_eq_true rfl) (Nat.le_of_ble_eq_true rfl) rfl dX12_judge_27 rfl z2 (fun rg32 => ?_)
  obtain ⟨hob34, hk48, hk49⟩ := h
  refine g_icmp_ge (tgt := 69) (pc' := 33) (hob34) rg32 Iff.rfl dX12_judge_30 rfl rfl (fun c35 => ?_) (fun c35 => ?_)
  · have h := hk48 c35
    refine g_iinc (pc' := 72) (L' := [(3, vI (x3 + 1)), (0, vR (some 99)), (1, vI x1), (2, vI x2), (4, vI x4)]) 3 dX12_judge_69 rfl (Nat.le_of_ble_eq_true rfl) rfl rfl ?_
    refine g_goto (tgt := 15) dX12_judge_72 rfl ?_
    refine g_sub (L' := [(0, vR (some 99)), (1, vI x1), (2, vI x2), (3, vI (x3 + 1))]) [1, 2, 3, 0] rfl ?_
    exact h
  · have h := hk49 c35
    refine g_aload_n (pc' := 34) 0 dX12_judge_33 rfl rfl ?_
    refine g_iload (pc' := 36) 4 dX12_judge_34 rfl rfl ?_
    refine g_iload_n (pc' := 37) 3 dX12_judge_36 rfl rfl ?_
    refine g_cVI (pc' := 40) (vs := [vI x4, vI x3]) (st := []) (c := 12) h mv_X12_holds lk_X12_333 rfl rfl rfl rfl (Nat.le_of_ble_eq_true rfl) (Nat.le_of_ble_eq_true rfl) rfl dX12_judge_37 rfl z2 (fun r36 i36 l36 rg36 h => ?_)
    obtain ⟨hob39, hk44, hk45, hk46, hk47⟩ := h
    have hk44g : ((r36 = 0) ∧ (¬ (x1 = 0) ∧ (¬ (x1 = 1)))) → gI w d X_X12_judge P i36 l36 60 [(0, vR (some 99)), (1, vI x1), (2, vI x2), (3, vI x3), (4, vI x4)] [] := by
      intro hp
      have h := hk44 hp
      refine g_iinc (pc' := 63) (L' := [(2, vI (x2 + 1)), (0, vR (some 99)), (1, vI x1), (3, vI x3), (4, vI x4)]) 2 dX12_judge_60 rfl (Nat.le_of_ble_eq_true rfl) rfl rfl ?_
      refine g_iinc (pc' := 66) (L' := [(4, vI (x4 + 1)), (2, vI (x2 + 1)), (0, vR (some 99)), (1, vI x1), (3, vI x3)]) 4 dX12_judge_63 rfl (Nat.le_of_ble_eq_true rfl) rfl rfl ?_
      refine g_goto (tgt := 24) dX12_judge_66 rfl ?_
      refine g_sub (L' := [(0, vR (some 99)), (1, vI x1), (2, vI (x2 + 1)), (3, vI x3), (4, vI (x4 + 1))]) [2, 3, 1, 4, 0] rfl ?_
      exact h
    have hk45g : ((r36 = 0) ∧ (¬ (x1 = 0) ∧ (x1 = 1))) → gI w d X_X12_judge P i36 l36 57 [(0, vR (some 99)), (1, vI x1), (2, vI x2), (3, vI x3), (4, vI x4)] [] := by
      intro hp
      have h := hk45 hp
      obtain ⟨ob42, h⟩ := h
      refine g_iload (pc' := 59) 4 dX12_judge_57 rfl rfl ?_
      exact g_retI rfl ob42 dX12_judge_59 h
    have hk46g : ((r36 = 0) ∧ (x1 = 0)) → gI w d X_X12_judge P i36 l36 50 [(0, vR (some 99)), (1, vI x1), (2, vI x2), (3, vI x3), (4, vI x4)] [] := by
      intro hp
      have h := hk46 hp
      obtain ⟨ob43, h⟩ := h
      refine g_iload_n (pc' := 51) 3 dX12_judge_50 rfl rfl ?_
      exact g_retI rfl ob43 dX12_judge_51 h
    have hk47g : (¬ (r36 = 0)) → gI w d X_X12_judge P i36 l36 63 [(0, vR (some 99)), (1, vI x1), (2, vI x2), (3, vI x3), (4, vI x4)] [] := by
      intro hp
      have h := hk47 hp
      refine g_iinc (pc' := 66) (L' := [(4, vI (x4 + 1)), (0, vR (some 99)), (1, vI x1), (2, vI x2), (3, vI x3)]) 4 dX12_judge_63 rfl (Nat.le_of_ble_eq_true rfl) rfl rfl ?_
      refine g_goto (tgt := 24) dX12_judge_66 rfl ?_
      refine g_sub (L' := [(0, vR (some 99)), (1, vI x1), (2, vI x2), (3, vI x3), (4, vI (x4 + 1))]) [1, 2, 3, 4, 0] rfl ?_
      exact h
    refine g_if_eq (tgt := 46) (pc' := 43) rg36 Iff.rfl dX12_judge_40 rfl rfl (fun c38 => ?_) (fun c38 => ?_)
    · refine g_iload_n (pc' := 47) 1 dX12_judge_46 rfl rfl ?_
      refine g_if_ne (tgt := 52) (pc' := 50) (hob39 c38) Iff.rfl dX12_judge_47 rfl rfl (fun c40 => ?_) (fun c40 => ?_)
      · refine g_iload_n (pc' := 53) 1 dX12_judge_52 rfl rfl ?_
        refine g_iconst (pc' := 54) dX12_judge_53 rfl ?_
        refine g_icmp_ne (tgt := 60) (pc' := 57) (hob39 c38) (rg_lit rfl) Iff.rfl dX12_judge_54 rfl rfl (fun c41 => ?_) (fun c41 => ?_)
        · exact hk44g ⟨c38, ⟨c40, c41⟩⟩
        · exact hk45g ⟨c38, ⟨c40, c41⟩⟩
      · exact hk46g ⟨c38, c40⟩
    · refine g_goto (tgt := 63) dX12_judge_43 rfl ?_
      exact hk47g c38

theorem dX12_bad_0 : decode cX12_bad 0 = .ok (.aload_n 0, 1) := by decide +kernel
theorem dX12_bad_1 : decode cX12_bad 1 = .ok (.iload_n 1, 1) := by decide +kernel
theorem dX12_bad_2 : decode cX12_bad 2 = .ok (.invokevirtual 141, 3) := by decide +kernel
theorem dX12_bad_5 : decode cX12_bad 5 = .ok (.ifCond .ne 5, 3) := by decide +kernel
theorem dX12_bad_8 : decode cX12_bad 8 = .ok (.iconst (-1), 1) := by decide +kernel
theorem dX12_bad_9 : decode cX12_bad 9 = .ok (.ireturn, 1) := by decide +kernel
theorem dX12_bad_10 : decode cX12_bad 10 = .ok (.iconst 0, 1) := by decide +kernel
theorem dX12_bad_11 : decode cX12_bad 11 = .ok (.istore_n 2, 1) := by decide +kernel
theorem dX12_bad_12 : decode cX12_bad 12 = .ok (.iconst 0, 1) := by decide +kernel
theorem dX12_bad_13 : decode cX12_bad 13 = .ok (.istore_n 3, 1) := by decide +kernel
theorem dX12_bad_14 : decode cX12_bad 14 = .ok (.iload_n 3, 1) := by decide +kernel
theorem dX12_bad_15 : decode cX12_bad 15 = .ok (.bipush 120, 2) := by decide +kernel
theorem dX12_bad_17 : decode cX12_bad 17 = .ok (.if_icmp .ge 26, 3) := by decide +kernel
theorem dX12_bad_20 : decode cX12_bad 20 = .ok (.iload_n 2, 1) := by decide +kernel
theorem dX12_bad_21 : decode cX12_bad 21 = .ok (.aload_n 0, 1) := by decide +kernel
theorem dX12_bad_22 : decode cX12_bad 22 = .ok (.iload_n 1, 1) := by decide +kernel
theorem dX12_bad_23 : decode cX12_bad 23 = .ok (.iload_n 3, 1) := by decide +kernel
theorem dX12_bad_24 : decode cX12_bad 24 = .ok (.invokevirtual 333, 3) := by decide +kernel
theorem dX12_bad_27 : decode cX12_bad 27 = .ok (.ifCond .eq 7, 3) := by decide +kernel
theorem dX12_bad_30 : decode cX12_bad 30 = .ok (.iconst 0, 1) := by decide +kernel
theorem dX12_bad_31 : decode cX12_bad 31 = .ok (.goto 4, 3) := by decide +kernel
theorem dX12_bad_34 : decode cX12_bad 34 = .ok (.iconst 1, 1) := by decide +kernel
theorem dX12_bad_35 : decode cX12_bad 35 = .ok (.iadd, 1) := by decide +kernel
theorem dX12_bad_36 : decode cX12_bad 36 = .ok (.istore_n 2, 1) := by decide +kernel
theorem dX12_bad_37 : decode cX12_bad 37 = .ok (.iinc 3 1, 3) := by decide +kernel
theorem dX12_bad_40 : decode cX12_bad 40 = .ok (.goto (-26), 3) := by decide +kernel
theorem dX12_bad_43 : decode cX12_bad 43 = .ok (.iload_n 2, 1) := by decide +kernel
theorem dX12_bad_44 : decode cX12_bad 44 = .ok (.ireturn, 1) := by decide +kernel
set_option maxRecDepth 20000 in
theorem s_X12_bad {w : Wd} {d : Nat} {P : Int → IM → LM → Prop} {i : IM} {l : LM} (p0 : Int)  (hd : 2 ≤ d) (h : ((rg p0) ∧ (rg (i 101 308 - 1)) ∧ (((0 ≤ p0 ∧ p0 < i 101 308) → gI w d X_X12_bad P i l 14 [(0, vR (some 99)), (1, vI p0), (2, vI 0), (3, vI 0)] []) ∧ ((¬ (0 ≤ p0 ∧ p0 < i 101 308)) → P (-1) i l)))) : gI w d X_X12_bad P i l 0 [(0, vR (some 99)), (1, vI p0)] [] := by
  obtain ⟨ob1, ob2, h⟩ := h
  refine g_aload_n (pc' := 1) 0 dX12_bad_0 rfl rfl ?_
  refine g_iload_n (pc' := 2) 1 dX12_bad_1 rfl rfl ?_
  refine g_pVI (pc' := 5) (vs := [vI p0]) (st := []) (val := bI (0 ≤ p0 ∧ p0 < i 101 308)) (c := 12) (sp_X12_isWindow (le_hd hd rfl) ob1 ob2) mv_X12_isWindow lk_X12_141 rfl rfl rfl rfl (Nat.le_of_ble_eq_true rfl) (Nat.le_of_ble_eq_true rfl) rfl dX12_bad_2 rfl z2 (fun rg3 => ?_)
  obtain ⟨hk6, hk7⟩ := h
  have hk6g : (0 ≤ p0 ∧ p0 < i 101 308) → gI w d X_X12_bad P i l 10 [(0, vR (some 99)), (1, vI p0)] [] := by
    intro hp
    have h := hk6 hp
    refine g_iconst (pc' := 11) dX12_bad_10 rfl ?_
    refine g_istore_n (pc' := 12) (L' := [(2, vI 0), (0, vR (some 99)), (1, vI p0)]) dX12_bad_11 rfl (Nat.le_of_ble_eq_true rfl) rfl ?_
    refine g_iconst (pc' := 13) dX12_bad_12 rfl ?_
    refine g_istore_n (pc' := 14) (L' := [(3, vI 0), (2, vI 0), (0, vR (some 99)), (1, vI p0)]) dX12_bad_13 rfl (Nat.le_of_ble_eq_true rfl) rfl ?_
    refine g_sub (L' := [(0, vR (some 99)), (1, vI p0), (2, vI 0), (3, vI 0)]) [2, 3, 1, 0] rfl ?_
    exact h
  have hk7g : (¬ (0 ≤ p0 ∧ p0 < i 101 308)) → gI w d X_X12_bad P i l 8 [(0, vR (some 99)), (1, vI p0)] [] := by
    intro hp
    have h := hk7 hp
    refine g_iconst (pc' := 9) dX12_bad_8 rfl ?_
    exact g_retI rfl (rg_lit rfl) dX12_bad_9 h
  refine g_if_ne (tgt := 10) (pc' := 8) rg3 (bI_eq _) dX12_bad_5 rfl rfl (fun c5n => ?_) (fun c5 => ?_)
  · have c5 := Decidable.of_not_not c5n
    exact hk6g c5
  · exact hk7g c5
theorem e_X12_bad {w : Wd} {d : Nat} {P : Int → IM → LM → Prop} {i : IM} {l : LM} {p0 : Int}  (h : gI w d X_X12_bad P i l 0 [(0, vR (some 99)), (1, vI p0)] []) : cI w (d + 1) X_X12_bad [vR (some 99), vI p0] i l P := CI_of (by decide +kernel) (Nat.le_of_ble_eq_true rfl) h
set_option maxRecDepth 20000 in
theorem s_X12_bad_14 {w : Wd} {d : Nat} {P : Int → IM → LM → Prop} {i : IM} {l : LM} (x1 : Int) (x2 : Int) (x3 : Int)  (h : ((rg x3) ∧ ((120 ≤ x3) → ((rg x2) ∧ P x2 i l)) ∧ ((¬ (120 ≤ x3)) → cI w d X_X12_holds [vR (some 99), vI x1, vI x3] i l (fun r12 i12 l12 => gI w d X_X12_bad P i12 l12 14 [(0, vR (some 99)), (1, vI x1), (2, vI (x2 + (bI (r12 = 0)))), (3, vI (x3 + 1))] [])))) : gI w d X_X12_bad P i l 14 [(0, vR (some 99)), (1, vI x1), (2, vI x2), (3, vI x3)] [] := by
  refine g_iload_n (pc' := 15) 3 dX12_bad_14 rfl rfl ?_
  refine g_bipush (pc' := 17) dX12_bad_15 rfl rfl ?_
  obtain ⟨hob9, hk15, hk16⟩ := h
  refine g_icmp_ge (tgt := 43) (pc' := 20) (hob9) (rg_lit rfl) Iff.rfl dX12_bad_17 rfl rfl (fun c10 => ?_) (fun c10 => ?_)
  · have h := hk15 c10
    obtain ⟨ob11, h⟩ := h
    refine g_iload_n (pc' := 44) 2 dX12_bad_43 rfl rfl ?_
    exact g_retI rfl ob11 dX12_bad_44 h
  · have h := hk16 c10
    refine g_iload_n (pc' := 21) 2 dX12_bad_20 rfl rfl ?_
    refine g_aload_n (pc' := 22) 0 dX12_bad_21 rfl rfl ?_
    refine g_iload_n (pc' := 23) 1 dX12_bad_22 rfl rfl ?_
    refine g_iload_n (pc' := 24) 3 dX12_bad_23 rfl rfl ?_
    refine g_cVI (pc' := 27) (vs := [vI x1, vI x3]) (st := [vI x2]) (c := 12) h mv_X12_holds lk_X12_333 rfl rfl rfl rfl (Nat.le_of_ble_eq_true rfl) (Nat.le_of_ble_eq_true rfl) rfl dX12_bad_24 rfl z2 (fun r12 i12 l12 rg12 h => ?_)
    have hJ : gI w d X_X12_bad P i12 l12 35 [(0, vR (some 99)), (1, vI x1), (2, vI x2), (3, vI x3)] [vI (bI (r12 = 0)), vI x2] := by
      refine g_iadd (pc' := 36) dX12_bad_35 rfl ?_
      refine g_istore_n (pc' := 37) (L' := [(2, vI (x2 + (bI (r12 = 0)))), (0, vR (some 99)), (1, vI x1), (3, vI x3)]) dX12_bad_36 rfl (Nat.le_of_ble_eq_true rfl) rfl ?_
      refine g_iinc (pc' := 40) (L' := [(3, vI (x3 + 1)), (2, vI (x2 + (bI (r12 = 0)))), (0, vR (some 99)), (1, vI x1)]) 3 dX12_bad_37 rfl (Nat.le_of_ble_eq_true rfl) rfl rfl ?_
      refine g_goto (tgt := 14) dX12_bad_40 rfl ?_
      refine g_sub (L' := [(0, vR (some 99)), (1, vI x1), (2, vI (x2 + (bI (r12 = 0)))), (3, vI (x3 + 1))]) [2, 3, 1, 0] rfl ?_
      exact h
    refine g_if_eq (tgt := 34) (pc' := 30) rg12 Iff.rfl dX12_bad_27 rfl rfl (fun c14 => ?_) (fun c14 => ?_)
    · refine g_iconst (pc' := 35) dX12_bad_34 rfl ?_
      rw [bI_t (p := (r12 = 0)) c14] at hJ
      exact hJ
    · refine g_iconst (pc' := 31) dX12_bad_30 rfl ?_
      refine g_goto (tgt := 35) dX12_bad_31 rfl ?_
      rw [bI_f (p := (r12 = 0)) c14] at hJ
      exact hJ

theorem dX12_lays_0 : decode cX12_lays 0 = .ok (.iconst 0, 1) := by decide +kernel
theorem dX12_lays_1 : decode cX12_lays 1 = .ok (.istore_n 2, 1) := by decide +kernel
theorem dX12_lays_2 : decode cX12_lays 2 = .ok (.iload_n 2, 1) := by decide +kernel
theorem dX12_lays_3 : decode cX12_lays 3 = .ok (.aload_n 0, 1) := by decide +kernel
theorem dX12_lays_4 : decode cX12_lays 4 = .ok (.invokevirtual 117, 3) := by decide +kernel
theorem dX12_lays_7 : decode cX12_lays 7 = .ok (.if_icmp .ge 80, 3) := by decide +kernel
theorem dX12_lays_10 : decode cX12_lays 10 = .ok (.iconst 0, 1) := by decide +kernel
theorem dX12_lays_11 : decode cX12_lays 11 = .ok (.istore_n 3, 1) := by decide +kernel
theorem dX12_lays_12 : decode cX12_lays 12 = .ok (.iload_n 3, 1) := by decide +kernel
theorem dX12_lays_13 : decode cX12_lays 13 = .ok (.iconst 3, 1) := by decide +kernel
theorem dX12_lays_14 : decode cX12_lays 14 = .ok (.if_icmp .ge 67, 3) := by decide +kernel
theorem dX12_lays_17 : decode cX12_lays 17 = .ok (.aload_n 0, 1) := by decide +kernel
theorem dX12_lays_18 : decode cX12_lays 18 = .ok (.getfield 67, 3) := by decide +kernel
theorem dX12_lays_21 : decode cX12_lays 21 = .ok (.iconst 3, 1) := by decide +kernel
theorem dX12_lays_22 : decode cX12_lays 22 = .ok (.iload_n 2, 1) := by decide +kernel
theorem dX12_lays_23 : decode cX12_lays 23 = .ok (.imul, 1) := by decide +kernel
theorem dX12_lays_24 : decode cX12_lays 24 = .ok (.iload_n 3, 1) := by decide +kernel
theorem dX12_lays_25 : decode cX12_lays 25 = .ok (.iadd, 1) := by decide +kernel
theorem dX12_lays_26 : decode cX12_lays 26 = .ok (.aload_n 0, 1) := by decide +kernel
theorem dX12_lays_27 : decode cX12_lays 27 = .ok (.iload_n 2, 1) := by decide +kernel
theorem dX12_lays_28 : decode cX12_lays 28 = .ok (.iload_n 3, 1) := by decide +kernel
theorem dX12_lays_29 : decode cX12_lays 29 = .ok (.invokevirtual 336, 3) := by decide +kernel
theorem dX12_lays_32 : decode cX12_lays 32 = .ok (.bastore, 1) := by decide +kernel
theorem dX12_lays_33 : decode cX12_lays 33 = .ok (.aload_n 0, 1) := by decide +kernel
theorem dX12_lays_34 : decode cX12_lays 34 = .ok (.getfield 64, 3) := by decide +kernel
theorem dX12_lays_37 : decode cX12_lays 37 = .ok (.iconst 3, 1) := by decide +kernel
theorem dX12_lays_38 : decode cX12_lays 38 = .ok (.iload_n 2, 1) := by decide +kernel
theorem dX12_lays_39 : decode cX12_lays 39 = .ok (.imul, 1) := by decide +kernel
theorem dX12_lays_40 : decode cX12_lays 40 = .ok (.iload_n 3, 1) := by decide +kernel
theorem dX12_lays_41 : decode cX12_lays 41 = .ok (.iadd, 1) := by decide +kernel
theorem dX12_lays_42 : decode cX12_lays 42 = .ok (.iload_n 3, 1) := by decide +kernel
theorem dX12_lays_43 : decode cX12_lays 43 = .ok (.ifCond .eq 16, 3) := by decide +kernel
theorem dX12_lays_46 : decode cX12_lays 46 = .ok (.aload_n 0, 1) := by decide +kernel
theorem dX12_lays_47 : decode cX12_lays 47 = .ok (.getfield 67, 3) := by decide +kernel
theorem dX12_lays_50 : decode cX12_lays 50 = .ok (.iconst 3, 1) := by decide +kernel
theorem dX12_lays_51 : decode cX12_lays 51 = .ok (.iload_n 2, 1) := by decide +kernel
theorem dX12_lays_52 : decode cX12_lays 52 = .ok (.imul, 1) := by decide +kernel
theorem dX12_lays_53 : decode cX12_lays 53 = .ok (.iload_n 3, 1) := by decide +kernel
theorem dX12_lays_54 : decode cX12_lays 54 = .ok (.iadd, 1) := by decide +kernel
theorem dX12_lays_55 : decode cX12_lays 55 = .ok (.baload, 1) := by decide +kernel
theorem dX12_lays_56 : decode cX12_lays 56 = .ok (.ifCond .ne 7, 3) := by decide +kernel
theorem dX12_lays_59 : decode cX12_lays 59 = .ok (.iconst 0, 1) := by decide +kernel
theorem dX12_lays_60 : decode cX12_lays 60 = .ok (.goto 14, 3) := by decide +kernel
theorem dX12_lays_63 : decode cX12_lays 63 = .ok (.aload_n 0, 1) := by decide +kernel
theorem dX12_lays_64 : decode cX12_lays 64 = .ok (.iload_n 2, 1) := by decide +kernel
theorem dX12_lays_65 : decode cX12_lays 65 = .ok (.aload_n 0, 1) := by decide +kernel
theorem dX12_lays_66 : decode cX12_lays 66 = .ok (.iload_n 2, 1) := by decide +kernel
theorem dX12_lays_67 : decode cX12_lays 67 = .ok (.iload_n 3, 1) := by decide +kernel
theorem dX12_lays_68 : decode cX12_lays 68 = .ok (.invokevirtual 339, 3) := by decide +kernel
theorem dX12_lays_71 : decode cX12_lays 71 = .ok (.invokevirtual 305, 3) := by decide +kernel
theorem dX12_lays_74 : decode cX12_lays 74 = .ok (.iastore, 1) := by decide +kernel
theorem dX12_lays_75 : decode cX12_lays 75 = .ok (.iinc 3 1, 3) := by decide +kernel
theorem dX12_lays_78 : decode cX12_lays 78 = .ok (.goto (-66), 3) := by decide +kernel
theorem dX12_lays_81 : decode cX12_lays 81 = .ok (.iinc 2 1, 3) := by decide +kernel
theorem dX12_lays_84 : decode cX12_lays 84 = .ok (.goto (-82), 3) := by decide +kernel
theorem dX12_lays_87 : decode cX12_lays 87 = .ok (.iconst 0, 1) := by decide +kernel
theorem dX12_lays_88 : decode cX12_lays 88 = .ok (.istore_n 2, 1) := by decide +kernel
theorem dX12_lays_89 : decode cX12_lays 89 = .ok (.iload_n 2, 1) := by decide +kernel
theorem dX12_lays_90 : decode cX12_lays 90 = .ok (.aload_n 0, 1) := by decide +kernel
theorem dX12_lays_91 : decode cX12_lays 91 = .ok (.invokevirtual 121, 3) := by decide +kernel
theorem dX12_lays_94 : decode cX12_lays 94 = .ok (.if_icmp .ge 151, 3) := by decide +kernel
theorem dX12_lays_97 : decode cX12_lays 97 = .ok (.iconst 0, 1) := by decide +kernel
theorem dX12_lays_98 : decode cX12_lays 98 = .ok (.istore_n 3, 1) := by decide +kernel
theorem dX12_lays_99 : decode cX12_lays 99 = .ok (.iload_n 3, 1) := by decide +kernel
theorem dX12_lays_100 : decode cX12_lays 100 = .ok (.bipush 12, 2) := by decide +kernel
theorem dX12_lays_102 : decode cX12_lays 102 = .ok (.if_icmp .ge 137, 3) := by decide +kernel
theorem dX12_lays_105 : decode cX12_lays 105 = .ok (.iload_n 1, 1) := by decide +kernel
theorem dX12_lays_106 : decode cX12_lays 106 = .ok (.iload_n 3, 1) := by decide +kernel
theorem dX12_lays_107 : decode cX12_lays 107 = .ok (.invokestatic 147, 3) := by decide +kernel
theorem dX12_lays_110 : decode cX12_lays 110 = .ok (.ifCond .ne 6, 3) := by decide +kernel
theorem dX12_lays_113 : decode cX12_lays 113 = .ok (.goto 120, 3) := by decide +kernel
theorem dX12_lays_116 : decode cX12_lays 116 = .ok (.bipush 12, 2) := by decide +kernel
theorem dX12_lays_118 : decode cX12_lays 118 = .ok (.iload_n 2, 1) := by decide +kernel
theorem dX12_lays_119 : decode cX12_lays 119 = .ok (.imul, 1) := by decide +kernel
theorem dX12_lays_120 : decode cX12_lays 120 = .ok (.iload_n 3, 1) := by decide +kernel
theorem dX12_lays_121 : decode cX12_lays 121 = .ok (.iadd, 1) := by decide +kernel
theorem dX12_lays_122 : decode cX12_lays 122 = .ok (.istore 4, 2) := by decide +kernel
theorem dX12_lays_124 : decode cX12_lays 124 = .ok (.aload_n 0, 1) := by decide +kernel
theorem dX12_lays_125 : decode cX12_lays 125 = .ok (.getfield 58, 3) := by decide +kernel
theorem dX12_lays_128 : decode cX12_lays 128 = .ok (.iload 4, 2) := by decide +kernel
theorem dX12_lays_130 : decode cX12_lays 130 = .ok (.aload_n 0, 1) := by decide +kernel
theorem dX12_lays_131 : decode cX12_lays 131 = .ok (.iload_n 2, 1) := by decide +kernel
theorem dX12_lays_132 : decode cX12_lays 132 = .ok (.iload_n 3, 1) := by decide +kernel
theorem dX12_lays_133 : decode cX12_lays 133 = .ok (.iconst 0, 1) := by decide +kernel
theorem dX12_lays_134 : decode cX12_lays 134 = .ok (.invokevirtual 330, 3) := by decide +kernel
theorem dX12_lays_137 : decode cX12_lays 137 = .ok (.iastore, 1) := by decide +kernel
theorem dX12_lays_138 : decode cX12_lays 138 = .ok (.aload_n 0, 1) := by decide +kernel
theorem dX12_lays_139 : decode cX12_lays 139 = .ok (.getfield 61, 3) := by decide +kernel
theorem dX12_lays_142 : decode cX12_lays 142 = .ok (.iload 4, 2) := by decide +kernel
theorem dX12_lays_144 : decode cX12_lays 144 = .ok (.iconst 0, 1) := by decide +kernel
theorem dX12_lays_145 : decode cX12_lays 145 = .ok (.iastore, 1) := by decide +kernel
theorem dX12_lays_146 : decode cX12_lays 146 = .ok (.iconst 0, 1) := by decide +kernel
theorem dX12_lays_147 : decode cX12_lays 147 = .ok (.istore 5, 2) := by decide +kernel
theorem dX12_lays_149 : decode cX12_lays 149 = .ok (.iload 5, 2) := by decide +kernel
theorem dX12_lays_151 : decode cX12_lays 151 = .ok (.aload_n 0, 1) := by decide +kernel
theorem dX12_lays_152 : decode cX12_lays 152 = .ok (.invokevirtual 117, 3) := by decide +kernel
theorem dX12_lays_155 : decode cX12_lays 155 = .ok (.if_icmp .ge 78, 3) := by decide +kernel
theorem dX12_lays_158 : decode cX12_lays 158 = .ok (.iconst 0, 1) := by decide +kernel
theorem dX12_lays_159 : decode cX12_lays 159 = .ok (.istore 6, 2) := by decide +kernel
theorem dX12_lays_161 : decode cX12_lays 161 = .ok (.iload 6, 2) := by decide +kernel
theorem dX12_lays_163 : decode cX12_lays 163 = .ok (.iconst 3, 1) := by decide +kernel
theorem dX12_lays_164 : decode cX12_lays 164 = .ok (.if_icmp .ge 63, 3) := by decide +kernel
theorem dX12_lays_167 : decode cX12_lays 167 = .ok (.aload_n 0, 1) := by decide +kernel
theorem dX12_lays_168 : decode cX12_lays 168 = .ok (.getfield 55, 3) := by decide +kernel
theorem dX12_lays_171 : decode cX12_lays 171 = .ok (.bipush 96, 2) := by decide +kernel
theorem dX12_lays_173 : decode cX12_lays 173 = .ok (.iload 5, 2) := by decide +kernel
theorem dX12_lays_175 : decode cX12_lays 175 = .ok (.imul, 1) := by decide +kernel
theorem dX12_lays_176 : decode cX12_lays 176 = .ok (.iload 4, 2) := by decide +kernel
theorem dX12_lays_178 : decode cX12_lays 178 = .ok (.iadd, 1) := by decide +kernel
theorem dX12_lays_179 : decode cX12_lays 179 = .ok (.iconst 3, 1) := by decide +kernel
theorem dX12_lays_180 : decode cX12_lays 180 = .ok (.imul, 1) := by decide +kernel
theorem dX12_lays_181 : decode cX12_lays 181 = .ok (.iload 6, 2) := by decide +kernel
theorem dX12_lays_183 : decode cX12_lays 183 = .ok (.iadd, 1) := by decide +kernel
theorem dX12_lays_184 : decode cX12_lays 184 = .ok (.aload_n 0, 1) := by decide +kernel
theorem dX12_lays_185 : decode cX12_lays 185 = .ok (.getfield 67, 3) := by decide +kernel
theorem dX12_lays_188 : decode cX12_lays 188 = .ok (.iconst 3, 1) := by decide +kernel
theorem dX12_lays_189 : decode cX12_lays 189 = .ok (.iload 5, 2) := by decide +kernel
theorem dX12_lays_191 : decode cX12_lays 191 = .ok (.imul, 1) := by decide +kernel
theorem dX12_lays_192 : decode cX12_lays 192 = .ok (.iload 6, 2) := by decide +kernel
theorem dX12_lays_194 : decode cX12_lays 194 = .ok (.iadd, 1) := by decide +kernel
theorem dX12_lays_195 : decode cX12_lays 195 = .ok (.baload, 1) := by decide +kernel
theorem dX12_lays_196 : decode cX12_lays 196 = .ok (.ifCond .eq 23, 3) := by decide +kernel
theorem dX12_lays_199 : decode cX12_lays 199 = .ok (.aload_n 0, 1) := by decide +kernel
theorem dX12_lays_200 : decode cX12_lays 200 = .ok (.iload_n 2, 1) := by decide +kernel
theorem dX12_lays_201 : decode cX12_lays 201 = .ok (.iload 5, 2) := by decide +kernel
theorem dX12_lays_203 : decode cX12_lays 203 = .ok (.aload_n 0, 1) := by decide +kernel
theorem dX12_lays_204 : decode cX12_lays 204 = .ok (.iload 5, 2) := by decide +kernel
theorem dX12_lays_206 : decode cX12_lays 206 = .ok (.iload 6, 2) := by decide +kernel
theorem dX12_lays_208 : decode cX12_lays 208 = .ok (.invokevirtual 339, 3) := by decide +kernel
theorem dX12_lays_211 : decode cX12_lays 211 = .ok (.iload_n 3, 1) := by decide +kernel
theorem dX12_lays_212 : decode cX12_lays 212 = .ok (.iconst 0, 1) := by decide +kernel
theorem dX12_lays_213 : decode cX12_lays 213 = .ok (.invokevirtual 314, 3) := by decide +kernel
theorem dX12_lays_216 : decode cX12_lays 216 = .ok (.goto 4, 3) := by decide +kernel
theorem dX12_lays_219 : decode cX12_lays 219 = .ok (.iconst 0, 1) := by decide +kernel
theorem dX12_lays_220 : decode cX12_lays 220 = .ok (.iastore, 1) := by decide +kernel
theorem dX12_lays_221 : decode cX12_lays 221 = .ok (.iinc 6 1, 3) := by decide +kernel
theorem dX12_lays_224 : decode cX12_lays 224 = .ok (.goto (-63), 3) := by decide +kernel
theorem dX12_lays_227 : decode cX12_lays 227 = .ok (.iinc 5 1, 3) := by decide +kernel
theorem dX12_lays_230 : decode cX12_lays 230 = .ok (.goto (-81), 3) := by decide +kernel
theorem dX12_lays_233 : decode cX12_lays 233 = .ok (.iinc 3 1, 3) := by decide +kernel
theorem dX12_lays_236 : decode cX12_lays 236 = .ok (.goto (-137), 3) := by decide +kernel
theorem dX12_lays_239 : decode cX12_lays 239 = .ok (.iinc 2 1, 3) := by decide +kernel
theorem dX12_lays_242 : decode cX12_lays 242 = .ok (.goto (-153), 3) := by decide +kernel
theorem dX12_lays_245 : decode cX12_lays 245 = .ok (.return_, 1) := by decide +kernel
set_option maxRecDepth 20000 in
theorem s_X12_lays {w : Wd} {d : Nat} {P : IM → LM → Prop} {i : IM} {l : LM} (p0 : Int)  (h : gV w d X_X12_lays P i l 2 [(0, vR (some 99)), (1, vI p0), (2, vI 0)] []) : gV w d X_X12_lays P i l 0 [(0, vR (some 99)), (1, vI p0)] [] := by
  refine g_iconst (pc' := 1) dX12_lays_0 rfl ?_
  refine g_istore_n (pc' := 2) (L' := [(2, vI 0), (0, vR (some 99)), (1, vI p0)]) dX12_lays_1 rfl (Nat.le_of_ble_eq_true rfl) rfl ?_
  refine g_sub (L' := [(0, vR (some 99)), (1, vI p0), (2, vI 0)]) [1, 2, 0] rfl ?_
  exact h
theorem e_X12_lays {w : Wd} {d : Nat} {P : IM → LM → Prop} {i : IM} {l : LM} {p0 : Int}  (h : gV w d X_X12_lays P i l 0 [(0, vR (some 99)), (1, vI p0)] []) : cVd w (d + 1) X_X12_lays [vR (some 99), vI p0] i l P := CV_of (by decide +kernel) (Nat.le_of_ble_eq_true rfl) h
set_option maxRecDepth 20000 in
theorem s_X12_lays_2 {w : Wd} {d : Nat} {P : IM → LM → Prop} {i : IM} {l : LM} (x1 : Int) (x2 : Int)  (hd : 1 ≤ d) (h : ((rg x2) ∧ ((i 101 307 ≤ x2) → gV w d X_X12_lays P i l 89 [(0, vR (some 99)), (1, vI x1), (2, vI 0)] []) ∧ ((¬ (i 101 307 ≤ x2)) → gV w d X_X12_lays P i l 12 [(0, vR (some 99)), (1, vI x1), (2, vI x2), (3, vI 0)] []))) : gV w d X_X12_lays P i l 2 [(0, vR (some 99)), (1, vI x1), (2, vI x2)] [] := by
  refine g_iload_n (pc' := 3) 2 dX12_lays_2 rfl rfl ?_
  refine g_aload_n (pc' := 4) 0 dX12_lays_3 rfl rfl ?_
  refine g_pVI (pc' := 7) (vs := []) (st := [vI x2]) (val := i 101 307) (c := 12) (sp_X12_things (le_hd hd rfl) ) mv_X12_things lk_X12_117 rfl rfl rfl rfl (Nat.le_of_ble_eq_true rfl) (Nat.le_of_ble_eq_true rfl) rfl dX12_lays_4 rfl z2 (fun rg1 => ?_)
  obtain ⟨hob3, hk5, hk6⟩ := h
  refine g_icmp_ge (tgt := 87) (pc' := 10) (hob3) rg1 Iff.rfl dX12_lays_7 rfl rfl (fun c4 => ?_) (fun c4 => ?_)
  · have h := hk5 c4
    refine g_iconst (pc' := 88) dX12_lays_87 rfl ?_
    refine g_istore_n (pc' := 89) (L' := [(2, vI 0), (0, vR (some 99)), (1, vI x1)]) dX12_lays_88 rfl (Nat.le_of_ble_eq_true rfl) rfl ?_
    refine g_sub (L' := [(0, vR (some 99)), (1, vI x1), (2, vI 0)]) [1, 2, 0] rfl ?_
    exact h
  · have h := hk6 c4
    refine g_iconst (pc' := 11) dX12_lays_10 rfl ?_
    refine g_istore_n (pc' := 12) (L' := [(3, vI 0), (0, vR (some 99)), (1, vI x1), (2, vI x2)]) dX12_lays_11 rfl (Nat.le_of_ble_eq_true rfl) rfl ?_
    refine g_sub (L' := [(0, vR (some 99)), (1, vI x1), (2, vI x2), (3, vI 0)]) [1, 2, 3, 0] rfl ?_
    exact h
set_option maxRecDepth 20000 in
theorem s_X12_lays_89 {w : Wd} {d : Nat} {P : IM → LM → Prop} {i : IM} {l : LM} (x1 : Int) (x2 : Int)  (hd : 1 ≤ d) (h : ((rg x2) ∧ ((i 101 308 ≤ x2) → P i l) ∧ ((¬ (i 101 308 ≤ x2)) → gV w d X_X12_lays P i l 99 [(0, vR (some 99)), (1, vI x1), (2, vI x2), (3, vI 0)] []))) : gV w d X_X12_lays P i l 89 [(0, vR (some 99)), (1, vI x1), (2, vI x2)] [] := by
  refine g_iload_n (pc' := 90) 2 dX12_lays_89 rfl rfl ?_
  refine g_aload_n (pc' := 91) 0 dX12_lays_90 rfl rfl ?_
  refine g_pVI (pc' := 94) (vs := []) (st := [vI x2]) (val := i 101 308) (c := 12) (sp_X12_windows (le_hd hd rfl) ) mv_X12_windows lk_X12_121 rfl rfl rfl rfl (Nat.le_of_ble_eq_true rfl) (Nat.le_of_ble_eq_true rfl) rfl dX12_lays_91 rfl z2 (fun rg7 => ?_)
  obtain ⟨hob9, hk11, hk12⟩ := h
  refine g_icmp_ge (tgt := 245) (pc' := 97) (hob9) rg7 Iff.rfl dX12_lays_94 rfl rfl (fun c10 => ?_) (fun c10 => ?_)
  · have h := hk11 c10
    exact g_retV rfl dX12_lays_245 h
  · have h := hk12 c10
    refine g_iconst (pc' := 98) dX12_lays_97 rfl ?_
    refine g_istore_n (pc' := 99) (L' := [(3, vI 0), (0, vR (some 99)), (1, vI x1), (2, vI x2)]) dX12_lays_98 rfl (Nat.le_of_ble_eq_true rfl) rfl ?_
    refine g_sub (L' := [(0, vR (some 99)), (1, vI x1), (2, vI x2), (3, vI 0)]) [1, 2, 3, 0] rfl ?_
    exact h
set_option maxRecDepth 20000 in
theorem s_X12_lays_12 {w : Wd} {d : Nat} {P : IM → LM → Prop} {i : IM} {l : LM} (x1 : Int) (x2 : Int) (x3 : Int)  (hd : 2 ≤ d) (h : ((rg x3) ∧ ((3 ≤ x3) → gV w d X_X12_lays P i l 2 [(0, vR (some 99)), (1, vI x1), (2, vI (x2 + 1))] []) ∧ ((¬ (3 ≤ x3)) → ((rg x3) ∧ (0 ≤ x2 ∧ x2 < 10) ∧ (0 ≤ (3 * x2) + x3 ∧ (3 * x2) + x3 < 30) ∧ ((¬ (x3 = 0) → 0 ≤ (3 * x2) + x3 ∧ (3 * x2) + x3 < 30) ∧ (((x3 = 0) ∨ ((u2 i 115 ((3 * x2) + x3) (bI (mMay i x2 x3 = true))) 115 ((3 * x2) + x3) = 0)) → ((0 ≤ (3 * x2) + x3 ∧ (3 * x2) + x3 < 30) ∧ gV w d X_X12_lays P (u2 (u2 i 115 ((3 * x2) + x3) (bI (mMay i x2 x3 = true))) 114 ((3 * x2) + x3) 0) l 12 [(0, vR (some 99)), (1, vI x1), (2, vI x2), (3, vI (x3 + 1))] [])) ∧ ((¬ ((x3 = 0) ∨ ((u2 i 115 ((3 * x2) + x3) (bI (mMay i x2 x3 = true))) 115 ((3 * x2) + x3) = 0))) → ((0 ≤ x2 ∧ x2 < 10) ∧ cI w d X_X12_priceOf [vR (some 99), vI x2, vI (mColour (u2 i 115 ((3 * x2) + x3) (bI (mMay i x2 x3 = true))) x2 x3)] (u2 i 115 ((3 * x2) + x3) (bI (mMay i x2 x3 = true))) l (fun r32 i32 l32 => ((0 ≤ (3 * x2) + x3 ∧ (3 * x2) + x3 < 30) ∧ gV w d X_X12_lays P (u2 i32 114 ((3 * x2) + x3) r32) l32 12 [(0, vR (some 99)), (1, vI x1), (2, vI x2), (3, vI (x3 + 1))] []))))))))) : gV w d X_X12_lays P i l 12 [(0, vR (some 99)), (1, vI x1), (2, vI x2), (3, vI x3)] [] := by
  refine g_iload_n (pc' := 13) 3 dX12_lays_12 rfl rfl ?_
  refine g_iconst (pc' := 14) dX12_lays_13 rfl ?_
  obtain ⟨hob14, hk36, hk37⟩ := h
  refine g_icmp_ge (tgt := 81) (pc' := 17) (hob14) (rg_lit rfl) Iff.rfl dX12_lays_14 rfl rfl (fun c15 => ?_) (fun c15 => ?_)
  · have h := hk36 c15
    refine g_iinc (pc' := 84) (L' := [(2, vI (x2 + 1)), (0, vR (some 99)), (1, vI x1), (3, vI x3)]) 2 dX12_lays_81 rfl (Nat.le_of_ble_eq_true rfl) rfl rfl ?_
    refine g_goto (tgt := 2) dX12_lays_84 rfl ?_
    refine g_sub (L' := [(0, vR (some 99)), (1, vI x1), (2, vI (x2 + 1))]) [1, 2, 0] rfl ?_
    exact h
  · have h := hk37 c15
    obtain ⟨ob18, ob19, ob21, h⟩ := h
    refine g_aload_n (pc' := 18) 0 dX12_lays_17 rfl rfl ?_
    refine g_getR (pc' := 21) (o := some 115) fl_X12_67 rfl rfl rfl dX12_lays_18 rfl ?_
    refine g_iconst (pc' := 22) dX12_lays_21 rfl ?_
    refine g_iload_n (pc' := 23) 2 dX12_lays_22 rfl rfl ?_
    refine g_imul (pc' := 24) dX12_lays_23 rfl ?_
    refine g_iload_n (pc' := 25) 3 dX12_lays_24 rfl rfl ?_
    refine g_iadd (pc' := 26) dX12_lays_25 rfl ?_
    refine g_aload_n (pc' := 27) 0 dX12_lays_26 rfl rfl ?_
    refine g_iload_n (pc' := 28) 2 dX12_lays_27 rfl rfl ?_
    refine g_iload_n (pc' := 29) 3 dX12_lays_28 rfl rfl ?_
    refine g_pVI (pc' := 32) (vs := [vI x2, vI x3]) (st := [vI ((3 * x2) + x3), vR (some 115)]) (val := bI (mMay i x2 x3 = true)) (c := 12) (sp_X12_isChoice (le_hd hd rfl) ob18 ob19) mv_X12_isChoice lk_X12_336 rfl rfl rfl rfl (Nat.le_of_ble_eq_true rfl) (Nat.le_of_ble_eq_true rfl) rfl dX12_lays_29 rfl z2 (fun rg20 => ?_)
    refine g_zast (pc' := 33) (N := 30) rfl rfl (Nat.lt_of_lt_of_le (Nat.lt_succ_self _) (Nat.le_of_ble_eq_true rfl)) ob21 (bI_01 _) dX12_lays_32 rfl ?_
    refine g_aload_n (pc' := 34) 0 dX12_lays_33 rfl rfl ?_
    refine g_getR (pc' := 37) (o := some 114) fl_X12_64 rfl rfl rfl dX12_lays_34 rfl ?_
    refine g_iconst (pc' := 38) dX12_lays_37 rfl ?_
    refine g_iload_n (pc' := 39) 2 dX12_lays_38 rfl rfl ?_
    refine g_imul (pc' := 40) dX12_lays_39 rfl ?_
    refine g_iload_n (pc' := 41) 3 dX12_lays_40 rfl rfl ?_
    refine g_iadd (pc' := 42) dX12_lays_41 rfl ?_
    refine g_iload_n (pc' := 43) 3 dX12_lays_42 rfl rfl ?_
    obtain ⟨hob24, hk34, hk35⟩ := h
    have hk34g : ((x3 = 0) ∨ ((u2 i 115 ((3 * x2) + x3) (bI (mMay i x2 x3 = true))) 115 ((3 * x2) + x3) = 0)) → gV w d X_X12_lays P (u2 i 115 ((3 * x2) + x3) (bI (mMay i x2 x3 = true))) l 74 [(0, vR (some 99)), (1, vI x1), (2, vI x2), (3, vI x3)] [vI 0, vI ((3 * x2) + x3), vR (some 114)] := by
      intro hp
      have h := hk34 hp
      obtain ⟨ob29, h⟩ := h
      refine g_iast (pc' := 75) (N := 30) rfl rfl (Nat.lt_of_lt_of_le (Nat.lt_succ_self _) (Nat.le_of_ble_eq_true rfl)) ob29 (rg_lit rfl) dX12_lays_74 rfl ?_
      refine g_iinc (pc' := 78) (L' := [(3, vI (x3 + 1)), (0, vR (some 99)), (1, vI x1), (2, vI x2)]) 3 dX12_lays_75 rfl (Nat.le_of_ble_eq_true rfl) rfl rfl ?_
      refine g_goto (tgt := 12) dX12_lays_78 rfl ?_
      refine g_sub (L' := [(0, vR (some 99)), (1, vI x1), (2, vI x2), (3, vI (x3 + 1))]) [1, 2, 3, 0] rfl ?_
      exact h
    have hk35g : (¬ ((x3 = 0) ∨ ((u2 i 115 ((3 * x2) + x3) (bI (mMay i x2 x3 = true))) 115 ((3 * x2) + x3) = 0))) → gV w d X_X12_lays P (u2 i 115 ((3 * x2) + x3) (bI (mMay i x2 x3 = true))) l 63 [(0, vR (some 99)), (1, vI x1), (2, vI x2), (3, vI x3)] [vI ((3 * x2) + x3), vR (some 114)] := by
      intro hp
      have h := hk35 hp
      obtain ⟨ob30, h⟩ := h
      refine g_aload_n (pc' := 64) 0 dX12_lays_63 rfl rfl ?_
      refine g_iload_n (pc' := 65) 2 dX12_lays_64 rfl rfl ?_
      refine g_aload_n (pc' := 66) 0 dX12_lays_65 rfl rfl ?_
      refine g_iload_n (pc' := 67) 2 dX12_lays_66 rfl rfl ?_
      refine g_iload_n (pc' := 68) 3 dX12_lays_67 rfl rfl ?_
      refine g_pVI (pc' := 71) (vs := [vI x2, vI x3]) (st := [vI x2, vR (some 99), vI ((3 * x2) + x3), vR (some 114)]) (val := mColour (u2 i 115 ((3 * x2) + x3) (bI (mMay i x2 x3 = true))) x2 x3) (c := 12) (sp_X12_colourOf (le_hd hd rfl) ob18 ob30) mv_X12_colourOf lk_X12_339 rfl rfl rfl rfl (Nat.le_of_ble_eq_true rfl) (Nat.le_of_ble_eq_true rfl) rfl dX12_lays_68 rfl z2 (fun rg31 => ?_)
      refine g_cVI (pc' := 74) (vs := [vI x2, vI (mColour (u2 i 115 ((3 * x2) + x3) (bI (mMay i x2 x3 = true))) x2 x3)]) (st := [vI ((3 * x2) + x3), vR (some 114)]) (c := 12) h mv_X12_priceOf lk_X12_305 rfl rfl rfl rfl (Nat.le_of_ble_eq_true rfl) (Nat.le_of_ble_eq_true rfl) rfl dX12_lays_71 rfl z2 (fun r32 i32 l32 rg32 h => ?_)
      obtain ⟨ob33, h⟩ := h
      refine g_iast (pc' := 75) (N := 30) rfl rfl (Nat.lt_of_lt_of_le (Nat.lt_succ_self _) (Nat.le_of_ble_eq_true rfl)) ob33 rg32 dX12_lays_74 rfl ?_
      refine g_iinc (pc' := 78) (L' := [(3, vI (x3 + 1)), (0, vR (some 99)), (1, vI x1), (2, vI x2)]) 3 dX12_lays_75 rfl (Nat.le_of_ble_eq_true rfl) rfl rfl ?_
      refine g_goto (tgt := 12) dX12_lays_78 rfl ?_
      refine g_sub (L' := [(0, vR (some 99)), (1, vI x1), (2, vI x2), (3, vI (x3 + 1))]) [1, 2, 3, 0] rfl ?_
      exact h
    refine g_if_eq (tgt := 59) (pc' := 46) ob18 Iff.rfl dX12_lays_43 rfl rfl (fun c23 => ?_) (fun c23 => ?_)
    · refine g_iconst (pc' := 60) dX12_lays_59 rfl ?_
      refine g_goto (tgt := 74) dX12_lays_60 rfl ?_
      exact hk34g (Or.inl c23)
    · refine g_aload_n (pc' := 47) 0 dX12_lays_46 rfl rfl ?_
      refine g_getR (pc' := 50) (o := some 115) fl_X12_67 rfl rfl rfl dX12_lays_47 rfl ?_
      refine g_iconst (pc' := 51) dX12_lays_50 rfl ?_
      refine g_iload_n (pc' := 52) 2 dX12_lays_51 rfl rfl ?_
      refine g_imul (pc' := 53) dX12_lays_52 rfl ?_
      refine g_iload_n (pc' := 54) 3 dX12_lays_53 rfl rfl ?_
      refine g_iadd (pc' := 55) dX12_lays_54 rfl ?_
      refine g_zald (pc' := 56) (N := 30) rfl rfl (Nat.lt_of_lt_of_le (Nat.lt_succ_self _) (Nat.le_of_ble_eq_true rfl)) (hob24 c23) dX12_lays_55 rfl (fun rg25 => ?_)
      refine g_if_ne (tgt := 63) (pc' := 59) rg25 Iff.rfl dX12_lays_56 rfl rfl (fun c26 => ?_) (fun c26 => ?_)
      · exact hk35g (fun q => q.elim c23 c26)
      · refine g_iconst (pc' := 60) dX12_lays_59 rfl ?_
        refine g_goto (tgt := 74) dX12_lays_60 rfl ?_
        exact hk34g (Or.inr c26)
set_option maxRecDepth 20000 in
theorem s_X12_lays_99 {w : Wd} {d : Nat} {P : IM → LM → Prop} {i : IM} {l : LM} (x1 : Int) (x2 : Int) (x3 : Int)  (hd : 1 ≤ d) (h : ((rg x3) ∧ ((12 ≤ x3) → gV w d X_X12_lays P i l 89 [(0, vR (some 99)), (1, vI x1), (2, vI (x2 + 1))] []) ∧ ((¬ (12 ≤ x3) ∧ (iand (ishr x1 x3) 1 = 1)) → cI w d X_X12_limitOf [vR (some 99), vI x2, vI x3, vI 0] i l (fun r43 i43 l43 => ((0 ≤ (12 * x2) + x3 ∧ (12 * x2) + x3 < 96) ∧ (0 ≤ (12 * x2) + x3 ∧ (12 * x2) + x3 < 1056) ∧ gV w d X_X12_lays P (u2 (u2 i43 112 ((12 * x2) + x3) r43) 113 ((12 * x2) + x3) 0) l43 149 [(0, vR (some 99)), (1, vI x1), (2, vI x2), (3, vI x3), (4, vI ((12 * x2) + x3)), (5, vI 0)] []))) ∧ ((¬ (12 ≤ x3) ∧ (¬ (iand (ishr x1 x3) 1 = 1))) → gV w d X_X12_lays P i l 99 [(0, vR (some 99)), (1, vI x1), (2, vI x2), (3, vI (x3 + 1))] []))) : gV w d X_X12_lays P i l 99 [(0, vR (some 99)), (1, vI x1), (2, vI x2), (3, vI x3)] [] := by
  refine g_iload_n (pc' := 100) 3 dX12_lays_99 rfl rfl ?_
  refine g_bipush (pc' := 102) dX12_lays_100 rfl rfl ?_
  obtain ⟨hob39, hk46, hk47, hk48⟩ := h
  have hk46g : (12 ≤ x3) → gV w d X_X12_lays P i l 239 [(0, vR (some 99)), (1, vI x1), (2, vI x2), (3, vI x3)] [] := by
    intro hp
    have h := hk46 hp
    refine g_iinc (pc' := 242) (L' := [(2, vI (x2 + 1)), (0, vR (some 99)), (1, vI x1), (3, vI x3)]) 2 dX12_lays_239 rfl (Nat.le_of_ble_eq_true rfl) rfl rfl ?_
    refine g_goto (tgt := 89) dX12_lays_242 rfl ?_
    refine g_sub (L' := [(0, vR (some 99)), (1, vI x1), (2, vI (x2 + 1))]) [1, 2, 0] rfl ?_
    exact h
  have hk47g : (¬ (12 ≤ x3) ∧ (iand (ishr x1 x3) 1 = 1)) → gV w d X_X12_lays P i l 116 [(0, vR (some 99)), (1, vI x1), (2, vI x2), (3, vI x3)] [] := by
    intro hp
    have h := hk47 hp
    refine g_bipush (pc' := 118) dX12_lays_116 rfl rfl ?_
    refine g_iload_n (pc' := 119) 2 dX12_lays_118 rfl rfl ?_
    refine g_imul (pc' := 120) dX12_lays_119 rfl ?_
    refine g_iload_n (pc' := 121) 3 dX12_lays_120 rfl rfl ?_
    refine g_iadd (pc' := 122) dX12_lays_121 rfl ?_
    refine g_istore (pc' := 124) (L' := [(4, vI ((12 * x2) + x3)), (0, vR (some 99)), (1, vI x1), (2, vI x2), (3, vI x3)]) dX12_lays_122 rfl (Nat.le_of_ble_eq_true rfl) rfl ?_
    refine g_aload_n (pc' := 125) 1 dX12_lays_124 rfl rfl ?_
    refine g_getR (pc' := 128) (o := some 112) fl_X12_58 rfl rfl rfl dX12_lays_125 rfl ?_
    refine g_iload (pc' := 130) 0 dX12_lays_128 rfl rfl ?_
    refine g_aload_n (pc' := 131) 1 dX12_lays_130 rfl rfl ?_
    refine g_iload_n (pc' := 132) 3 dX12_lays_131 rfl rfl ?_
    refine g_iload_n (pc' := 133) 4 dX12_lays_132 rfl rfl ?_
    refine g_iconst (pc' := 134) dX12_lays_133 rfl ?_
    refine g_cVI (pc' := 137) (vs := [vI x2, vI x3, vI 0]) (st := [vI ((12 * x2) + x3), vR (some 112)]) (c := 12) h mv_X12_limitOf lk_X12_330 rfl rfl rfl rfl (Nat.le_of_ble_eq_true rfl) (Nat.le_of_ble_eq_true rfl) rfl dX12_lays_134 rfl z2 (fun r43 i43 l43 rg43 h => ?_)
    obtain ⟨ob44, ob45, h⟩ := h
    refine g_iast (pc' := 138) (N := 96) rfl rfl (Nat.lt_of_lt_of_le (Nat.lt_succ_self _) (Nat.le_of_ble_eq_true rfl)) ob44 rg43 dX12_lays_137 rfl ?_
    refine g_aload_n (pc' := 139) 1 dX12_lays_138 rfl rfl ?_
    refine g_getR (pc' := 142) (o := some 113) fl_X12_61 rfl rfl rfl dX12_lays_139 rfl ?_
    refine g_iload (pc' := 144) 0 dX12_lays_142 rfl rfl ?_
    refine g_iconst (pc' := 145) dX12_lays_144 rfl ?_
    refine g_iast (pc' := 146) (N := 1056) rfl rfl (Nat.lt_of_lt_of_le (Nat.lt_succ_self _) (Nat.le_of_ble_eq_true rfl)) ob45 (rg_lit rfl) dX12_lays_145 rfl ?_
    refine g_iconst (pc' := 147) dX12_lays_146 rfl ?_
    refine g_istore (pc' := 149) (L' := [(5, vI 0), (4, vI ((12 * x2) + x3)), (0, vR (some 99)), (1, vI x1), (2, vI x2), (3, vI x3)]) dX12_lays_147 rfl (Nat.le_of_ble_eq_true rfl) rfl ?_
    refine g_sub (L' := [(0, vR (some 99)), (1, vI x1), (2, vI x2), (3, vI x3), (4, vI ((12 * x2) + x3)), (5, vI 0)]) [2, 3, 4, 5, 1, 0] rfl ?_
    exact h
  have hk48g : (¬ (12 ≤ x3) ∧ (¬ (iand (ishr x1 x3) 1 = 1))) → gV w d X_X12_lays P i l 233 [(0, vR (some 99)), (1, vI x1), (2, vI x2), (3, vI x3)] [] := by
    intro hp
    have h := hk48 hp
    refine g_iinc (pc' := 236) (L' := [(3, vI (x3 + 1)), (0, vR (some 99)), (1, vI x1), (2, vI x2)]) 3 dX12_lays_233 rfl (Nat.le_of_ble_eq_true rfl) rfl rfl ?_
    refine g_goto (tgt := 99) dX12_lays_236 rfl ?_
    refine g_sub (L' := [(0, vR (some 99)), (1, vI x1), (2, vI x2), (3, vI (x3 + 1))]) [1, 2, 3, 0] rfl ?_
    exact h
  refine g_icmp_ge (tgt := 239) (pc' := 105) (hob39) (rg_lit rfl) Iff.rfl dX12_lays_102 rfl rfl (fun c40 => ?_) (fun c40 => ?_)
  · exact hk46g c40
  · refine g_iload_n (pc' := 106) 1 dX12_lays_105 rfl rfl ?_
    refine g_iload_n (pc' := 107) 3 dX12_lays_106 rfl rfl ?_
    refine g_pSI (pc' := 110) (vs := [vI x1, vI x3]) (st := []) (val := bI (iand (ishr x1 x3) 1 = 1)) (sp_X12_isIn (le_hd hd rfl) ) mk_X12_isIn ms_X12_isIn lk_X12_147 rfl (Nat.le_of_ble_eq_true rfl) (Nat.le_of_ble_eq_true rfl) rfl dX12_lays_107 rfl z2 (fun rg41 => ?_)
    refine g_if_ne (tgt := 116) (pc' := 113) rg41 (bI_eq _) dX12_lays_110 rfl rfl (fun c42n => ?_) (fun c42 => ?_)
    · have c42 := Decidable.of_not_not c42n
      exact hk47g ⟨c40, c42⟩
    · refine g_goto (tgt := 233) dX12_lays_113 rfl ?_
      exact hk48g ⟨c40, c42⟩
set_option maxRecDepth 20000 in
theorem s_X12_lays_149 {w : Wd} {d : Nat} {P : IM → LM → Prop} {i : IM} {l : LM} (x1 : Int) (x2 : Int) (x3 : Int) (x4 : Int) (x5 : Int)  (hd : 1 ≤ d) (h : ((rg x5) ∧ ((i 101 307 ≤ x5) → gV w d X_X12_lays P i l 99 [(0, vR (some 99)), (1, vI x1), (2, vI x2), (3, vI (x3 + 1))] []) ∧ ((¬ (i 101 307 ≤ x5)) → gV w d X_X12_lays P i l 161 [(0, vR (some 99)), (1, vI x1), (2, vI x2), (3, vI x3), (4, vI x4), (5, vI x5), (6, vI 0)] []))) : gV w d X_X12_lays P i l 149 [(0, vR (some 99)), (1, vI x1), (2, vI x2), (3, vI x3), (4, vI x4), (5, vI x5)] [] := by
  refine g_iload (pc' := 151) 5 dX12_lays_149 rfl rfl ?_
  refine g_aload_n (pc' := 152) 0 dX12_lays_151 rfl rfl ?_
  refine g_pVI (pc' := 155) (vs := []) (st := [vI x5]) (val := i 101 307) (c := 12) (sp_X12_things (le_hd hd rfl) ) mv_X12_things lk_X12_117 rfl rfl rfl rfl (Nat.le_of_ble_eq_true rfl) (Nat.le_of_ble_eq_true rfl) rfl dX12_lays_152 rfl z2 (fun rg49 => ?_)
  obtain ⟨hob51, hk53, hk54⟩ := h
  refine g_icmp_ge (tgt := 233) (pc' := 158) (hob51) rg49 Iff.rfl dX12_lays_155 rfl rfl (fun c52 => ?_) (fun c52 => ?_)
  · have h := hk53 c52
    refine g_iinc (pc' := 236) (L' := [(3, vI (x3 + 1)), (0, vR (some 99)), (1, vI x1), (2, vI x2), (4, vI x4), (5, vI x5)]) 3 dX12_lays_233 rfl (Nat.le_of_ble_eq_true rfl) rfl rfl ?_
    refine g_goto (tgt := 99) dX12_lays_236 rfl ?_
    refine g_sub (L' := [(0, vR (some 99)), (1, vI x1), (2, vI x2), (3, vI (x3 + 1))]) [1, 2, 3, 0] rfl ?_
    exact h
  · have h := hk54 c52
    refine g_iconst (pc' := 159) dX12_lays_158 rfl ?_
    refine g_istore (pc' := 161) (L' := [(6, vI 0), (0, vR (some 99)), (1, vI x1), (2, vI x2), (3, vI x3), (4, vI x4), (5, vI x5)]) dX12_lays_159 rfl (Nat.le_of_ble_eq_true rfl) rfl ?_
    refine g_sub (L' := [(0, vR (some 99)), (1, vI x1), (2, vI x2), (3, vI x3), (4, vI x4), (5, vI x5), (6, vI 0)]) [1, 2, 3, 4, 5, 6, 0] rfl ?_
    exact h
set_option maxRecDepth 20000 in
theorem s_X12_lays_161 {w : Wd} {d : Nat} {P : IM → LM → Prop} {i : IM} {l : LM} (x1 : Int) (x2 : Int) (x3 : Int) (x4 : Int) (x5 : Int) (x6 : Int)  (hd : 2 ≤ d) (h : ((rg x6) ∧ (¬ (3 ≤ x6) → 0 ≤ (3 * x5) + x6 ∧ (3 * x5) + x6 < 30) ∧ ((3 ≤ x6) → gV w d X_X12_lays P i l 149 [(0, vR (some 99)), (1, vI x1), (2, vI x2), (3, vI x3), (4, vI x4), (5, vI (x5 + 1))] []) ∧ ((¬ (3 ≤ x6) ∧ (i 115 ((3 * x5) + x6) = 0)) → ((0 ≤ (((96 * x5) + x4) * 3) + x6 ∧ (((96 * x5) + x4) * 3) + x6 < 2880) ∧ gV w d X_X12_lays P (u2 i 111 ((((96 * x5) + x4) * 3) + x6) 0) l 161 [(0, vR (some 99)), (1, vI x1), (2, vI x2), (3, vI x3), (4, vI x4), (5, vI x5), (6, vI (x6 + 1))] [])) ∧ ((¬ (3 ≤ x6) ∧ (¬ (i 115 ((3 * x5) + x6) = 0))) → ((rg x6) ∧ (0 ≤ x5 ∧ x5 < 10) ∧ cI w d X_X12_bitOf [vR (some 99), vI x2, vI x5, vI (mColour i x5 x6), vI x3, vI 0] i l (fun r67 i67 l67 => ((0 ≤ (((96 * x5) + x4) * 3) + x6 ∧ (((96 * x5) + x4) * 3) + x6 < 2880) ∧ gV w d X_X12_lays P (u2 i67 111 ((((96 * x5) + x4) * 3) + x6) r67) l67 161 [(0, vR (some 99)), (1, vI x1), (2, vI x2), (3, vI x3), (4, vI x4), (5, vI x5), (6, vI (x6 + 1))] [])))))) : gV w d X_X12_lays P i l 161 [(0, vR (some 99)), (1, vI x1), (2, vI x2), (3, vI x3), (4, vI x4), (5, vI x5), (6, vI x6)] [] := by
  refine g_iload (pc' := 163) 6 dX12_lays_161 rfl rfl ?_
  refine g_iconst (pc' := 164) dX12_lays_163 rfl ?_
  obtain ⟨hob56, hob58, hk69, hk70, hk71⟩ := h
  have hk69g : (3 ≤ x6) → gV w d X_X12_lays P i l 227 [(0, vR (some 99)), (1, vI x1), (2, vI x2), (3, vI x3), (4, vI x4), (5, vI x5), (6, vI x6)] [] := by
    intro hp
    have h := hk69 hp
    refine g_iinc (pc' := 230) (L' := [(5, vI (x5 + 1)), (0, vR (some 99)), (1, vI x1), (2, vI x2), (3, vI x3), (4, vI x4), (6, vI x6)]) 5 dX12_lays_227 rfl (Nat.le_of_ble_eq_true rfl) rfl rfl ?_
    refine g_goto (tgt := 149) dX12_lays_230 rfl ?_
    refine g_sub (L' := [(0, vR (some 99)), (1, vI x1), (2, vI x2), (3, vI x3), (4, vI x4), (5, vI (x5 + 1))]) [1, 2, 3, 4, 5, 0] rfl ?_
    exact h
  have hk70g : (¬ (3 ≤ x6) ∧ (i 115 ((3 * x5) + x6) = 0)) → gV w d X_X12_lays P i l 220 [(0, vR (some 99)), (1, vI x1), (2, vI x2), (3, vI x3), (4, vI x4), (5, vI x5), (6, vI x6)] [vI 0, vI ((((96 * x5) + x4) * 3) + x6), vR (some 111)] := by
    intro hp
    have h := hk70 hp
    obtain ⟨ob63, h⟩ := h
    refine g_iast (pc' := 221) (N := 2880) rfl rfl (Nat.lt_of_lt_of_le (Nat.lt_succ_self _) (Nat.le_of_ble_eq_true rfl)) ob63 (rg_lit rfl) dX12_lays_220 rfl ?_
    refine g_iinc (pc' := 224) (L' := [(6, vI (x6 + 1)), (0, vR (some 99)), (1, vI x1), (2, vI x2), (3, vI x3), (4, vI x4), (5, vI x5)]) 6 dX12_lays_221 rfl (Nat.le_of_ble_eq_true rfl) rfl rfl ?_
    refine g_goto (tgt := 161) dX12_lays_224 rfl ?_
    refine g_sub (L' := [(0, vR (some 99)), (1, vI x1), (2, vI x2), (3, vI x3), (4, vI x4), (5, vI x5), (6, vI (x6 + 1))]) [1, 2, 3, 4, 5, 6, 0] rfl ?_
    exact h
  have hk71g : (¬ (3 ≤ x6) ∧ (¬ (i 115 ((3 * x5) + x6) = 0))) → gV w d X_X12_lays P i l 199 [(0, vR (some 99)), (1, vI x1), (2, vI x2), (3, vI x3), (4, vI x4), (5, vI x5), (6, vI x6)] [vI ((((96 * x5) + x4) * 3) + x6), vR (some 111)] := by
    intro hp
    have h := hk71 hp
    obtain ⟨ob64, ob65, h⟩ := h
    refine g_aload_n (pc' := 200) 0 dX12_lays_199 rfl rfl ?_
    refine g_iload_n (pc' := 201) 2 dX12_lays_200 rfl rfl ?_
    refine g_iload (pc' := 203) 5 dX12_lays_201 rfl rfl ?_
    refine g_aload_n (pc' := 204) 0 dX12_lays_203 rfl rfl ?_
    refine g_iload (pc' := 206) 5 dX12_lays_204 rfl rfl ?_
    refine g_iload (pc' := 208) 6 dX12_lays_206 rfl rfl ?_
    refine g_pVI (pc' := 211) (vs := [vI x5, vI x6]) (st := [vI x5, vI x2, vR (some 99), vI ((((96 * x5) + x4) * 3) + x6), vR (some 111)]) (val := mColour i x5 x6) (c := 12) (sp_X12_colourOf (le_hd hd rfl) ob64 ob65) mv_X12_colourOf lk_X12_339 rfl rfl rfl rfl (Nat.le_of_ble_eq_true rfl) (Nat.le_of_ble_eq_true rfl) rfl dX12_lays_208 rfl z2 (fun rg66 => ?_)
    refine g_iload_n (pc' := 212) 3 dX12_lays_211 rfl rfl ?_
    refine g_iconst (pc' := 213) dX12_lays_212 rfl ?_
    refine g_cVI (pc' := 216) (vs := [vI x2, vI x5, vI (mColour i x5 x6), vI x3, vI 0]) (st := [vI ((((96 * x5) + x4) * 3) + x6), vR (some 111)]) (c := 12) h mv_X12_bitOf lk_X12_314 rfl rfl rfl rfl (Nat.le_of_ble_eq_true rfl) (Nat.le_of_ble_eq_true rfl) rfl dX12_lays_213 rfl z2 (fun r67 i67 l67 rg67 h => ?_)
    obtain ⟨ob68, h⟩ := h
    refine g_goto (tgt := 220) dX12_lays_216 rfl ?_
    refine g_iast (pc' := 221) (N := 2880) rfl rfl (Nat.lt_of_lt_of_le (Nat.lt_succ_self _) (Nat.le_of_ble_eq_true rfl)) ob68 rg67 dX12_lays_220 rfl ?_
    refine g_iinc (pc' := 224) (L' := [(6, vI (x6 + 1)), (0, vR (some 99)), (1, vI x1), (2, vI x2), (3, vI x3), (4, vI x4), (5, vI x5)]) 6 dX12_lays_221 rfl (Nat.le_of_ble_eq_true rfl) rfl rfl ?_
    refine g_goto (tgt := 161) dX12_lays_224 rfl ?_
    refine g_sub (L' := [(0, vR (some 99)), (1, vI x1), (2, vI x2), (3, vI x3), (4, vI x4), (5, vI x5), (6, vI (x6 + 1))]) [1, 2, 3, 4, 5, 6, 0] rfl ?_
    exact h
  refine g_icmp_ge (tgt := 227) (pc' := 167) (hob56) (rg_lit rfl) Iff.rfl dX12_lays_164 rfl rfl (fun c57 => ?_) (fun c57 => ?_)
  · exact hk69g c57
  · refine g_aload_n (pc' := 168) 0 dX12_lays_167 rfl rfl ?_
    refine g_getR (pc' := 171) (o := some 111) fl_X12_55 rfl rfl rfl dX12_lays_168 rfl ?_
    refine g_bipush (pc' := 173) dX12_lays_171 rfl rfl ?_
    refine g_iload (pc' := 175) 5 dX12_lays_173 rfl rfl ?_
    refine g_imul (pc' := 176) dX12_lays_175 rfl ?_
    refine g_iload (pc' := 178) 4 dX12_lays_176 rfl rfl ?_
    refine g_iadd (pc' := 179) dX12_lays_178 rfl ?_
    refine g_iconst (pc' := 180) dX12_lays_179 rfl ?_
    refine g_imul (pc' := 181) dX12_lays_180 rfl ?_
    refine g_iload (pc' := 183) 6 dX12_lays_181 rfl rfl ?_
    refine g_iadd (pc' := 184) dX12_lays_183 rfl ?_
    refine g_aload_n (pc' := 185) 0 dX12_lays_184 rfl rfl ?_
    refine g_getR (pc' := 188) (o := some 115) fl_X12_67 rfl rfl rfl dX12_lays_185 rfl ?_
    refine g_iconst (pc' := 189) dX12_lays_188 rfl ?_
    refine g_iload (pc' := 191) 5 dX12_lays_189 rfl rfl ?_
    refine g_imul (pc' := 192) dX12_lays_191 rfl ?_
    refine g_iload (pc' := 194) 6 dX12_lays_192 rfl rfl ?_
    refine g_iadd (pc' := 195) dX12_lays_194 rfl ?_
    refine g_zald (pc' := 196) (N := 30) rfl rfl (Nat.lt_of_lt_of_le (Nat.lt_succ_self _) (Nat.le_of_ble_eq_true rfl)) (hob58 c57) dX12_lays_195 rfl (fun rg59 => ?_)
    refine g_if_eq (tgt := 219) (pc' := 199) rg59 Iff.rfl dX12_lays_196 rfl rfl (fun c60 => ?_) (fun c60 => ?_)
    · refine g_iconst (pc' := 220) dX12_lays_219 rfl ?_
      exact hk70g ⟨c57, c60⟩
    · exact hk71g ⟨c57, c60⟩

theorem dX12_paints_0 : decode cX12_paints 0 = .ok (.aload_n 0, 1) := by decide +kernel
theorem dX12_paints_1 : decode cX12_paints 1 = .ok (.getfield 82, 3) := by decide +kernel
theorem dX12_paints_4 : decode cX12_paints 4 = .ok (.aload_n 0, 1) := by decide +kernel
theorem dX12_paints_5 : decode cX12_paints 5 = .ok (.getfield 11, 3) := by decide +kernel
theorem dX12_paints_8 : decode cX12_paints 8 = .ok (.if_icmp .ne 20, 3) := by decide +kernel
theorem dX12_paints_11 : decode cX12_paints 11 = .ok (.aload_n 0, 1) := by decide +kernel
theorem dX12_paints_12 : decode cX12_paints 12 = .ok (.getfield 342, 3) := by decide +kernel
theorem dX12_paints_15 : decode cX12_paints 15 = .ok (.iload_n 1, 1) := by decide +kernel
theorem dX12_paints_16 : decode cX12_paints 16 = .ok (.if_icmp .ne 12, 3) := by decide +kernel
theorem dX12_paints_19 : decode cX12_paints 19 = .ok (.aload_n 0, 1) := by decide +kernel
theorem dX12_paints_20 : decode cX12_paints 20 = .ok (.getfield 85, 3) := by decide +kernel
theorem dX12_paints_23 : decode cX12_paints 23 = .ok (.iload_n 2, 1) := by decide +kernel
theorem dX12_paints_24 : decode cX12_paints 24 = .ok (.if_icmp .ne 4, 3) := by decide +kernel
theorem dX12_paints_27 : decode cX12_paints 27 = .ok (.return_, 1) := by decide +kernel
theorem dX12_paints_28 : decode cX12_paints 28 = .ok (.aload_n 0, 1) := by decide +kernel
theorem dX12_paints_29 : decode cX12_paints 29 = .ok (.aload_n 0, 1) := by decide +kernel
theorem dX12_paints_30 : decode cX12_paints 30 = .ok (.getfield 11, 3) := by decide +kernel
theorem dX12_paints_33 : decode cX12_paints 33 = .ok (.putfield 82, 3) := by decide +kernel
theorem dX12_paints_36 : decode cX12_paints 36 = .ok (.aload_n 0, 1) := by decide +kernel
theorem dX12_paints_37 : decode cX12_paints 37 = .ok (.iload_n 1, 1) := by decide +kernel
theorem dX12_paints_38 : decode cX12_paints 38 = .ok (.putfield 342, 3) := by decide +kernel
theorem dX12_paints_41 : decode cX12_paints 41 = .ok (.aload_n 0, 1) := by decide +kernel
theorem dX12_paints_42 : decode cX12_paints 42 = .ok (.iload_n 2, 1) := by decide +kernel
theorem dX12_paints_43 : decode cX12_paints 43 = .ok (.putfield 85, 3) := by decide +kernel
theorem dX12_paints_46 : decode cX12_paints 46 = .ok (.aload_n 0, 1) := by decide +kernel
theorem dX12_paints_47 : decode cX12_paints 47 = .ok (.iload_n 1, 1) := by decide +kernel
theorem dX12_paints_48 : decode cX12_paints 48 = .ok (.putfield 345, 3) := by decide +kernel
theorem dX12_paints_51 : decode cX12_paints 51 = .ok (.aload_n 0, 1) := by decide +kernel
theorem dX12_paints_52 : decode cX12_paints 52 = .ok (.iload_n 1, 1) := by decide +kernel
theorem dX12_paints_53 : decode cX12_paints 53 = .ok (.invokevirtual 348, 3) := by decide +kernel
theorem dX12_paints_56 : decode cX12_paints 56 = .ok (.iload_n 2, 1) := by decide +kernel
theorem dX12_paints_57 : decode cX12_paints 57 = .ok (.iconst (-1), 1) := by decide +kernel
theorem dX12_paints_58 : decode cX12_paints 58 = .ok (.if_icmp .eq 32, 3) := by decide +kernel
theorem dX12_paints_61 : decode cX12_paints 61 = .ok (.iconst 0, 1) := by decide +kernel
theorem dX12_paints_62 : decode cX12_paints 62 = .ok (.istore_n 3, 1) := by decide +kernel
theorem dX12_paints_63 : decode cX12_paints 63 = .ok (.iload_n 3, 1) := by decide +kernel
theorem dX12_paints_64 : decode cX12_paints 64 = .ok (.bipush 12, 2) := by decide +kernel
theorem dX12_paints_66 : decode cX12_paints 66 = .ok (.if_icmp .ge 24, 3) := by decide +kernel
theorem dX12_paints_69 : decode cX12_paints 69 = .ok (.aload_n 0, 1) := by decide +kernel
theorem dX12_paints_70 : decode cX12_paints 70 = .ok (.getfield 58, 3) := by decide +kernel
theorem dX12_paints_73 : decode cX12_paints 73 = .ok (.bipush 12, 2) := by decide +kernel
theorem dX12_paints_75 : decode cX12_paints 75 = .ok (.iload_n 2, 1) := by decide +kernel
theorem dX12_paints_76 : decode cX12_paints 76 = .ok (.imul, 1) := by decide +kernel
theorem dX12_paints_77 : decode cX12_paints 77 = .ok (.iload_n 3, 1) := by decide +kernel
theorem dX12_paints_78 : decode cX12_paints 78 = .ok (.iadd, 1) := by decide +kernel
theorem dX12_paints_79 : decode cX12_paints 79 = .ok (.dup2, 1) := by decide +kernel
theorem dX12_paints_80 : decode cX12_paints 80 = .ok (.iaload, 1) := by decide +kernel
theorem dX12_paints_81 : decode cX12_paints 81 = .ok (.iconst 1, 1) := by decide +kernel
theorem dX12_paints_82 : decode cX12_paints 82 = .ok (.iadd, 1) := by decide +kernel
theorem dX12_paints_83 : decode cX12_paints 83 = .ok (.iastore, 1) := by decide +kernel
theorem dX12_paints_84 : decode cX12_paints 84 = .ok (.iinc 3 1, 3) := by decide +kernel
theorem dX12_paints_87 : decode cX12_paints 87 = .ok (.goto (-24), 3) := by decide +kernel
theorem dX12_paints_90 : decode cX12_paints 90 = .ok (.aload_n 0, 1) := by decide +kernel
theorem dX12_paints_91 : decode cX12_paints 91 = .ok (.iconst 0, 1) := by decide +kernel
theorem dX12_paints_92 : decode cX12_paints 92 = .ok (.putfield 351, 3) := by decide +kernel
theorem dX12_paints_95 : decode cX12_paints 95 = .ok (.aload_n 0, 1) := by decide +kernel
theorem dX12_paints_96 : decode cX12_paints 96 = .ok (.iconst 0, 1) := by decide +kernel
theorem dX12_paints_97 : decode cX12_paints 97 = .ok (.putfield 354, 3) := by decide +kernel
theorem dX12_paints_100 : decode cX12_paints 100 = .ok (.aload_n 0, 1) := by decide +kernel
theorem dX12_paints_101 : decode cX12_paints 101 = .ok (.iconst 0, 1) := by decide +kernel
theorem dX12_paints_102 : decode cX12_paints 102 = .ok (.putfield 357, 3) := by decide +kernel
theorem dX12_paints_105 : decode cX12_paints 105 = .ok (.aload_n 0, 1) := by decide +kernel
theorem dX12_paints_106 : decode cX12_paints 106 = .ok (.iconst (-1), 1) := by decide +kernel
theorem dX12_paints_107 : decode cX12_paints 107 = .ok (.putfield 360, 3) := by decide +kernel
theorem dX12_paints_110 : decode cX12_paints 110 = .ok (.aload_n 0, 1) := by decide +kernel
theorem dX12_paints_111 : decode cX12_paints 111 = .ok (.ldc 192, 2) := by decide +kernel
theorem dX12_paints_113 : decode cX12_paints 113 = .ok (.putfield 363, 3) := by decide +kernel
theorem dX12_paints_116 : decode cX12_paints 116 = .ok (.aload_n 0, 1) := by decide +kernel
theorem dX12_paints_117 : decode cX12_paints 117 = .ok (.ldc 192, 2) := by decide +kernel
theorem dX12_paints_119 : decode cX12_paints 119 = .ok (.putfield 366, 3) := by decide +kernel
theorem dX12_paints_122 : decode cX12_paints 122 = .ok (.aload_n 0, 1) := by decide +kernel
theorem dX12_paints_123 : decode cX12_paints 123 = .ok (.ldc 192, 2) := by decide +kernel
theorem dX12_paints_125 : decode cX12_paints 125 = .ok (.putfield 369, 3) := by decide +kernel
theorem dX12_paints_128 : decode cX12_paints 128 = .ok (.iconst 0, 1) := by decide +kernel
theorem dX12_paints_129 : decode cX12_paints 129 = .ok (.istore_n 3, 1) := by decide +kernel
theorem dX12_paints_130 : decode cX12_paints 130 = .ok (.iload_n 3, 1) := by decide +kernel
theorem dX12_paints_131 : decode cX12_paints 131 = .ok (.sipush 256, 3) := by decide +kernel
theorem dX12_paints_134 : decode cX12_paints 134 = .ok (.if_icmp .ge 16, 3) := by decide +kernel
theorem dX12_paints_137 : decode cX12_paints 137 = .ok (.aload_n 0, 1) := by decide +kernel
theorem dX12_paints_138 : decode cX12_paints 138 = .ok (.getfield 79, 3) := by decide +kernel
theorem dX12_paints_141 : decode cX12_paints 141 = .ok (.iload_n 3, 1) := by decide +kernel
theorem dX12_paints_142 : decode cX12_paints 142 = .ok (.iconst 0, 1) := by decide +kernel
theorem dX12_paints_143 : decode cX12_paints 143 = .ok (.bastore, 1) := by decide +kernel
theorem dX12_paints_144 : decode cX12_paints 144 = .ok (.iinc 3 1, 3) := by decide +kernel
theorem dX12_paints_147 : decode cX12_paints 147 = .ok (.goto (-17), 3) := by decide +kernel
theorem dX12_paints_150 : decode cX12_paints 150 = .ok (.aload_n 0, 1) := by decide +kernel
theorem dX12_paints_151 : decode cX12_paints 151 = .ok (.iconst 0, 1) := by decide +kernel
theorem dX12_paints_152 : decode cX12_paints 152 = .ok (.iconst 0, 1) := by decide +kernel
theorem dX12_paints_153 : decode cX12_paints 153 = .ok (.iconst 0, 1) := by decide +kernel
theorem dX12_paints_154 : decode cX12_paints 154 = .ok (.iconst 0, 1) := by decide +kernel
theorem dX12_paints_155 : decode cX12_paints 155 = .ok (.invokevirtual 372, 3) := by decide +kernel
theorem dX12_paints_158 : decode cX12_paints 158 = .ok (.return_, 1) := by decide +kernel
set_option maxRecDepth 20000 in
theorem s_X12_paints {w : Wd} {d : Nat} {P : IM → LM → Prop} {i : IM} {l : LM} (p0 : Int) (p1 : Int)  (h : (((i 99 32 = i 99 1) → rg p0) ∧ ((i 99 32 = i 99 1) → (i 99 33 = p0) → rg p1) ∧ (((i 99 32 = i 99 1) ∧ ((i 99 33 = p0) ∧ (i 99 34 = p1))) → P i l) ∧ ((¬ ((i 99 32 = i 99 1) ∧ ((i 99 33 = p0) ∧ (i 99 34 = p1)))) → gV w d X_X12_paints P i l 28 [(0, vR (some 99)), (1, vI p0), (2, vI p1)] []))) : gV w d X_X12_paints P i l 0 [(0, vR (some 99)), (1, vI p0), (2, vI p1)] [] := by
  refine g_aload_n (pc' := 1) 0 dX12_paints_0 rfl rfl ?_
  refine g_getI (pc' := 4) (z := 32) rfl fl_X12_82 rfl rfl dX12_paints_1 rfl (fun rg1 => ?_)
  refine g_aload_n (pc' := 5) 0 dX12_paints_4 rfl rfl ?_
  refine g_getI (pc' := 8) (z := 1) rfl fl_X12_11 rfl rfl dX12_paints_5 rfl (fun rg2 => ?_)
  obtain ⟨hob6, hob9, hk11, hk12⟩ := h
  have hk11g : ((i 99 32 = i 99 1) ∧ ((i 99 33 = p0) ∧ (i 99 34 = p1))) → gV w d X_X12_paints P i l 27 [(0, vR (some 99)), (1, vI p0), (2, vI p1)] [] := by
    intro hp
    have h := hk11 hp
    exact g_retV rfl dX12_paints_27 h
  have hk12g : (¬ ((i 99 32 = i 99 1) ∧ ((i 99 33 = p0) ∧ (i 99 34 = p1)))) → gV w d X_X12_paints P i l 28 [(0, vR (some 99)), (1, vI p0), (2, vI p1)] [] := by
    intro hp
    have h := hk12 hp
    exact h
  refine g_icmp_ne (tgt := 28) (pc' := 11) rg1 rg2 Iff.rfl dX12_paints_8 rfl rfl (fun c4 => ?_) (fun c4 => ?_)
  · exact hk12g (fun q => c4 q.1)
  · refine g_aload_n (pc' := 12) 0 dX12_paints_11 rfl rfl ?_
    refine g_getI (pc' := 15) (z := 33) rfl fl_X12_342 rfl rfl dX12_paints_12 rfl (fun rg5 => ?_)
    refine g_iload_n (pc' := 16) 1 dX12_paints_15 rfl rfl ?_
    refine g_icmp_ne (tgt := 28) (pc' := 19) rg5 (hob6 c4) Iff.rfl dX12_paints_16 rfl rfl (fun c7 => ?_) (fun c7 => ?_)
    · exact hk12g (fun q => (fun q => c7 q.1) q.2)
    · refine g_aload_n (pc' := 20) 0 dX12_paints_19 rfl rfl ?_
      refine g_getI (pc' := 23) (z := 34) rfl fl_X12_85 rfl rfl dX12_paints_20 rfl (fun rg8 => ?_)
      refine g_iload_n (pc' := 24) 2 dX12_paints_23 rfl rfl ?_
      refine g_icmp_ne (tgt := 28) (pc' := 27) rg8 (hob9 c4 c7) Iff.rfl dX12_paints_24 rfl rfl (fun c10 => ?_) (fun c10 => ?_)
      · exact hk12g (fun q => (fun q => c10 q.2) q.2)
      · exact hk11g ⟨c4, ⟨c7, c10⟩⟩
theorem e_X12_paints {w : Wd} {d : Nat} {P : IM → LM → Prop} {i : IM} {l : LM} {p0 : Int} {p1 : Int}  (h : gV w d X_X12_paints P i l 0 [(0, vR (some 99)), (1, vI p0), (2, vI p1)] []) : cVd w (d + 1) X_X12_paints [vR (some 99), vI p0, vI p1] i l P := CV_of (by decide +kernel) (Nat.le_of_ble_eq_true rfl) h
set_option maxRecDepth 20000 in
theorem s_X12_paints_28 {w : Wd} {d : Nat} {P : IM → LM → Prop} {i : IM} {l : LM} (x1 : Int) (x2 : Int)  (h : ((rg x1) ∧ (rg x2) ∧ cVd w d X_X12_lays [vR (some 99), vI x1] (u2 (u2 (u2 (u2 i 99 32 (i 99 1)) 99 33 x1) 99 34 x2) 99 43 x1) l (fun i16 l16 => (((x2 = (-1)) → gV w d X_X12_paints P i16 l16 90 [(0, vR (some 99))] []) ∧ ((¬ (x2 = (-1))) → gV w d X_X12_paints P i16 l16 63 [(0, vR (some 99)), (2, vI x2), (3, vI 0)] []))))) : gV w d X_X12_paints P i l 28 [(0, vR (some 99)), (1, vI x1), (2, vI x2)] [] := by
  obtain ⟨ob14, ob15, h⟩ := h
  refine g_aload_n (pc' := 29) 0 dX12_paints_28 rfl rfl ?_
  refine g_aload_n (pc' := 30) 0 dX12_paints_29 rfl rfl ?_
  refine g_getI (pc' := 33) (z := 1) rfl fl_X12_11 rfl rfl dX12_paints_30 rfl (fun rg13 => ?_)
  refine g_putI (pc' := 36) (z := 32) rfl fp_X12_82 rfl rfl rg13 dX12_paints_33 rfl ?_
  refine g_aload_n (pc' := 37) 0 dX12_paints_36 rfl rfl ?_
  refine g_iload_n (pc' := 38) 1 dX12_paints_37 rfl rfl ?_
  refine g_putI (pc' := 41) (z := 33) rfl fp_X12_342 rfl rfl ob14 dX12_paints_38 rfl ?_
  refine g_aload_n (pc' := 42) 0 dX12_paints_41 rfl rfl ?_
  refine g_iload_n (pc' := 43) 2 dX12_paints_42 rfl rfl ?_
  refine g_putI (pc' := 46) (z := 34) rfl fp_X12_85 rfl rfl ob15 dX12_paints_43 rfl ?_
  refine g_aload_n (pc' := 47) 0 dX12_paints_46 rfl rfl ?_
  refine g_iload_n (pc' := 48) 1 dX12_paints_47 rfl rfl ?_
  refine g_putI (pc' := 51) (z := 43) rfl fp_X12_345 rfl rfl ob14 dX12_paints_48 rfl ?_
  refine g_aload_n (pc' := 52) 0 dX12_paints_51 rfl rfl ?_
  refine g_iload_n (pc' := 53) 1 dX12_paints_52 rfl rfl ?_
  refine g_cVV (pc' := 56) (vs := [vI x1]) (st := []) (c := 12) h mv_X12_lays lk_X12_348 rfl rfl rfl rfl (Nat.le_of_ble_eq_true rfl) (Nat.le_of_ble_eq_true rfl) rfl dX12_paints_53 rfl z2 (fun i16 l16 h => ?_)
  refine g_iload_n (pc' := 57) 2 dX12_paints_56 rfl rfl ?_
  refine g_iconst (pc' := 58) dX12_paints_57 rfl ?_
  obtain ⟨hk19, hk20⟩ := h
  refine g_icmp_eq (tgt := 90) (pc' := 61) ob15 (rg_lit rfl) Iff.rfl dX12_paints_58 rfl rfl (fun c18 => ?_) (fun c18 => ?_)
  · have h := hk19 c18
    refine g_sub (L' := [(0, vR (some 99))]) [0] rfl ?_
    exact h
  · have h := hk20 c18
    refine g_iconst (pc' := 62) dX12_paints_61 rfl ?_
    refine g_istore_n (pc' := 63) (L' := [(3, vI 0), (0, vR (some 99)), (1, vI x1), (2, vI x2)]) dX12_paints_62 rfl (Nat.le_of_ble_eq_true rfl) rfl ?_
    refine g_sub (L' := [(0, vR (some 99)), (2, vI x2), (3, vI 0)]) [1, 3, 0] rfl ?_
    exact h
set_option maxRecDepth 20000 in
theorem s_X12_paints_90 {w : Wd} {d : Nat} {P : IM → LM → Prop} {i : IM} {l : LM}   (h : gV w d X_X12_paints P (u2 (u2 (u2 (u2 (u2 (u2 (u2 i 99 35 0) 99 36 0) 99 37 0) 99 38 (-1)) 99 40 1000000) 99 41 1000000) 99 42 1000000) l 130 [(0, vR (some 99)), (3, vI 0)] []) : gV w d X_X12_paints P i l 90 [(0, vR (some 99))] [] := by
  refine g_aload_n (pc' := 91) 0 dX12_paints_90 rfl rfl ?_
  refine g_iconst (pc' := 92) dX12_paints_91 rfl ?_
  refine g_putI (pc' := 95) (z := 35) rfl fp_X12_351 rfl rfl (rg_lit rfl) dX12_paints_92 rfl ?_
  refine g_aload_n (pc' := 96) 0 dX12_paints_95 rfl rfl ?_
  refine g_iconst (pc' := 97) dX12_paints_96 rfl ?_
  refine g_putI (pc' := 100) (z := 36) rfl fp_X12_354 rfl rfl (rg_lit rfl) dX12_paints_97 rfl ?_
  refine g_aload_n (pc' := 101) 0 dX12_paints_100 rfl rfl ?_
  refine g_iconst (pc' := 102) dX12_paints_101 rfl ?_
  refine g_putI (pc' := 105) (z := 37) rfl fp_X12_357 rfl rfl (rg_lit rfl) dX12_paints_102 rfl ?_
  refine g_aload_n (pc' := 106) 0 dX12_paints_105 rfl rfl ?_
  refine g_iconst (pc' := 107) dX12_paints_106 rfl ?_
  refine g_putI (pc' := 110) (z := 38) rfl fp_X12_360 rfl rfl (rg_lit rfl) dX12_paints_107 rfl ?_
  refine g_aload_n (pc' := 111) 0 dX12_paints_110 rfl rfl ?_
  refine g_ldc (pc' := 113) dX12_paints_111 rfl kc_X12_192 ?_
  refine g_putI (pc' := 116) (z := 40) rfl fp_X12_363 rfl rfl (rg_lit rfl) dX12_paints_113 rfl ?_
  refine g_aload_n (pc' := 117) 0 dX12_paints_116 rfl rfl ?_
  refine g_ldc (pc' := 119) dX12_paints_117 rfl kc_X12_192 ?_
  refine g_putI (pc' := 122) (z := 41) rfl fp_X12_366 rfl rfl (rg_lit rfl) dX12_paints_119 rfl ?_
  refine g_aload_n (pc' := 123) 0 dX12_paints_122 rfl rfl ?_
  refine g_ldc (pc' := 125) dX12_paints_123 rfl kc_X12_192 ?_
  refine g_putI (pc' := 128) (z := 42) rfl fp_X12_369 rfl rfl (rg_lit rfl) dX12_paints_125 rfl ?_
  refine g_iconst (pc' := 129) dX12_paints_128 rfl ?_
  refine g_istore_n (pc' := 130) (L' := [(3, vI 0), (0, vR (some 99))]) dX12_paints_129 rfl (Nat.le_of_ble_eq_true rfl) rfl ?_
  refine g_sub (L' := [(0, vR (some 99)), (3, vI 0)]) [1, 0] rfl ?_
  exact h
set_option maxRecDepth 20000 in
theorem s_X12_paints_63 {w : Wd} {d : Nat} {P : IM → LM → Prop} {i : IM} {l : LM} (x2 : Int) (x3 : Int)  (h : ((rg x3) ∧ ((12 ≤ x3) → gV w d X_X12_paints P i l 90 [(0, vR (some 99))] []) ∧ ((¬ (12 ≤ x3)) → ((0 ≤ (12 * x2) + x3 ∧ (12 * x2) + x3 < 96) ∧ (rg ((i 112 ((12 * x2) + x3)) + 1)) ∧ gV w d X_X12_paints P (u2 i 112 ((12 * x2) + x3) ((i 112 ((12 * x2) + x3)) + 1)) l 63 [(0, vR (some 99)), (2, vI x2), (3, vI (x3 + 1))] [])))) : gV w d X_X12_paints P i l 63 [(0, vR (some 99)), (2, vI x2), (3, vI x3)] [] := by
  refine g_iload_n (pc' := 64) 2 dX12_paints_63 rfl rfl ?_
  refine g_bipush (pc' := 66) dX12_paints_64 rfl rfl ?_
  obtain ⟨hob22, hk29, hk30⟩ := h
  refine g_icmp_ge (tgt := 90) (pc' := 69) (hob22) (rg_lit rfl) Iff.rfl dX12_paints_66 rfl rfl (fun c23 => ?_) (fun c23 => ?_)
  · have h := hk29 c23
    refine g_sub (L' := [(0, vR (some 99))]) [0] rfl ?_
    exact h
  · have h := hk30 c23
    obtain ⟨ob26, ob28, h⟩ := h
    refine g_aload_n (pc' := 70) 0 dX12_paints_69 rfl rfl ?_
    refine g_getR (pc' := 73) (o := some 112) fl_X12_58 rfl rfl rfl dX12_paints_70 rfl ?_
    refine g_bipush (pc' := 75) dX12_paints_73 rfl rfl ?_
    refine g_iload_n (pc' := 76) 1 dX12_paints_75 rfl rfl ?_
    refine g_imul (pc' := 77) dX12_paints_76 rfl ?_
    refine g_iload_n (pc' := 78) 2 dX12_paints_77 rfl rfl ?_
    refine g_iadd (pc' := 79) dX12_paints_78 rfl ?_
    refine g_dup2_11 (pc' := 80) dX12_paints_79 rfl rfl rfl ?_
    refine g_iald (pc' := 81) (N := 96) rfl rfl (Nat.lt_of_lt_of_le (Nat.lt_succ_self _) (Nat.le_of_ble_eq_true rfl)) ob26 dX12_paints_80 rfl (fun rg27 => ?_)
    refine g_iconst (pc' := 82) dX12_paints_81 rfl ?_
    refine g_iadd (pc' := 83) dX12_paints_82 rfl ?_
    refine g_iast (pc' := 84) (N := 96) rfl rfl (Nat.lt_of_lt_of_le (Nat.lt_succ_self _) (Nat.le_of_ble_eq_true rfl)) ob26 ob28 dX12_paints_83 rfl ?_
    refine g_iinc (pc' := 87) (L' := [(3, vI (x3 + 1)), (0, vR (some 99)), (2, vI x2)]) 2 dX12_paints_84 rfl (Nat.le_of_ble_eq_true rfl) rfl rfl ?_
    refine g_goto (tgt := 63) dX12_paints_87 rfl ?_
    refine g_sub (L' := [(0, vR (some 99)), (2, vI x2), (3, vI (x3 + 1))]) [1, 2, 0] rfl ?_
    exact h
set_option maxRecDepth 20000 in
theorem s_X12_paints_130 {w : Wd} {d : Nat} {P : IM → LM → Prop} {i : IM} {l : LM} (x3 : Int)  (h : ((rg x3) ∧ ((256 ≤ x3) → cVd w d X_X12_paintsOn [vR (some 99), vI 0, vI 0, vI 0, vI 0] i l (fun i34 l34 => P i34 l34)) ∧ ((¬ (256 ≤ x3)) → ((0 ≤ x3 ∧ x3 < 256) ∧ gV w d X_X12_paints P (u2 i 119 x3 0) l 130 [(0, vR (some 99)), (3, vI (x3 + 1))] [])))) : gV w d X_X12_paints P i l 130 [(0, vR (some 99)), (3, vI x3)] [] := by
  refine g_iload_n (pc' := 131) 1 dX12_paints_130 rfl rfl ?_
  refine g_sipush (pc' := 134) dX12_paints_131 rfl rfl ?_
  obtain ⟨hob32, hk36, hk37⟩ := h
  refine g_icmp_ge (tgt := 150) (pc' := 137) (hob32) (rg_lit rfl) Iff.rfl dX12_paints_134 rfl rfl (fun c33 => ?_) (fun c33 => ?_)
  · have h := hk36 c33
    refine g_aload_n (pc' := 151) 0 dX12_paints_150 rfl rfl ?_
    refine g_iconst (pc' := 152) dX12_paints_151 rfl ?_
    refine g_iconst (pc' := 153) dX12_paints_152 rfl ?_
    refine g_iconst (pc' := 154) dX12_paints_153 rfl ?_
    refine g_iconst (pc' := 155) dX12_paints_154 rfl ?_
    refine g_cVV (pc' := 158) (vs := [vI 0, vI 0, vI 0, vI 0]) (st := []) (c := 12) h mv_X12_paintsOn lk_X12_372 rfl rfl rfl rfl (Nat.le_of_ble_eq_true rfl) (Nat.le_of_ble_eq_true rfl) rfl dX12_paints_155 rfl z2 (fun i34 l34 h => ?_)
    exact g_retV rfl dX12_paints_158 h
  · have h := hk37 c33
    obtain ⟨ob35, h⟩ := h
    refine g_aload_n (pc' := 138) 0 dX12_paints_137 rfl rfl ?_
    refine g_getR (pc' := 141) (o := some 119) fl_X12_79 rfl rfl rfl dX12_paints_138 rfl ?_
    refine g_iload_n (pc' := 142) 1 dX12_paints_141 rfl rfl ?_
    refine g_iconst (pc' := 143) dX12_paints_142 rfl ?_
    refine g_zast (pc' := 144) (N := 256) rfl rfl (Nat.lt_of_lt_of_le (Nat.lt_succ_self _) (Nat.le_of_ble_eq_true rfl)) ob35 (by decide) dX12_paints_143 rfl ?_
    refine g_iinc (pc' := 147) (L' := [(3, vI (x3 + 1)), (0, vR (some 99))]) 1 dX12_paints_144 rfl (Nat.le_of_ble_eq_true rfl) rfl rfl ?_
    refine g_goto (tgt := 130) dX12_paints_147 rfl ?_
    refine g_sub (L' := [(0, vR (some 99)), (3, vI (x3 + 1))]) [1, 0] rfl ?_
    exact h

theorem dX12_paintsOn_0 : decode cX12_paintsOn 0 = .ok (.iload_n 1, 1) := by decide +kernel
theorem dX12_paintsOn_1 : decode cX12_paintsOn 1 = .ok (.aload_n 0, 1) := by decide +kernel
theorem dX12_paintsOn_2 : decode cX12_paintsOn 2 = .ok (.invokevirtual 117, 3) := by decide +kernel
theorem dX12_paintsOn_5 : decode cX12_paintsOn 5 = .ok (.if_icmp .ne 12, 3) := by decide +kernel
theorem dX12_paintsOn_8 : decode cX12_paintsOn 8 = .ok (.aload_n 0, 1) := by decide +kernel
theorem dX12_paintsOn_9 : decode cX12_paintsOn 9 = .ok (.iload_n 2, 1) := by decide +kernel
theorem dX12_paintsOn_10 : decode cX12_paintsOn 10 = .ok (.iload_n 3, 1) := by decide +kernel
theorem dX12_paintsOn_11 : decode cX12_paintsOn 11 = .ok (.iload 4, 2) := by decide +kernel
theorem dX12_paintsOn_13 : decode cX12_paintsOn 13 = .ok (.invokevirtual 376, 3) := by decide +kernel
theorem dX12_paintsOn_16 : decode cX12_paintsOn 16 = .ok (.return_, 1) := by decide +kernel
theorem dX12_paintsOn_17 : decode cX12_paintsOn 17 = .ok (.iconst 0, 1) := by decide +kernel
theorem dX12_paintsOn_18 : decode cX12_paintsOn 18 = .ok (.istore 5, 2) := by decide +kernel
theorem dX12_paintsOn_20 : decode cX12_paintsOn 20 = .ok (.iload 5, 2) := by decide +kernel
theorem dX12_paintsOn_22 : decode cX12_paintsOn 22 = .ok (.iconst 3, 1) := by decide +kernel
theorem dX12_paintsOn_23 : decode cX12_paintsOn 23 = .ok (.if_icmp .ge 245, 3) := by decide +kernel
theorem dX12_paintsOn_26 : decode cX12_paintsOn 26 = .ok (.aload_n 0, 1) := by decide +kernel
theorem dX12_paintsOn_27 : decode cX12_paintsOn 27 = .ok (.getfield 67, 3) := by decide +kernel
theorem dX12_paintsOn_30 : decode cX12_paintsOn 30 = .ok (.iconst 3, 1) := by decide +kernel
theorem dX12_paintsOn_31 : decode cX12_paintsOn 31 = .ok (.iload_n 1, 1) := by decide +kernel
theorem dX12_paintsOn_32 : decode cX12_paintsOn 32 = .ok (.imul, 1) := by decide +kernel
theorem dX12_paintsOn_33 : decode cX12_paintsOn 33 = .ok (.iload 5, 2) := by decide +kernel
theorem dX12_paintsOn_35 : decode cX12_paintsOn 35 = .ok (.iadd, 1) := by decide +kernel
theorem dX12_paintsOn_36 : decode cX12_paintsOn 36 = .ok (.baload, 1) := by decide +kernel
theorem dX12_paintsOn_37 : decode cX12_paintsOn 37 = .ok (.ifCond .ne 6, 3) := by decide +kernel
theorem dX12_paintsOn_40 : decode cX12_paintsOn 40 = .ok (.goto 222, 3) := by decide +kernel
theorem dX12_paintsOn_43 : decode cX12_paintsOn 43 = .ok (.aload_n 0, 1) := by decide +kernel
theorem dX12_paintsOn_44 : decode cX12_paintsOn 44 = .ok (.getfield 70, 3) := by decide +kernel
theorem dX12_paintsOn_47 : decode cX12_paintsOn 47 = .ok (.iload_n 1, 1) := by decide +kernel
theorem dX12_paintsOn_48 : decode cX12_paintsOn 48 = .ok (.iload 5, 2) := by decide +kernel
theorem dX12_paintsOn_50 : decode cX12_paintsOn 50 = .ok (.iastore, 1) := by decide +kernel
theorem dX12_paintsOn_51 : decode cX12_paintsOn 51 = .ok (.iconst 0, 1) := by decide +kernel
theorem dX12_paintsOn_52 : decode cX12_paintsOn 52 = .ok (.istore 6, 2) := by decide +kernel
theorem dX12_paintsOn_54 : decode cX12_paintsOn 54 = .ok (.iload 6, 2) := by decide +kernel
theorem dX12_paintsOn_56 : decode cX12_paintsOn 56 = .ok (.aload_n 0, 1) := by decide +kernel
theorem dX12_paintsOn_57 : decode cX12_paintsOn 57 = .ok (.invokevirtual 121, 3) := by decide +kernel
theorem dX12_paintsOn_60 : decode cX12_paintsOn 60 = .ok (.if_icmp .ge 99, 3) := by decide +kernel
theorem dX12_paintsOn_63 : decode cX12_paintsOn 63 = .ok (.iconst 0, 1) := by decide +kernel
theorem dX12_paintsOn_64 : decode cX12_paintsOn 64 = .ok (.istore 7, 2) := by decide +kernel
theorem dX12_paintsOn_66 : decode cX12_paintsOn 66 = .ok (.iload 7, 2) := by decide +kernel
theorem dX12_paintsOn_68 : decode cX12_paintsOn 68 = .ok (.bipush 12, 2) := by decide +kernel
theorem dX12_paintsOn_70 : decode cX12_paintsOn 70 = .ok (.if_icmp .ge 83, 3) := by decide +kernel
theorem dX12_paintsOn_73 : decode cX12_paintsOn 73 = .ok (.aload_n 0, 1) := by decide +kernel
theorem dX12_paintsOn_74 : decode cX12_paintsOn 74 = .ok (.getfield 345, 3) := by decide +kernel
theorem dX12_paintsOn_77 : decode cX12_paintsOn 77 = .ok (.iload 7, 2) := by decide +kernel
theorem dX12_paintsOn_79 : decode cX12_paintsOn 79 = .ok (.invokestatic 147, 3) := by decide +kernel
theorem dX12_paintsOn_82 : decode cX12_paintsOn 82 = .ok (.ifCond .eq 65, 3) := by decide +kernel
theorem dX12_paintsOn_85 : decode cX12_paintsOn 85 = .ok (.aload_n 0, 1) := by decide +kernel
theorem dX12_paintsOn_86 : decode cX12_paintsOn 86 = .ok (.getfield 61, 3) := by decide +kernel
theorem dX12_paintsOn_89 : decode cX12_paintsOn 89 = .ok (.bipush 96, 2) := by decide +kernel
theorem dX12_paintsOn_91 : decode cX12_paintsOn 91 = .ok (.iload_n 1, 1) := by decide +kernel
theorem dX12_paintsOn_92 : decode cX12_paintsOn 92 = .ok (.iconst 1, 1) := by decide +kernel
theorem dX12_paintsOn_93 : decode cX12_paintsOn 93 = .ok (.iadd, 1) := by decide +kernel
theorem dX12_paintsOn_94 : decode cX12_paintsOn 94 = .ok (.imul, 1) := by decide +kernel
theorem dX12_paintsOn_95 : decode cX12_paintsOn 95 = .ok (.bipush 12, 2) := by decide +kernel
theorem dX12_paintsOn_97 : decode cX12_paintsOn 97 = .ok (.iload 6, 2) := by decide +kernel
theorem dX12_paintsOn_99 : decode cX12_paintsOn 99 = .ok (.imul, 1) := by decide +kernel
theorem dX12_paintsOn_100 : decode cX12_paintsOn 100 = .ok (.iadd, 1) := by decide +kernel
theorem dX12_paintsOn_101 : decode cX12_paintsOn 101 = .ok (.iload 7, 2) := by decide +kernel
theorem dX12_paintsOn_103 : decode cX12_paintsOn 103 = .ok (.iadd, 1) := by decide +kernel
theorem dX12_paintsOn_104 : decode cX12_paintsOn 104 = .ok (.aload_n 0, 1) := by decide +kernel
theorem dX12_paintsOn_105 : decode cX12_paintsOn 105 = .ok (.getfield 61, 3) := by decide +kernel
theorem dX12_paintsOn_108 : decode cX12_paintsOn 108 = .ok (.bipush 96, 2) := by decide +kernel
theorem dX12_paintsOn_110 : decode cX12_paintsOn 110 = .ok (.iload_n 1, 1) := by decide +kernel
theorem dX12_paintsOn_111 : decode cX12_paintsOn 111 = .ok (.imul, 1) := by decide +kernel
theorem dX12_paintsOn_112 : decode cX12_paintsOn 112 = .ok (.bipush 12, 2) := by decide +kernel
theorem dX12_paintsOn_114 : decode cX12_paintsOn 114 = .ok (.iload 6, 2) := by decide +kernel
theorem dX12_paintsOn_116 : decode cX12_paintsOn 116 = .ok (.imul, 1) := by decide +kernel
theorem dX12_paintsOn_117 : decode cX12_paintsOn 117 = .ok (.iadd, 1) := by decide +kernel
theorem dX12_paintsOn_118 : decode cX12_paintsOn 118 = .ok (.iload 7, 2) := by decide +kernel
theorem dX12_paintsOn_120 : decode cX12_paintsOn 120 = .ok (.iadd, 1) := by decide +kernel
theorem dX12_paintsOn_121 : decode cX12_paintsOn 121 = .ok (.iaload, 1) := by decide +kernel
theorem dX12_paintsOn_122 : decode cX12_paintsOn 122 = .ok (.aload_n 0, 1) := by decide +kernel
theorem dX12_paintsOn_123 : decode cX12_paintsOn 123 = .ok (.getfield 55, 3) := by decide +kernel
theorem dX12_paintsOn_126 : decode cX12_paintsOn 126 = .ok (.bipush 96, 2) := by decide +kernel
theorem dX12_paintsOn_128 : decode cX12_paintsOn 128 = .ok (.iload_n 1, 1) := by decide +kernel
theorem dX12_paintsOn_129 : decode cX12_paintsOn 129 = .ok (.imul, 1) := by decide +kernel
theorem dX12_paintsOn_130 : decode cX12_paintsOn 130 = .ok (.bipush 12, 2) := by decide +kernel
theorem dX12_paintsOn_132 : decode cX12_paintsOn 132 = .ok (.iload 6, 2) := by decide +kernel
theorem dX12_paintsOn_134 : decode cX12_paintsOn 134 = .ok (.imul, 1) := by decide +kernel
theorem dX12_paintsOn_135 : decode cX12_paintsOn 135 = .ok (.iadd, 1) := by decide +kernel
theorem dX12_paintsOn_136 : decode cX12_paintsOn 136 = .ok (.iload 7, 2) := by decide +kernel
theorem dX12_paintsOn_138 : decode cX12_paintsOn 138 = .ok (.iadd, 1) := by decide +kernel
theorem dX12_paintsOn_139 : decode cX12_paintsOn 139 = .ok (.iconst 3, 1) := by decide +kernel
theorem dX12_paintsOn_140 : decode cX12_paintsOn 140 = .ok (.imul, 1) := by decide +kernel
theorem dX12_paintsOn_141 : decode cX12_paintsOn 141 = .ok (.iload 5, 2) := by decide +kernel
theorem dX12_paintsOn_143 : decode cX12_paintsOn 143 = .ok (.iadd, 1) := by decide +kernel
theorem dX12_paintsOn_144 : decode cX12_paintsOn 144 = .ok (.iaload, 1) := by decide +kernel
theorem dX12_paintsOn_145 : decode cX12_paintsOn 145 = .ok (.ior, 1) := by decide +kernel
theorem dX12_paintsOn_146 : decode cX12_paintsOn 146 = .ok (.iastore, 1) := by decide +kernel
theorem dX12_paintsOn_147 : decode cX12_paintsOn 147 = .ok (.iinc 7 1, 3) := by decide +kernel
theorem dX12_paintsOn_150 : decode cX12_paintsOn 150 = .ok (.goto (-84), 3) := by decide +kernel
theorem dX12_paintsOn_153 : decode cX12_paintsOn 153 = .ok (.iinc 6 1, 3) := by decide +kernel
theorem dX12_paintsOn_156 : decode cX12_paintsOn 156 = .ok (.goto (-102), 3) := by decide +kernel
theorem dX12_paintsOn_159 : decode cX12_paintsOn 159 = .ok (.aload_n 0, 1) := by decide +kernel
theorem dX12_paintsOn_160 : decode cX12_paintsOn 160 = .ok (.iload_n 1, 1) := by decide +kernel
theorem dX12_paintsOn_161 : decode cX12_paintsOn 161 = .ok (.iload 5, 2) := by decide +kernel
theorem dX12_paintsOn_163 : decode cX12_paintsOn 163 = .ok (.invokevirtual 339, 3) := by decide +kernel
theorem dX12_paintsOn_166 : decode cX12_paintsOn 166 = .ok (.aload_n 0, 1) := by decide +kernel
theorem dX12_paintsOn_167 : decode cX12_paintsOn 167 = .ok (.iload_n 1, 1) := by decide +kernel
theorem dX12_paintsOn_168 : decode cX12_paintsOn 168 = .ok (.iconst 2, 1) := by decide +kernel
theorem dX12_paintsOn_169 : decode cX12_paintsOn 169 = .ok (.invokevirtual 144, 3) := by decide +kernel
theorem dX12_paintsOn_172 : decode cX12_paintsOn 172 = .ok (.if_icmp .ne 7, 3) := by decide +kernel
theorem dX12_paintsOn_175 : decode cX12_paintsOn 175 = .ok (.iconst 1, 1) := by decide +kernel
theorem dX12_paintsOn_176 : decode cX12_paintsOn 176 = .ok (.goto 4, 3) := by decide +kernel
theorem dX12_paintsOn_179 : decode cX12_paintsOn 179 = .ok (.iconst 0, 1) := by decide +kernel
theorem dX12_paintsOn_180 : decode cX12_paintsOn 180 = .ok (.istore 6, 2) := by decide +kernel
theorem dX12_paintsOn_182 : decode cX12_paintsOn 182 = .ok (.aload_n 0, 1) := by decide +kernel
theorem dX12_paintsOn_183 : decode cX12_paintsOn 183 = .ok (.iload_n 1, 1) := by decide +kernel
theorem dX12_paintsOn_184 : decode cX12_paintsOn 184 = .ok (.iconst 1, 1) := by decide +kernel
theorem dX12_paintsOn_185 : decode cX12_paintsOn 185 = .ok (.iadd, 1) := by decide +kernel
theorem dX12_paintsOn_186 : decode cX12_paintsOn 186 = .ok (.iload_n 2, 1) := by decide +kernel
theorem dX12_paintsOn_187 : decode cX12_paintsOn 187 = .ok (.aload_n 0, 1) := by decide +kernel
theorem dX12_paintsOn_188 : decode cX12_paintsOn 188 = .ok (.getfield 64, 3) := by decide +kernel
theorem dX12_paintsOn_191 : decode cX12_paintsOn 191 = .ok (.iconst 3, 1) := by decide +kernel
theorem dX12_paintsOn_192 : decode cX12_paintsOn 192 = .ok (.iload_n 1, 1) := by decide +kernel
theorem dX12_paintsOn_193 : decode cX12_paintsOn 193 = .ok (.imul, 1) := by decide +kernel
theorem dX12_paintsOn_194 : decode cX12_paintsOn 194 = .ok (.iload 5, 2) := by decide +kernel
theorem dX12_paintsOn_196 : decode cX12_paintsOn 196 = .ok (.iadd, 1) := by decide +kernel
theorem dX12_paintsOn_197 : decode cX12_paintsOn 197 = .ok (.iaload, 1) := by decide +kernel
theorem dX12_paintsOn_198 : decode cX12_paintsOn 198 = .ok (.iadd, 1) := by decide +kernel
theorem dX12_paintsOn_199 : decode cX12_paintsOn 199 = .ok (.iload_n 3, 1) := by decide +kernel
theorem dX12_paintsOn_200 : decode cX12_paintsOn 200 = .ok (.iload 6, 2) := by decide +kernel
theorem dX12_paintsOn_202 : decode cX12_paintsOn 202 = .ok (.ifCond .eq 12, 3) := by decide +kernel
theorem dX12_paintsOn_205 : decode cX12_paintsOn 205 = .ok (.aload_n 0, 1) := by decide +kernel
theorem dX12_paintsOn_206 : decode cX12_paintsOn 206 = .ok (.iload_n 1, 1) := by decide +kernel
theorem dX12_paintsOn_207 : decode cX12_paintsOn 207 = .ok (.iconst 4, 1) := by decide +kernel
theorem dX12_paintsOn_208 : decode cX12_paintsOn 208 = .ok (.invokevirtual 144, 3) := by decide +kernel
theorem dX12_paintsOn_211 : decode cX12_paintsOn 211 = .ok (.goto 4, 3) := by decide +kernel
theorem dX12_paintsOn_214 : decode cX12_paintsOn 214 = .ok (.iconst 0, 1) := by decide +kernel
theorem dX12_paintsOn_215 : decode cX12_paintsOn 215 = .ok (.iadd, 1) := by decide +kernel
theorem dX12_paintsOn_216 : decode cX12_paintsOn 216 = .ok (.iload 4, 2) := by decide +kernel
theorem dX12_paintsOn_218 : decode cX12_paintsOn 218 = .ok (.aload_n 0, 1) := by decide +kernel
theorem dX12_paintsOn_219 : decode cX12_paintsOn 219 = .ok (.iload_n 1, 1) := by decide +kernel
theorem dX12_paintsOn_220 : decode cX12_paintsOn 220 = .ok (.iload 5, 2) := by decide +kernel
theorem dX12_paintsOn_222 : decode cX12_paintsOn 222 = .ok (.invokevirtual 339, 3) := by decide +kernel
theorem dX12_paintsOn_225 : decode cX12_paintsOn 225 = .ok (.ifCond .ne 7, 3) := by decide +kernel
theorem dX12_paintsOn_228 : decode cX12_paintsOn 228 = .ok (.iconst 1, 1) := by decide +kernel
theorem dX12_paintsOn_229 : decode cX12_paintsOn 229 = .ok (.goto 4, 3) := by decide +kernel
theorem dX12_paintsOn_232 : decode cX12_paintsOn 232 = .ok (.iconst 0, 1) := by decide +kernel
theorem dX12_paintsOn_233 : decode cX12_paintsOn 233 = .ok (.iadd, 1) := by decide +kernel
theorem dX12_paintsOn_234 : decode cX12_paintsOn 234 = .ok (.iload 5, 2) := by decide +kernel
theorem dX12_paintsOn_236 : decode cX12_paintsOn 236 = .ok (.ifCond .ne 7, 3) := by decide +kernel
theorem dX12_paintsOn_239 : decode cX12_paintsOn 239 = .ok (.iconst 0, 1) := by decide +kernel
theorem dX12_paintsOn_240 : decode cX12_paintsOn 240 = .ok (.goto 5, 3) := by decide +kernel
theorem dX12_paintsOn_243 : decode cX12_paintsOn 243 = .ok (.bipush 16, 2) := by decide +kernel
theorem dX12_paintsOn_245 : decode cX12_paintsOn 245 = .ok (.iadd, 1) := by decide +kernel
theorem dX12_paintsOn_246 : decode cX12_paintsOn 246 = .ok (.iload 6, 2) := by decide +kernel
theorem dX12_paintsOn_248 : decode cX12_paintsOn 248 = .ok (.ifCond .eq 7, 3) := by decide +kernel
theorem dX12_paintsOn_251 : decode cX12_paintsOn 251 = .ok (.iconst 0, 1) := by decide +kernel
theorem dX12_paintsOn_252 : decode cX12_paintsOn 252 = .ok (.goto 6, 3) := by decide +kernel
theorem dX12_paintsOn_255 : decode cX12_paintsOn 255 = .ok (.sipush 256, 3) := by decide +kernel
theorem dX12_paintsOn_258 : decode cX12_paintsOn 258 = .ok (.iadd, 1) := by decide +kernel
theorem dX12_paintsOn_259 : decode cX12_paintsOn 259 = .ok (.invokevirtual 372, 3) := by decide +kernel
theorem dX12_paintsOn_262 : decode cX12_paintsOn 262 = .ok (.iinc 5 1, 3) := by decide +kernel
theorem dX12_paintsOn_265 : decode cX12_paintsOn 265 = .ok (.goto (-245), 3) := by decide +kernel
theorem dX12_paintsOn_268 : decode cX12_paintsOn 268 = .ok (.return_, 1) := by decide +kernel
set_option maxRecDepth 20000 in
theorem s_X12_paintsOn {w : Wd} {d : Nat} {P : IM → LM → Prop} {i : IM} {l : LM} (p0 : Int) (p1 : Int) (p2 : Int) (p3 : Int)  (hd : 1 ≤ d) (h : ((rg p0) ∧ ((p0 = i 101 307) → cVd w d X_X12_ends [vR (some 99), vI p1, vI p2, vI p3] i l (fun i5 l5 => P i5 l5)) ∧ ((¬ (p0 = i 101 307)) → gV w d X_X12_paintsOn P i l 20 [(0, vR (some 99)), (1, vI p0), (2, vI p1), (3, vI p2), (4, vI p3), (5, vI 0)] []))) : gV w d X_X12_paintsOn P i l 0 [(0, vR (some 99)), (1, vI p0), (2, vI p1), (3, vI p2), (4, vI p3)] [] := by
  refine g_iload_n (pc' := 1) 1 dX12_paintsOn_0 rfl rfl ?_
  refine g_aload_n (pc' := 2) 0 dX12_paintsOn_1 rfl rfl ?_
  refine g_pVI (pc' := 5) (vs := []) (st := [vI p0]) (val := i 101 307) (c := 12) (sp_X12_things (le_hd hd rfl) ) mv_X12_things lk_X12_117 rfl rfl rfl rfl (Nat.le_of_ble_eq_true rfl) (Nat.le_of_ble_eq_true rfl) rfl dX12_paintsOn_2 rfl z2 (fun rg1 => ?_)
  obtain ⟨hob3, hk6, hk7⟩ := h
  refine g_icmp_ne (tgt := 17) (pc' := 8) (hob3) rg1 Iff.rfl dX12_paintsOn_5 rfl rfl (fun c4 => ?_) (fun c4 => ?_)
  · have h := hk7 c4
    refine g_iconst (pc' := 18) dX12_paintsOn_17 rfl ?_
    refine g_istore (pc' := 20) (L' := [(5, vI 0), (0, vR (some 99)), (1, vI p0), (2, vI p1), (3, vI p2), (4, vI p3)]) dX12_paintsOn_18 rfl (Nat.le_of_ble_eq_true rfl) rfl ?_
    refine g_sub (L' := [(0, vR (some 99)), (1, vI p0), (2, vI p1), (3, vI p2), (4, vI p3), (5, vI 0)]) [1, 2, 3, 4, 5, 0] rfl ?_
    exact h
  · have h := hk6 c4
    refine g_aload_n (pc' := 9) 0 dX12_paintsOn_8 rfl rfl ?_
    refine g_iload_n (pc' := 10) 2 dX12_paintsOn_9 rfl rfl ?_
    refine g_iload_n (pc' := 11) 3 dX12_paintsOn_10 rfl rfl ?_
    refine g_iload (pc' := 13) 4 dX12_paintsOn_11 rfl rfl ?_
    refine g_cVV (pc' := 16) (vs := [vI p1, vI p2, vI p3]) (st := []) (c := 12) h mv_X12_ends lk_X12_376 rfl rfl rfl rfl (Nat.le_of_ble_eq_true rfl) (Nat.le_of_ble_eq_true rfl) rfl dX12_paintsOn_13 rfl z2 (fun i5 l5 h => ?_)
    exact g_retV rfl dX12_paintsOn_16 h
theorem e_X12_paintsOn {w : Wd} {d : Nat} {P : IM → LM → Prop} {i : IM} {l : LM} {p0 : Int} {p1 : Int} {p2 : Int} {p3 : Int}  (h : gV w d X_X12_paintsOn P i l 0 [(0, vR (some 99)), (1, vI p0), (2, vI p1), (3, vI p2), (4, vI p3)] []) : cVd w (d + 1) X_X12_paintsOn [vR (some 99), vI p0, vI p1, vI p2, vI p3] i l P := CV_of (by decide +kernel) (Nat.le_of_ble_eq_true rfl) h
set_option maxRecDepth 20000 in
theorem s_X12_paintsOn_20 {w : Wd} {d : Nat} {P : IM → LM → Prop} {i : IM} {l : LM} (x1 : Int) (x2 : Int) (x3 : Int) (x4 : Int) (x5 : Int)  (h : ((rg x5) ∧ (¬ (3 ≤ x5) → 0 ≤ (3 * x1) + x5 ∧ (3 * x1) + x5 < 30) ∧ ((3 ≤ x5) → P i l) ∧ ((¬ (3 ≤ x5) ∧ (¬ (i 115 ((3 * x1) + x5) = 0))) → ((0 ≤ x1 ∧ x1 < 10) ∧ (rg x5) ∧ gV w d X_X12_paintsOn P (u2 i 116 x1 x5) l 54 [(0, vR (some 99)), (1, vI x1), (2, vI x2), (3, vI x3), (4, vI x4), (5, vI x5), (6, vI 0)] [])) ∧ ((¬ (3 ≤ x5) ∧ (i 115 ((3 * x1) + x5) = 0)) → gV w d X_X12_paintsOn P i l 20 [(0, vR (some 99)), (1, vI x1), (2, vI x2), (3, vI x3), (4, vI x4), (5, vI (x5 + 1))] []))) : gV w d X_X12_paintsOn P i l 20 [(0, vR (some 99)), (1, vI x1), (2, vI x2), (3, vI x3), (4, vI x4), (5, vI x5)] [] := by
  refine g_iload (pc' := 22) 5 dX12_paintsOn_20 rfl rfl ?_
  refine g_iconst (pc' := 23) dX12_paintsOn_22 rfl ?_
  obtain ⟨hob9, hob11, hk16, hk17, hk18⟩ := h
  have hk16g : (3 ≤ x5) → gV w d X_X12_paintsOn P i l 268 [(0, vR (some 99)), (1, vI x1), (2, vI x2), (3, vI x3), (4, vI x4), (5, vI x5)] [] := by
    intro hp
    have h := hk16 hp
    exact g_retV rfl dX12_paintsOn_268 h
  have hk17g : (¬ (3 ≤ x5) ∧ (¬ (i 115 ((3 * x1) + x5) = 0))) → gV w d X_X12_paintsOn P i l 43 [(0, vR (some 99)), (1, vI x1), (2, vI x2), (3, vI x3), (4, vI x4), (5, vI x5)] [] := by
    intro hp
    have h := hk17 hp
    obtain ⟨ob14, ob15, h⟩ := h
    refine g_aload_n (pc' := 44) 0 dX12_paintsOn_43 rfl rfl ?_
    refine g_getR (pc' := 47) (o := some 116) fl_X12_70 rfl rfl rfl dX12_paintsOn_44 rfl ?_
    refine g_iload_n (pc' := 48) 1 dX12_paintsOn_47 rfl rfl ?_
    refine g_iload (pc' := 50) 5 dX12_paintsOn_48 rfl rfl ?_
    refine g_iast (pc' := 51) (N := 10) rfl rfl (Nat.lt_of_lt_of_le (Nat.lt_succ_self _) (Nat.le_of_ble_eq_true rfl)) ob14 ob15 dX12_paintsOn_50 rfl ?_
    refine g_iconst (pc' := 52) dX12_paintsOn_51 rfl ?_
    refine g_istore (pc' := 54) (L' := [(6, vI 0), (0, vR (some 99)), (1, vI x1), (2, vI x2), (3, vI x3), (4, vI x4), (5, vI x5)]) dX12_paintsOn_52 rfl (Nat.le_of_ble_eq_true rfl) rfl ?_
    refine g_sub (L' := [(0, vR (some 99)), (1, vI x1), (2, vI x2), (3, vI x3), (4, vI x4), (5, vI x5), (6, vI 0)]) [1, 2, 3, 4, 5, 6, 0] rfl ?_
    exact h
  have hk18g : (¬ (3 ≤ x5) ∧ (i 115 ((3 * x1) + x5) = 0)) → gV w d X_X12_paintsOn P i l 262 [(0, vR (some 99)), (1, vI x1), (2, vI x2), (3, vI x3), (4, vI x4), (5, vI x5)] [] := by
    intro hp
    have h := hk18 hp
    refine g_iinc (pc' := 265) (L' := [(5, vI (x5 + 1)), (0, vR (some 99)), (1, vI x1), (2, vI x2), (3, vI x3), (4, vI x4)]) 5 dX12_paintsOn_262 rfl (Nat.le_of_ble_eq_true rfl) rfl rfl ?_
    refine g_goto (tgt := 20) dX12_paintsOn_265 rfl ?_
    refine g_sub (L' := [(0, vR (some 99)), (1, vI x1), (2, vI x2), (3, vI x3), (4, vI x4), (5, vI (x5 + 1))]) [1, 2, 3, 4, 5, 0] rfl ?_
    exact h
  refine g_icmp_ge (tgt := 268) (pc' := 26) (hob9) (rg_lit rfl) Iff.rfl dX12_paintsOn_23 rfl rfl (fun c10 => ?_) (fun c10 => ?_)
  · exact hk16g c10
  · refine g_aload_n (pc' := 27) 0 dX12_paintsOn_26 rfl rfl ?_
    refine g_getR (pc' := 30) (o := some 115) fl_X12_67 rfl rfl rfl dX12_paintsOn_27 rfl ?_
    refine g_iconst (pc' := 31) dX12_paintsOn_30 rfl ?_
    refine g_iload_n (pc' := 32) 1 dX12_paintsOn_31 rfl rfl ?_
    refine g_imul (pc' := 33) dX12_paintsOn_32 rfl ?_
    refine g_iload (pc' := 35) 5 dX12_paintsOn_33 rfl rfl ?_
    refine g_iadd (pc' := 36) dX12_paintsOn_35 rfl ?_
    refine g_zald (pc' := 37) (N := 30) rfl rfl (Nat.lt_of_lt_of_le (Nat.lt_succ_self _) (Nat.le_of_ble_eq_true rfl)) (hob11 c10) dX12_paintsOn_36 rfl (fun rg12 => ?_)
    refine g_if_ne (tgt := 43) (pc' := 40) rg12 Iff.rfl dX12_paintsOn_37 rfl rfl (fun c13 => ?_) (fun c13 => ?_)
    · exact hk17g ⟨c10, c13⟩
    · refine g_goto (tgt := 262) dX12_paintsOn_40 rfl ?_
      exact hk18g ⟨c10, c13⟩
set_option maxRecDepth 20000 in
theorem s_X12_paintsOn_54 {w : Wd} {d : Nat} {P : IM → LM → Prop} {i : IM} {l : LM} (x1 : Int) (x2 : Int) (x3 : Int) (x4 : Int) (x5 : Int) (x6 : Int)  (hd : 2 ≤ d) (h : ((rg x6) ∧ ((i 101 308 ≤ x6) → ((rg x5) ∧ (0 ≤ x1 ∧ x1 < 10) ∧ (0 ≤ 8 * x1 + 2 ∧ 8 * x1 + 2 < 5120) ∧ ((0 ≤ (3 * x1) + x5 ∧ (3 * x1) + x5 < 30) ∧ (((mColour i x1 x5 = i 101 (8 * x1 + 2)) → 0 ≤ 8 * x1 + 4 ∧ 8 * x1 + 4 < 5120) ∧ ((0 ≤ x1 ∧ x1 < 10) ∧ cVd w d X_X12_paintsOn [vR (some 99), vI (x1 + 1), vI (x2 + (i 114 ((3 * x1) + x5))), vI (x3 + (if (mColour i x1 x5 = i 101 (8 * x1 + 2)) then i 101 (8 * x1 + 4) else 0)), vI (((x4 + (bI (mColour i x1 x5 = 0))) + (if (x5 = 0) then 0 else 16)) + (if (mColour i x1 x5 = i 101 (8 * x1 + 2)) then 0 else 256))] i l (fun i76 l76 => gV w d X_X12_paintsOn P i76 l76 20 [(0, vR (some 99)), (1, vI x1), (2, vI x2), (3, vI x3), (4, vI x4), (5, vI (x5 + 1))] [])))))) ∧ ((¬ (i 101 308 ≤ x6)) → gV w d X_X12_paintsOn P i l 66 [(0, vR (some 99)), (1, vI x1), (2, vI x2), (3, vI x3), (4, vI x4), (5, vI x5), (6, vI x6), (7, vI 0)] []))) : gV w d X_X12_paintsOn P i l 54 [(0, vR (some 99)), (1, vI x1), (2, vI x2), (3, vI x3), (4, vI x4), (5, vI x5), (6, vI x6)] [] := by
  refine g_iload (pc' := 56) 6 dX12_paintsOn_54 rfl rfl ?_
  refine g_aload_n (pc' := 57) 0 dX12_paintsOn_56 rfl rfl ?_
  refine g_pVI (pc' := 60) (vs := []) (st := [vI x6]) (val := i 101 308) (c := 12) (sp_X12_windows (le_hd hd rfl) ) mv_X12_windows lk_X12_121 rfl rfl rfl rfl (Nat.le_of_ble_eq_true rfl) (Nat.le_of_ble_eq_true rfl) rfl dX12_paintsOn_57 rfl z2 (fun rg19 => ?_)
  obtain ⟨hob53, hk77, hk78⟩ := h
  refine g_icmp_ge (tgt := 159) (pc' := 63) (hob53) rg19 Iff.rfl dX12_paintsOn_60 rfl rfl (fun c54 => ?_) (fun c54 => ?_)
  · have h := hk77 c54
    obtain ⟨ob55, ob56, ob58, h⟩ := h
    refine g_aload_n (pc' := 160) 0 dX12_paintsOn_159 rfl rfl ?_
    refine g_iload_n (pc' := 161) 1 dX12_paintsOn_160 rfl rfl ?_
    refine g_iload (pc' := 163) 5 dX12_paintsOn_161 rfl rfl ?_
    refine g_pVI (pc' := 166) (vs := [vI x1, vI x5]) (st := []) (val := mColour i x1 x5) (c := 12) (sp_X12_colourOf (le_hd hd rfl) ob55 ob56) mv_X12_colourOf lk_X12_339 rfl rfl rfl rfl (Nat.le_of_ble_eq_true rfl) (Nat.le_of_ble_eq_true rfl) rfl dX12_paintsOn_163 rfl z2 (fun rg57 => ?_)
    refine g_aload_n (pc' := 167) 0 dX12_paintsOn_166 rfl rfl ?_
    refine g_iload_n (pc' := 168) 1 dX12_paintsOn_167 rfl rfl ?_
    refine g_iconst (pc' := 169) dX12_paintsOn_168 rfl ?_
    refine g_pVI (pc' := 172) (vs := [vI x1, vI 2]) (st := [vI (mColour i x1 x5)]) (val := i 101 (8 * x1 + 2)) (c := 12) (sp_X12_thingOf (le_hd hd rfl) ob58) mv_X12_thingOf lk_X12_144 rfl rfl rfl rfl (Nat.le_of_ble_eq_true rfl) (Nat.le_of_ble_eq_true rfl) rfl dX12_paintsOn_169 rfl z2 (fun rg59 => ?_)
    have hJ : gV w d X_X12_paintsOn P i l 180 [(0, vR (some 99)), (1, vI x1), (2, vI x2), (3, vI x3), (4, vI x4), (5, vI x5), (6, vI x6)] [vI (bI (mColour i x1 x5 = i 101 (8 * x1 + 2)))] := by
      obtain ⟨ob62, h⟩ := h
      refine g_istore (pc' := 182) (L' := [(6, vI (bI (mColour i x1 x5 = i 101 (8 * x1 + 2)))), (0, vR (some 99)), (1, vI x1), (2, vI x2), (3, vI x3), (4, vI x4), (5, vI x5)]) dX12_paintsOn_180 rfl (Nat.le_of_ble_eq_true rfl) rfl ?_
      refine g_aload_n (pc' := 183) 1 dX12_paintsOn_182 rfl rfl ?_
      refine g_iload_n (pc' := 184) 2 dX12_paintsOn_183 rfl rfl ?_
      refine g_iconst (pc' := 185) dX12_paintsOn_184 rfl ?_
      refine g_iadd (pc' := 186) dX12_paintsOn_185 rfl ?_
      refine g_iload_n (pc' := 187) 3 dX12_paintsOn_186 rfl rfl ?_
      refine g_aload_n (pc' := 188) 1 dX12_paintsOn_187 rfl rfl ?_
      refine g_getR (pc' := 191) (o := some 114) fl_X12_64 rfl rfl rfl dX12_paintsOn_188 rfl ?_
      refine g_iconst (pc' := 192) dX12_paintsOn_191 rfl ?_
      refine g_iload_n (pc' := 193) 2 dX12_paintsOn_192 rfl rfl ?_
      refine g_imul (pc' := 194) dX12_paintsOn_193 rfl ?_
      refine g_iload (pc' := 196) 6 dX12_paintsOn_194 rfl rfl ?_
      refine g_iadd (pc' := 197) dX12_paintsOn_196 rfl ?_
      refine g_iald (pc' := 198) (N := 30) rfl rfl (Nat.lt_of_lt_of_le (Nat.lt_succ_self _) (Nat.le_of_ble_eq_true rfl)) ob62 dX12_paintsOn_197 rfl (fun rg63 => ?_)
      refine g_iadd (pc' := 199) dX12_paintsOn_198 rfl ?_
      refine g_iload_n (pc' := 200) 4 dX12_paintsOn_199 rfl rfl ?_
      refine g_iload (pc' := 202) 0 dX12_paintsOn_200 rfl rfl ?_
      refine g_rg (fun hRG64 => ?_)
      obtain ⟨hob66, h⟩ := h
      have hJ : gV w d X_X12_paintsOn P i l 215 [(6, vI (bI (mColour i x1 x5 = i 101 (8 * x1 + 2)))), (0, vR (some 99)), (1, vI x1), (2, vI x2), (3, vI x3), (4, vI x4), (5, vI x5)] [vI (if (mColour i x1 x5 = i 101 (8 * x1 + 2)) then i 101 (8 * x1 + 4) else 0), vI x3, vI (x2 + (i 114 ((3 * x1) + x5))), vI (x1 + 1), vR (some 99)] := by
        obtain ⟨ob68, h⟩ := h
        refine g_iadd (pc' := 216) dX12_paintsOn_215 rfl ?_
        refine g_iload (pc' := 218) 5 dX12_paintsOn_216 rfl rfl ?_
        refine g_aload_n (pc' := 219) 1 dX12_paintsOn_218 rfl rfl ?_
        refine g_iload_n (pc' := 220) 2 dX12_paintsOn_219 rfl rfl ?_
        refine g_iload (pc' := 222) 6 dX12_paintsOn_220 rfl rfl ?_
        refine g_pVI (pc' := 225) (vs := [vI x1, vI x5]) (st := [vI x4, vI (x3 + (if (mColour i x1 x5 = i 101 (8 * x1 + 2)) then i 101 (8 * x1 + 4) else 0)), vI (x2 + (i 114 ((3 * x1) + x5))), vI (x1 + 1), vR (some 99)]) (val := mColour i x1 x5) (c := 12) (sp_X12_colourOf (le_hd hd rfl) ob55 ob68) mv_X12_colourOf lk_X12_339 rfl rfl rfl rfl (Nat.le_of_ble_eq_true rfl) (Nat.le_of_ble_eq_true rfl) rfl dX12_paintsOn_222 rfl z2 (fun rg69 => ?_)
        have hJ : gV w d X_X12_paintsOn P i l 233 [(6, vI (bI (mColour i x1 x5 = i 101 (8 * x1 + 2)))), (0, vR (some 99)), (1, vI x1), (2, vI x2), (3, vI x3), (4, vI x4), (5, vI x5)] [vI (bI (mColour i x1 x5 = 0)), vI x4, vI (x3 + (if (mColour i x1 x5 = i 101 (8 * x1 + 2)) then i 101 (8 * x1 + 4) else 0)), vI (x2 + (i 114 ((3 * x1) + x5))), vI (x1 + 1), vR (some 99)] := by
          refine g_iadd (pc' := 234) dX12_paintsOn_233 rfl ?_
          refine g_iload (pc' := 236) 6 dX12_paintsOn_234 rfl rfl ?_
          have hJ : gV w d X_X12_paintsOn P i l 245 [(6, vI (bI (mColour i x1 x5 = i 101 (8 * x1 + 2)))), (0, vR (some 99)), (1, vI x1), (2, vI x2), (3, vI x3), (4, vI x4), (5, vI x5)] [vI (if (x5 = 0) then 0 else 16), vI (x4 + (bI (mColour i x1 x5 = 0))), vI (x3 + (if (mColour i x1 x5 = i 101 (8 * x1 + 2)) then i 101 (8 * x1 + 4) else 0)), vI (x2 + (i 114 ((3 * x1) + x5))), vI (x1 + 1), vR (some 99)] := by
            refine g_iadd (pc' := 246) dX12_paintsOn_245 rfl ?_
            refine g_iload (pc' := 248) 0 dX12_paintsOn_246 rfl rfl ?_
            have hJ : gV w d X_X12_paintsOn P i l 258 [(6, vI (bI (mColour i x1 x5 = i 101 (8 * x1 + 2)))), (0, vR (some 99)), (1, vI x1), (2, vI x2), (3, vI x3), (4, vI x4), (5, vI x5)] [vI (if (mColour i x1 x5 = i 101 (8 * x1 + 2)) then 0 else 256), vI ((x4 + (bI (mColour i x1 x5 = 0))) + (if (x5 = 0) then 0 else 16)), vI (x3 + (if (mColour i x1 x5 = i 101 (8 * x1 + 2)) then i 101 (8 * x1 + 4) else 0)), vI (x2 + (i 114 ((3 * x1) + x5))), vI (x1 + 1), vR (some 99)] := by
              refine g_iadd (pc' := 259) dX12_paintsOn_258 rfl ?_
              refine g_cVV (pc' := 262) (vs := [vI (x1 + 1), vI (x2 + (i 114 ((3 * x1) + x5))), vI (x3 + (if (mColour i x1 x5 = i 101 (8 * x1 + 2)) then i 101 (8 * x1 + 4) else 0)), vI (((x4 + (bI (mColour i x1 x5 = 0))) + (if (x5 = 0) then 0 else 16)) + (if (mColour i x1 x5 = i 101 (8 * x1 + 2)) then 0 else 256))]) (st := []) (c := 12) h mv_X12_paintsOn lk_X12_372 rfl rfl rfl rfl (Nat.le_of_ble_eq_true rfl) (Nat.le_of_ble_eq_true rfl) rfl dX12_paintsOn_259 rfl z2 (fun i76 l76 h => ?_)
              refine g_iinc (pc' := 265) (L' := [(5, vI (x5 + 1)), (6, vI (bI (mColour i x1 x5 = i 101 (8 * x1 + 2)))), (0, vR (some 99)), (1, vI x1), (2, vI x2), (3, vI x3), (4, vI x4)]) 6 dX12_paintsOn_262 rfl (Nat.le_of_ble_eq_true rfl) rfl rfl ?_
              refine g_goto (tgt := 20) dX12_paintsOn_265 rfl ?_
              refine g_sub (L' := [(0, vR (some 99)), (1, vI x1), (2, vI x2), (3, vI x3), (4, vI x4), (5, vI (x5 + 1))]) [2, 3, 4, 5, 6, 0] rfl ?_
              exact h
            refine g_if_eq (tgt := 255) (pc' := 251) (rg_bI _) (bI_eq _) dX12_paintsOn_248 rfl rfl (fun c75 => ?_) (fun c75n => ?_)
            · refine g_sipush (pc' := 258) dX12_paintsOn_255 rfl rfl ?_
              rw [if_neg c75 (α := Int) (t := 0) (e := 256)] at hJ
              exact hJ
            · have c75 := Decidable.of_not_not c75n
              refine g_iconst (pc' := 252) dX12_paintsOn_251 rfl ?_
              refine g_goto (tgt := 258) dX12_paintsOn_252 rfl ?_
              rw [if_pos c75 (α := Int) (t := 0) (e := 256)] at hJ
              exact hJ
          refine g_if_ne (tgt := 243) (pc' := 239) ob55 Iff.rfl dX12_paintsOn_236 rfl rfl (fun c73 => ?_) (fun c73 => ?_)
          · refine g_bipush (pc' := 245) dX12_paintsOn_243 rfl rfl ?_
            rw [if_neg c73 (α := Int) (t := 0) (e := 16)] at hJ
            exact hJ
          · refine g_iconst (pc' := 240) dX12_paintsOn_239 rfl ?_
            refine g_goto (tgt := 245) dX12_paintsOn_240 rfl ?_
            rw [if_pos c73 (α := Int) (t := 0) (e := 16)] at hJ
            exact hJ
        refine g_if_ne (tgt := 232) (pc' := 228) rg69 Iff.rfl dX12_paintsOn_225 rfl rfl (fun c71 => ?_) (fun c71 => ?_)
        · refine g_iconst (pc' := 233) dX12_paintsOn_232 rfl ?_
          rw [bI_f (p := (mColour i x1 x5 = 0)) c71] at hJ
          exact hJ
        · refine g_iconst (pc' := 229) dX12_paintsOn_228 rfl ?_
          refine g_goto (tgt := 233) dX12_paintsOn_229 rfl ?_
          rw [bI_t (p := (mColour i x1 x5 = 0)) c71] at hJ
          exact hJ
      refine g_if_eq (tgt := 214) (pc' := 205) (rg_bI _) (bI_eq _) dX12_paintsOn_202 rfl rfl (fun c65 => ?_) (fun c65n => ?_)
      · refine g_iconst (pc' := 215) dX12_paintsOn_214 rfl ?_
        rw [if_neg c65 (α := Int) (t := i 101 (8 * x1 + 4)) (e := 0)] at hJ
        exact hJ
      · have c65 := Decidable.of_not_not c65n
        refine g_aload_n (pc' := 206) 1 dX12_paintsOn_205 rfl rfl ?_
        refine g_iload_n (pc' := 207) 2 dX12_paintsOn_206 rfl rfl ?_
        refine g_iconst (pc' := 208) dX12_paintsOn_207 rfl ?_
        refine g_pVI (pc' := 211) (vs := [vI x1, vI 4]) (st := [vI x3, vI (x2 + (i 114 ((3 * x1) + x5))), vI (x1 + 1), vR (some 99)]) (val := i 101 (8 * x1 + 4)) (c := 12) (sp_X12_thingOf (le_hd hd rfl) (hob66 c65)) mv_X12_thingOf lk_X12_144 rfl rfl rfl rfl (Nat.le_of_ble_eq_true rfl) (Nat.le_of_ble_eq_true rfl) rfl dX12_paintsOn_208 rfl z2 (fun rg67 => ?_)
        refine g_goto (tgt := 215) dX12_paintsOn_211 rfl ?_
        rw [if_pos c65 (α := Int) (t := i 101 (8 * x1 + 4)) (e := 0)] at hJ
        exact hJ
    refine g_icmp_ne (tgt := 179) (pc' := 175) rg57 rg59 Iff.rfl dX12_paintsOn_172 rfl rfl (fun c61 => ?_) (fun c61 => ?_)
    · refine g_iconst (pc' := 180) dX12_paintsOn_179 rfl ?_
      rw [bI_f (p := (mColour i x1 x5 = i 101 (8 * x1 + 2))) c61] at hJ
      exact hJ
    · refine g_iconst (pc' := 176) dX12_paintsOn_175 rfl ?_
      refine g_goto (tgt := 180) dX12_paintsOn_176 rfl ?_
      rw [bI_t (p := (mColour i x1 x5 = i 101 (8 * x1 + 2))) c61] at hJ
      exact hJ
  · have h := hk78 c54
    refine g_iconst (pc' := 64) dX12_paintsOn_63 rfl ?_
    refine g_istore (pc' := 66) (L' := [(7, vI 0), (0, vR (some 99)), (1, vI x1), (2, vI x2), (3, vI x3), (4, vI x4), (5, vI x5), (6, vI x6)]) dX12_paintsOn_64 rfl (Nat.le_of_ble_eq_true rfl) rfl ?_
    refine g_sub (L' := [(0, vR (some 99)), (1, vI x1), (2, vI x2), (3, vI x3), (4, vI x4), (5, vI x5), (6, vI x6), (7, vI 0)]) [1, 2, 3, 4, 5, 6, 7, 0] rfl ?_
    exact h
set_option maxRecDepth 20000 in
theorem s_X12_paintsOn_66 {w : Wd} {d : Nat} {P : IM → LM → Prop} {i : IM} {l : LM} (x1 : Int) (x2 : Int) (x3 : Int) (x4 : Int) (x5 : Int) (x6 : Int) (x7 : Int)  (hd : 1 ≤ d) (h : ((rg x7) ∧ ((12 ≤ x7) → gV w d X_X12_paintsOn P i l 54 [(0, vR (some 99)), (1, vI x1), (2, vI x2), (3, vI x3), (4, vI x4), (5, vI x5), (6, vI (x6 + 1))] []) ∧ ((¬ (12 ≤ x7) ∧ (¬ (iand (ishr (i 99 43) x7) 1 = 1))) → gV w d X_X12_paintsOn P i l 66 [(0, vR (some 99)), (1, vI x1), (2, vI x2), (3, vI x3), (4, vI x4), (5, vI x5), (6, vI x6), (7, vI (x7 + 1))] []) ∧ ((¬ (12 ≤ x7) ∧ (iand (ishr (i 99 43) x7) 1 = 1)) → ((0 ≤ ((96 * x1) + (12 * x6)) + x7 ∧ ((96 * x1) + (12 * x6)) + x7 < 1056) ∧ (0 ≤ ((((96 * x1) + (12 * x6)) + x7) * 3) + x5 ∧ ((((96 * x1) + (12 * x6)) + x7) * 3) + x5 < 2880) ∧ (0 ≤ ((96 * (x1 + 1)) + (12 * x6)) + x7 ∧ ((96 * (x1 + 1)) + (12 * x6)) + x7 < 1056) ∧ gV w d X_X12_paintsOn P (u2 i 113 (((96 * (x1 + 1)) + (12 * x6)) + x7) (ior (i 113 (((96 * x1) + (12 * x6)) + x7)) (i 111 (((((96 * x1) + (12 * x6)) + x7) * 3) + x5)))) l 66 [(0, vR (some 99)), (1, vI x1), (2, vI x2), (3, vI x3), (4, vI x4), (5, vI x5), (6, vI x6), (7, vI (x7 + 1))] [])))) : gV w d X_X12_paintsOn P i l 66 [(0, vR (some 99)), (1, vI x1), (2, vI x2), (3, vI x3), (4, vI x4), (5, vI x5), (6, vI x6), (7, vI x7)] [] := by
  refine g_iload (pc' := 68) 7 dX12_paintsOn_66 rfl rfl ?_
  refine g_bipush (pc' := 70) dX12_paintsOn_68 rfl rfl ?_
  obtain ⟨hob80, hk94, hk95, hk96⟩ := h
  have hk94g : (12 ≤ x7) → gV w d X_X12_paintsOn P i l 153 [(0, vR (some 99)), (1, vI x1), (2, vI x2), (3, vI x3), (4, vI x4), (5, vI x5), (6, vI x6), (7, vI x7)] [] := by
    intro hp
    have h := hk94 hp
    refine g_iinc (pc' := 156) (L' := [(6, vI (x6 + 1)), (0, vR (some 99)), (1, vI x1), (2, vI x2), (3, vI x3), (4, vI x4), (5, vI x5), (7, vI x7)]) 6 dX12_paintsOn_153 rfl (Nat.le_of_ble_eq_true rfl) rfl rfl ?_
    refine g_goto (tgt := 54) dX12_paintsOn_156 rfl ?_
    refine g_sub (L' := [(0, vR (some 99)), (1, vI x1), (2, vI x2), (3, vI x3), (4, vI x4), (5, vI x5), (6, vI (x6 + 1))]) [1, 2, 3, 4, 5, 6, 0] rfl ?_
    exact h
  have hk95g : (¬ (12 ≤ x7) ∧ (¬ (iand (ishr (i 99 43) x7) 1 = 1))) → gV w d X_X12_paintsOn P i l 147 [(0, vR (some 99)), (1, vI x1), (2, vI x2), (3, vI x3), (4, vI x4), (5, vI x5), (6, vI x6), (7, vI x7)] [] := by
    intro hp
    have h := hk95 hp
    refine g_iinc (pc' := 150) (L' := [(7, vI (x7 + 1)), (0, vR (some 99)), (1, vI x1), (2, vI x2), (3, vI x3), (4, vI x4), (5, vI x5), (6, vI x6)]) 7 dX12_paintsOn_147 rfl (Nat.le_of_ble_eq_true rfl) rfl rfl ?_
    refine g_goto (tgt := 66) dX12_paintsOn_150 rfl ?_
    refine g_sub (L' := [(0, vR (some 99)), (1, vI x1), (2, vI x2), (3, vI x3), (4, vI x4), (5, vI x5), (6, vI x6), (7, vI (x7 + 1))]) [1, 2, 3, 4, 5, 6, 7, 0] rfl ?_
    exact h
  have hk96g : (¬ (12 ≤ x7) ∧ (iand (ishr (i 99 43) x7) 1 = 1)) → gV w d X_X12_paintsOn P i l 85 [(0, vR (some 99)), (1, vI x1), (2, vI x2), (3, vI x3), (4, vI x4), (5, vI x5), (6, vI x6), (7, vI x7)] [] := by
    intro hp
    have h := hk96 hp
    obtain ⟨ob89, ob91, ob93, h⟩ := h
    refine g_aload_n (pc' := 86) 0 dX12_paintsOn_85 rfl rfl ?_
    refine g_getR (pc' := 89) (o := some 113) fl_X12_61 rfl rfl rfl dX12_paintsOn_86 rfl ?_
    refine g_bipush (pc' := 91) dX12_paintsOn_89 rfl rfl ?_
    refine g_iload_n (pc' := 92) 1 dX12_paintsOn_91 rfl rfl ?_
    refine g_iconst (pc' := 93) dX12_paintsOn_92 rfl ?_
    refine g_iadd (pc' := 94) dX12_paintsOn_93 rfl ?_
    refine g_imul (pc' := 95) dX12_paintsOn_94 rfl ?_
    refine g_bipush (pc' := 97) dX12_paintsOn_95 rfl rfl ?_
    refine g_iload (pc' := 99) 6 dX12_paintsOn_97 rfl rfl ?_
    refine g_imul (pc' := 100) dX12_paintsOn_99 rfl ?_
    refine g_iadd (pc' := 101) dX12_paintsOn_100 rfl ?_
    refine g_iload (pc' := 103) 7 dX12_paintsOn_101 rfl rfl ?_
    refine g_iadd (pc' := 104) dX12_paintsOn_103 rfl ?_
    refine g_aload_n (pc' := 105) 0 dX12_paintsOn_104 rfl rfl ?_
    refine g_getR (pc' := 108) (o := some 113) fl_X12_61 rfl rfl rfl dX12_paintsOn_105 rfl ?_
    refine g_bipush (pc' := 110) dX12_paintsOn_108 rfl rfl ?_
    refine g_iload_n (pc' := 111) 1 dX12_paintsOn_110 rfl rfl ?_
    refine g_imul (pc' := 112) dX12_paintsOn_111 rfl ?_
    refine g_bipush (pc' := 114) dX12_paintsOn_112 rfl rfl ?_
    refine g_iload (pc' := 116) 6 dX12_paintsOn_114 rfl rfl ?_
    refine g_imul (pc' := 117) dX12_paintsOn_116 rfl ?_
    refine g_iadd (pc' := 118) dX12_paintsOn_117 rfl ?_
    refine g_iload (pc' := 120) 7 dX12_paintsOn_118 rfl rfl ?_
    refine g_iadd (pc' := 121) dX12_paintsOn_120 rfl ?_
    refine g_iald (pc' := 122) (N := 1056) rfl rfl (Nat.lt_of_lt_of_le (Nat.lt_succ_self _) (Nat.le_of_ble_eq_true rfl)) ob89 dX12_paintsOn_121 rfl (fun rg90 => ?_)
    refine g_aload_n (pc' := 123) 0 dX12_paintsOn_122 rfl rfl ?_
    refine g_getR (pc' := 126) (o := some 111) fl_X12_55 rfl rfl rfl dX12_paintsOn_123 rfl ?_
    refine g_bipush (pc' := 128) dX12_paintsOn_126 rfl rfl ?_
    refine g_iload_n (pc' := 129) 1 dX12_paintsOn_128 rfl rfl ?_
    refine g_imul (pc' := 130) dX12_paintsOn_129 rfl ?_
    refine g_bipush (pc' := 132) dX12_paintsOn_130 rfl rfl ?_
    refine g_iload (pc' := 134) 6 dX12_paintsOn_132 rfl rfl ?_
    refine g_imul (pc' := 135) dX12_paintsOn_134 rfl ?_
    refine g_iadd (pc' := 136) dX12_paintsOn_135 rfl ?_
    refine g_iload (pc' := 138) 7 dX12_paintsOn_136 rfl rfl ?_
    refine g_iadd (pc' := 139) dX12_paintsOn_138 rfl ?_
    refine g_iconst (pc' := 140) dX12_paintsOn_139 rfl ?_
    refine g_imul (pc' := 141) dX12_paintsOn_140 rfl ?_
    refine g_iload (pc' := 143) 5 dX12_paintsOn_141 rfl rfl ?_
    refine g_iadd (pc' := 144) dX12_paintsOn_143 rfl ?_
    refine g_iald (pc' := 145) (N := 2880) rfl rfl (Nat.lt_of_lt_of_le (Nat.lt_succ_self _) (Nat.le_of_ble_eq_true rfl)) ob91 dX12_paintsOn_144 rfl (fun rg92 => ?_)
    refine g_ior (pc' := 146) dX12_paintsOn_145 rfl ?_
    refine g_iast (pc' := 147) (N := 1056) rfl rfl (Nat.lt_of_lt_of_le (Nat.lt_succ_self _) (Nat.le_of_ble_eq_true rfl)) ob93 (rg_ior _ _) dX12_paintsOn_146 rfl ?_
    refine g_iinc (pc' := 150) (L' := [(7, vI (x7 + 1)), (0, vR (some 99)), (1, vI x1), (2, vI x2), (3, vI x3), (4, vI x4), (5, vI x5), (6, vI x6)]) 7 dX12_paintsOn_147 rfl (Nat.le_of_ble_eq_true rfl) rfl rfl ?_
    refine g_goto (tgt := 66) dX12_paintsOn_150 rfl ?_
    refine g_sub (L' := [(0, vR (some 99)), (1, vI x1), (2, vI x2), (3, vI x3), (4, vI x4), (5, vI x5), (6, vI x6), (7, vI (x7 + 1))]) [1, 2, 3, 4, 5, 6, 7, 0] rfl ?_
    exact h
  refine g_icmp_ge (tgt := 153) (pc' := 73) (hob80) (rg_lit rfl) Iff.rfl dX12_paintsOn_70 rfl rfl (fun c81 => ?_) (fun c81 => ?_)
  · exact hk94g c81
  · refine g_aload_n (pc' := 74) 0 dX12_paintsOn_73 rfl rfl ?_
    refine g_getI (pc' := 77) (z := 43) rfl fl_X12_345 rfl rfl dX12_paintsOn_74 rfl (fun rg82 => ?_)
    refine g_iload (pc' := 79) 7 dX12_paintsOn_77 rfl rfl ?_
    refine g_pSI (pc' := 82) (vs := [vI (i 99 43), vI x7]) (st := []) (val := bI (iand (ishr (i 99 43) x7) 1 = 1)) (sp_X12_isIn (le_hd hd rfl) ) mk_X12_isIn ms_X12_isIn lk_X12_147 rfl (Nat.le_of_ble_eq_true rfl) (Nat.le_of_ble_eq_true rfl) rfl dX12_paintsOn_79 rfl z2 (fun rg83 => ?_)
    refine g_if_eq (tgt := 147) (pc' := 85) rg83 (bI_eq _) dX12_paintsOn_82 rfl rfl (fun c84 => ?_) (fun c84n => ?_)
    · exact hk95g ⟨c81, c84⟩
    · have c84 := Decidable.of_not_not c84n
      exact hk96g ⟨c81, c84⟩

theorem dX12_ends_0 : decode cX12_ends 0 = .ok (.iconst 0, 1) := by decide +kernel
theorem dX12_ends_1 : decode cX12_ends 1 = .ok (.istore 4, 2) := by decide +kernel
theorem dX12_ends_3 : decode cX12_ends 3 = .ok (.iconst 0, 1) := by decide +kernel
theorem dX12_ends_4 : decode cX12_ends 4 = .ok (.istore 5, 2) := by decide +kernel
theorem dX12_ends_6 : decode cX12_ends 6 = .ok (.iconst 0, 1) := by decide +kernel
theorem dX12_ends_7 : decode cX12_ends 7 = .ok (.istore 6, 2) := by decide +kernel
theorem dX12_ends_9 : decode cX12_ends 9 = .ok (.iload 6, 2) := by decide +kernel
theorem dX12_ends_11 : decode cX12_ends 11 = .ok (.aload_n 0, 1) := by decide +kernel
theorem dX12_ends_12 : decode cX12_ends 12 = .ok (.invokevirtual 121, 3) := by decide +kernel
theorem dX12_ends_15 : decode cX12_ends 15 = .ok (.if_icmp .ge 131, 3) := by decide +kernel
theorem dX12_ends_18 : decode cX12_ends 18 = .ok (.iconst 1, 1) := by decide +kernel
theorem dX12_ends_19 : decode cX12_ends 19 = .ok (.istore 7, 2) := by decide +kernel
theorem dX12_ends_21 : decode cX12_ends 21 = .ok (.iconst 0, 1) := by decide +kernel
theorem dX12_ends_22 : decode cX12_ends 22 = .ok (.istore 8, 2) := by decide +kernel
theorem dX12_ends_24 : decode cX12_ends 24 = .ok (.iload 8, 2) := by decide +kernel
theorem dX12_ends_26 : decode cX12_ends 26 = .ok (.bipush 12, 2) := by decide +kernel
theorem dX12_ends_28 : decode cX12_ends 28 = .ok (.if_icmp .ge 73, 3) := by decide +kernel
theorem dX12_ends_31 : decode cX12_ends 31 = .ok (.iload 7, 2) := by decide +kernel
theorem dX12_ends_33 : decode cX12_ends 33 = .ok (.ifCond .eq 59, 3) := by decide +kernel
theorem dX12_ends_36 : decode cX12_ends 36 = .ok (.aload_n 0, 1) := by decide +kernel
theorem dX12_ends_37 : decode cX12_ends 37 = .ok (.getfield 345, 3) := by decide +kernel
theorem dX12_ends_40 : decode cX12_ends 40 = .ok (.iload 8, 2) := by decide +kernel
theorem dX12_ends_42 : decode cX12_ends 42 = .ok (.invokestatic 147, 3) := by decide +kernel
theorem dX12_ends_45 : decode cX12_ends 45 = .ok (.ifCond .eq 43, 3) := by decide +kernel
theorem dX12_ends_48 : decode cX12_ends 48 = .ok (.aload_n 0, 1) := by decide +kernel
theorem dX12_ends_49 : decode cX12_ends 49 = .ok (.getfield 61, 3) := by decide +kernel
theorem dX12_ends_52 : decode cX12_ends 52 = .ok (.bipush 96, 2) := by decide +kernel
theorem dX12_ends_54 : decode cX12_ends 54 = .ok (.aload_n 0, 1) := by decide +kernel
theorem dX12_ends_55 : decode cX12_ends 55 = .ok (.invokevirtual 117, 3) := by decide +kernel
theorem dX12_ends_58 : decode cX12_ends 58 = .ok (.imul, 1) := by decide +kernel
theorem dX12_ends_59 : decode cX12_ends 59 = .ok (.bipush 12, 2) := by decide +kernel
theorem dX12_ends_61 : decode cX12_ends 61 = .ok (.iload 6, 2) := by decide +kernel
theorem dX12_ends_63 : decode cX12_ends 63 = .ok (.imul, 1) := by decide +kernel
theorem dX12_ends_64 : decode cX12_ends 64 = .ok (.iadd, 1) := by decide +kernel
theorem dX12_ends_65 : decode cX12_ends 65 = .ok (.iload 8, 2) := by decide +kernel
theorem dX12_ends_67 : decode cX12_ends 67 = .ok (.iadd, 1) := by decide +kernel
theorem dX12_ends_68 : decode cX12_ends 68 = .ok (.iaload, 1) := by decide +kernel
theorem dX12_ends_69 : decode cX12_ends 69 = .ok (.invokestatic 327, 3) := by decide +kernel
theorem dX12_ends_72 : decode cX12_ends 72 = .ok (.aload_n 0, 1) := by decide +kernel
theorem dX12_ends_73 : decode cX12_ends 73 = .ok (.getfield 58, 3) := by decide +kernel
theorem dX12_ends_76 : decode cX12_ends 76 = .ok (.bipush 12, 2) := by decide +kernel
theorem dX12_ends_78 : decode cX12_ends 78 = .ok (.iload 6, 2) := by decide +kernel
theorem dX12_ends_80 : decode cX12_ends 80 = .ok (.imul, 1) := by decide +kernel
theorem dX12_ends_81 : decode cX12_ends 81 = .ok (.iload 8, 2) := by decide +kernel
theorem dX12_ends_83 : decode cX12_ends 83 = .ok (.iadd, 1) := by decide +kernel
theorem dX12_ends_84 : decode cX12_ends 84 = .ok (.iaload, 1) := by decide +kernel
theorem dX12_ends_85 : decode cX12_ends 85 = .ok (.if_icmp .gt 7, 3) := by decide +kernel
theorem dX12_ends_88 : decode cX12_ends 88 = .ok (.iconst 1, 1) := by decide +kernel
theorem dX12_ends_89 : decode cX12_ends 89 = .ok (.goto 4, 3) := by decide +kernel
theorem dX12_ends_92 : decode cX12_ends 92 = .ok (.iconst 0, 1) := by decide +kernel
theorem dX12_ends_93 : decode cX12_ends 93 = .ok (.istore 7, 2) := by decide +kernel
theorem dX12_ends_95 : decode cX12_ends 95 = .ok (.iinc 8 1, 3) := by decide +kernel
theorem dX12_ends_98 : decode cX12_ends 98 = .ok (.goto (-74), 3) := by decide +kernel
theorem dX12_ends_101 : decode cX12_ends 101 = .ok (.iload 4, 2) := by decide +kernel
theorem dX12_ends_103 : decode cX12_ends 103 = .ok (.iload 7, 2) := by decide +kernel
theorem dX12_ends_105 : decode cX12_ends 105 = .ok (.ifCond .eq 7, 3) := by decide +kernel
theorem dX12_ends_108 : decode cX12_ends 108 = .ok (.iconst 0, 1) := by decide +kernel
theorem dX12_ends_109 : decode cX12_ends 109 = .ok (.goto 7, 3) := by decide +kernel
theorem dX12_ends_112 : decode cX12_ends 112 = .ok (.iconst 1, 1) := by decide +kernel
theorem dX12_ends_113 : decode cX12_ends 113 = .ok (.iload 6, 2) := by decide +kernel
theorem dX12_ends_115 : decode cX12_ends 115 = .ok (.ishl, 1) := by decide +kernel
theorem dX12_ends_116 : decode cX12_ends 116 = .ok (.ior, 1) := by decide +kernel
theorem dX12_ends_117 : decode cX12_ends 117 = .ok (.istore 4, 2) := by decide +kernel
theorem dX12_ends_119 : decode cX12_ends 119 = .ok (.iload 5, 2) := by decide +kernel
theorem dX12_ends_121 : decode cX12_ends 121 = .ok (.iload 7, 2) := by decide +kernel
theorem dX12_ends_123 : decode cX12_ends 123 = .ok (.ifCond .eq 7, 3) := by decide +kernel
theorem dX12_ends_126 : decode cX12_ends 126 = .ok (.iconst 0, 1) := by decide +kernel
theorem dX12_ends_127 : decode cX12_ends 127 = .ok (.goto 10, 3) := by decide +kernel
theorem dX12_ends_130 : decode cX12_ends 130 = .ok (.aload_n 0, 1) := by decide +kernel
theorem dX12_ends_131 : decode cX12_ends 131 = .ok (.iload 6, 2) := by decide +kernel
theorem dX12_ends_133 : decode cX12_ends 133 = .ok (.iconst 2, 1) := by decide +kernel
theorem dX12_ends_134 : decode cX12_ends 134 = .ok (.invokevirtual 308, 3) := by decide +kernel
theorem dX12_ends_137 : decode cX12_ends 137 = .ok (.iadd, 1) := by decide +kernel
theorem dX12_ends_138 : decode cX12_ends 138 = .ok (.istore 5, 2) := by decide +kernel
theorem dX12_ends_140 : decode cX12_ends 140 = .ok (.iinc 6 1, 3) := by decide +kernel
theorem dX12_ends_143 : decode cX12_ends 143 = .ok (.goto (-134), 3) := by decide +kernel
theorem dX12_ends_146 : decode cX12_ends 146 = .ok (.aload_n 0, 1) := by decide +kernel
theorem dX12_ends_147 : decode cX12_ends 147 = .ok (.getfield 79, 3) := by decide +kernel
theorem dX12_ends_150 : decode cX12_ends 150 = .ok (.iload 4, 2) := by decide +kernel
theorem dX12_ends_152 : decode cX12_ends 152 = .ok (.iconst 1, 1) := by decide +kernel
theorem dX12_ends_153 : decode cX12_ends 153 = .ok (.bastore, 1) := by decide +kernel
theorem dX12_ends_154 : decode cX12_ends 154 = .ok (.aload_n 0, 1) := by decide +kernel
theorem dX12_ends_155 : decode cX12_ends 155 = .ok (.getfield 360, 3) := by decide +kernel
theorem dX12_ends_158 : decode cX12_ends 158 = .ok (.iconst (-1), 1) := by decide +kernel
theorem dX12_ends_159 : decode cX12_ends 159 = .ok (.if_icmp .eq 14, 3) := by decide +kernel
theorem dX12_ends_162 : decode cX12_ends 162 = .ok (.iload_n 1, 1) := by decide +kernel
theorem dX12_ends_163 : decode cX12_ends 163 = .ok (.iload 5, 2) := by decide +kernel
theorem dX12_ends_165 : decode cX12_ends 165 = .ok (.iadd, 1) := by decide +kernel
theorem dX12_ends_166 : decode cX12_ends 166 = .ok (.aload_n 0, 1) := by decide +kernel
theorem dX12_ends_167 : decode cX12_ends 167 = .ok (.getfield 360, 3) := by decide +kernel
theorem dX12_ends_170 : decode cX12_ends 170 = .ok (.if_icmp .ge 49, 3) := by decide +kernel
theorem dX12_ends_173 : decode cX12_ends 173 = .ok (.aload_n 0, 1) := by decide +kernel
theorem dX12_ends_174 : decode cX12_ends 174 = .ok (.iload_n 1, 1) := by decide +kernel
theorem dX12_ends_175 : decode cX12_ends 175 = .ok (.iload 5, 2) := by decide +kernel
theorem dX12_ends_177 : decode cX12_ends 177 = .ok (.iadd, 1) := by decide +kernel
theorem dX12_ends_178 : decode cX12_ends 178 = .ok (.putfield 360, 3) := by decide +kernel
theorem dX12_ends_181 : decode cX12_ends 181 = .ok (.aload_n 0, 1) := by decide +kernel
theorem dX12_ends_182 : decode cX12_ends 182 = .ok (.iload 4, 2) := by decide +kernel
theorem dX12_ends_184 : decode cX12_ends 184 = .ok (.putfield 379, 3) := by decide +kernel
theorem dX12_ends_187 : decode cX12_ends 187 = .ok (.iconst 0, 1) := by decide +kernel
theorem dX12_ends_188 : decode cX12_ends 188 = .ok (.istore 6, 2) := by decide +kernel
theorem dX12_ends_190 : decode cX12_ends 190 = .ok (.iload 6, 2) := by decide +kernel
theorem dX12_ends_192 : decode cX12_ends 192 = .ok (.aload_n 0, 1) := by decide +kernel
theorem dX12_ends_193 : decode cX12_ends 193 = .ok (.invokevirtual 117, 3) := by decide +kernel
theorem dX12_ends_196 : decode cX12_ends 196 = .ok (.if_icmp .ge 23, 3) := by decide +kernel
theorem dX12_ends_199 : decode cX12_ends 199 = .ok (.aload_n 0, 1) := by decide +kernel
theorem dX12_ends_200 : decode cX12_ends 200 = .ok (.getfield 76, 3) := by decide +kernel
theorem dX12_ends_203 : decode cX12_ends 203 = .ok (.iload 6, 2) := by decide +kernel
theorem dX12_ends_205 : decode cX12_ends 205 = .ok (.aload_n 0, 1) := by decide +kernel
theorem dX12_ends_206 : decode cX12_ends 206 = .ok (.getfield 70, 3) := by decide +kernel
theorem dX12_ends_209 : decode cX12_ends 209 = .ok (.iload 6, 2) := by decide +kernel
theorem dX12_ends_211 : decode cX12_ends 211 = .ok (.iaload, 1) := by decide +kernel
theorem dX12_ends_212 : decode cX12_ends 212 = .ok (.iastore, 1) := by decide +kernel
theorem dX12_ends_213 : decode cX12_ends 213 = .ok (.iinc 6 1, 3) := by decide +kernel
theorem dX12_ends_216 : decode cX12_ends 216 = .ok (.goto (-26), 3) := by decide +kernel
theorem dX12_ends_219 : decode cX12_ends 219 = .ok (.iload 4, 2) := by decide +kernel
theorem dX12_ends_221 : decode cX12_ends 221 = .ok (.ifCond .eq 4, 3) := by decide +kernel
theorem dX12_ends_224 : decode cX12_ends 224 = .ok (.return_, 1) := by decide +kernel
theorem dX12_ends_225 : decode cX12_ends 225 = .ok (.aload_n 0, 1) := by decide +kernel
theorem dX12_ends_226 : decode cX12_ends 226 = .ok (.dup, 1) := by decide +kernel
theorem dX12_ends_227 : decode cX12_ends 227 = .ok (.getfield 351, 3) := by decide +kernel
theorem dX12_ends_230 : decode cX12_ends 230 = .ok (.iconst 1, 1) := by decide +kernel
theorem dX12_ends_231 : decode cX12_ends 231 = .ok (.iadd, 1) := by decide +kernel
theorem dX12_ends_232 : decode cX12_ends 232 = .ok (.putfield 351, 3) := by decide +kernel
theorem dX12_ends_235 : decode cX12_ends 235 = .ok (.aload_n 0, 1) := by decide +kernel
theorem dX12_ends_236 : decode cX12_ends 236 = .ok (.aload_n 0, 1) := by decide +kernel
theorem dX12_ends_237 : decode cX12_ends 237 = .ok (.getfield 363, 3) := by decide +kernel
theorem dX12_ends_240 : decode cX12_ends 240 = .ok (.iload_n 3, 1) := by decide +kernel
theorem dX12_ends_241 : decode cX12_ends 241 = .ok (.bipush 16, 2) := by decide +kernel
theorem dX12_ends_243 : decode cX12_ends 243 = .ok (.irem, 1) := by decide +kernel
theorem dX12_ends_244 : decode cX12_ends 244 = .ok (.invokestatic 382, 3) := by decide +kernel
theorem dX12_ends_247 : decode cX12_ends 247 = .ok (.putfield 363, 3) := by decide +kernel
theorem dX12_ends_250 : decode cX12_ends 250 = .ok (.aload_n 0, 1) := by decide +kernel
theorem dX12_ends_251 : decode cX12_ends 251 = .ok (.aload_n 0, 1) := by decide +kernel
theorem dX12_ends_252 : decode cX12_ends 252 = .ok (.getfield 366, 3) := by decide +kernel
theorem dX12_ends_255 : decode cX12_ends 255 = .ok (.iload_n 3, 1) := by decide +kernel
theorem dX12_ends_256 : decode cX12_ends 256 = .ok (.bipush 16, 2) := by decide +kernel
theorem dX12_ends_258 : decode cX12_ends 258 = .ok (.idiv, 1) := by decide +kernel
theorem dX12_ends_259 : decode cX12_ends 259 = .ok (.bipush 16, 2) := by decide +kernel
theorem dX12_ends_261 : decode cX12_ends 261 = .ok (.irem, 1) := by decide +kernel
theorem dX12_ends_262 : decode cX12_ends 262 = .ok (.invokestatic 382, 3) := by decide +kernel
theorem dX12_ends_265 : decode cX12_ends 265 = .ok (.putfield 366, 3) := by decide +kernel
theorem dX12_ends_268 : decode cX12_ends 268 = .ok (.aload_n 0, 1) := by decide +kernel
theorem dX12_ends_269 : decode cX12_ends 269 = .ok (.aload_n 0, 1) := by decide +kernel
theorem dX12_ends_270 : decode cX12_ends 270 = .ok (.getfield 369, 3) := by decide +kernel
theorem dX12_ends_273 : decode cX12_ends 273 = .ok (.iload_n 3, 1) := by decide +kernel
theorem dX12_ends_274 : decode cX12_ends 274 = .ok (.sipush 256, 3) := by decide +kernel
theorem dX12_ends_277 : decode cX12_ends 277 = .ok (.idiv, 1) := by decide +kernel
theorem dX12_ends_278 : decode cX12_ends 278 = .ok (.invokestatic 382, 3) := by decide +kernel
theorem dX12_ends_281 : decode cX12_ends 281 = .ok (.putfield 369, 3) := by decide +kernel
theorem dX12_ends_284 : decode cX12_ends 284 = .ok (.aload_n 0, 1) := by decide +kernel
theorem dX12_ends_285 : decode cX12_ends 285 = .ok (.getfield 351, 3) := by decide +kernel
theorem dX12_ends_288 : decode cX12_ends 288 = .ok (.iconst 1, 1) := by decide +kernel
theorem dX12_ends_289 : decode cX12_ends 289 = .ok (.if_icmp .le 14, 3) := by decide +kernel
theorem dX12_ends_292 : decode cX12_ends 292 = .ok (.iload_n 2, 1) := by decide +kernel
theorem dX12_ends_293 : decode cX12_ends 293 = .ok (.iload_n 1, 1) := by decide +kernel
theorem dX12_ends_294 : decode cX12_ends 294 = .ok (.isub, 1) := by decide +kernel
theorem dX12_ends_295 : decode cX12_ends 295 = .ok (.aload_n 0, 1) := by decide +kernel
theorem dX12_ends_296 : decode cX12_ends 296 = .ok (.getfield 357, 3) := by decide +kernel
theorem dX12_ends_299 : decode cX12_ends 299 = .ok (.if_icmp .ge 4, 3) := by decide +kernel
theorem dX12_ends_302 : decode cX12_ends 302 = .ok (.return_, 1) := by decide +kernel
theorem dX12_ends_303 : decode cX12_ends 303 = .ok (.aload_n 0, 1) := by decide +kernel
theorem dX12_ends_304 : decode cX12_ends 304 = .ok (.getfield 351, 3) := by decide +kernel
theorem dX12_ends_307 : decode cX12_ends 307 = .ok (.iconst 1, 1) := by decide +kernel
theorem dX12_ends_308 : decode cX12_ends 308 = .ok (.if_icmp .eq 13, 3) := by decide +kernel
theorem dX12_ends_311 : decode cX12_ends 311 = .ok (.iload_n 2, 1) := by decide +kernel
theorem dX12_ends_312 : decode cX12_ends 312 = .ok (.iload_n 1, 1) := by decide +kernel
theorem dX12_ends_313 : decode cX12_ends 313 = .ok (.isub, 1) := by decide +kernel
theorem dX12_ends_314 : decode cX12_ends 314 = .ok (.aload_n 0, 1) := by decide +kernel
theorem dX12_ends_315 : decode cX12_ends 315 = .ok (.getfield 357, 3) := by decide +kernel
theorem dX12_ends_318 : decode cX12_ends 318 = .ok (.if_icmp .le 47, 3) := by decide +kernel
theorem dX12_ends_321 : decode cX12_ends 321 = .ok (.aload_n 0, 1) := by decide +kernel
theorem dX12_ends_322 : decode cX12_ends 322 = .ok (.iconst 0, 1) := by decide +kernel
theorem dX12_ends_323 : decode cX12_ends 323 = .ok (.putfield 354, 3) := by decide +kernel
theorem dX12_ends_326 : decode cX12_ends 326 = .ok (.aload_n 0, 1) := by decide +kernel
theorem dX12_ends_327 : decode cX12_ends 327 = .ok (.iload_n 2, 1) := by decide +kernel
theorem dX12_ends_328 : decode cX12_ends 328 = .ok (.iload_n 1, 1) := by decide +kernel
theorem dX12_ends_329 : decode cX12_ends 329 = .ok (.isub, 1) := by decide +kernel
theorem dX12_ends_330 : decode cX12_ends 330 = .ok (.putfield 357, 3) := by decide +kernel
theorem dX12_ends_333 : decode cX12_ends 333 = .ok (.iconst 0, 1) := by decide +kernel
theorem dX12_ends_334 : decode cX12_ends 334 = .ok (.istore 6, 2) := by decide +kernel
theorem dX12_ends_336 : decode cX12_ends 336 = .ok (.iload 6, 2) := by decide +kernel
theorem dX12_ends_338 : decode cX12_ends 338 = .ok (.aload_n 0, 1) := by decide +kernel
theorem dX12_ends_339 : decode cX12_ends 339 = .ok (.invokevirtual 117, 3) := by decide +kernel
theorem dX12_ends_342 : decode cX12_ends 342 = .ok (.if_icmp .ge 23, 3) := by decide +kernel
theorem dX12_ends_345 : decode cX12_ends 345 = .ok (.aload_n 0, 1) := by decide +kernel
theorem dX12_ends_346 : decode cX12_ends 346 = .ok (.getfield 73, 3) := by decide +kernel
theorem dX12_ends_349 : decode cX12_ends 349 = .ok (.iload 6, 2) := by decide +kernel
theorem dX12_ends_351 : decode cX12_ends 351 = .ok (.aload_n 0, 1) := by decide +kernel
theorem dX12_ends_352 : decode cX12_ends 352 = .ok (.getfield 70, 3) := by decide +kernel
theorem dX12_ends_355 : decode cX12_ends 355 = .ok (.iload 6, 2) := by decide +kernel
theorem dX12_ends_357 : decode cX12_ends 357 = .ok (.iaload, 1) := by decide +kernel
theorem dX12_ends_358 : decode cX12_ends 358 = .ok (.iastore, 1) := by decide +kernel
theorem dX12_ends_359 : decode cX12_ends 359 = .ok (.iinc 6 1, 3) := by decide +kernel
theorem dX12_ends_362 : decode cX12_ends 362 = .ok (.goto (-26), 3) := by decide +kernel
theorem dX12_ends_365 : decode cX12_ends 365 = .ok (.aload_n 0, 1) := by decide +kernel
theorem dX12_ends_366 : decode cX12_ends 366 = .ok (.dup, 1) := by decide +kernel
theorem dX12_ends_367 : decode cX12_ends 367 = .ok (.getfield 354, 3) := by decide +kernel
theorem dX12_ends_370 : decode cX12_ends 370 = .ok (.iconst 1, 1) := by decide +kernel
theorem dX12_ends_371 : decode cX12_ends 371 = .ok (.iadd, 1) := by decide +kernel
theorem dX12_ends_372 : decode cX12_ends 372 = .ok (.putfield 354, 3) := by decide +kernel
theorem dX12_ends_375 : decode cX12_ends 375 = .ok (.return_, 1) := by decide +kernel
set_option maxRecDepth 20000 in
theorem s_X12_ends {w : Wd} {d : Nat} {P : IM → LM → Prop} {i : IM} {l : LM} (p0 : Int) (p1 : Int) (p2 : Int)  (h : gV w d X_X12_ends P i l 9 [(0, vR (some 99)), (1, vI p0), (2, vI p1), (3, vI p2), (4, vI 0), (5, vI 0), (6, vI 0)] []) : gV w d X_X12_ends P i l 0 [(0, vR (some 99)), (1, vI p0), (2, vI p1), (3, vI p2)] [] := by
  refine g_iconst (pc' := 1) dX12_ends_0 rfl ?_
  refine g_istore (pc' := 3) (L' := [(4, vI 0), (0, vR (some 99)), (1, vI p0), (2, vI p1), (3, vI p2)]) dX12_ends_1 rfl (Nat.le_of_ble_eq_true rfl) rfl ?_
  refine g_iconst (pc' := 4) dX12_ends_3 rfl ?_
  refine g_istore (pc' := 6) (L' := [(5, vI 0), (4, vI 0), (0, vR (some 99)), (1, vI p0), (2, vI p1), (3, vI p2)]) dX12_ends_4 rfl (Nat.le_of_ble_eq_true rfl) rfl ?_
  refine g_iconst (pc' := 7) dX12_ends_6 rfl ?_
  refine g_istore (pc' := 9) (L' := [(6, vI 0), (5, vI 0), (4, vI 0), (0, vR (some 99)), (1, vI p0), (2, vI p1), (3, vI p2)]) dX12_ends_7 rfl (Nat.le_of_ble_eq_true rfl) rfl ?_
  refine g_sub (L' := [(0, vR (some 99)), (1, vI p0), (2, vI p1), (3, vI p2), (4, vI 0), (5, vI 0), (6, vI 0)]) [3, 4, 5, 6, 2, 1, 0] rfl ?_
  exact h
theorem e_X12_ends {w : Wd} {d : Nat} {P : IM → LM → Prop} {i : IM} {l : LM} {p0 : Int} {p1 : Int} {p2 : Int}  (h : gV w d X_X12_ends P i l 0 [(0, vR (some 99)), (1, vI p0), (2, vI p1), (3, vI p2)] []) : cVd w (d + 1) X_X12_ends [vR (some 99), vI p0, vI p1, vI p2] i l P := CV_of (by decide +kernel) (Nat.le_of_ble_eq_true rfl) h
set_option maxRecDepth 20000 in
theorem s_X12_ends_9 {w : Wd} {d : Nat} {P : IM → LM → Prop} {i : IM} {l : LM} (x1 : Int) (x2 : Int) (x3 : Int) (x4 : Int) (x5 : Int) (x6 : Int)  (hd : 1 ≤ d) (h : ((rg x6) ∧ ((i 101 308 ≤ x6) → ((0 ≤ x4 ∧ x4 < 256) ∧ ((¬ ((u2 i 119 x4 1) 99 38 = (-1)) → rg (x1 + x5)) ∧ ((((u2 i 119 x4 1) 99 38 = (-1)) ∨ (¬ ((u2 i 119 x4 1) 99 38 ≤ x1 + x5))) → ((rg (x1 + x5)) ∧ (rg x4) ∧ gV w d X_X12_ends P (u2 (u2 (u2 i 119 x4 1) 99 38 (x1 + x5)) 99 39 x4) l 190 [(0, vR (some 99)), (1, vI x1), (2, vI x2), (3, vI x3), (4, vI x4), (6, vI 0)] [])) ∧ ((¬ (((u2 i 119 x4 1) 99 38 = (-1)) ∨ (¬ ((u2 i 119 x4 1) 99 38 ≤ x1 + x5)))) → gV w d X_X12_ends P (u2 i 119 x4 1) l 219 [(0, vR (some 99)), (1, vI x1), (2, vI x2), (3, vI x3), (4, vI x4)] [])))) ∧ ((¬ (i 101 308 ≤ x6)) → gV w d X_X12_ends P i l 24 [(0, vR (some 99)), (1, vI x1), (2, vI x2), (3, vI x3), (4, vI x4), (5, vI x5), (6, vI x6), (7, vI 1), (8, vI 0)] []))) : gV w d X_X12_ends P i l 9 [(0, vR (some 99)), (1, vI x1), (2, vI x2), (3, vI x3), (4, vI x4), (5, vI x5), (6, vI x6)] [] := by
  refine g_iload (pc' := 11) 6 dX12_ends_9 rfl rfl ?_
  refine g_aload_n (pc' := 12) 0 dX12_ends_11 rfl rfl ?_
  refine g_pVI (pc' := 15) (vs := []) (st := [vI x6]) (val := i 101 308) (c := 12) (sp_X12_windows (le_hd hd rfl) ) mv_X12_windows lk_X12_121 rfl rfl rfl rfl (Nat.le_of_ble_eq_true rfl) (Nat.le_of_ble_eq_true rfl) rfl dX12_ends_12 rfl z2 (fun rg1 => ?_)
  obtain ⟨hob3, hk16, hk17⟩ := h
  refine g_icmp_ge (tgt := 146) (pc' := 18) (hob3) rg1 Iff.rfl dX12_ends_15 rfl rfl (fun c4 => ?_) (fun c4 => ?_)
  · have h := hk16 c4
    obtain ⟨ob5, h⟩ := h
    refine g_aload_n (pc' := 147) 0 dX12_ends_146 rfl rfl ?_
    refine g_getR (pc' := 150) (o := some 119) fl_X12_79 rfl rfl rfl dX12_ends_147 rfl ?_
    refine g_iload (pc' := 152) 4 dX12_ends_150 rfl rfl ?_
    refine g_iconst (pc' := 153) dX12_ends_152 rfl ?_
    refine g_zast (pc' := 154) (N := 256) rfl rfl (Nat.lt_of_lt_of_le (Nat.lt_succ_self _) (Nat.le_of_ble_eq_true rfl)) ob5 (by decide) dX12_ends_153 rfl ?_
    refine g_aload_n (pc' := 155) 0 dX12_ends_154 rfl rfl ?_
    refine g_getI (pc' := 158) (z := 38) rfl fl_X12_360 rfl rfl dX12_ends_155 rfl (fun rg6 => ?_)
    refine g_iconst (pc' := 159) dX12_ends_158 rfl ?_
    obtain ⟨hob10, hk14, hk15⟩ := h
    have hk14g : (((u2 i 119 x4 1) 99 38 = (-1)) ∨ (¬ ((u2 i 119 x4 1) 99 38 ≤ x1 + x5))) → gV w d X_X12_ends P (u2 i 119 x4 1) l 173 [(0, vR (some 99)), (1, vI x1), (2, vI x2), (3, vI x3), (4, vI x4), (5, vI x5), (6, vI x6)] [] := by
      intro hp
      have h := hk14 hp
      obtain ⟨ob12, ob13, h⟩ := h
      refine g_aload_n (pc' := 174) 0 dX12_ends_173 rfl rfl ?_
      refine g_iload_n (pc' := 175) 1 dX12_ends_174 rfl rfl ?_
      refine g_iload (pc' := 177) 5 dX12_ends_175 rfl rfl ?_
      refine g_iadd (pc' := 178) dX12_ends_177 rfl ?_
      refine g_putI (pc' := 181) (z := 38) rfl fp_X12_360 rfl rfl ob12 dX12_ends_178 rfl ?_
      refine g_aload_n (pc' := 182) 0 dX12_ends_181 rfl rfl ?_
      refine g_iload (pc' := 184) 4 dX12_ends_182 rfl rfl ?_
      refine g_putI (pc' := 187) (z := 39) rfl fp_X12_379 rfl rfl ob13 dX12_ends_184 rfl ?_
      refine g_iconst (pc' := 188) dX12_ends_187 rfl ?_
      refine g_istore (pc' := 190) (L' := [(6, vI 0), (0, vR (some 99)), (1, vI x1), (2, vI x2), (3, vI x3), (4, vI x4), (5, vI x5)]) dX12_ends_188 rfl (Nat.le_of_ble_eq_true rfl) rfl ?_
      refine g_sub (L' := [(0, vR (some 99)), (1, vI x1), (2, vI x2), (3, vI x3), (4, vI x4), (6, vI 0)]) [1, 2, 3, 4, 5, 0] rfl ?_
      exact h
    have hk15g : (¬ (((u2 i 119 x4 1) 99 38 = (-1)) ∨ (¬ ((u2 i 119 x4 1) 99 38 ≤ x1 + x5)))) → gV w d X_X12_ends P (u2 i 119 x4 1) l 219 [(0, vR (some 99)), (1, vI x1), (2, vI x2), (3, vI x3), (4, vI x4), (5, vI x5), (6, vI x6)] [] := by
      intro hp
      have h := hk15 hp
      refine g_sub (L' := [(0, vR (some 99)), (1, vI x1), (2, vI x2), (3, vI x3), (4, vI x4)]) [0, 1, 2, 3, 4] rfl ?_
      exact h
    refine g_icmp_eq (tgt := 173) (pc' := 162) rg6 (rg_lit rfl) Iff.rfl dX12_ends_159 rfl rfl (fun c8 => ?_) (fun c8 => ?_)
    · exact hk14g (Or.inl c8)
    · refine g_iload_n (pc' := 163) 1 dX12_ends_162 rfl rfl ?_
      refine g_iload (pc' := 165) 5 dX12_ends_163 rfl rfl ?_
      refine g_iadd (pc' := 166) dX12_ends_165 rfl ?_
      refine g_aload_n (pc' := 167) 0 dX12_ends_166 rfl rfl ?_
      refine g_getI (pc' := 170) (z := 38) rfl fl_X12_360 rfl rfl dX12_ends_167 rfl (fun rg9 => ?_)
      refine g_icmp_ge (tgt := 219) (pc' := 173) (hob10 c8) rg9 Iff.rfl dX12_ends_170 rfl rfl (fun c11 => ?_) (fun c11 => ?_)
      · exact hk15g (fun q => q.elim c8 (fun q => q c11))
      · exact hk14g (Or.inr c11)
  · have h := hk17 c4
    refine g_iconst (pc' := 19) dX12_ends_18 rfl ?_
    refine g_istore (pc' := 21) (L' := [(7, vI 1), (0, vR (some 99)), (1, vI x1), (2, vI x2), (3, vI x3), (4, vI x4), (5, vI x5), (6, vI x6)]) dX12_ends_19 rfl (Nat.le_of_ble_eq_true rfl) rfl ?_
    refine g_iconst (pc' := 22) dX12_ends_21 rfl ?_
    refine g_istore (pc' := 24) (L' := [(8, vI 0), (7, vI 1), (0, vR (some 99)), (1, vI x1), (2, vI x2), (3, vI x3), (4, vI x4), (5, vI x5), (6, vI x6)]) dX12_ends_22 rfl (Nat.le_of_ble_eq_true rfl) rfl ?_
    refine g_sub (L' := [(0, vR (some 99)), (1, vI x1), (2, vI x2), (3, vI x3), (4, vI x4), (5, vI x5), (6, vI x6), (7, vI 1), (8, vI 0)]) [2, 3, 4, 5, 6, 7, 8, 1, 0] rfl ?_
    exact h
set_option maxRecDepth 20000 in
theorem s_X12_ends_190 {w : Wd} {d : Nat} {P : IM → LM → Prop} {i : IM} {l : LM} (x1 : Int) (x2 : Int) (x3 : Int) (x4 : Int) (x6 : Int)  (hd : 1 ≤ d) (h : ((rg x6) ∧ ((i 101 307 ≤ x6) → gV w d X_X12_ends P i l 219 [(0, vR (some 99)), (1, vI x1), (2, vI x2), (3, vI x3), (4, vI x4)] []) ∧ ((¬ (i 101 307 ≤ x6)) → ((0 ≤ x6 ∧ x6 < 10) ∧ gV w d X_X12_ends P (u2 i 118 x6 (i 116 x6)) l 190 [(0, vR (some 99)), (1, vI x1), (2, vI x2), (3, vI x3), (4, vI x4), (6, vI (x6 + 1))] [])))) : gV w d X_X12_ends P i l 190 [(0, vR (some 99)), (1, vI x1), (2, vI x2), (3, vI x3), (4, vI x4), (6, vI x6)] [] := by
  refine g_iload (pc' := 192) 5 dX12_ends_190 rfl rfl ?_
  refine g_aload_n (pc' := 193) 0 dX12_ends_192 rfl rfl ?_
  refine g_pVI (pc' := 196) (vs := []) (st := [vI x6]) (val := i 101 307) (c := 12) (sp_X12_things (le_hd hd rfl) ) mv_X12_things lk_X12_117 rfl rfl rfl rfl (Nat.le_of_ble_eq_true rfl) (Nat.le_of_ble_eq_true rfl) rfl dX12_ends_193 rfl z2 (fun rg18 => ?_)
  obtain ⟨hob20, hk26, hk27⟩ := h
  refine g_icmp_ge (tgt := 219) (pc' := 199) (hob20) rg18 Iff.rfl dX12_ends_196 rfl rfl (fun c21 => ?_) (fun c21 => ?_)
  · have h := hk26 c21
    refine g_sub (L' := [(0, vR (some 99)), (1, vI x1), (2, vI x2), (3, vI x3), (4, vI x4)]) [0, 1, 2, 3, 4] rfl ?_
    exact h
  · have h := hk27 c21
    obtain ⟨ob24, h⟩ := h
    refine g_aload_n (pc' := 200) 0 dX12_ends_199 rfl rfl ?_
    refine g_getR (pc' := 203) (o := some 118) fl_X12_76 rfl rfl rfl dX12_ends_200 rfl ?_
    refine g_iload (pc' := 205) 5 dX12_ends_203 rfl rfl ?_
    refine g_aload_n (pc' := 206) 0 dX12_ends_205 rfl rfl ?_
    refine g_getR (pc' := 209) (o := some 116) fl_X12_70 rfl rfl rfl dX12_ends_206 rfl ?_
    refine g_iload (pc' := 211) 5 dX12_ends_209 rfl rfl ?_
    refine g_iald (pc' := 212) (N := 10) rfl rfl (Nat.lt_of_lt_of_le (Nat.lt_succ_self _) (Nat.le_of_ble_eq_true rfl)) ob24 dX12_ends_211 rfl (fun rg25 => ?_)
    refine g_iast (pc' := 213) (N := 10) rfl rfl (Nat.lt_of_lt_of_le (Nat.lt_succ_self _) (Nat.le_of_ble_eq_true rfl)) ob24 rg25 dX12_ends_212 rfl ?_
    refine g_iinc (pc' := 216) (L' := [(6, vI (x6 + 1)), (0, vR (some 99)), (1, vI x1), (2, vI x2), (3, vI x3), (4, vI x4)]) 5 dX12_ends_213 rfl (Nat.le_of_ble_eq_true rfl) rfl rfl ?_
    refine g_goto (tgt := 190) dX12_ends_216 rfl ?_
    refine g_sub (L' := [(0, vR (some 99)), (1, vI x1), (2, vI x2), (3, vI x3), (4, vI x4), (6, vI (x6 + 1))]) [1, 2, 3, 4, 5, 0] rfl ?_
    exact h
set_option maxRecDepth 20000 in
theorem s_X12_ends_219 {w : Wd} {d : Nat} {P : IM → LM → Prop} {i : IM} {l : LM} (x1 : Int) (x2 : Int) (x3 : Int) (x4 : Int)  (hd : 1 ≤ d) (h : ((rg x4) ∧ ((x4 = 0) → ((rg ((i 99 35) + 1)) ∧ (rg x3) ∧ (rg (Int.tmod x3 16)) ∧ (rg (Int.tdiv x3 16)) ∧ (rg (Int.tmod (Int.tdiv x3 16) 16)) ∧ (rg (Int.tdiv x3 256)) ∧ ((¬ ((u2 (u2 (u2 (u2 i 99 35 ((i 99 35) + 1)) 99 40 (min ((u2 i 99 35 ((i 99 35) + 1)) 99 40) (Int.tmod x3 16))) 99 41 (min ((u2 (u2 i 99 35 ((i 99 35) + 1)) 99 40 (min ((u2 i 99 35 ((i 99 35) + 1)) 99 40) (Int.tmod x3 16))) 99 41) (Int.tmod (Int.tdiv x3 16) 16))) 99 42 (min ((u2 (u2 (u2 i 99 35 ((i 99 35) + 1)) 99 40 (min ((u2 i 99 35 ((i 99 35) + 1)) 99 40) (Int.tmod x3 16))) 99 41 (min ((u2 (u2 i 99 35 ((i 99 35) + 1)) 99 40 (min ((u2 i 99 35 ((i 99 35) + 1)) 99 40) (Int.tmod x3 16))) 99 41) (Int.tmod (Int.tdiv x3 16) 16))) 99 42) (Int.tdiv x3 256))) 99 35 ≤ 1) → rg (x2 - x1)) ∧ ((((u2 (u2 (u2 (u2 i 99 35 ((i 99 35) + 1)) 99 40 (min ((u2 i 99 35 ((i 99 35) + 1)) 99 40) (Int.tmod x3 16))) 99 41 (min ((u2 (u2 i 99 35 ((i 99 35) + 1)) 99 40 (min ((u2 i 99 35 ((i 99 35) + 1)) 99 40) (Int.tmod x3 16))) 99 41) (Int.tmod (Int.tdiv x3 16) 16))) 99 42 (min ((u2 (u2 (u2 i 99 35 ((i 99 35) + 1)) 99 40 (min ((u2 i 99 35 ((i 99 35) + 1)) 99 40) (Int.tmod x3 16))) 99 41 (min ((u2 (u2 i 99 35 ((i 99 35) + 1)) 99 40 (min ((u2 i 99 35 ((i 99 35) + 1)) 99 40) (Int.tmod x3 16))) 99 41) (Int.tmod (Int.tdiv x3 16) 16))) 99 42) (Int.tdiv x3 256))) 99 35 ≤ 1) ∨ ((u2 (u2 (u2 (u2 i 99 35 ((i 99 35) + 1)) 99 40 (min ((u2 i 99 35 ((i 99 35) + 1)) 99 40) (Int.tmod x3 16))) 99 41 (min ((u2 (u2 i 99 35 ((i 99 35) + 1)) 99 40 (min ((u2 i 99 35 ((i 99 35) + 1)) 99 40) (Int.tmod x3 16))) 99 41) (Int.tmod (Int.tdiv x3 16) 16))) 99 42 (min ((u2 (u2 (u2 i 99 35 ((i 99 35) + 1)) 99 40 (min ((u2 i 99 35 ((i 99 35) + 1)) 99 40) (Int.tmod x3 16))) 99 41 (min ((u2 (u2 i 99 35 ((i 99 35) + 1)) 99 40 (min ((u2 i 99 35 ((i 99 35) + 1)) 99 40) (Int.tmod x3 16))) 99 41) (Int.tmod (Int.tdiv x3 16) 16))) 99 42) (Int.tdiv x3 256))) 99 37 ≤ x2 - x1)) → gV w d X_X12_ends P (u2 (u2 (u2 (u2 i 99 35 ((i 99 35) + 1)) 99 40 (min ((u2 i 99 35 ((i 99 35) + 1)) 99 40) (Int.tmod x3 16))) 99 41 (min ((u2 (u2 i 99 35 ((i 99 35) + 1)) 99 40 (min ((u2 i 99 35 ((i 99 35) + 1)) 99 40) (Int.tmod x3 16))) 99 41) (Int.tmod (Int.tdiv x3 16) 16))) 99 42 (min ((u2 (u2 (u2 i 99 35 ((i 99 35) + 1)) 99 40 (min ((u2 i 99 35 ((i 99 35) + 1)) 99 40) (Int.tmod x3 16))) 99 41 (min ((u2 (u2 i 99 35 ((i 99 35) + 1)) 99 40 (min ((u2 i 99 35 ((i 99 35) + 1)) 99 40) (Int.tmod x3 16))) 99 41) (Int.tmod (Int.tdiv x3 16) 16))) 99 42) (Int.tdiv x3 256))) l 303 [(0, vR (some 99)), (1, vI x1), (2, vI x2)] []) ∧ ((¬ (((u2 (u2 (u2 (u2 i 99 35 ((i 99 35) + 1)) 99 40 (min ((u2 i 99 35 ((i 99 35) + 1)) 99 40) (Int.tmod x3 16))) 99 41 (min ((u2 (u2 i 99 35 ((i 99 35) + 1)) 99 40 (min ((u2 i 99 35 ((i 99 35) + 1)) 99 40) (Int.tmod x3 16))) 99 41) (Int.tmod (Int.tdiv x3 16) 16))) 99 42 (min ((u2 (u2 (u2 i 99 35 ((i 99 35) + 1)) 99 40 (min ((u2 i 99 35 ((i 99 35) + 1)) 99 40) (Int.tmod x3 16))) 99 41 (min ((u2 (u2 i 99 35 ((i 99 35) + 1)) 99 40 (min ((u2 i 99 35 ((i 99 35) + 1)) 99 40) (Int.tmod x3 16))) 99 41) (Int.tmod (Int.tdiv x3 16) 16))) 99 42) (Int.tdiv x3 256))) 99 35 ≤ 1) ∨ ((u2 (u2 (u2 (u2 i 99 35 ((i 99 35) + 1)) 99 40 (min ((u2 i 99 35 ((i 99 35) + 1)) 99 40) (Int.tmod x3 16))) 99 41 (min ((u2 (u2 i 99 35 ((i 99 35) + 1)) 99 40 (min ((u2 i 99 35 ((i 99 35) + 1)) 99 40) (Int.tmod x3 16))) 99 41) (Int.tmod (Int.tdiv x3 16) 16))) 99 42 (min ((u2 (u2 (u2 i 99 35 ((i 99 35) + 1)) 99 40 (min ((u2 i 99 35 ((i 99 35) + 1)) 99 40) (Int.tmod x3 16))) 99 41 (min ((u2 (u2 i 99 35 ((i 99 35) + 1)) 99 40 (min ((u2 i 99 35 ((i 99 35) + 1)) 99 40) (Int.tmod x3 16))) 99 41) (Int.tmod (Int.tdiv x3 16) 16))) 99 42) (Int.tdiv x3 256))) 99 37 ≤ x2 - x1))) → P (u2 (u2 (u2 (u2 i 99 35 ((i 99 35) + 1)) 99 40 (min ((u2 i 99 35 ((i 99 35) + 1)) 99 40) (Int.tmod x3 16))) 99 41 (min ((u2 (u2 i 99 35 ((i 99 35) + 1)) 99 40 (min ((u2 i 99 35 ((i 99 35) + 1)) 99 40) (Int.tmod x3 16))) 99 41) (Int.tmod (Int.tdiv x3 16) 16))) 99 42 (min ((u2 (u2 (u2 i 99 35 ((i 99 35) + 1)) 99 40 (min ((u2 i 99 35 ((i 99 35) + 1)) 99 40) (Int.tmod x3 16))) 99 41 (min ((u2 (u2 i 99 35 ((i 99 35) + 1)) 99 40 (min ((u2 i 99 35 ((i 99 35) + 1)) 99 40) (Int.tmod x3 16))) 99 41) (Int.tmod (Int.tdiv x3 16) 16))) 99 42) (Int.tdiv x3 256))) l)))) ∧ ((¬ (x4 = 0)) → P i l))) : gV w d X_X12_ends P i l 219 [(0, vR (some 99)), (1, vI x1), (2, vI x2), (3, vI x3), (4, vI x4)] [] := by
  refine g_iload (pc' := 221) 4 dX12_ends_219 rfl rfl ?_
  obtain ⟨hob29, hk53, hk54⟩ := h
  refine g_if_eq (tgt := 225) (pc' := 224) (hob29) Iff.rfl dX12_ends_221 rfl rfl (fun c30 => ?_) (fun c30 => ?_)
  · have h := hk53 c30
    obtain ⟨ob33, ob35, ob36, ob39, ob40, ob43, h⟩ := h
    refine g_aload_n (pc' := 226) 0 dX12_ends_225 rfl rfl ?_
    refine g_dup (pc' := 227) dX12_ends_226 rfl rfl ?_
    refine g_getI (pc' := 230) (z := 35) rfl fl_X12_351 rfl rfl dX12_ends_227 rfl (fun rg32 => ?_)
    refine g_iconst (pc' := 231) dX12_ends_230 rfl ?_
    refine g_iadd (pc' := 232) dX12_ends_231 rfl ?_
    refine g_putI (pc' := 235) (z := 35) rfl fp_X12_351 rfl rfl ob33 dX12_ends_232 rfl ?_
    refine g_aload_n (pc' := 236) 0 dX12_ends_235 rfl rfl ?_
    refine g_aload_n (pc' := 237) 0 dX12_ends_236 rfl rfl ?_
    refine g_getI (pc' := 240) (z := 40) rfl fl_X12_363 rfl rfl dX12_ends_237 rfl (fun rg34 => ?_)
    refine g_iload_n (pc' := 241) 3 dX12_ends_240 rfl rfl ?_
    refine g_bipush (pc' := 243) dX12_ends_241 rfl rfl ?_
    refine g_irem (pc' := 244) dX12_ends_243 rfl ob35 (rg_lit rfl) (by decide) ?_
    refine g_pSI (pc' := 247) (vs := [vI ((u2 i 99 35 ((i 99 35) + 1)) 99 40), vI (Int.tmod x3 16)]) (st := [vR (some 99)]) (val := min ((u2 i 99 35 ((i 99 35) + 1)) 99 40) (Int.tmod x3 16)) (sp_X12_lesser (le_hd hd rfl) rg34 ob36) mk_X12_lesser ms_X12_lesser lk_X12_382 rfl (Nat.le_of_ble_eq_true rfl) (Nat.le_of_ble_eq_true rfl) rfl dX12_ends_244 rfl z2 (fun rg37 => ?_)
    refine g_putI (pc' := 250) (z := 40) rfl fp_X12_363 rfl rfl rg37 dX12_ends_247 rfl ?_
    refine g_aload_n (pc' := 251) 0 dX12_ends_250 rfl rfl ?_
    refine g_aload_n (pc' := 252) 0 dX12_ends_251 rfl rfl ?_
    refine g_getI (pc' := 255) (z := 41) rfl fl_X12_366 rfl rfl dX12_ends_252 rfl (fun rg38 => ?_)
    refine g_iload_n (pc' := 256) 3 dX12_ends_255 rfl rfl ?_
    refine g_bipush (pc' := 258) dX12_ends_256 rfl rfl ?_
    refine g_idiv (pc' := 259) dX12_ends_258 rfl ob35 (rg_lit rfl) (by decide) ?_
    refine g_bipush (pc' := 261) dX12_ends_259 rfl rfl ?_
    refine g_irem (pc' := 262) dX12_ends_261 rfl ob39 (rg_lit rfl) (by decide) ?_
    refine g_pSI (pc' := 265) (vs := [vI ((u2 (u2 i 99 35 ((i 99 35) + 1)) 99 40 (min ((u2 i 99 35 ((i 99 35) + 1)) 99 40) (Int.tmod x3 16))) 99 41), vI (Int.tmod (Int.tdiv x3 16) 16)]) (st := [vR (some 99)]) (val := min ((u2 (u2 i 99 35 ((i 99 35) + 1)) 99 40 (min ((u2 i 99 35 ((i 99 35) + 1)) 99 40) (Int.tmod x3 16))) 99 41) (Int.tmod (Int.tdiv x3 16) 16)) (sp_X12_lesser (le_hd hd rfl) rg38 ob40) mk_X12_lesser ms_X12_lesser lk_X12_382 rfl (Nat.le_of_ble_eq_true rfl) (Nat.le_of_ble_eq_true rfl) rfl dX12_ends_262 rfl z2 (fun rg41 => ?_)
    refine g_putI (pc' := 268) (z := 41) rfl fp_X12_366 rfl rfl rg41 dX12_ends_265 rfl ?_
    refine g_aload_n (pc' := 269) 0 dX12_ends_268 rfl rfl ?_
    refine g_aload_n (pc' := 270) 0 dX12_ends_269 rfl rfl ?_
    refine g_getI (pc' := 273) (z := 42) rfl fl_X12_369 rfl rfl dX12_ends_270 rfl (fun rg42 => ?_)
    refine g_iload_n (pc' := 274) 3 dX12_ends_273 rfl rfl ?_
    refine g_sipush (pc' := 277) dX12_ends_274 rfl rfl ?_
    refine g_idiv (pc' := 278) dX12_ends_277 rfl ob35 (rg_lit rfl) (by decide) ?_
    refine g_pSI (pc' := 281) (vs := [vI ((u2 (u2 (u2 i 99 35 ((i 99 35) + 1)) 99 40 (min ((u2 i 99 35 ((i 99 35) + 1)) 99 40) (Int.tmod x3 16))) 99 41 (min ((u2 (u2 i 99 35 ((i 99 35) + 1)) 99 40 (min ((u2 i 99 35 ((i 99 35) + 1)) 99 40) (Int.tmod x3 16))) 99 41) (Int.tmod (Int.tdiv x3 16) 16))) 99 42), vI (Int.tdiv x3 256)]) (st := [vR (some 99)]) (val := min ((u2 (u2 (u2 i 99 35 ((i 99 35) + 1)) 99 40 (min ((u2 i 99 35 ((i 99 35) + 1)) 99 40) (Int.tmod x3 16))) 99 41 (min ((u2 (u2 i 99 35 ((i 99 35) + 1)) 99 40 (min ((u2 i 99 35 ((i 99 35) + 1)) 99 40) (Int.tmod x3 16))) 99 41) (Int.tmod (Int.tdiv x3 16) 16))) 99 42) (Int.tdiv x3 256)) (sp_X12_lesser (le_hd hd rfl) rg42 ob43) mk_X12_lesser ms_X12_lesser lk_X12_382 rfl (Nat.le_of_ble_eq_true rfl) (Nat.le_of_ble_eq_true rfl) rfl dX12_ends_278 rfl z2 (fun rg44 => ?_)
    refine g_putI (pc' := 284) (z := 42) rfl fp_X12_369 rfl rfl rg44 dX12_ends_281 rfl ?_
    refine g_aload_n (pc' := 285) 0 dX12_ends_284 rfl rfl ?_
    refine g_getI (pc' := 288) (z := 35) rfl fl_X12_351 rfl rfl dX12_ends_285 rfl (fun rg45 => ?_)
    refine g_iconst (pc' := 289) dX12_ends_288 rfl ?_
    obtain ⟨hob49, hk51, hk52⟩ := h
    have hk51g : (((u2 (u2 (u2 (u2 i 99 35 ((i 99 35) + 1)) 99 40 (min ((u2 i 99 35 ((i 99 35) + 1)) 99 40) (Int.tmod x3 16))) 99 41 (min ((u2 (u2 i 99 35 ((i 99 35) + 1)) 99 40 (min ((u2 i 99 35 ((i 99 35) + 1)) 99 40) (Int.tmod x3 16))) 99 41) (Int.tmod (Int.tdiv x3 16) 16))) 99 42 (min ((u2 (u2 (u2 i 99 35 ((i 99 35) + 1)) 99 40 (min ((u2 i 99 35 ((i 99 35) + 1)) 99 40) (Int.tmod x3 16))) 99 41 (min ((u2 (u2 i 99 35 ((i 99 35) + 1)) 99 40 (min ((u2 i 99 35 ((i 99 35) + 1)) 99 40) (Int.tmod x3 16))) 99 41) (Int.tmod (Int.tdiv x3 16) 16))) 99 42) (Int.tdiv x3 256))) 99 35 ≤ 1) ∨ ((u2 (u2 (u2 (u2 i 99 35 ((i 99 35) + 1)) 99 40 (min ((u2 i 99 35 ((i 99 35) + 1)) 99 40) (Int.tmod x3 16))) 99 41 (min ((u2 (u2 i 99 35 ((i 99 35) + 1)) 99 40 (min ((u2 i 99 35 ((i 99 35) + 1)) 99 40) (Int.tmod x3 16))) 99 41) (Int.tmod (Int.tdiv x3 16) 16))) 99 42 (min ((u2 (u2 (u2 i 99 35 ((i 99 35) + 1)) 99 40 (min ((u2 i 99 35 ((i 99 35) + 1)) 99 40) (Int.tmod x3 16))) 99 41 (min ((u2 (u2 i 99 35 ((i 99 35) + 1)) 99 40 (min ((u2 i 99 35 ((i 99 35) + 1)) 99 40) (Int.tmod x3 16))) 99 41) (Int.tmod (Int.tdiv x3 16) 16))) 99 42) (Int.tdiv x3 256))) 99 37 ≤ x2 - x1)) → gV w d X_X12_ends P (u2 (u2 (u2 (u2 i 99 35 ((i 99 35) + 1)) 99 40 (min ((u2 i 99 35 ((i 99 35) + 1)) 99 40) (Int.tmod x3 16))) 99 41 (min ((u2 (u2 i 99 35 ((i 99 35) + 1)) 99 40 (min ((u2 i 99 35 ((i 99 35) + 1)) 99 40) (Int.tmod x3 16))) 99 41) (Int.tmod (Int.tdiv x3 16) 16))) 99 42 (min ((u2 (u2 (u2 i 99 35 ((i 99 35) + 1)) 99 40 (min ((u2 i 99 35 ((i 99 35) + 1)) 99 40) (Int.tmod x3 16))) 99 41 (min ((u2 (u2 i 99 35 ((i 99 35) + 1)) 99 40 (min ((u2 i 99 35 ((i 99 35) + 1)) 99 40) (Int.tmod x3 16))) 99 41) (Int.tmod (Int.tdiv x3 16) 16))) 99 42) (Int.tdiv x3 256))) l 303 [(0, vR (some 99)), (1, vI x1), (2, vI x2), (3, vI x3), (4, vI x4)] [] := by
      intro hp
      have h := hk51 hp
      refine g_sub (L' := [(0, vR (some 99)), (1, vI x1), (2, vI x2)]) [0, 1, 2] rfl ?_
      exact h
    have hk52g : (¬ (((u2 (u2 (u2 (u2 i 99 35 ((i 99 35) + 1)) 99 40 (min ((u2 i 99 35 ((i 99 35) + 1)) 99 40) (Int.tmod x3 16))) 99 41 (min ((u2 (u2 i 99 35 ((i 99 35) + 1)) 99 40 (min ((u2 i 99 35 ((i 99 35) + 1)) 99 40) (Int.tmod x3 16))) 99 41) (Int.tmod (Int.tdiv x3 16) 16))) 99 42 (min ((u2 (u2 (u2 i 99 35 ((i 99 35) + 1)) 99 40 (min ((u2 i 99 35 ((i 99 35) + 1)) 99 40) (Int.tmod x3 16))) 99 41 (min ((u2 (u2 i 99 35 ((i 99 35) + 1)) 99 40 (min ((u2 i 99 35 ((i 99 35) + 1)) 99 40) (Int.tmod x3 16))) 99 41) (Int.tmod (Int.tdiv x3 16) 16))) 99 42) (Int.tdiv x3 256))) 99 35 ≤ 1) ∨ ((u2 (u2 (u2 (u2 i 99 35 ((i 99 35) + 1)) 99 40 (min ((u2 i 99 35 ((i 99 35) + 1)) 99 40) (Int.tmod x3 16))) 99 41 (min ((u2 (u2 i 99 35 ((i 99 35) + 1)) 99 40 (min ((u2 i 99 35 ((i 99 35) + 1)) 99 40) (Int.tmod x3 16))) 99 41) (Int.tmod (Int.tdiv x3 16) 16))) 99 42 (min ((u2 (u2 (u2 i 99 35 ((i 99 35) + 1)) 99 40 (min ((u2 i 99 35 ((i 99 35) + 1)) 99 40) (Int.tmod x3 16))) 99 41 (min ((u2 (u2 i 99 35 ((i 99 35) + 1)) 99 40 (min ((u2 i 99 35 ((i 99 35) + 1)) 99 40) (Int.tmod x3 16))) 99 41) (Int.tmod (Int.tdiv x3 16) 16))) 99 42) (Int.tdiv x3 256))) 99 37 ≤ x2 - x1))) → gV w d X_X12_ends P (u2 (u2 (u2 (u2 i 99 35 ((i 99 35) + 1)) 99 40 (min ((u2 i 99 35 ((i 99 35) + 1)) 99 40) (Int.tmod x3 16))) 99 41 (min ((u2 (u2 i 99 35 ((i 99 35) + 1)) 99 40 (min ((u2 i 99 35 ((i 99 35) + 1)) 99 40) (Int.tmod x3 16))) 99 41) (Int.tmod (Int.tdiv x3 16) 16))) 99 42 (min ((u2 (u2 (u2 i 99 35 ((i 99 35) + 1)) 99 40 (min ((u2 i 99 35 ((i 99 35) + 1)) 99 40) (Int.tmod x3 16))) 99 41 (min ((u2 (u2 i 99 35 ((i 99 35) + 1)) 99 40 (min ((u2 i 99 35 ((i 99 35) + 1)) 99 40) (Int.tmod x3 16))) 99 41) (Int.tmod (Int.tdiv x3 16) 16))) 99 42) (Int.tdiv x3 256))) l 302 [(0, vR (some 99)), (1, vI x1), (2, vI x2), (3, vI x3), (4, vI x4)] [] := by
      intro hp
      have h := hk52 hp
      exact g_retV rfl dX12_ends_302 h
    refine g_icmp_le (tgt := 303) (pc' := 292) rg45 (rg_lit rfl) Iff.rfl dX12_ends_289 rfl rfl (fun c47 => ?_) (fun c47 => ?_)
    · exact hk51g (Or.inl c47)
    · refine g_iload_n (pc' := 293) 2 dX12_ends_292 rfl rfl ?_
      refine g_iload_n (pc' := 294) 1 dX12_ends_293 rfl rfl ?_
      refine g_isub (pc' := 295) dX12_ends_294 rfl ?_
      refine g_aload_n (pc' := 296) 0 dX12_ends_295 rfl rfl ?_
      refine g_getI (pc' := 299) (z := 37) rfl fl_X12_357 rfl rfl dX12_ends_296 rfl (fun rg48 => ?_)
      refine g_icmp_ge (tgt := 303) (pc' := 302) (hob49 c47) rg48 Iff.rfl dX12_ends_299 rfl rfl (fun c50 => ?_) (fun c50 => ?_)
      · exact hk51g (Or.inr c50)
      · exact hk52g (fun q => q.elim c47 c50)
  · have h := hk54 c30
    exact g_retV rfl dX12_ends_224 h
set_option maxRecDepth 20000 in
theorem s_X12_ends_24 {w : Wd} {d : Nat} {P : IM → LM → Prop} {i : IM} {l : LM} (x1 : Int) (x2 : Int) (x3 : Int) (x4 : Int) (x5 : Int) (x6 : Int) (x7 : Int) (x8 : Int)  (hd : 1 ≤ d) (h : ((rg x8) ∧ ((12 ≤ x8) → ((rg x7) ∧ ((rg x7) ∧ ((x7 = 0) → 0 ≤ 80 + 3 * x6 + 2 ∧ 80 + 3 * x6 + 2 < 5120) ∧ gV w d X_X12_ends P i l 9 [(0, vR (some 99)), (1, vI x1), (2, vI x2), (3, vI x3), (4, vI (ior x4 (if (x7 = 0) then ishl 1 x6 else 0))), (5, vI (x5 + (if (x7 = 0) then i 101 (80 + 3 * x6 + 2) else 0))), (6, vI (x6 + 1))] []))) ∧ ((¬ (12 ≤ x8)) → ((rg x7) ∧ (¬ (x7 = 0) → (iand (ishr (i 99 43) x8) 1 = 1) → 0 ≤ ((96 * (i 101 307)) + (12 * x6)) + x8 ∧ ((96 * (i 101 307)) + (12 * x6)) + x8 < 1056) ∧ (¬ (x7 = 0) → (iand (ishr (i 99 43) x8) 1 = 1) → 0 ≤ i 113 (((96 * (i 101 307)) + (12 * x6)) + x8) ∧ i 113 (((96 * (i 101 307)) + (12 * x6)) + x8) < 2147483648) ∧ (¬ (x7 = 0) → (iand (ishr (i 99 43) x8) 1 = 1) → 0 ≤ (12 * x6) + x8 ∧ (12 * x6) + x8 < 96) ∧ gV w d X_X12_ends P i l 24 [(0, vR (some 99)), (1, vI x1), (2, vI x2), (3, vI x3), (4, vI x4), (5, vI x5), (6, vI x6), (7, vI (bI (¬ (x7 = 0) ∧ (¬ (iand (ishr (i 99 43) x8) 1 = 1) ∨ (¬ (i 112 ((12 * x6) + x8) < popI (i 113 (((96 * (i 101 307)) + (12 * x6)) + x8)))))))), (8, vI (x8 + 1))] [])))) : gV w d X_X12_ends P i l 24 [(0, vR (some 99)), (1, vI x1), (2, vI x2), (3, vI x3), (4, vI x4), (5, vI x5), (6, vI x6), (7, vI x7), (8, vI x8)] [] := by
  refine g_iload (pc' := 26) 8 dX12_ends_24 rfl rfl ?_
  refine g_bipush (pc' := 28) dX12_ends_26 rfl rfl ?_
  obtain ⟨hob114, hk138, hk139⟩ := h
  refine g_icmp_ge (tgt := 101) (pc' := 31) (hob114) (rg_lit rfl) Iff.rfl dX12_ends_28 rfl rfl (fun c115 => ?_) (fun c115 => ?_)
  · have h := hk138 c115
    refine g_iload (pc' := 103) 4 dX12_ends_101 rfl rfl ?_
    refine g_iload (pc' := 105) 7 dX12_ends_103 rfl rfl ?_
    obtain ⟨hob117, h⟩ := h
    have hJ : gV w d X_X12_ends P i l 116 [(0, vR (some 99)), (1, vI x1), (2, vI x2), (3, vI x3), (4, vI x4), (5, vI x5), (6, vI x6), (7, vI x7), (8, vI x8)] [vI (if (x7 = 0) then ishl 1 x6 else 0), vI x4] := by
      refine g_ior (pc' := 117) dX12_ends_116 rfl ?_
      refine g_istore (pc' := 119) (L' := [(4, vI (ior x4 (if (x7 = 0) then ishl 1 x6 else 0))), (0, vR (some 99)), (1, vI x1), (2, vI x2), (3, vI x3), (5, vI x5), (6, vI x6), (7, vI x7), (8, vI x8)]) dX12_ends_117 rfl (Nat.le_of_ble_eq_true rfl) rfl ?_
      refine g_iload (pc' := 121) 5 dX12_ends_119 rfl rfl ?_
      refine g_iload (pc' := 123) 7 dX12_ends_121 rfl rfl ?_
      refine g_rg (fun hRG119 => ?_)
      obtain ⟨hob120, hob122, h⟩ := h
      have hJ : gV w d X_X12_ends P i l 137 [(4, vI (ior x4 (if (x7 = 0) then ishl 1 x6 else 0))), (0, vR (some 99)), (1, vI x1), (2, vI x2), (3, vI x3), (5, vI x5), (6, vI x6), (7, vI x7), (8, vI x8)] [vI (if (x7 = 0) then i 101 (80 + 3 * x6 + 2) else 0), vI x5] := by
        refine g_iadd (pc' := 138) dX12_ends_137 rfl ?_
        refine g_istore (pc' := 140) (L' := [(5, vI (x5 + (if (x7 = 0) then i 101 (80 + 3 * x6 + 2) else 0))), (4, vI (ior x4 (if (x7 = 0) then ishl 1 x6 else 0))), (0, vR (some 99)), (1, vI x1), (2, vI x2), (3, vI x3), (6, vI x6), (7, vI x7), (8, vI x8)]) dX12_ends_138 rfl (Nat.le_of_ble_eq_true rfl) rfl ?_
        refine g_iinc (pc' := 143) (L' := [(6, vI (x6 + 1)), (5, vI (x5 + (if (x7 = 0) then i 101 (80 + 3 * x6 + 2) else 0))), (4, vI (ior x4 (if (x7 = 0) then ishl 1 x6 else 0))), (0, vR (some 99)), (1, vI x1), (2, vI x2), (3, vI x3), (7, vI x7), (8, vI x8)]) 6 dX12_ends_140 rfl (Nat.le_of_ble_eq_true rfl) rfl rfl ?_
        refine g_goto (tgt := 9) dX12_ends_143 rfl ?_
        refine g_sub (L' := [(0, vR (some 99)), (1, vI x1), (2, vI x2), (3, vI x3), (4, vI (ior x4 (if (x7 = 0) then ishl 1 x6 else 0))), (5, vI (x5 + (if (x7 = 0) then i 101 (80 + 3 * x6 + 2) else 0))), (6, vI (x6 + 1))]) [3, 4, 5, 6, 2, 1, 0] rfl ?_
        exact h
      refine g_if_eq (tgt := 130) (pc' := 126) (hob120) Iff.rfl dX12_ends_123 rfl rfl (fun c121 => ?_) (fun c121 => ?_)
      · refine g_aload_n (pc' := 131) 1 dX12_ends_130 rfl rfl ?_
        refine g_iload (pc' := 133) 6 dX12_ends_131 rfl rfl ?_
        refine g_iconst (pc' := 134) dX12_ends_133 rfl ?_
        refine g_pVI (pc' := 137) (vs := [vI x6, vI 2]) (st := [vI x5]) (val := i 101 (80 + 3 * x6 + 2)) (c := 12) (sp_X12_windowOf (le_hd hd rfl) (hob122 c121)) mv_X12_windowOf lk_X12_308 rfl rfl rfl rfl (Nat.le_of_ble_eq_true rfl) (Nat.le_of_ble_eq_true rfl) rfl dX12_ends_134 rfl z2 (fun rg123 => ?_)
        rw [if_pos c121 (α := Int) (t := i 101 (80 + 3 * x6 + 2)) (e := 0)] at hJ
        exact hJ
      · refine g_iconst (pc' := 127) dX12_ends_126 rfl ?_
        refine g_goto (tgt := 137) dX12_ends_127 rfl ?_
        rw [if_neg c121 (α := Int) (t := i 101 (80 + 3 * x6 + 2)) (e := 0)] at hJ
        exact hJ
    refine g_if_eq (tgt := 112) (pc' := 108) (hob117) Iff.rfl dX12_ends_105 rfl rfl (fun c118 => ?_) (fun c118 => ?_)
    · refine g_iconst (pc' := 113) dX12_ends_112 rfl ?_
      refine g_iload (pc' := 115) 6 dX12_ends_113 rfl rfl ?_
      refine g_ishl (pc' := 116) dX12_ends_115 rfl ?_
      rw [if_pos c118 (α := Int) (t := ishl 1 x6) (e := 0)] at hJ
      exact hJ
    · refine g_iconst (pc' := 109) dX12_ends_108 rfl ?_
      refine g_goto (tgt := 116) dX12_ends_109 rfl ?_
      rw [if_neg c118 (α := Int) (t := ishl 1 x6) (e := 0)] at hJ
      exact hJ
  · have h := hk139 c115
    refine g_iload (pc' := 33) 7 dX12_ends_31 rfl rfl ?_
    obtain ⟨hob125, hob131, hob133, hob135, h⟩ := h
    have hJ : gV w d X_X12_ends P i l 93 [(0, vR (some 99)), (1, vI x1), (2, vI x2), (3, vI x3), (4, vI x4), (5, vI x5), (6, vI x6), (7, vI x7), (8, vI x8)] [vI (bI (¬ (x7 = 0) ∧ (¬ (iand (ishr (i 99 43) x8) 1 = 1) ∨ (¬ (i 112 ((12 * x6) + x8) < popI (i 113 (((96 * (i 101 307)) + (12 * x6)) + x8)))))))] := by
      refine g_istore (pc' := 95) (L' := [(7, vI (bI (¬ (x7 = 0) ∧ (¬ (iand (ishr (i 99 43) x8) 1 = 1) ∨ (¬ (i 112 ((12 * x6) + x8) < popI (i 113 (((96 * (i 101 307)) + (12 * x6)) + x8)))))))), (0, vR (some 99)), (1, vI x1), (2, vI x2), (3, vI x3), (4, vI x4), (5, vI x5), (6, vI x6), (8, vI x8)]) dX12_ends_93 rfl (Nat.le_of_ble_eq_true rfl) rfl ?_
      refine g_iinc (pc' := 98) (L' := [(8, vI (x8 + 1)), (7, vI (bI (¬ (x7 = 0) ∧ (¬ (iand (ishr (i 99 43) x8) 1 = 1) ∨ (¬ (i 112 ((12 * x6) + x8) < popI (i 113 (((96 * (i 101 307)) + (12 * x6)) + x8)))))))), (0, vR (some 99)), (1, vI x1), (2, vI x2), (3, vI x3), (4, vI x4), (5, vI x5), (6, vI x6)]) 8 dX12_ends_95 rfl (Nat.le_of_ble_eq_true rfl) rfl rfl ?_
      refine g_goto (tgt := 24) dX12_ends_98 rfl ?_
      refine g_sub (L' := [(0, vR (some 99)), (1, vI x1), (2, vI x2), (3, vI x3), (4, vI x4), (5, vI x5), (6, vI x6), (7, vI (bI (¬ (x7 = 0) ∧ (¬ (iand (ishr (i 99 43) x8) 1 = 1) ∨ (¬ (i 112 ((12 * x6) + x8) < popI (i 113 (((96 * (i 101 307)) + (12 * x6)) + x8)))))))), (8, vI (x8 + 1))]) [2, 3, 4, 5, 6, 7, 8, 1, 0] rfl ?_
      exact h
    refine g_if_eq (tgt := 92) (pc' := 36) (hob125) Iff.rfl dX12_ends_33 rfl rfl (fun c126 => ?_) (fun c126 => ?_)
    · refine g_iconst (pc' := 93) dX12_ends_92 rfl ?_
      rw [bI_f (p := (¬ (x7 = 0) ∧ (¬ (iand (ishr (i 99 43) x8) 1 = 1) ∨ (¬ (i 112 ((12 * x6) + x8) < popI (i 113 (((96 * (i 101 307)) + (12 * x6)) + x8))))))) (fun q => q.1 c126)] at hJ
      exact hJ
    · refine g_aload_n (pc' := 37) 0 dX12_ends_36 rfl rfl ?_
      refine g_getI (pc' := 40) (z := 43) rfl fl_X12_345 rfl rfl dX12_ends_37 rfl (fun rg127 => ?_)
      refine g_iload (pc' := 42) 8 dX12_ends_40 rfl rfl ?_
      refine g_pSI (pc' := 45) (vs := [vI (i 99 43), vI x8]) (st := []) (val := bI (iand (ishr (i 99 43) x8) 1 = 1)) (sp_X12_isIn (le_hd hd rfl) ) mk_X12_isIn ms_X12_isIn lk_X12_147 rfl (Nat.le_of_ble_eq_true rfl) (Nat.le_of_ble_eq_true rfl) rfl dX12_ends_42 rfl z2 (fun rg128 => ?_)
      refine g_if_eq (tgt := 88) (pc' := 48) rg128 (bI_eq _) dX12_ends_45 rfl rfl (fun c129 => ?_) (fun c129n => ?_)
      · refine g_iconst (pc' := 89) dX12_ends_88 rfl ?_
        refine g_goto (tgt := 93) dX12_ends_89 rfl ?_
        rw [bI_t (p := (¬ (x7 = 0) ∧ (¬ (iand (ishr (i 99 43) x8) 1 = 1) ∨ (¬ (i 112 ((12 * x6) + x8) < popI (i 113 (((96 * (i 101 307)) + (12 * x6)) + x8))))))) ⟨c126, (Or.inl c129)⟩] at hJ
        exact hJ
      · have c129 := Decidable.of_not_not c129n
        refine g_aload_n (pc' := 49) 0 dX12_ends_48 rfl rfl ?_
        refine g_getR (pc' := 52) (o := some 113) fl_X12_61 rfl rfl rfl dX12_ends_49 rfl ?_
        refine g_bipush (pc' := 54) dX12_ends_52 rfl rfl ?_
        refine g_aload_n (pc' := 55) 0 dX12_ends_54 rfl rfl ?_
        refine g_pVI (pc' := 58) (vs := []) (st := [vI 96, vR (some 113)]) (val := i 101 307) (c := 12) (sp_X12_things (le_hd hd rfl) ) mv_X12_things lk_X12_117 rfl rfl rfl rfl (Nat.le_of_ble_eq_true rfl) (Nat.le_of_ble_eq_true rfl) rfl dX12_ends_55 rfl z2 (fun rg130 => ?_)
        refine g_imul (pc' := 59) dX12_ends_58 rfl ?_
        refine g_bipush (pc' := 61) dX12_ends_59 rfl rfl ?_
        refine g_iload (pc' := 63) 6 dX12_ends_61 rfl rfl ?_
        refine g_imul (pc' := 64) dX12_ends_63 rfl ?_
        refine g_iadd (pc' := 65) dX12_ends_64 rfl ?_
        refine g_iload (pc' := 67) 8 dX12_ends_65 rfl rfl ?_
        refine g_iadd (pc' := 68) dX12_ends_67 rfl ?_
        refine g_iald (pc' := 69) (N := 1056) rfl rfl (Nat.lt_of_lt_of_le (Nat.lt_succ_self _) (Nat.le_of_ble_eq_true rfl)) (hob131 c126 c129) dX12_ends_68 rfl (fun rg132 => ?_)
        refine g_pSI (pc' := 72) (vs := [vI (i 113 (((96 * (i 101 307)) + (12 * x6)) + x8))]) (st := []) (val := popI (i 113 (((96 * (i 101 307)) + (12 * x6)) + x8))) (sp_X12_ones (le_hd hd rfl) (hob133 c126 c129)) mk_X12_ones ms_X12_ones lk_X12_327 rfl (Nat.le_of_ble_eq_true rfl) (Nat.le_of_ble_eq_true rfl) rfl dX12_ends_69 rfl z2 (fun rg134 => ?_)
        refine g_aload_n (pc' := 73) 0 dX12_ends_72 rfl rfl ?_
        refine g_getR (pc' := 76) (o := some 112) fl_X12_58 rfl rfl rfl dX12_ends_73 rfl ?_
        refine g_bipush (pc' := 78) dX12_ends_76 rfl rfl ?_
        refine g_iload (pc' := 80) 6 dX12_ends_78 rfl rfl ?_
        refine g_imul (pc' := 81) dX12_ends_80 rfl ?_
        refine g_iload (pc' := 83) 8 dX12_ends_81 rfl rfl ?_
        refine g_iadd (pc' := 84) dX12_ends_83 rfl ?_
        refine g_iald (pc' := 85) (N := 96) rfl rfl (Nat.lt_of_lt_of_le (Nat.lt_succ_self _) (Nat.le_of_ble_eq_true rfl)) (hob135 c126 c129) dX12_ends_84 rfl (fun rg136 => ?_)
        refine g_icmp_gt (tgt := 92) (pc' := 88) rg134 rg136 Iff.rfl dX12_ends_85 rfl rfl (fun c137 => ?_) (fun c137 => ?_)
        · refine g_iconst (pc' := 93) dX12_ends_92 rfl ?_
          rw [bI_f (p := (¬ (x7 = 0) ∧ (¬ (iand (ishr (i 99 43) x8) 1 = 1) ∨ (¬ (i 112 ((12 * x6) + x8) < popI (i 113 (((96 * (i 101 307)) + (12 * x6)) + x8))))))) (fun q => (fun q => q.elim (fun w => w c129) (fun q => q c137)) q.2)] at hJ
          exact hJ
        · refine g_iconst (pc' := 89) dX12_ends_88 rfl ?_
          refine g_goto (tgt := 93) dX12_ends_89 rfl ?_
          rw [bI_t (p := (¬ (x7 = 0) ∧ (¬ (iand (ishr (i 99 43) x8) 1 = 1) ∨ (¬ (i 112 ((12 * x6) + x8) < popI (i 113 (((96 * (i 101 307)) + (12 * x6)) + x8))))))) ⟨c126, (Or.inr c137)⟩] at hJ
          exact hJ
set_option maxRecDepth 20000 in
theorem s_X12_ends_303 {w : Wd} {d : Nat} {P : IM → LM → Prop} {i : IM} {l : LM} (x1 : Int) (x2 : Int)  (h : ((¬ (i 99 35 = 1) → rg (x2 - x1)) ∧ (((i 99 35 = 1) ∨ (¬ (x2 - x1 ≤ i 99 37))) → ((rg (x2 - x1)) ∧ gV w d X_X12_ends P (u2 (u2 i 99 36 0) 99 37 (x2 - x1)) l 336 [(0, vR (some 99)), (6, vI 0)] [])) ∧ ((¬ ((i 99 35 = 1) ∨ (¬ (x2 - x1 ≤ i 99 37)))) → ((rg ((i 99 36) + 1)) ∧ P (u2 i 99 36 ((i 99 36) + 1)) l)))) : gV w d X_X12_ends P i l 303 [(0, vR (some 99)), (1, vI x1), (2, vI x2)] [] := by
  refine g_aload_n (pc' := 304) 0 dX12_ends_303 rfl rfl ?_
  refine g_getI (pc' := 307) (z := 35) rfl fl_X12_351 rfl rfl dX12_ends_304 rfl (fun rg140 => ?_)
  refine g_iconst (pc' := 308) dX12_ends_307 rfl ?_
  obtain ⟨hob144, hk150, hk151⟩ := h
  have hk150g : ((i 99 35 = 1) ∨ (¬ (x2 - x1 ≤ i 99 37))) → gV w d X_X12_ends P i l 321 [(0, vR (some 99)), (1, vI x1), (2, vI x2)] [] := by
    intro hp
    have h := hk150 hp
    obtain ⟨ob147, h⟩ := h
    refine g_aload_n (pc' := 322) 0 dX12_ends_321 rfl rfl ?_
    refine g_iconst (pc' := 323) dX12_ends_322 rfl ?_
    refine g_putI (pc' := 326) (z := 36) rfl fp_X12_354 rfl rfl (rg_lit rfl) dX12_ends_323 rfl ?_
    refine g_aload_n (pc' := 327) 0 dX12_ends_326 rfl rfl ?_
    refine g_iload_n (pc' := 328) 2 dX12_ends_327 rfl rfl ?_
    refine g_iload_n (pc' := 329) 1 dX12_ends_328 rfl rfl ?_
    refine g_isub (pc' := 330) dX12_ends_329 rfl ?_
    refine g_putI (pc' := 333) (z := 37) rfl fp_X12_357 rfl rfl ob147 dX12_ends_330 rfl ?_
    refine g_iconst (pc' := 334) dX12_ends_333 rfl ?_
    refine g_istore (pc' := 336) (L' := [(6, vI 0), (0, vR (some 99)), (1, vI x1), (2, vI x2)]) dX12_ends_334 rfl (Nat.le_of_ble_eq_true rfl) rfl ?_
    refine g_sub (L' := [(0, vR (some 99)), (6, vI 0)]) [1, 0] rfl ?_
    exact h
  have hk151g : (¬ ((i 99 35 = 1) ∨ (¬ (x2 - x1 ≤ i 99 37)))) → gV w d X_X12_ends P i l 365 [(0, vR (some 99)), (1, vI x1), (2, vI x2)] [] := by
    intro hp
    have h := hk151 hp
    obtain ⟨ob149, h⟩ := h
    refine g_aload_n (pc' := 366) 0 dX12_ends_365 rfl rfl ?_
    refine g_dup (pc' := 367) dX12_ends_366 rfl rfl ?_
    refine g_getI (pc' := 370) (z := 36) rfl fl_X12_354 rfl rfl dX12_ends_367 rfl (fun rg148 => ?_)
    refine g_iconst (pc' := 371) dX12_ends_370 rfl ?_
    refine g_iadd (pc' := 372) dX12_ends_371 rfl ?_
    refine g_putI (pc' := 375) (z := 36) rfl fp_X12_354 rfl rfl ob149 dX12_ends_372 rfl ?_
    exact g_retV rfl dX12_ends_375 h
  refine g_icmp_eq (tgt := 321) (pc' := 311) rg140 (rg_lit rfl) Iff.rfl dX12_ends_308 rfl rfl (fun c142 => ?_) (fun c142 => ?_)
  · exact hk150g (Or.inl c142)
  · refine g_iload_n (pc' := 312) 2 dX12_ends_311 rfl rfl ?_
    refine g_iload_n (pc' := 313) 1 dX12_ends_312 rfl rfl ?_
    refine g_isub (pc' := 314) dX12_ends_313 rfl ?_
    refine g_aload_n (pc' := 315) 0 dX12_ends_314 rfl rfl ?_
    refine g_getI (pc' := 318) (z := 37) rfl fl_X12_357 rfl rfl dX12_ends_315 rfl (fun rg143 => ?_)
    refine g_icmp_le (tgt := 365) (pc' := 321) (hob144 c142) rg143 Iff.rfl dX12_ends_318 rfl rfl (fun c145 => ?_) (fun c145 => ?_)
    · exact hk151g (fun q => q.elim c142 (fun q => q c145))
    · exact hk150g (Or.inr c145)
set_option maxRecDepth 20000 in
theorem s_X12_ends_336 {w : Wd} {d : Nat} {P : IM → LM → Prop} {i : IM} {l : LM} (x6 : Int)  (hd : 1 ≤ d) (h : ((rg x6) ∧ ((i 101 307 ≤ x6) → ((rg ((i 99 36) + 1)) ∧ P (u2 i 99 36 ((i 99 36) + 1)) l)) ∧ ((¬ (i 101 307 ≤ x6)) → ((0 ≤ x6 ∧ x6 < 10) ∧ gV w d X_X12_ends P (u2 i 117 x6 (i 116 x6)) l 336 [(0, vR (some 99)), (6, vI (x6 + 1))] [])))) : gV w d X_X12_ends P i l 336 [(0, vR (some 99)), (6, vI x6)] [] := by
  refine g_iload (pc' := 338) 1 dX12_ends_336 rfl rfl ?_
  refine g_aload_n (pc' := 339) 0 dX12_ends_338 rfl rfl ?_
  refine g_pVI (pc' := 342) (vs := []) (st := [vI x6]) (val := i 101 307) (c := 12) (sp_X12_things (le_hd hd rfl) ) mv_X12_things lk_X12_117 rfl rfl rfl rfl (Nat.le_of_ble_eq_true rfl) (Nat.le_of_ble_eq_true rfl) rfl dX12_ends_339 rfl z2 (fun rg152 => ?_)
  obtain ⟨hob154, hk163, hk164⟩ := h
  refine g_icmp_ge (tgt := 365) (pc' := 345) (hob154) rg152 Iff.rfl dX12_ends_342 rfl rfl (fun c155 => ?_) (fun c155 => ?_)
  · have h := hk163 c155
    obtain ⟨ob160, h⟩ := h
    refine g_aload_n (pc' := 366) 0 dX12_ends_365 rfl rfl ?_
    refine g_dup (pc' := 367) dX12_ends_366 rfl rfl ?_
    refine g_getI (pc' := 370) (z := 36) rfl fl_X12_354 rfl rfl dX12_ends_367 rfl (fun rg159 => ?_)
    refine g_iconst (pc' := 371) dX12_ends_370 rfl ?_
    refine g_iadd (pc' := 372) dX12_ends_371 rfl ?_
    refine g_putI (pc' := 375) (z := 36) rfl fp_X12_354 rfl rfl ob160 dX12_ends_372 rfl ?_
    exact g_retV rfl dX12_ends_375 h
  · have h := hk164 c155
    obtain ⟨ob161, h⟩ := h
    refine g_aload_n (pc' := 346) 0 dX12_ends_345 rfl rfl ?_
    refine g_getR (pc' := 349) (o := some 117) fl_X12_73 rfl rfl rfl dX12_ends_346 rfl ?_
    refine g_iload (pc' := 351) 1 dX12_ends_349 rfl rfl ?_
    refine g_aload_n (pc' := 352) 0 dX12_ends_351 rfl rfl ?_
    refine g_getR (pc' := 355) (o := some 116) fl_X12_70 rfl rfl rfl dX12_ends_352 rfl ?_
    refine g_iload (pc' := 357) 1 dX12_ends_355 rfl rfl ?_
    refine g_iald (pc' := 358) (N := 10) rfl rfl (Nat.lt_of_lt_of_le (Nat.lt_succ_self _) (Nat.le_of_ble_eq_true rfl)) ob161 dX12_ends_357 rfl (fun rg162 => ?_)
    refine g_iast (pc' := 359) (N := 10) rfl rfl (Nat.lt_of_lt_of_le (Nat.lt_succ_self _) (Nat.le_of_ble_eq_true rfl)) ob161 rg162 dX12_ends_358 rfl ?_
    refine g_iinc (pc' := 362) (L' := [(6, vI (x6 + 1)), (0, vR (some 99))]) 1 dX12_ends_359 rfl (Nat.le_of_ble_eq_true rfl) rfl rfl ?_
    refine g_goto (tgt := 336) dX12_ends_362 rfl ?_
    refine g_sub (L' := [(0, vR (some 99)), (6, vI (x6 + 1))]) [1, 0] rfl ?_
    exact h

theorem dX12_best_0 : decode cX12_best 0 = .ok (.iload_n 1, 1) := by decide +kernel
theorem dX12_best_1 : decode cX12_best 1 = .ok (.invokestatic 385, 3) := by decide +kernel
theorem dX12_best_4 : decode cX12_best 4 = .ok (.ifCond .eq 12, 3) := by decide +kernel
theorem dX12_best_7 : decode cX12_best 7 = .ok (.iload_n 2, 1) := by decide +kernel
theorem dX12_best_8 : decode cX12_best 8 = .ok (.iconst 0, 1) := by decide +kernel
theorem dX12_best_9 : decode cX12_best 9 = .ok (.iconst 2, 1) := by decide +kernel
theorem dX12_best_10 : decode cX12_best 10 = .ok (.invokestatic 106, 3) := by decide +kernel
theorem dX12_best_13 : decode cX12_best 13 = .ok (.ifCond .ne 7, 3) := by decide +kernel
theorem dX12_best_16 : decode cX12_best 16 = .ok (.sipush (-10000), 3) := by decide +kernel
theorem dX12_best_19 : decode cX12_best 19 = .ok (.ireturn, 1) := by decide +kernel
theorem dX12_best_20 : decode cX12_best 20 = .ok (.aload_n 0, 1) := by decide +kernel
theorem dX12_best_21 : decode cX12_best 21 = .ok (.iload_n 1, 1) := by decide +kernel
theorem dX12_best_22 : decode cX12_best 22 = .ok (.iconst (-1), 1) := by decide +kernel
theorem dX12_best_23 : decode cX12_best 23 = .ok (.invokevirtual 388, 3) := by decide +kernel
theorem dX12_best_26 : decode cX12_best 26 = .ok (.iload_n 2, 1) := by decide +kernel
theorem dX12_best_27 : decode cX12_best 27 = .ok (.ifCond .ne 10, 3) := by decide +kernel
theorem dX12_best_30 : decode cX12_best 30 = .ok (.aload_n 0, 1) := by decide +kernel
theorem dX12_best_31 : decode cX12_best 31 = .ok (.getfield 354, 3) := by decide +kernel
theorem dX12_best_34 : decode cX12_best 34 = .ok (.goto 32, 3) := by decide +kernel
theorem dX12_best_37 : decode cX12_best 37 = .ok (.iload_n 2, 1) := by decide +kernel
theorem dX12_best_38 : decode cX12_best 38 = .ok (.iconst 2, 1) := by decide +kernel
theorem dX12_best_39 : decode cX12_best 39 = .ok (.if_icmp .ne 10, 3) := by decide +kernel
theorem dX12_best_42 : decode cX12_best 42 = .ok (.aload_n 0, 1) := by decide +kernel
theorem dX12_best_43 : decode cX12_best 43 = .ok (.getfield 351, 3) := by decide +kernel
theorem dX12_best_46 : decode cX12_best 46 = .ok (.goto 20, 3) := by decide +kernel
theorem dX12_best_49 : decode cX12_best 49 = .ok (.aload_n 0, 1) := by decide +kernel
theorem dX12_best_50 : decode cX12_best 50 = .ok (.getfield 351, 3) := by decide +kernel
theorem dX12_best_53 : decode cX12_best 53 = .ok (.ifCond .ne 9, 3) := by decide +kernel
theorem dX12_best_56 : decode cX12_best 56 = .ok (.sipush (-10000), 3) := by decide +kernel
theorem dX12_best_59 : decode cX12_best 59 = .ok (.goto 7, 3) := by decide +kernel
theorem dX12_best_62 : decode cX12_best 62 = .ok (.aload_n 0, 1) := by decide +kernel
theorem dX12_best_63 : decode cX12_best 63 = .ok (.getfield 357, 3) := by decide +kernel
theorem dX12_best_66 : decode cX12_best 66 = .ok (.ireturn, 1) := by decide +kernel
set_option maxRecDepth 20000 in
theorem s_X12_best {w : Wd} {d : Nat} {P : Int → IM → LM → Prop} {i : IM} {l : LM} (p0 : Int) (p1 : Int)  (hd : 2 ≤ d) (h : ((rg p0) ∧ (((1 ≤ p0 ∧ p0 ≤ 4095) → rg p1) ∧ (((1 ≤ p0 ∧ p0 ≤ 4095) ∧ (0 ≤ p1 ∧ p1 ≤ 2)) → cVd w d X_X12_paints [vR (some 99), vI p0, vI (-1)] i l (fun i8 l8 => ((rg p1) ∧ P (if (p1 = 0) then i8 99 36 else (if (p1 = 2) then i8 99 35 else (if (i8 99 35 = 0) then (-10000) else i8 99 37))) i8 l8))) ∧ ((¬ ((1 ≤ p0 ∧ p0 ≤ 4095) ∧ (0 ≤ p1 ∧ p1 ≤ 2))) → P (-10000) i l)))) : gI w d X_X12_best P i l 0 [(0, vR (some 99)), (1, vI p0), (2, vI p1)] [] := by
  obtain ⟨ob1, h⟩ := h
  refine g_iload_n (pc' := 1) 1 dX12_best_0 rfl rfl ?_
  refine g_pSI (pc' := 4) (vs := [vI p0]) (st := []) (val := bI (1 ≤ p0 ∧ p0 ≤ 4095)) (sp_X12_areMonths (le_hd hd rfl) ob1) mk_X12_areMonths ms_X12_areMonths lk_X12_385 rfl (Nat.le_of_ble_eq_true rfl) (Nat.le_of_ble_eq_true rfl) rfl dX12_best_1 rfl z2 (fun rg2 => ?_)
  obtain ⟨hob5, hk18, hk19⟩ := h
  have hk18g : ((1 ≤ p0 ∧ p0 ≤ 4095) ∧ (0 ≤ p1 ∧ p1 ≤ 2)) → gI w d X_X12_best P i l 20 [(0, vR (some 99)), (1, vI p0), (2, vI p1)] [] := by
    intro hp
    have h := hk18 hp
    refine g_aload_n (pc' := 21) 0 dX12_best_20 rfl rfl ?_
    refine g_iload_n (pc' := 22) 1 dX12_best_21 rfl rfl ?_
    refine g_iconst (pc' := 23) dX12_best_22 rfl ?_
    refine g_cVV (pc' := 26) (vs := [vI p0, vI (-1)]) (st := []) (c := 12) h mv_X12_paints lk_X12_388 rfl rfl rfl rfl (Nat.le_of_ble_eq_true rfl) (Nat.le_of_ble_eq_true rfl) rfl dX12_best_23 rfl z2 (fun i8 l8 h => ?_)
    refine g_iload_n (pc' := 27) 2 dX12_best_26 rfl rfl ?_
    refine g_rg (fun hRG9 => ?_)
    obtain ⟨hob10, h⟩ := h
    have hJ : gI w d X_X12_best P i8 l8 66 [(0, vR (some 99)), (1, vI p0), (2, vI p1)] [vI (if (p1 = 0) then i8 99 36 else (if (p1 = 2) then i8 99 35 else (if (i8 99 35 = 0) then (-10000) else i8 99 37)))] := by
      exact g_retI rfl (rg_ite (hRG9 _ _) (rg_ite (hRG9 _ _) (rg_ite (rg_lit rfl) (hRG9 _ _)))) dX12_best_66 h
    refine g_if_ne (tgt := 37) (pc' := 30) (hob10) Iff.rfl dX12_best_27 rfl rfl (fun c11 => ?_) (fun c11 => ?_)
    · refine g_iload_n (pc' := 38) 2 dX12_best_37 rfl rfl ?_
      refine g_iconst (pc' := 39) dX12_best_38 rfl ?_
      refine g_icmp_ne (tgt := 49) (pc' := 42) (hob10) (rg_lit rfl) Iff.rfl dX12_best_39 rfl rfl (fun c12 => ?_) (fun c12 => ?_)
      · refine g_aload_n (pc' := 50) 0 dX12_best_49 rfl rfl ?_
        refine g_getI (pc' := 53) (z := 35) rfl fl_X12_351 rfl rfl dX12_best_50 rfl (fun rg13 => ?_)
        refine g_if_ne (tgt := 62) (pc' := 56) rg13 Iff.rfl dX12_best_53 rfl rfl (fun c14 => ?_) (fun c14 => ?_)
        · refine g_aload_n (pc' := 63) 0 dX12_best_62 rfl rfl ?_
          refine g_getI (pc' := 66) (z := 37) rfl fl_X12_357 rfl rfl dX12_best_63 rfl (fun rg15 => ?_)
          rw [if_neg c11 (α := Int) (t := i8 99 36) (e := (if (p1 = 2) then i8 99 35 else (if (i8 99 35 = 0) then (-10000) else i8 99 37))), if_neg c12 (α := Int) (t := i8 99 35) (e := (if (i8 99 35 = 0) then (-10000) else i8 99 37)), if_neg c14 (α := Int) (t := (-10000)) (e := i8 99 37)] at hJ
          exact hJ
        · refine g_sipush (pc' := 59) dX12_best_56 rfl rfl ?_
          refine g_goto (tgt := 66) dX12_best_59 rfl ?_
          rw [if_neg c11 (α := Int) (t := i8 99 36) (e := (if (p1 = 2) then i8 99 35 else (if (i8 99 35 = 0) then (-10000) else i8 99 37))), if_neg c12 (α := Int) (t := i8 99 35) (e := (if (i8 99 35 = 0) then (-10000) else i8 99 37)), if_pos c14 (α := Int) (t := (-10000)) (e := i8 99 37)] at hJ
          exact hJ
      · refine g_aload_n (pc' := 43) 0 dX12_best_42 rfl rfl ?_
        refine g_getI (pc' := 46) (z := 35) rfl fl_X12_351 rfl rfl dX12_best_43 rfl (fun rg16 => ?_)
        refine g_goto (tgt := 66) dX12_best_46 rfl ?_
        rw [if_neg c11 (α := Int) (t := i8 99 36) (e := (if (p1 = 2) then i8 99 35 else (if (i8 99 35 = 0) then (-10000) else i8 99 37))), if_pos c12 (α := Int) (t := i8 99 35) (e := (if (i8 99 35 = 0) then (-10000) else i8 99 37))] at hJ
        exact hJ
    · refine g_aload_n (pc' := 31) 0 dX12_best_30 rfl rfl ?_
      refine g_getI (pc' := 34) (z := 36) rfl fl_X12_354 rfl rfl dX12_best_31 rfl (fun rg17 => ?_)
      refine g_goto (tgt := 66) dX12_best_34 rfl ?_
      rw [if_pos c11 (α := Int) (t := i8 99 36) (e := (if (p1 = 2) then i8 99 35 else (if (i8 99 35 = 0) then (-10000) else i8 99 37)))] at hJ
      exact hJ
  have hk19g : (¬ ((1 ≤ p0 ∧ p0 ≤ 4095) ∧ (0 ≤ p1 ∧ p1 ≤ 2))) → gI w d X_X12_best P i l 16 [(0, vR (some 99)), (1, vI p0), (2, vI p1)] [] := by
    intro hp
    have h := hk19 hp
    refine g_sipush (pc' := 19) dX12_best_16 rfl rfl ?_
    exact g_retI rfl (rg_lit rfl) dX12_best_19 h
  refine g_if_eq (tgt := 16) (pc' := 7) rg2 (bI_eq _) dX12_best_4 rfl rfl (fun c4 => ?_) (fun c4n => ?_)
  · exact hk19g (fun q => c4 q.1)
  · have c4 := Decidable.of_not_not c4n
    refine g_iload_n (pc' := 8) 2 dX12_best_7 rfl rfl ?_
    refine g_iconst (pc' := 9) dX12_best_8 rfl ?_
    refine g_iconst (pc' := 10) dX12_best_9 rfl ?_
    refine g_pSI (pc' := 13) (vs := [vI p1, vI 0, vI 2]) (st := []) (val := bI (0 ≤ p1 ∧ p1 ≤ 2)) (sp_X12_lies (le_hd hd rfl) (hob5 c4) (rg_lit rfl) (rg_lit rfl)) mk_X12_lies ms_X12_lies lk_X12_106 rfl (Nat.le_of_ble_eq_true rfl) (Nat.le_of_ble_eq_true rfl) rfl dX12_best_10 rfl z2 (fun rg6 => ?_)
    refine g_if_ne (tgt := 20) (pc' := 16) rg6 (bI_eq _) dX12_best_13 rfl rfl (fun c7n => ?_) (fun c7 => ?_)
    · have c7 := Decidable.of_not_not c7n
      exact hk18g ⟨c4, c7⟩
    · exact hk19g (fun q => c7 q.2)
theorem e_X12_best {w : Wd} {d : Nat} {P : Int → IM → LM → Prop} {i : IM} {l : LM} {p0 : Int} {p1 : Int}  (h : gI w d X_X12_best P i l 0 [(0, vR (some 99)), (1, vI p0), (2, vI p1)] []) : cI w (d + 1) X_X12_best [vR (some 99), vI p0, vI p1] i l P := CI_of (by decide +kernel) (Nat.le_of_ble_eq_true rfl) h
