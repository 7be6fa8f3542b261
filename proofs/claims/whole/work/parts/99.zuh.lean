/-! image and back in the class: walks -/
theorem dX11_image_0 : decode cX11_image 0 = .ok (.iload_n 1, 1) := by decide +kernel
theorem dX11_image_1 : decode cX11_image 1 = .ok (.iconst 2, 1) := by decide +kernel
theorem dX11_image_2 : decode cX11_image 2 = .ok (.invokestatic 128, 3) := by decide +kernel
theorem dX11_image_5 : decode cX11_image 5 = .ok (.ifCond .ne 9, 3) := by decide +kernel
theorem dX11_image_8 : decode cX11_image 8 = .ok (.aload_n 0, 1) := by decide +kernel
theorem dX11_image_9 : decode cX11_image 9 = .ok (.iconst (-1), 1) := by decide +kernel
theorem dX11_image_10 : decode cX11_image 10 = .ok (.invokevirtual 111, 3) := by decide +kernel
theorem dX11_image_13 : decode cX11_image 13 = .ok (.ireturn, 1) := by decide +kernel
theorem dX11_image_14 : decode cX11_image 14 = .ok (.aload_n 0, 1) := by decide +kernel
theorem dX11_image_15 : decode cX11_image 15 = .ok (.getfield 16, 3) := by decide +kernel
theorem dX11_image_18 : decode cX11_image 18 = .ok (.iload_n 1, 1) := by decide +kernel
theorem dX11_image_19 : decode cX11_image 19 = .ok (.aaload, 1) := by decide +kernel
theorem dX11_image_20 : decode cX11_image 20 = .ok (.aload_n 0, 1) := by decide +kernel
theorem dX11_image_21 : decode cX11_image 21 = .ok (.getfield 10, 3) := by decide +kernel
theorem dX11_image_24 : decode cX11_image 24 = .ok (.invokevirtual 334, 3) := by decide +kernel
theorem dX11_image_27 : decode cX11_image 27 = .ok (.aload_n 0, 1) := by decide +kernel
theorem dX11_image_28 : decode cX11_image 28 = .ok (.dup, 1) := by decide +kernel
theorem dX11_image_29 : decode cX11_image 29 = .ok (.getfield 337, 3) := by decide +kernel
theorem dX11_image_32 : decode cX11_image 32 = .ok (.iconst 1, 1) := by decide +kernel
theorem dX11_image_33 : decode cX11_image 33 = .ok (.iload_n 1, 1) := by decide +kernel
theorem dX11_image_34 : decode cX11_image 34 = .ok (.ishl, 1) := by decide +kernel
theorem dX11_image_35 : decode cX11_image 35 = .ok (.ior, 1) := by decide +kernel
theorem dX11_image_36 : decode cX11_image 36 = .ok (.putfield 337, 3) := by decide +kernel
theorem dX11_image_39 : decode cX11_image 39 = .ok (.aload_n 0, 1) := by decide +kernel
theorem dX11_image_40 : decode cX11_image 40 = .ok (.iconst 0, 1) := by decide +kernel
theorem dX11_image_41 : decode cX11_image 41 = .ok (.invokevirtual 327, 3) := by decide +kernel
theorem dX11_image_44 : decode cX11_image 44 = .ok (.ireturn, 1) := by decide +kernel
theorem dX11_back_0 : decode cX11_back 0 = .ok (.iload_n 1, 1) := by decide +kernel
theorem dX11_back_1 : decode cX11_back 1 = .ok (.iconst 2, 1) := by decide +kernel
theorem dX11_back_2 : decode cX11_back 2 = .ok (.invokestatic 128, 3) := by decide +kernel
theorem dX11_back_5 : decode cX11_back 5 = .ok (.ifCond .ne 9, 3) := by decide +kernel
theorem dX11_back_8 : decode cX11_back 8 = .ok (.aload_n 0, 1) := by decide +kernel
theorem dX11_back_9 : decode cX11_back 9 = .ok (.iconst (-1), 1) := by decide +kernel
theorem dX11_back_10 : decode cX11_back 10 = .ok (.invokevirtual 111, 3) := by decide +kernel
theorem dX11_back_13 : decode cX11_back 13 = .ok (.ireturn, 1) := by decide +kernel
theorem dX11_back_14 : decode cX11_back 14 = .ok (.aload_n 0, 1) := by decide +kernel
theorem dX11_back_15 : decode cX11_back 15 = .ok (.getfield 337, 3) := by decide +kernel
theorem dX11_back_18 : decode cX11_back 18 = .ok (.iload_n 1, 1) := by decide +kernel
theorem dX11_back_19 : decode cX11_back 19 = .ok (.ishr, 1) := by decide +kernel
theorem dX11_back_20 : decode cX11_back 20 = .ok (.iconst 1, 1) := by decide +kernel
theorem dX11_back_21 : decode cX11_back 21 = .ok (.iand, 1) := by decide +kernel
theorem dX11_back_22 : decode cX11_back 22 = .ok (.ifCond .ne 10, 3) := by decide +kernel
theorem dX11_back_25 : decode cX11_back 25 = .ok (.aload_n 0, 1) := by decide +kernel
theorem dX11_back_26 : decode cX11_back 26 = .ok (.bipush (-2), 2) := by decide +kernel
theorem dX11_back_28 : decode cX11_back 28 = .ok (.invokevirtual 111, 3) := by decide +kernel
theorem dX11_back_31 : decode cX11_back 31 = .ok (.ireturn, 1) := by decide +kernel
theorem dX11_back_32 : decode cX11_back 32 = .ok (.aload_n 0, 1) := by decide +kernel
theorem dX11_back_33 : decode cX11_back 33 = .ok (.getfield 10, 3) := by decide +kernel
theorem dX11_back_36 : decode cX11_back 36 = .ok (.aload_n 0, 1) := by decide +kernel
theorem dX11_back_37 : decode cX11_back 37 = .ok (.getfield 16, 3) := by decide +kernel
theorem dX11_back_40 : decode cX11_back 40 = .ok (.iload_n 1, 1) := by decide +kernel
theorem dX11_back_41 : decode cX11_back 41 = .ok (.aaload, 1) := by decide +kernel
theorem dX11_back_42 : decode cX11_back 42 = .ok (.invokevirtual 334, 3) := by decide +kernel
theorem dX11_back_45 : decode cX11_back 45 = .ok (.aload_n 0, 1) := by decide +kernel
theorem dX11_back_46 : decode cX11_back 46 = .ok (.iconst 0, 1) := by decide +kernel
theorem dX11_back_47 : decode cX11_back 47 = .ok (.invokevirtual 122, 3) := by decide +kernel
theorem dX11_back_50 : decode cX11_back 50 = .ok (.ireturn, 1) := by decide +kernel
section
variable {w : Wd} {d : Nat} {i : IM} {l : LM}
theorem rmZz {mc ms : Nat} : 0 + 0 ≤ (rmD (d + 1) mc ms).cells ∧ 0 + 0 ≤ (rmD (d + 1) mc ms).slots := ⟨Nat.zero_le _, Nat.zero_le _⟩
set_option maxRecDepth 20000 in
theorem wk_image {Post : PT} (hd : 2 ≤ d) {p0 : Int} (h0 : rg p0) (hb : BkO w 15) (hR : rg (i 36 0 + 1)) (hno : ¬ (0 ≤ p0 ∧ p0 < 2) → Post (some (vI (-1))) (dw w) (cRef i (-1) 0) l) (hk0 : p0 = 0 → ∀ J, J = bcF (bcC i 7 17) 7 17 → Post (some (vI 0)) (dw (wC w 7 17)) (u2 (u2 J 6 14 (ior (J 6 14) (ishl 1 0))) 6 18 0) l) (hk1 : p0 = 1 → ∀ J, J = bcF (bcC i 7 26) 7 26 → Post (some (vI 0)) (dw (wC w 7 26)) (u2 (u2 J 6 14 (ior (J 6 14) (ishl 1 1))) 6 18 0) l) : Cn w.1 (d + 1) 0 0 X_X11_image [vR (some 6), vI p0] (dw w) i l Post := by
  refine Cn_of (by decide +kernel) (Nat.le_of_ble_eq_true rfl) ?_
  refine g_iload_n (pc' := 1) 1 dX11_image_0 rfl rfl ?_
  refine g_iconst (pc' := 2) dX11_image_1 rfl ?_
  refine g_pSI (pc' := 5) (vs := [vI p0, vI 2]) (st := []) (val := bI (0 ≤ p0 ∧ p0 < 2)) (sp_X11_below (by omega) h0 (rg_lit rfl)) mk_X11_below ms_X11_below lk_X11_128 rfl (Nat.le_of_ble_eq_true rfl) (Nat.le_of_ble_eq_true rfl) rfl dX11_image_2 rfl z2 (fun rg6 => ?_)
  refine g_if_ne (tgt := 14) (pc' := 8) rg6 (bI_eq _) dX11_image_5 rfl rfl (fun c7n => ?_) (fun c7 => ?_)
  · have c7 := Decidable.of_not_not c7n
    have h01 : p0 = 0 ∨ p0 = 1 := by omega
    rcases h01 with rfl | rfl
    · refine g_aload_n (pc' := 15) 0 dX11_image_14 rfl rfl ?_
      refine g_getR (pc' := 18) (o := some 16) fl_X11_16 rfl rfl rfl dX11_image_15 rfl ?_
      refine g_iload_n (pc' := 19) 1 dX11_image_18 rfl rfl ?_
      refine g_aald (pc' := 20) (n := 2) (N := 2) (o := some 17) rfl (Or.inl rfl) rfl (by decide) (by decide) rfl dX11_image_19 rfl ?_
      refine g_aload_n (pc' := 21) 0 dX11_image_20 rfl rfl ?_
      refine g_getR (pc' := 24) (o := some 7) fl_X11_10 rfl rfl rfl dX11_image_21 rfl ?_
      obtain ⟨d, rfl, hd1⟩ := d_pos (k := 1) hd
      refine g_callV (pc' := 27) (Y := X_X9_becomes) (vs := [vR (some 7)]) (st := []) (c := 9) (bc_17_7 (d := d) (Post := fun r δ' i' l' => r = none ∧ δ' = dw (wC w 7 17) ∧ i' = bcF (bcC i 7 17) 7 17 ∧ l' = l) hb ⟨rfl, rfl, rfl, rfl⟩) mv_X9_becomes lk_X11_334 rfl rfl rfl rfl (Nat.le_of_ble_eq_true rfl) (rm_ok (Nat.le_of_ble_eq_true rfl)) rmZz rfl dX11_image_24 rfl ?_
      rintro r δ' i' l' ⟨rfl, rfl, e, rfl⟩
      have hp := hk0 rfl i' e
      clear e
      refine g_aload_n (pc' := 28) 0 dX11_image_27 rfl rfl ?_
      refine g_dup (pc' := 29) dX11_image_28 rfl rfl ?_
      refine g_getI (pc' := 32) (z := 14) rfl fl_X11_337 rfl rfl dX11_image_29 rfl (fun rg9 => ?_)
      refine g_iconst (pc' := 33) dX11_image_32 rfl ?_
      refine g_iload_n (pc' := 34) 1 dX11_image_33 rfl rfl ?_
      refine g_ishl (pc' := 35) dX11_image_34 rfl ?_
      refine g_ior (pc' := 36) dX11_image_35 rfl ?_
      refine g_putI (pc' := 39) (z := 14) rfl fp_X11_337 rfl rfl (rg_ior _ _) dX11_image_36 rfl ?_
      refine g_aload_n (pc' := 40) 0 dX11_image_39 rfl rfl ?_
      refine g_iconst (pc' := 41) dX11_image_40 rfl ?_
      refine g_cVI (pc' := 44) (vs := [vI 0]) (st := []) (c := 11) (sp_X11_granted (w := wC w 7 17) (P := fun v i2 l2 => v = 0 ∧ i2 = u2 (u2 i' 6 14 (ior (i' 6 14) (ishl 1 0))) 6 18 0 ∧ l2 = l') (by omega) (rg_lit rfl) ⟨rfl, rfl, rfl⟩) mv_X11_granted lk_X11_327 rfl rfl rfl rfl (Nat.le_of_ble_eq_true rfl) (Nat.le_of_ble_eq_true rfl) rfl dX11_image_41 rfl z2 (fun r11 i11 l11 rg11 h => ?_)
      obtain ⟨rfl, rfl, rfl⟩ := h
      exact g_iret (Nat.le_refl _) (Nat.le_refl _) rfl dX11_image_44 hp
    · refine g_aload_n (pc' := 15) 0 dX11_image_14 rfl rfl ?_
      refine g_getR (pc' := 18) (o := some 16) fl_X11_16 rfl rfl rfl dX11_image_15 rfl ?_
      refine g_iload_n (pc' := 19) 1 dX11_image_18 rfl rfl ?_
      refine g_aald (pc' := 20) (n := 2) (N := 2) (o := some 26) rfl (Or.inl rfl) rfl (by decide) (by decide) rfl dX11_image_19 rfl ?_
      refine g_aload_n (pc' := 21) 0 dX11_image_20 rfl rfl ?_
      refine g_getR (pc' := 24) (o := some 7) fl_X11_10 rfl rfl rfl dX11_image_21 rfl ?_
      obtain ⟨d, rfl, hd1⟩ := d_pos (k := 1) hd
      refine g_callV (pc' := 27) (Y := X_X9_becomes) (vs := [vR (some 7)]) (st := []) (c := 9) (bc_26_7 (d := d) (Post := fun r δ' i' l' => r = none ∧ δ' = dw (wC w 7 26) ∧ i' = bcF (bcC i 7 26) 7 26 ∧ l' = l) hb ⟨rfl, rfl, rfl, rfl⟩) mv_X9_becomes lk_X11_334 rfl rfl rfl rfl (Nat.le_of_ble_eq_true rfl) (rm_ok (Nat.le_of_ble_eq_true rfl)) rmZz rfl dX11_image_24 rfl ?_
      rintro r δ' i' l' ⟨rfl, rfl, e, rfl⟩
      have hp := hk1 rfl i' e
      clear e
      refine g_aload_n (pc' := 28) 0 dX11_image_27 rfl rfl ?_
      refine g_dup (pc' := 29) dX11_image_28 rfl rfl ?_
      refine g_getI (pc' := 32) (z := 14) rfl fl_X11_337 rfl rfl dX11_image_29 rfl (fun rg9 => ?_)
      refine g_iconst (pc' := 33) dX11_image_32 rfl ?_
      refine g_iload_n (pc' := 34) 1 dX11_image_33 rfl rfl ?_
      refine g_ishl (pc' := 35) dX11_image_34 rfl ?_
      refine g_ior (pc' := 36) dX11_image_35 rfl ?_
      refine g_putI (pc' := 39) (z := 14) rfl fp_X11_337 rfl rfl (rg_ior _ _) dX11_image_36 rfl ?_
      refine g_aload_n (pc' := 40) 0 dX11_image_39 rfl rfl ?_
      refine g_iconst (pc' := 41) dX11_image_40 rfl ?_
      refine g_cVI (pc' := 44) (vs := [vI 0]) (st := []) (c := 11) (sp_X11_granted (w := wC w 7 26) (P := fun v i2 l2 => v = 0 ∧ i2 = u2 (u2 i' 6 14 (ior (i' 6 14) (ishl 1 1))) 6 18 0 ∧ l2 = l') (by omega) (rg_lit rfl) ⟨rfl, rfl, rfl⟩) mv_X11_granted lk_X11_327 rfl rfl rfl rfl (Nat.le_of_ble_eq_true rfl) (Nat.le_of_ble_eq_true rfl) rfl dX11_image_41 rfl z2 (fun r11 i11 l11 rg11 h => ?_)
      obtain ⟨rfl, rfl, rfl⟩ := h
      exact g_iret (Nat.le_refl _) (Nat.le_refl _) rfl dX11_image_44 hp
  · refine g_aload_n (pc' := 9) 0 dX11_image_8 rfl rfl ?_
    refine g_iconst (pc' := 10) dX11_image_9 rfl ?_
    refine g_cVI (pc' := 13) (vs := [vI (-1)]) (st := []) (c := 11) (sp_X11_refuse (w := w) (P := fun v i2 l2 => v = -1 ∧ i2 = cRef i (-1) 0 ∧ l2 = l) (by omega) r1 hR ⟨rfl, rfl, rfl⟩) mv_X11_refuse lk_X11_111 rfl rfl rfl rfl (Nat.le_of_ble_eq_true rfl) (Nat.le_of_ble_eq_true rfl) rfl dX11_image_10 rfl z2 (fun r11 i11 l11 rg11 h => ?_)
    obtain ⟨rfl, rfl, rfl⟩ := h
    exact g_iret (Nat.le_refl _) (Nat.le_refl _) rfl dX11_image_13 (hno c7)
set_option maxRecDepth 20000 in
theorem wk_back {Post : PT} (hd : 3 ≤ d) {p0 : Int} (h0 : rg p0) (hb0 : BkO w 25) (hb1 : BkO w 34) (hR : rg (i 36 0 + 1)) (hR2 : rg (i 36 1 + 1)) (hC : rg (i 7 15 + 1)) (hno : ¬ (0 ≤ p0 ∧ p0 < 2) → Post (some (vI (-1))) (dw w) (cRef i (-1) 0) l) (hn2 : (0 ≤ p0 ∧ p0 < 2) → iand (ishr (i 6 14) p0) 1 = 0 → Post (some (vI (-2))) (dw w) (cRef i (-2) 1) l) (hk0 : p0 = 0 → ¬ iand (ishr (i 6 14) p0) 1 = 0 → ∀ J, J = bcF (bcC i 17 7) 17 7 → Post (some (vI 0)) (dw (wC w 17 7)) (cChg J) l) (hk1 : p0 = 1 → ¬ iand (ishr (i 6 14) p0) 1 = 0 → ∀ J, J = bcF (bcC i 26 7) 26 7 → Post (some (vI 0)) (dw (wC w 26 7)) (cChg J) l) : Cn w.1 (d + 1) 0 0 X_X11_back [vR (some 6), vI p0] (dw w) i l Post := by
  refine Cn_of (by decide +kernel) (Nat.le_of_ble_eq_true rfl) ?_
  refine g_iload_n (pc' := 1) 1 dX11_back_0 rfl rfl ?_
  refine g_iconst (pc' := 2) dX11_back_1 rfl ?_
  refine g_pSI (pc' := 5) (vs := [vI p0, vI 2]) (st := []) (val := bI (0 ≤ p0 ∧ p0 < 2)) (sp_X11_below (by omega) h0 (rg_lit rfl)) mk_X11_below ms_X11_below lk_X11_128 rfl (Nat.le_of_ble_eq_true rfl) (Nat.le_of_ble_eq_true rfl) rfl dX11_back_2 rfl z2 (fun rg6 => ?_)
  refine g_if_ne (tgt := 14) (pc' := 8) rg6 (bI_eq _) dX11_back_5 rfl rfl (fun c7n => ?_) (fun c7 => ?_)
  · have c7 := Decidable.of_not_not c7n
    refine g_aload_n (pc' := 15) 0 dX11_back_14 rfl rfl ?_
    refine g_getI (pc' := 18) (z := 14) rfl fl_X11_337 rfl rfl dX11_back_15 rfl (fun rg9 => ?_)
    refine g_iload_n (pc' := 19) 1 dX11_back_18 rfl rfl ?_
    refine g_ishr (pc' := 20) dX11_back_19 rfl ?_
    refine g_iconst (pc' := 21) dX11_back_20 rfl ?_
    refine g_iand (pc' := 22) dX11_back_21 rfl ?_
    refine g_if_ne (tgt := 32) (pc' := 25) (rg_iand _ _) Iff.rfl dX11_back_22 rfl rfl (fun c8 => ?_) (fun c8 => ?_)
    · have h01 : p0 = 0 ∨ p0 = 1 := by omega
      rcases h01 with rfl | rfl
      · refine g_aload_n (pc' := 33) 0 dX11_back_32 rfl rfl ?_
        refine g_getR (pc' := 36) (o := some 7) fl_X11_10 rfl rfl rfl dX11_back_33 rfl ?_
        refine g_aload_n (pc' := 37) 0 dX11_back_36 rfl rfl ?_
        refine g_getR (pc' := 40) (o := some 16) fl_X11_16 rfl rfl rfl dX11_back_37 rfl ?_
        refine g_iload_n (pc' := 41) 1 dX11_back_40 rfl rfl ?_
        refine g_aald (pc' := 42) (n := 2) (N := 2) (o := some 17) rfl (Or.inl rfl) rfl (by decide) (by decide) rfl dX11_back_41 rfl ?_
        obtain ⟨d, rfl, hd1⟩ := d_pos (k := 2) hd
        refine g_callV (pc' := 45) (Y := X_X9_becomes) (vs := [vR (some 17)]) (st := []) (c := 9) (bc_7_17 (d := d) (Post := fun r δ' i' l' => r = none ∧ δ' = dw (wC w 17 7) ∧ i' = bcF (bcC i 17 7) 17 7 ∧ l' = l) hb0 ⟨rfl, rfl, rfl, rfl⟩) mv_X9_becomes lk_X11_334 rfl rfl rfl rfl (Nat.le_of_ble_eq_true rfl) (rm_ok (Nat.le_of_ble_eq_true rfl)) rmZz rfl dX11_back_42 rfl ?_
        rintro r δ' i' l' ⟨rfl, rfl, e, rfl⟩
        have hp := hk0 rfl c8 i' e
        have e715 : i' 7 15 = i 7 15 := by rw [e]; rfl
        clear e
        refine g_aload_n (pc' := 46) 0 dX11_back_45 rfl rfl ?_
        refine g_iconst (pc' := 47) dX11_back_46 rfl ?_
        refine g_cVI (pc' := 50) (vs := [vI 0]) (st := []) (c := 11) (sp_X11_changed (w := wC w 17 7) (P := fun v i2 l2 => v = 0 ∧ i2 = cChg i' ∧ l2 = l') (by omega) (rg_lit rfl) (by rw [e715]; exact hC) ⟨rfl, rfl, rfl⟩) mv_X11_changed lk_X11_122 rfl rfl rfl rfl (Nat.le_of_ble_eq_true rfl) (Nat.le_of_ble_eq_true rfl) rfl dX11_back_47 rfl z2 (fun r11 i11 l11 rg11 h => ?_)
        obtain ⟨rfl, rfl, rfl⟩ := h
        exact g_iret (Nat.le_refl _) (Nat.le_refl _) rfl dX11_back_50 hp
      · refine g_aload_n (pc' := 33) 0 dX11_back_32 rfl rfl ?_
        refine g_getR (pc' := 36) (o := some 7) fl_X11_10 rfl rfl rfl dX11_back_33 rfl ?_
        refine g_aload_n (pc' := 37) 0 dX11_back_36 rfl rfl ?_
        refine g_getR (pc' := 40) (o := some 16) fl_X11_16 rfl rfl rfl dX11_back_37 rfl ?_
        refine g_iload_n (pc' := 41) 1 dX11_back_40 rfl rfl ?_
        refine g_aald (pc' := 42) (n := 2) (N := 2) (o := some 26) rfl (Or.inl rfl) rfl (by decide) (by decide) rfl dX11_back_41 rfl ?_
        obtain ⟨d, rfl, hd1⟩ := d_pos (k := 2) hd
        refine g_callV (pc' := 45) (Y := X_X9_becomes) (vs := [vR (some 26)]) (st := []) (c := 9) (bc_7_26 (d := d) (Post := fun r δ' i' l' => r = none ∧ δ' = dw (wC w 26 7) ∧ i' = bcF (bcC i 26 7) 26 7 ∧ l' = l) hb1 ⟨rfl, rfl, rfl, rfl⟩) mv_X9_becomes lk_X11_334 rfl rfl rfl rfl (Nat.le_of_ble_eq_true rfl) (rm_ok (Nat.le_of_ble_eq_true rfl)) rmZz rfl dX11_back_42 rfl ?_
        rintro r δ' i' l' ⟨rfl, rfl, e, rfl⟩
        have hp := hk1 rfl c8 i' e
        have e715 : i' 7 15 = i 7 15 := by rw [e]; rfl
        clear e
        refine g_aload_n (pc' := 46) 0 dX11_back_45 rfl rfl ?_
        refine g_iconst (pc' := 47) dX11_back_46 rfl ?_
        refine g_cVI (pc' := 50) (vs := [vI 0]) (st := []) (c := 11) (sp_X11_changed (w := wC w 26 7) (P := fun v i2 l2 => v = 0 ∧ i2 = cChg i' ∧ l2 = l') (by omega) (rg_lit rfl) (by rw [e715]; exact hC) ⟨rfl, rfl, rfl⟩) mv_X11_changed lk_X11_122 rfl rfl rfl rfl (Nat.le_of_ble_eq_true rfl) (Nat.le_of_ble_eq_true rfl) rfl dX11_back_47 rfl z2 (fun r11 i11 l11 rg11 h => ?_)
        obtain ⟨rfl, rfl, rfl⟩ := h
        exact g_iret (Nat.le_refl _) (Nat.le_refl _) rfl dX11_back_50 hp
    · refine g_aload_n (pc' := 26) 0 dX11_back_25 rfl rfl ?_
      refine g_bipush (pc' := 28) dX11_back_26 rfl rfl ?_
      refine g_cVI (pc' := 31) (vs := [vI (-2)]) (st := []) (c := 11) (sp_X11_refuse (w := w) (P := fun v i2 l2 => v = -2 ∧ i2 = cRef i (-2) 1 ∧ l2 = l) (by omega) r2 hR2 ⟨rfl, rfl, rfl⟩) mv_X11_refuse lk_X11_111 rfl rfl rfl rfl (Nat.le_of_ble_eq_true rfl) (Nat.le_of_ble_eq_true rfl) rfl dX11_back_28 rfl z2 (fun r11 i11 l11 rg11 h => ?_)
      obtain ⟨rfl, rfl, rfl⟩ := h
      exact g_iret (Nat.le_refl _) (Nat.le_refl _) rfl dX11_back_31 (hn2 c7 c8)
  · refine g_aload_n (pc' := 9) 0 dX11_back_8 rfl rfl ?_
    refine g_iconst (pc' := 10) dX11_back_9 rfl ?_
    refine g_cVI (pc' := 13) (vs := [vI (-1)]) (st := []) (c := 11) (sp_X11_refuse (w := w) (P := fun v i2 l2 => v = -1 ∧ i2 = cRef i (-1) 0 ∧ l2 = l) (by omega) r1 hR ⟨rfl, rfl, rfl⟩) mv_X11_refuse lk_X11_111 rfl rfl rfl rfl (Nat.le_of_ble_eq_true rfl) (Nat.le_of_ble_eq_true rfl) rfl dX11_back_10 rfl z2 (fun r11 i11 l11 rg11 h => ?_)
    obtain ⟨rfl, rfl, rfl⟩ := h
    exact g_iret (Nat.le_refl _) (Nat.le_refl _) rfl dX11_back_13 (hno c7)
end
