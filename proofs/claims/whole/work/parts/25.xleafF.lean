theorem dJ0_length_8abf5_0 : decode cJ0_length_8abf5 0 = .ok (.aload_n 0, 1) := by decide +kernel
theorem dJ0_length_8abf5_1 : decode cJ0_length_8abf5 1 = .ok (.getfield 9, 3) := by decide +kernel
theorem dJ0_length_8abf5_4 : decode cJ0_length_8abf5 4 = .ok (.arraylength, 1) := by decide +kernel
theorem dJ0_length_8abf5_5 : decode cJ0_length_8abf5 5 = .ok (.aload_n 0, 1) := by decide +kernel
theorem dJ0_length_8abf5_6 : decode cJ0_length_8abf5 6 = .ok (.invokevirtual 335, 3) := by decide +kernel
theorem dJ0_length_8abf5_9 : decode cJ0_length_8abf5 9 = .ok (.ishr, 1) := by decide +kernel
theorem dJ0_length_8abf5_10 : decode cJ0_length_8abf5 10 = .ok (.ireturn, 1) := by decide +kernel
set_option maxRecDepth 20000 in
theorem s_J0_length_8abf5 {w : Wd} {d : Nat} {P : Int → IM → LM → Prop} {i : IM} {l : LM}   (hd : 1 ≤ d) (h : P (ishr 93 0) i l) : gI w d X_J0_length_8abf5 P i l 0 [(0, vR (some 3))] [] := by
  refine g_aload_n (pc' := 1) 0 dJ0_length_8abf5_0 rfl rfl ?_
  refine g_xval (pc' := 4) rfl dJ0_length_8abf5_1 rfl ?_
  refine g_xlen4 (pc' := 5) dJ0_length_8abf5_4 rfl ?_
  refine g_aload_n (pc' := 6) 0 dJ0_length_8abf5_5 rfl rfl ?_
  refine g_pXI (pc' := 9) (vs := []) (st := [vI 93]) (val := 0) (sp_coder (le_hd hd rfl) ) mv_J0_coder_7d493 lk_java_lang_String_335 rfl rfl (Nat.le_of_ble_eq_true rfl) (Nat.le_of_ble_eq_true rfl) rfl dJ0_length_8abf5_6 rfl z2 (fun rg1 => ?_)
  refine g_ishr (pc' := 10) dJ0_length_8abf5_9 rfl ?_
  exact g_retI rfl (rg_ishr _ _) dJ0_length_8abf5_10 h
theorem e_J0_length_8abf5 {w : Wd} {d : Nat} {P : Int → IM → LM → Prop} {i : IM} {l : LM}   (h : gI w d X_J0_length_8abf5 P i l 0 [(0, vR (some 3))] []) : cI w (d + 1) X_J0_length_8abf5 [vR (some 3)] i l P := CI_of (by decide +kernel) (Nat.le_of_ble_eq_true rfl) h

theorem dJ0_charAt_5068e_0 : decode cJ0_charAt_5068e 0 = .ok (.aload_n 0, 1) := by decide +kernel
theorem dJ0_charAt_5068e_1 : decode cJ0_charAt_5068e 1 = .ok (.invokevirtual 492, 3) := by decide +kernel
theorem dJ0_charAt_5068e_4 : decode cJ0_charAt_5068e 4 = .ok (.ifCond .eq 12, 3) := by decide +kernel
theorem dJ0_charAt_5068e_7 : decode cJ0_charAt_5068e 7 = .ok (.aload_n 0, 1) := by decide +kernel
theorem dJ0_charAt_5068e_8 : decode cJ0_charAt_5068e 8 = .ok (.getfield 9, 3) := by decide +kernel
theorem dJ0_charAt_5068e_11 : decode cJ0_charAt_5068e 11 = .ok (.iload_n 1, 1) := by decide +kernel
theorem dJ0_charAt_5068e_12 : decode cJ0_charAt_5068e 12 = .ok (.invokestatic 495, 3) := by decide +kernel
theorem dJ0_charAt_5068e_15 : decode cJ0_charAt_5068e 15 = .ok (.ireturn, 1) := by decide +kernel
set_option maxRecDepth 20000 in
theorem s_J0_charAt_5068e {w : Wd} {d : Nat} {P : Int → IM → LM → Prop} {i : IM} {l : LM} (p0 : Int)  (hd : 1 ≤ d) (h : cI w d X_J1_charAt_3b067 [vR (some 4), vI p0] i l (fun r2 i2 l2 => ((narrow .char (.int (Int32.ofInt r2)) = .int (Int32.ofInt r2)) ∧ P r2 i2 l2))) : gI w d X_J0_charAt_5068e P i l 0 [(0, vR (some 3)), (1, vI p0)] [] := by
  refine g_aload_n (pc' := 1) 0 dJ0_charAt_5068e_0 rfl rfl ?_
  refine g_pXI (pc' := 4) (vs := []) (st := []) (val := 1) (sp_isLatin1 (le_hd hd rfl) ) mv_J0_isLatin1_aae02 lk_java_lang_String_492 rfl rfl (Nat.le_of_ble_eq_true rfl) (Nat.le_of_ble_eq_true rfl) rfl dJ0_charAt_5068e_1 rfl z2 (fun rg1 => ?_)
  refine g_if_eq (tgt := 16) (pc' := 7) (rg_lit rfl) Iff.rfl dJ0_charAt_5068e_4 rfl rfl (fun c => absurd c (by decide)) (fun _ => ?_)
  refine g_aload_n (pc' := 8) 0 dJ0_charAt_5068e_7 rfl rfl ?_
  refine g_xval (pc' := 11) rfl dJ0_charAt_5068e_8 rfl ?_
  refine g_iload_n (pc' := 12) 1 dJ0_charAt_5068e_11 rfl rfl ?_
  refine g_cSI (pc' := 15) (vs := [vR (some 4), vI p0]) (st := []) h mk_J1_charAt_3b067 ms_J1_charAt_3b067 lk_java_lang_String_495 rfl (Nat.le_of_ble_eq_true rfl) (Nat.le_of_ble_eq_true rfl) rfl dJ0_charAt_5068e_12 rfl z2 (fun r2 i2 l2 rg2 h => ?_)
  obtain ⟨ob3, h⟩ := h
  exact g_nret (Nat.le_refl _) (Nat.le_refl _) rfl ob3 dJ0_charAt_5068e_15 ⟨rfl, _, rfl, rg2, h⟩
theorem e_J0_charAt_5068e {w : Wd} {d : Nat} {P : Int → IM → LM → Prop} {i : IM} {l : LM} {p0 : Int}  (h : gI w d X_J0_charAt_5068e P i l 0 [(0, vR (some 3)), (1, vI p0)] []) : cI w (d + 1) X_J0_charAt_5068e [vR (some 3), vI p0] i l P := CI_of (by decide +kernel) (Nat.le_of_ble_eq_true rfl) h
