theorem dJ3_checkIndex_8e157_0 : decode cJ3_checkIndex_8e157 0 = .ok (.iload_n 0, 1) := by decide +kernel
theorem dJ3_checkIndex_8e157_1 : decode cJ3_checkIndex_8e157 1 = .ok (.ifCond .lt 8, 3) := by decide +kernel
theorem dJ3_checkIndex_8e157_4 : decode cJ3_checkIndex_8e157 4 = .ok (.iload_n 0, 1) := by decide +kernel
theorem dJ3_checkIndex_8e157_5 : decode cJ3_checkIndex_8e157 5 = .ok (.iload_n 1, 1) := by decide +kernel
theorem dJ3_checkIndex_8e157_6 : decode cJ3_checkIndex_8e157 6 = .ok (.if_icmp .lt 10, 3) := by decide +kernel
theorem dJ3_checkIndex_8e157_9 : decode cJ3_checkIndex_8e157 9 = .ok (.aload_n 2, 1) := by decide +kernel
theorem dJ3_checkIndex_8e157_10 : decode cJ3_checkIndex_8e157 10 = .ok (.iload_n 0, 1) := by decide +kernel
theorem dJ3_checkIndex_8e157_11 : decode cJ3_checkIndex_8e157 11 = .ok (.iload_n 1, 1) := by decide +kernel
theorem dJ3_checkIndex_8e157_16 : decode cJ3_checkIndex_8e157 16 = .ok (.iload_n 0, 1) := by decide +kernel
theorem dJ3_checkIndex_8e157_17 : decode cJ3_checkIndex_8e157 17 = .ok (.ireturn, 1) := by decide +kernel
set_option maxRecDepth 20000 in
theorem s_J3_checkIndex_8e157 {w : Wd} {d : Nat} {P : Int → IM → LM → Prop} {i : IM} {l : LM} (p0 : Int) (p1 : Int) (o9 : Option Nat)  (h : ((rg p0) ∧ (¬ (p0 < 0) → rg p1) ∧ (((p0 < 0) ∨ (¬ (p0 < p1))) → False) ∧ ((¬ ((p0 < 0) ∨ (¬ (p0 < p1)))) → ((rg p0) ∧ P p0 i l)))) : gI w d X_J3_checkIndex_8e157 P i l 0 [(0, vI p0), (1, vI p1), (2, vR o9)] [] := by
  refine g_iload_n (pc' := 1) 0 dJ3_checkIndex_8e157_0 rfl rfl ?_
  obtain ⟨hob2, hob4, hk7, hk8⟩ := h
  have hk7g : ((p0 < 0) ∨ (¬ (p0 < p1))) → gI w d X_J3_checkIndex_8e157 P i l 9 [(0, vI p0), (1, vI p1), (2, vR o9)] [] := by
    intro hp
    have h := hk7 hp
    exact h.elim
  have hk8g : (¬ ((p0 < 0) ∨ (¬ (p0 < p1)))) → gI w d X_J3_checkIndex_8e157 P i l 16 [(0, vI p0), (1, vI p1), (2, vR o9)] [] := by
    intro hp
    have h := hk8 hp
    obtain ⟨ob6, h⟩ := h
    refine g_iload_n (pc' := 17) 0 dJ3_checkIndex_8e157_16 rfl rfl ?_
    exact g_retI rfl ob6 dJ3_checkIndex_8e157_17 h
  refine g_if_lt (tgt := 9) (pc' := 4) (hob2) Iff.rfl dJ3_checkIndex_8e157_1 rfl rfl (fun c3 => ?_) (fun c3 => ?_)
  · exact hk7g (Or.inl c3)
  · refine g_iload_n (pc' := 5) 0 dJ3_checkIndex_8e157_4 rfl rfl ?_
    refine g_iload_n (pc' := 6) 1 dJ3_checkIndex_8e157_5 rfl rfl ?_
    refine g_icmp_lt (tgt := 16) (pc' := 9) (hob2) (hob4 c3) Iff.rfl dJ3_checkIndex_8e157_6 rfl rfl (fun c5 => ?_) (fun c5 => ?_)
    · exact hk8g (fun q => q.elim c3 (fun q => q c5))
    · exact hk7g (Or.inr c5)
theorem e_J3_checkIndex_8e157 {w : Wd} {d : Nat} {P : Int → IM → LM → Prop} {i : IM} {l : LM} {p0 : Int} {p1 : Int} {o9 : Option Nat}  (h : gI w d X_J3_checkIndex_8e157 P i l 0 [(0, vI p0), (1, vI p1), (2, vR o9)] []) : cI w (d + 1) X_J3_checkIndex_8e157 [vI p0, vI p1, vR o9] i l P := CI_of (by decide +kernel) (Nat.le_of_ble_eq_true rfl) h

theorem dJ0_checkIndex_df160_0 : decode cJ0_checkIndex_df160 0 = .ok (.iload_n 0, 1) := by decide +kernel
theorem dJ0_checkIndex_df160_1 : decode cJ0_checkIndex_df160 1 = .ok (.iload_n 1, 1) := by decide +kernel
theorem dJ0_checkIndex_df160_2 : decode cJ0_checkIndex_df160 2 = .ok (.getstatic 1053, 3) := by decide +kernel
theorem dJ0_checkIndex_df160_5 : decode cJ0_checkIndex_df160 5 = .ok (.invokestatic 1059, 3) := by decide +kernel
theorem dJ0_checkIndex_df160_8 : decode cJ0_checkIndex_df160 8 = .ok (.pop, 1) := by decide +kernel
theorem dJ0_checkIndex_df160_9 : decode cJ0_checkIndex_df160 9 = .ok (.return_, 1) := by decide +kernel
set_option maxRecDepth 20000 in
theorem s_J0_checkIndex_df160 {w : Wd} {d : Nat} {P : IM → LM → Prop} {i : IM} {l : LM} (p0 : Int) (p1 : Int)  (h : ∀ o9 : Option Nat, cI w d X_J3_checkIndex_8e157 [vI p0, vI p1, vR o9] i l (fun r1 i1 l1 => P i1 l1)) : gV w d X_J0_checkIndex_df160 P i l 0 [(0, vI p0), (1, vI p1)] [] := by
  refine g_iload_n (pc' := 1) 0 dJ0_checkIndex_df160_0 rfl rfl ?_
  refine g_iload_n (pc' := 2) 1 dJ0_checkIndex_df160_1 rfl rfl ?_
  refine g_xfmt (pc' := 5) rfl dJ0_checkIndex_df160_2 rfl (fun o9 => ?_)
  have h := h o9
  refine g_cSI (pc' := 8) (vs := [vI p0, vI p1, vR o9]) (st := []) h mk_J3_checkIndex_8e157 ms_J3_checkIndex_8e157 lk_java_lang_String_1059 rfl (Nat.le_of_ble_eq_true rfl) (Nat.le_of_ble_eq_true rfl) rfl dJ0_checkIndex_df160_5 rfl z2 (fun r1 i1 l1 rg1 h => ?_)
  refine g_pop (pc' := 9) dJ0_checkIndex_df160_8 rfl rfl ?_
  exact g_retV rfl dJ0_checkIndex_df160_9 h
theorem e_J0_checkIndex_df160 {w : Wd} {d : Nat} {P : IM → LM → Prop} {i : IM} {l : LM} {p0 : Int} {p1 : Int}  (h : gV w d X_J0_checkIndex_df160 P i l 0 [(0, vI p0), (1, vI p1)] []) : cVd w (d + 1) X_J0_checkIndex_df160 [vI p0, vI p1] i l P := CV_of (by decide +kernel) (Nat.le_of_ble_eq_true rfl) h

theorem dJ1_charAt_3b067_0 : decode cJ1_charAt_3b067 0 = .ok (.iload_n 1, 1) := by decide +kernel
theorem dJ1_charAt_3b067_1 : decode cJ1_charAt_3b067 1 = .ok (.aload_n 0, 1) := by decide +kernel
theorem dJ1_charAt_3b067_2 : decode cJ1_charAt_3b067 2 = .ok (.arraylength, 1) := by decide +kernel
theorem dJ1_charAt_3b067_3 : decode cJ1_charAt_3b067 3 = .ok (.invokestatic 9, 3) := by decide +kernel
theorem dJ1_charAt_3b067_6 : decode cJ1_charAt_3b067 6 = .ok (.aload_n 0, 1) := by decide +kernel
theorem dJ1_charAt_3b067_7 : decode cJ1_charAt_3b067 7 = .ok (.iload_n 1, 1) := by decide +kernel
theorem dJ1_charAt_3b067_8 : decode cJ1_charAt_3b067 8 = .ok (.baload, 1) := by decide +kernel
theorem dJ1_charAt_3b067_9 : decode cJ1_charAt_3b067 9 = .ok (.sipush 255, 3) := by decide +kernel
theorem dJ1_charAt_3b067_12 : decode cJ1_charAt_3b067 12 = .ok (.iand, 1) := by decide +kernel
theorem dJ1_charAt_3b067_13 : decode cJ1_charAt_3b067 13 = .ok (.i2c, 1) := by decide +kernel
theorem dJ1_charAt_3b067_14 : decode cJ1_charAt_3b067 14 = .ok (.ireturn, 1) := by decide +kernel
set_option maxRecDepth 20000 in
theorem s_J1_charAt_3b067 {w : Wd} {d : Nat} {P : Int → IM → LM → Prop} {i : IM} {l : LM} (p1 : Int)  (h : cVd w d X_J0_checkIndex_df160 [vI p1, vI 93] i l (fun i1 l1 => ((0 ≤ p1 ∧ p1 < 93) ∧ (narrow .char (.int (Int32.ofInt (i16u (iand (hW p1) 255)))) = .int (Int32.ofInt (i16u (iand (hW p1) 255)))) ∧ P (i16u (iand (hW p1) 255)) i1 l1))) : gI w d X_J1_charAt_3b067 P i l 0 [(0, vR (some 4)), (1, vI p1)] [] := by
  refine g_iload_n (pc' := 1) 1 dJ1_charAt_3b067_0 rfl rfl ?_
  refine g_aload_n (pc' := 2) 0 dJ1_charAt_3b067_1 rfl rfl ?_
  refine g_xlen4 (pc' := 3) dJ1_charAt_3b067_2 rfl ?_
  refine g_cSV (pc' := 6) (vs := [vI p1, vI 93]) (st := []) h mk_J0_checkIndex_df160 ms_J0_checkIndex_df160 lk_java_lang_StringLatin1_9 rfl (Nat.le_of_ble_eq_true rfl) (Nat.le_of_ble_eq_true rfl) rfl dJ1_charAt_3b067_3 rfl z2 (fun i1 l1 h => ?_)
  obtain ⟨ob2, ob4, h⟩ := h
  refine g_aload_n (pc' := 7) 0 dJ1_charAt_3b067_6 rfl rfl ?_
  refine g_iload_n (pc' := 8) 1 dJ1_charAt_3b067_7 rfl rfl ?_
  refine g_xald4 (pc' := 9) ob2 dJ1_charAt_3b067_8 rfl (fun rg3 => ?_)
  refine g_sipush (pc' := 12) dJ1_charAt_3b067_9 rfl rfl ?_
  refine g_iand (pc' := 13) dJ1_charAt_3b067_12 rfl ?_
  refine g_i2c (pc' := 14) dJ1_charAt_3b067_13 rfl ?_
  exact g_nret (Nat.le_refl _) (Nat.le_refl _) rfl ob4 dJ1_charAt_3b067_14 ⟨rfl, _, rfl, (rg_i16u _), h⟩
theorem e_J1_charAt_3b067 {w : Wd} {d : Nat} {P : Int → IM → LM → Prop} {i : IM} {l : LM} {p1 : Int}  (h : gI w d X_J1_charAt_3b067 P i l 0 [(0, vR (some 4)), (1, vI p1)] []) : cI w (d + 1) X_J1_charAt_3b067 [vR (some 4), vI p1] i l P := CI_of (by decide +kernel) (Nat.le_of_ble_eq_true rfl) h

theorem dJ0_coder_7d493_0 : decode cJ0_coder_7d493 0 = .ok (.getstatic 38, 3) := by decide +kernel
theorem dJ0_coder_7d493_3 : decode cJ0_coder_7d493 3 = .ok (.ifCond .eq 10, 3) := by decide +kernel
theorem dJ0_coder_7d493_6 : decode cJ0_coder_7d493 6 = .ok (.aload_n 0, 1) := by decide +kernel
theorem dJ0_coder_7d493_7 : decode cJ0_coder_7d493 7 = .ok (.getfield 15, 3) := by decide +kernel
theorem dJ0_coder_7d493_10 : decode cJ0_coder_7d493 10 = .ok (.goto 4, 3) := by decide +kernel
theorem dJ0_coder_7d493_14 : decode cJ0_coder_7d493 14 = .ok (.ireturn, 1) := by decide +kernel
set_option maxRecDepth 20000 in
theorem s_J0_coder_7d493 {w : Wd} {d : Nat} {P : Int → IM → LM → Prop} {i : IM} {l : LM}   (h : ((narrow .byte (.int (Int32.ofInt 0)) = .int (Int32.ofInt 0)) ∧ P 0 i l)) : gI w d X_J0_coder_7d493 P i l 0 [(0, vR (some 3))] [] := by
  obtain ⟨ob1, h⟩ := h
  refine g_xcmp (pc' := 3) rfl dJ0_coder_7d493_0 rfl ?_
  refine g_if_eq (tgt := 13) (pc' := 6) (rg_lit rfl) Iff.rfl dJ0_coder_7d493_3 rfl rfl (fun c => absurd c (by decide)) (fun _ => ?_)
  refine g_aload_n (pc' := 7) 0 dJ0_coder_7d493_6 rfl rfl ?_
  refine g_xcod (pc' := 10) rfl dJ0_coder_7d493_7 rfl ?_
  refine g_goto (tgt := 14) dJ0_coder_7d493_10 rfl ?_
  exact g_nret (Nat.le_refl _) (Nat.le_refl _) rfl ob1 dJ0_coder_7d493_14 ⟨rfl, _, rfl, (rg_lit rfl), h⟩
theorem e_J0_coder_7d493 {w : Wd} {d : Nat} {P : Int → IM → LM → Prop} {i : IM} {l : LM}   (h : gI w d X_J0_coder_7d493 P i l 0 [(0, vR (some 3))] []) : cI w (d + 1) X_J0_coder_7d493 [vR (some 3)] i l P := CI_of (by decide +kernel) (Nat.le_of_ble_eq_true rfl) h

theorem dJ0_isLatin1_aae02_0 : decode cJ0_isLatin1_aae02 0 = .ok (.getstatic 38, 3) := by decide +kernel
theorem dJ0_isLatin1_aae02_3 : decode cJ0_isLatin1_aae02 3 = .ok (.ifCond .eq 14, 3) := by decide +kernel
theorem dJ0_isLatin1_aae02_6 : decode cJ0_isLatin1_aae02 6 = .ok (.aload_n 0, 1) := by decide +kernel
theorem dJ0_isLatin1_aae02_7 : decode cJ0_isLatin1_aae02 7 = .ok (.getfield 15, 3) := by decide +kernel
theorem dJ0_isLatin1_aae02_10 : decode cJ0_isLatin1_aae02 10 = .ok (.ifCond .ne 7, 3) := by decide +kernel
theorem dJ0_isLatin1_aae02_13 : decode cJ0_isLatin1_aae02 13 = .ok (.iconst 1, 1) := by decide +kernel
theorem dJ0_isLatin1_aae02_14 : decode cJ0_isLatin1_aae02 14 = .ok (.goto 4, 3) := by decide +kernel
theorem dJ0_isLatin1_aae02_18 : decode cJ0_isLatin1_aae02 18 = .ok (.ireturn, 1) := by decide +kernel
set_option maxRecDepth 20000 in
theorem s_J0_isLatin1_aae02 {w : Wd} {d : Nat} {P : Int → IM → LM → Prop} {i : IM} {l : LM}   (h : P 1 i l) : gI w d X_J0_isLatin1_aae02 P i l 0 [(0, vR (some 3))] [] := by
  refine g_xcmp (pc' := 3) rfl dJ0_isLatin1_aae02_0 rfl ?_
  refine g_if_eq (tgt := 17) (pc' := 6) (rg_lit rfl) Iff.rfl dJ0_isLatin1_aae02_3 rfl rfl (fun c => absurd c (by decide)) (fun _ => ?_)
  refine g_aload_n (pc' := 7) 0 dJ0_isLatin1_aae02_6 rfl rfl ?_
  refine g_xcod (pc' := 10) rfl dJ0_isLatin1_aae02_7 rfl ?_
  refine g_if_ne (tgt := 17) (pc' := 13) (rg_lit rfl) Iff.rfl dJ0_isLatin1_aae02_10 rfl rfl (fun c => absurd (by decide) c) (fun _ => ?_)
  refine g_iconst (pc' := 14) dJ0_isLatin1_aae02_13 rfl ?_
  refine g_goto (tgt := 18) dJ0_isLatin1_aae02_14 rfl ?_
  exact g_retZ rfl (by decide) dJ0_isLatin1_aae02_18 h
theorem e_J0_isLatin1_aae02 {w : Wd} {d : Nat} {P : Int → IM → LM → Prop} {i : IM} {l : LM}   (h : gI w d X_J0_isLatin1_aae02 P i l 0 [(0, vR (some 3))] []) : cI w (d + 1) X_J0_isLatin1_aae02 [vR (some 3)] i l P := CI_of (by decide +kernel) (Nat.le_of_ble_eq_true rfl) h
