/-! THE LAW'S LOOP, and its beginning -/
section
theorem iand_63 (y : Int) : 0 ≤ iand y 63 ∧ iand y 63 ≤ 63 := by
  have h : ((Int32.ofInt y).toBitVec &&& 63#32).toNat ≤ 63 := by rw [BitVec.toNat_and]; exact Nat.and_le_right
  have e : iand y 63 = ((Int32.ofInt y).toBitVec &&& 63#32).toInt := rfl
  rw [e, BitVec.toInt_eq_toNat_of_lt (by omega)]
  omega
/-- what is wanted of law(), the one call that makes cells -/
def LawStep : Prop := ∀ (w : Wd) (k : Nat) (i : IM) (l : LM), k ≤ 100000 → BkA w → Inv w k i l → BoE w k 1000 4 455 X_X11_law X_X12_law [] i l
set_option maxRecDepth 100000 in
theorem lw_loop {L : Nat} {xs : Nat → Int32} (hL : L ≤ 3072) (hlaw : LawStep) : ∀ r t : Nat, L ≤ 6 * (t + r) → t ≤ 512 → ∀ (w : Wd) (i : IM) (l : LM) (c0 s0 : Nat), BkA w → Inv w (2 * t) i l → c0 ≤ 119 + 4 * t → s0 ≤ 31866 + 455 * t → G w.1 room_1 X_L_law (QL w.1 L xs) c0 s0 (dw w) i l 18 [(3, vI (6 * (t : Int))), (2, vR (some 99)), (1, vR (some 6)), (0, vR (some 0))] [] := by
  have hcell : room_1.cells = 600000 := rfl
  have hslot : room_1.slots = 7302250 := rfl
  intro r
  induction r with
  | zero =>
    intro t h1 h2 w i l c0 s0 hb hI hc hs
    refine g_iload_n (pc' := 19) 0 dL_law_18 rfl rfl ?_
    refine g_aload_n (pc' := 20) 3 dL_law_19 rfl rfl ?_
    refine g_slen (pc' := 21) (by omega) dL_law_20 rfl ?_
    refine g_bipush (pc' := 23) dL_law_21 rfl rfl ?_
    refine g_isub (pc' := 24) dL_law_23 rfl ?_
    refine g_icmp_gt (tgt := 1595) (pc' := 27) ⟨by omega, by omega⟩ ⟨by omega, by omega⟩ Iff.rfl dL_law_24 rfl rfl (fun c => ?_) (fun c => by omega)
    refine g_iconst (pc' := 1596) dL_law_1595 rfl ?_
    exact g_lawret dL_law_1596 (by omega) (by omega)
  | succ r ih =>
    intro t h1 h2 w i l c0 s0 hb hI hc hs
    refine g_iload_n (pc' := 19) 0 dL_law_18 rfl rfl ?_
    refine g_aload_n (pc' := 20) 3 dL_law_19 rfl rfl ?_
    refine g_slen (pc' := 21) (by omega) dL_law_20 rfl ?_
    refine g_bipush (pc' := 23) dL_law_21 rfl rfl ?_
    refine g_isub (pc' := 24) dL_law_23 rfl ?_
    refine g_icmp_gt (tgt := 1595) (pc' := 27) ⟨by omega, by omega⟩ ⟨by omega, by omega⟩ Iff.rfl dL_law_24 rfl rfl (fun c => ?_) (fun c => ?_)
    · refine g_iconst (pc' := 1596) dL_law_1595 rfl ?_
      exact g_lawret dL_law_1596 (by omega) (by omega)
    · refine g_aload_n (pc' := 28) 3 dL_law_27 rfl rfl ?_
      refine g_iload_n (pc' := 29) 0 dL_law_28 rfl rfl ?_
      refine g_sld (pc' := 30) ⟨by omega, by omega⟩ (by omega) dL_law_29 rfl ?_
      refine g_bipush (pc' := 32) dL_law_30 rfl rfl ?_
      refine g_iand (pc' := 33) dL_law_32 rfl ?_
      refine lw_disp (k := 2 * t) (iand_63 _) ⟨by omega, by omega⟩ hL (by omega) hb hI ⟨by omega, by omega⟩ (hlaw w (2 * t) i l (by omega) hb hI) (fun w1 i2 l2 c1 s1 e1 hb1 hI1 hc1 hs1 => ?_)
      have nx := ih (t + 1) (by omega) (by omega) w1 i2 l2 c1 s1 hb1 (by rw [show 2 * (t + 1) = 2 * t + 2 by omega]; exact hI1) (by omega) (by omega)
      rw [e1] at nx
      rw [show 6 * ((t + 1 : Nat) : Int) = 6 * (t : Int) + 6 by omega] at nx
      refine g_iinc (pc' := 1592) (L' := [(3, vI (6 * (t : Int) + 6)), (2, vR (some 99)), (1, vR (some 6)), (0, vR (some 0))]) 0 dL_law_1589 rfl (Nat.le_of_ble_eq_true rfl) rfl rfl ?_
      exact g_goto (tgt := 18) dL_law_1592 rfl nx
set_option maxRecDepth 20000 in
theorem lw_G (E : GE) {L : Nat} {xs : Nat → Int32} (hL : L ≤ 3072) (hlaw : LawStep) : G E room_1 X_L_law (QL E L xs) 0 0 zD0 zI0 zL 0 [(0, vR (some 0))] [] := by
  refine g_newN (pc' := 3) (δ2 := zD1) 6 (c1 := 1) (s1 := 19) (c := 11) (q := (RX11, TX11, 19)) rfl rfl rfl cq_L_7 nq_11.1 nq_11.2 dL_law_0 rfl rfl rfl (Nat.le_of_ble_eq_true rfl) (Nat.le_of_ble_eq_true rfl) (fun _ => rfl) rfl ?_
  refine g_dup (pc' := 4) dL_law_3 rfl rfl ?_
  refine g_ctor (pc' := 7) (c1 := 93) (s1 := 7347) (vs := []) (st := [vR (some 6)]) (ct_6 E) mk_X11_init rfl rfl mi_X11_init mq_L_9 rfl (Nat.le_of_ble_eq_true rfl) ⟨Nat.le_of_ble_eq_true rfl, Nat.le_of_ble_eq_true rfl⟩ rfl rfl ⟨Nat.le_of_ble_eq_true rfl, Nat.le_of_ble_eq_true rfl⟩ rfl dL_law_4 rfl ?_
  refine g_astore_n (pc' := 8) (L' := [(1, vR (some 6)), (0, vR (some 0))]) dL_law_7 rfl (Nat.le_of_ble_eq_true rfl) rfl ?_
  refine g_newN (pc' := 11) (δ2 := zD203) 99 (c1 := 94) (s1 := 7399) (c := 12) (q := (RX12, TX12, 52)) rfl rfl rfl cq_L_10 nq_12.1 nq_12.2 dL_law_8 rfl rfl rfl (Nat.le_of_ble_eq_true rfl) (Nat.le_of_ble_eq_true rfl) (fun _ => rfl) rfl ?_
  refine g_dup (pc' := 12) dL_law_11 rfl rfl ?_
  refine g_ctor (pc' := 15) (c1 := 119) (s1 := 31866) (vs := []) (st := [vR (some 99)]) (ct_99 E) mk_X12_init rfl rfl mi_X12_init mq_L_12 rfl (Nat.le_of_ble_eq_true rfl) ⟨Nat.le_of_ble_eq_true rfl, Nat.le_of_ble_eq_true rfl⟩ rfl rfl ⟨Nat.le_of_ble_eq_true rfl, Nat.le_of_ble_eq_true rfl⟩ rfl dL_law_12 rfl ?_
  refine g_astore_n (pc' := 16) (L' := [(2, vR (some 99)), (1, vR (some 6)), (0, vR (some 0))]) dL_law_15 rfl (Nat.le_of_ble_eq_true rfl) rfl ?_
  refine g_iconst (pc' := 17) dL_law_16 rfl ?_
  refine g_istore_n (pc' := 18) (L' := [(3, vI 0), (2, vR (some 99)), (1, vR (some 6)), (0, vR (some 0))]) dL_law_17 rfl (Nat.le_of_ble_eq_true rfl) rfl ?_
  refine g_rep (δ2 := dw (w0 E)) (i2 := zI141) (l2 := zL) (fun H hH => rep_w0 hH) ?_
  exact lw_loop hL hlaw 512 0 (by omega) (by omega) (w0 E) zI141 zL 119 31866 ⟨fun j a _ _ h => (by cases h), fun j a _ _ h => (by cases h), fun j a _ _ h => (by cases h), Nat.le_refl _, rfl⟩ (Inv0 E) (by omega) (by omega)
end
