/-! law() of the class, walked -/
section
variable {w : Wd} {e : Nat} {i : IM} {l : LM}
def laP (w : Wd) (B : Nat → Int) (n : Nat) (I : IM) (l : LM) : PT := fun r δ' J l' => (r = some (vR none) ∧ δ' = dw w ∧ l' = l ∧ ∃ q, pWhole (tT B n) = .inl q ∧ J 37 5 = (poT B n q : Int) ∧ clf I J) ∨ ∃ cs U, r = some (vR (some w.2.1)) ∧ δ' = dw (wL w U (4 * cs.length)) ∧ pWhole (tT B n) = .inr cs ∧ lawC (wL w U (4 * cs.length)) J w.2.1 cs ∧ (∀ a, a < w.2.1 → a ≠ 37 → a ≠ 38 → a ≠ 39 → a ≠ 40 → J a = I a) ∧ (∀ a, a < w.2.1 → l' a = l a)
set_option maxRecDepth 20000 in
theorem wk_law {n : Nat} {Post : PT} (hn : i 6 15 = (n : Int)) (hC : CT (BT i) n) (hN : 125 ≤ w.2.1) (hN4 : (w.2.1 - 125) % 4 = 0) (h12 : 0 ≤ i 7 12 ∧ i 7 12 ≤ 6) (hR5 : rg (i 36 3 + 1)) (hR6 : rg (i 36 4 + 1)) (hcg : rg (i 7 15 + 1)) (hfull : i 7 12 = 6 → Post (some (vI (-5))) (dw w) (cRef (u2 i 6 15 0) (-5) 3) l) (hbad : ¬ i 7 12 = 6 → ∀ q J, pWhole (tT (BT i) n) = .inl q → clf (u2 i 6 15 0) J → Post (some (vI (-6))) (dw w) (cRef (u2 J 6 16 (poT (BT i) n q : Int)) (-6) 4) l) (hok : ¬ i 7 12 = 6 → ∀ cs U J l', pWhole (tT (BT i) n) = .inr cs → lawC (wL w U (4 * cs.length)) J w.2.1 cs → (∀ a, a < w.2.1 → a ≠ 37 → a ≠ 38 → a ≠ 39 → a ≠ 40 → J a = (u2 i 6 15 0) a) → (∀ a, a < w.2.1 → l' a = l a) → Post (some (vI (i 7 12))) (dw (wB (wL w U (4 * cs.length)) 15 (i 7 12) (some w.2.1))) (cChg (u2 (u2 J 6 16 (-1)) 7 12 (i 7 12 + 1))) l') : Cn w.1 (e + 45) 4 455 X_X11_law [vR (some 6)] (dw w) i l Post := by
  have eB : BT (u2 i 6 15 0) = BT i := by funext j; show (u2 i 6 15 0) 35 _ = i 35 _; rw [u2_other _ _ _ (by decide)]
  have e12 : (u2 i 6 15 0) 7 12 = i 7 12 := by rw [u2_other _ _ _ (by decide)]
  refine Cn_of (by decide +kernel) (Nat.le_of_ble_eq_true rfl) ?_
  refine g_aload_n (pc' := 1) 0 dX11_law_0 rfl rfl ?_
  refine g_getI (pc' := 4) (z := 15) (c := 11) rfl fl_X11_192 rfl rfl dX11_law_1 rfl (fun _ => ?_)
  refine g_istore_n (pc' := 5) dX11_law_4 rfl (by decide) rfl ?_
  refine g_aload_n (pc' := 6) 1 dX11_law_5 rfl rfl ?_
  refine g_iconst (pc' := 7) dX11_law_6 rfl ?_
  refine g_putI (pc' := 10) (z := 15) (c := 11) rfl fp_X11_192 rfl rfl (rg_lit rfl) dX11_law_7 rfl ?_
  refine g_aload_n (pc' := 11) 1 dX11_law_10 rfl rfl ?_
  refine g_getR (pc' := 14) (o := some 7) (c := 11) fl_X11_10 rfl rfl rfl dX11_law_11 rfl ?_
  refine g_getI (pc' := 17) (z := 12) (c := 9) rfl fl_X11_206 rfl rfl dX11_law_14 rfl (fun rgl => ?_)
  refine g_bipush (pc' := 19) dX11_law_17 rfl rfl ?_
  rw [e12] at rgl ⊢
  rw [hn]
  refine g_icmp_lt (tgt := 29) (pc' := 22) rgl (rg_lit rfl) Iff.rfl dX11_law_19 rfl rfl (fun c1 => ?_) (fun c1 => ?_)
  · have hn6 : ¬ i 7 12 = 6 := by omega
    refine g_aload_n (pc' := 30) 1 dX11_law_29 rfl rfl ?_
    refine g_getR (pc' := 33) (o := some 37) (c := 11) fl_X11_32 rfl rfl rfl dX11_law_30 rfl ?_
    refine g_iload_n (pc' := 34) 0 dX11_law_33 rfl rfl ?_
    refine g_callV (pc' := 37) (Y := X_X7_lawOf) (vs := [vI (n : Int)]) (st := []) (c := 7) (sp_lawOf (w := w) (e := e) (i := u2 i 6 15 0) (l := l) (n := n) (Post := laP w (BT i) n (u2 i 6 15 0) l) (by rw [eB]; exact hC) hN hN4 (fun q J e1 a1 f1 => Or.inl ⟨rfl, rfl, rfl, q, by rw [← eB]; exact e1, by rw [← eB]; exact a1, f1⟩) (fun cs U J l' e1 k1 k2 k3 => Or.inr ⟨cs, U, rfl, rfl, by rw [← eB]; exact e1, k1, k2, k3⟩)) mv_X7_lawOf lk_X11_209 rfl rfl rfl rfl (Nat.le_of_ble_eq_true rfl) (rm_ok (Nat.le_of_ble_eq_true rfl)) ⟨by show 0 + 4 ≤ 4; omega, by show 0 + 455 ≤ 455; omega⟩ rfl dX11_law_34 rfl ?_
    intro r δ' J l' hP
    have z4 : 0 + 4 ≤ (rmD (e + 44 + 1) 4 455).cells ∧ 0 + 455 ≤ (rmD (e + 44 + 1) 4 455).slots := ⟨by show 0 + 4 ≤ 4; omega, by show 0 + 455 ≤ 455; omega⟩
    rcases hP with ⟨rfl, rfl, rfl, q, e1, a1, f1⟩ | ⟨cs, U, rfl, rfl, e1, k1, k2, k3⟩
    · refine g_astore_no (pc' := 38) (o := none) dX11_law_37 rfl (by decide) rfl ?_
      refine g_aload_no (pc' := 39) (o := none) 0 dX11_law_38 rfl rfl ?_
      refine g_ifnonnull_n (pc' := 42) dX11_law_39 rfl ?_
      refine g_aload_n (pc' := 43) 2 dX11_law_42 rfl rfl ?_
      refine g_aload_n (pc' := 44) 2 dX11_law_43 rfl rfl ?_
      refine g_getR (pc' := 47) (o := some 37) (c := 11) fl_X11_32 rfl rfl rfl dX11_law_44 rfl ?_
      refine g_cVI (pc' := 50) (vs := []) (st := [vR (some 6)]) (c := 7) (e_X7_place (w := w) (d := e + 43) (i := J) (l := l') (P := fun v i2 l2 => v = (poT (BT i) n q : Int) ∧ i2 = J ∧ l2 = l') (s_X7_place ⟨a1, rfl, rfl⟩)) mv_X7_place lk_X11_213 rfl rfl rfl rfl (Nat.le_of_ble_eq_true rfl) (Nat.le_of_ble_eq_true rfl) rfl dX11_law_47 rfl z4 (fun v i2 l2 rgv hv => ?_)
      obtain ⟨rfl, rfl, rfl⟩ := hv
      refine g_putI (pc' := 53) (z := 16) (c := 11) rfl fp_X11_103 rfl rfl rgv dX11_law_50 rfl ?_
      refine g_aload_n (pc' := 54) 2 dX11_law_53 rfl rfl ?_
      refine g_bipush (pc' := 56) dX11_law_54 rfl rfl ?_
      have e36 : (u2 i2 6 16 (poT (BT i) n q : Int)) 36 4 = i 36 4 := by rw [u2_other _ _ _ (by decide), f1 36 (by decide) (by decide) (by decide) (by decide), u2_other _ _ _ (by decide)]
      refine g_cVI (pc' := 59) (vs := [vI (-6)]) (st := []) (c := 11) (sp_X11_refuse (w := w) (d := e + 44) (i := u2 i2 6 16 (poT (BT i) n q : Int)) (l := l2) (P := fun v i3 l3 => v = -6 ∧ i3 = cRef (u2 i2 6 16 (poT (BT i) n q : Int)) (-6) 4 ∧ l3 = l2) (by omega) r6 (by rw [e36]; exact hR6) ⟨rfl, rfl, rfl⟩) mv_X11_refuse lk_X11_111 rfl rfl rfl rfl (Nat.le_of_ble_eq_true rfl) (Nat.le_of_ble_eq_true rfl) rfl dX11_law_56 rfl z4 (fun v i3 l3 rgv3 hv3 => ?_)
      obtain ⟨rfl, rfl, rfl⟩ := hv3
      exact g_iret (by omega) (by omega) rfl dX11_law_59 (hbad hn6 q _ e1 f1)
    · have e6 : ∀ a, a < 37 → J a = (u2 i 6 15 0) a := fun a ha => k2 a (by omega) (by omega) (by omega) (by omega) (by omega)
      have j12 : J 7 12 = i 7 12 := by rw [e6 7 (by decide), e12]
      have j15 : J 7 15 = i 7 15 := by rw [e6 7 (by decide), u2_other _ _ _ (by decide)]
      refine g_astore_n (pc' := 38) dX11_law_37 rfl (by decide) rfl ?_
      refine g_aload_n (pc' := 39) 0 dX11_law_38 rfl rfl ?_
      refine g_ifnonnull_s (tgt := 60) dX11_law_39 rfl ?_
      refine g_aload_n (pc' := 61) 2 dX11_law_60 rfl rfl ?_
      refine g_iconst (pc' := 62) dX11_law_61 rfl ?_
      refine g_putI (pc' := 65) (z := 16) (c := 11) rfl fp_X11_103 rfl rfl (rg_lit rfl) dX11_law_62 rfl ?_
      refine g_aload_n (pc' := 66) 2 dX11_law_65 rfl rfl ?_
      refine g_getR (pc' := 69) (o := some 7) (c := 11) fl_X11_10 rfl rfl rfl dX11_law_66 rfl ?_
      refine g_getR (pc' := 72) (o := some 15) (c := 9) fl_X11_217 rfl rfl rfl dX11_law_69 rfl ?_
      refine g_aload_n (pc' := 73) 2 dX11_law_72 rfl rfl ?_
      refine g_getR (pc' := 76) (o := some 7) (c := 11) fl_X11_10 rfl rfl rfl dX11_law_73 rfl ?_
      refine g_getI (pc' := 79) (z := 12) (c := 9) rfl fl_X11_206 rfl rfl dX11_law_76 rfl (fun _ => ?_)
      have m12 : (u2 J 6 16 (-1)) 7 12 = i 7 12 := by rw [u2_other _ _ _ (by decide), j12]
      rw [m12]
      refine g_aload_n (pc' := 80) 0 dX11_law_79 rfl rfl ?_
      refine g_bkst (w := wL w U (4 * cs.length)) (pc' := 81) (Or.inl rfl) ⟨h12.1, by omega⟩ (fun a ha => ?_) dX11_law_80 rfl ?_
      · cases ha
        show shW (w.2.1 + 4) _ w.2.1 = _
        unfold shW
        rw [if_neg (by omega), if_pos (by omega), if_pos hN4]
      refine g_aload_n (pc' := 82) 2 dX11_law_81 rfl rfl ?_
      refine g_getR (pc' := 85) (o := some 7) (c := 11) fl_X11_10 rfl rfl rfl dX11_law_82 rfl ?_
      refine g_dup (pc' := 86) dX11_law_85 rfl rfl ?_
      refine g_getI (pc' := 89) (z := 12) (c := 9) rfl fl_X11_206 rfl rfl dX11_law_86 rfl (fun _ => ?_)
      rw [m12]
      refine g_iconst (pc' := 90) dX11_law_89 rfl ?_
      refine g_iadd (pc' := 91) dX11_law_90 rfl ?_
      refine g_putI (pc' := 94) (z := 12) (c := 9) rfl fp_X11_206 rfl rfl ⟨by omega, by omega⟩ dX11_law_91 rfl ?_
      refine g_aload_n (pc' := 95) 2 dX11_law_94 rfl rfl ?_
      refine g_aload_n (pc' := 96) 2 dX11_law_95 rfl rfl ?_
      refine g_getR (pc' := 99) (o := some 7) (c := 11) fl_X11_10 rfl rfl rfl dX11_law_96 rfl ?_
      refine g_getI (pc' := 102) (z := 12) (c := 9) rfl fl_X11_206 rfl rfl dX11_law_99 rfl (fun _ => ?_)
      rw [u2_self]
      refine g_iconst (pc' := 103) dX11_law_102 rfl ?_
      refine g_isub (pc' := 104) dX11_law_103 rfl ?_
      rw [show i 7 12 + 1 - 1 = i 7 12 by omega]
      have q15 : (u2 (u2 J 6 16 (-1)) 7 12 (i 7 12 + 1)) 7 15 = i 7 15 := by rw [u2_at, if_neg (by decide), u2_other _ _ _ (by decide), j15]
      refine g_cVI (pc' := 107) (vs := [vI (i 7 12)]) (st := []) (c := 11) (sp_X11_changed (w := wB (wL w U (4 * cs.length)) 15 (i 7 12) (some w.2.1)) (d := e + 44) (i := u2 (u2 J 6 16 (-1)) 7 12 (i 7 12 + 1)) (l := l') (P := fun v i3 l3 => v = i 7 12 ∧ i3 = cChg (u2 (u2 J 6 16 (-1)) 7 12 (i 7 12 + 1)) ∧ l3 = l') (by omega) ⟨by omega, by omega⟩ (by rw [q15]; exact hcg) ⟨rfl, rfl, rfl⟩) mv_X11_changed lk_X11_122 rfl rfl rfl rfl (Nat.le_of_ble_eq_true rfl) (Nat.le_of_ble_eq_true rfl) rfl dX11_law_104 rfl z4 (fun v i3 l3 rgv3 hv3 => ?_)
      obtain ⟨rfl, rfl, rfl⟩ := hv3
      exact g_iret (by omega) (by omega) rfl dX11_law_107 (hok hn6 cs U J _ e1 k1 k2 k3)
  · refine g_aload_n (pc' := 23) 1 dX11_law_22 rfl rfl ?_
    refine g_bipush (pc' := 25) dX11_law_23 rfl rfl ?_
    have e36 : (u2 i 6 15 0) 36 3 = i 36 3 := by rw [u2_other _ _ _ (by decide)]
    refine g_cVI (pc' := 28) (vs := [vI (-5)]) (st := []) (c := 11) (sp_X11_refuse (w := w) (d := e + 44) (i := u2 i 6 15 0) (l := l) (P := fun v i3 l3 => v = -5 ∧ i3 = cRef (u2 i 6 15 0) (-5) 3 ∧ l3 = l) (by omega) r5 (by rw [e36]; exact hR5) ⟨rfl, rfl, rfl⟩) mv_X11_refuse lk_X11_111 rfl rfl rfl rfl (Nat.le_of_ble_eq_true rfl) (Nat.le_of_ble_eq_true rfl) rfl dX11_law_25 rfl z2 (fun v i3 l3 rgv3 hv3 => ?_)
    obtain ⟨rfl, rfl, rfl⟩ := hv3
    exact g_iret (by omega) (by omega) rfl dX11_law_28 (hfull (by omega))
end
