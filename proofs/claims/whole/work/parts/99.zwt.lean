/-! lawOf, law() of the class -/
section
variable {w : Wd} {e : Nat} {i : IM} {l : LM}
theorem skT_0 {B : Nat → Int} {n : Nat} : skT B n 0 = poT B n 0 := rfl
set_option maxRecDepth 20000 in
theorem sp_lawOf {n : Nat} {Post : PT} (hC : CT (BT i) n) (hN : 125 ≤ w.2.1) (hN4 : (w.2.1 - 125) % 4 = 0) (hF : ∀ q J', pWhole (tT (BT i) n) = .inl q → J' 37 5 = (poT (BT i) n q : Int) → clf i J' → Post (some (vR none)) (dw w) J' l) (hO : ∀ cs U i' l', pWhole (tT (BT i) n) = .inr cs → lawC (wL w U (4 * cs.length)) i' w.2.1 cs → (∀ a, a < w.2.1 → a ≠ 37 → a ≠ 38 → a ≠ 39 → a ≠ 40 → i' a = i a) → (∀ a, a < w.2.1 → l' a = l a) → Post (some (vR (some w.2.1))) (dw (wL w U (4 * cs.length))) i' l') : Cn w.1 (e + 44) 4 455 X_X7_lawOf [vR (some 37), vI (n : Int)] (dw w) i l Post := by
  have h400 := hC.1
  refine Cn_of (by decide +kernel) (Nat.le_of_ble_eq_true rfl) ?_
  refine g_aload_n (pc' := 1) 0 dX7_lawOf_0 rfl rfl ?_
  refine g_iload_n (pc' := 2) 1 dX7_lawOf_1 rfl rfl ?_
  refine g_putI (pc' := 5) (z := 4) (c := 7) rfl fp_X7_30 rfl rfl ⟨by omega, by omega⟩ dX7_lawOf_2 rfl ?_
  refine g_aload_n (pc' := 6) 0 dX7_lawOf_5 rfl rfl ?_
  refine g_iconst (pc' := 7) dX7_lawOf_6 rfl ?_
  refine g_putI (pc' := 10) (z := 6) (c := 7) rfl fp_X7_33 rfl rfl (rg_lit rfl) dX7_lawOf_7 rfl ?_
  refine g_aload_n (pc' := 11) 0 dX7_lawOf_10 rfl rfl ?_
  refine g_iconst (pc' := 12) dX7_lawOf_11 rfl ?_
  refine g_putI (pc' := 15) (z := 9) (c := 7) rfl fp_X7_36 rfl rfl (rg_lit rfl) dX7_lawOf_12 rfl ?_
  refine g_aload_n (pc' := 16) 0 dX7_lawOf_15 rfl rfl ?_
  refine g_iconst (pc' := 17) dX7_lawOf_16 rfl ?_
  refine g_putI (pc' := 20) (z := 10) (c := 7) rfl fp_X7_39 rfl rfl (rg_lit rfl) dX7_lawOf_17 rfl ?_
  refine g_aload_n (pc' := 21) 0 dX7_lawOf_20 rfl rfl ?_
  refine g_getR (pc' := 24) (o := some 40) (c := 7) fl_X7_20 rfl rfl rfl dX7_lawOf_21 rfl ?_
  refine g_iconst (pc' := 25) dX7_lawOf_24 rfl ?_
  refine g_cSV (pc' := 28) (vs := [vR (some 40), vI (-1)]) (st := []) (sp_fill (w := w) (d := e + 43) (n := 4) (by omega) rfl (by decide) (rg_lit rfl)) mk_J7_fill_53178 ms_J7_fill_53178 lk_X7_42 rfl (Nat.le_of_ble_eq_true rfl) (Nat.le_of_ble_eq_true rfl) rfl dX7_lawOf_25 rfl z2 (fun I0 l0 hP0 => ?_)
  obtain ⟨rfl, rfl⟩ := hP0
  have g37 : ∀ x : Int, (fillA (u2 (u2 (u2 (u2 i 37 4 (n : Int)) 37 6 0) 37 9 0) 37 10 0) 40 ((4 : Nat) : Int) (-1)) 37 x = if x = 10 then 0 else if x = 9 then 0 else if x = 6 then 0 else if x = 4 then (n : Int) else i 37 x := fun x => by
    unfold fillA
    rw [if_neg (by omega), u2_at, u2_at, u2_at, u2_at]
  have g40 : ∀ x : Int, 0 ≤ x → x < 4 → (fillA (u2 (u2 (u2 (u2 i 37 4 (n : Int)) 37 6 0) 37 9 0) 37 10 0) 40 ((4 : Nat) : Int) (-1)) 40 x = -1 := fun x x0 x1 => by
    unfold fillA
    exact if_pos ⟨rfl, x0, by omega⟩
  have go : ∀ a, a ≠ 37 → a ≠ 40 → (fillA (u2 (u2 (u2 (u2 i 37 4 (n : Int)) 37 6 0) 37 9 0) 37 10 0) 40 ((4 : Nat) : Int) (-1)) a = i a := fun a a1 a2 => by
    funext x
    unfold fillA
    rw [if_neg (fun z => a2 z.1), u2_other _ _ _ a1, u2_other _ _ _ a1, u2_other _ _ _ a1, u2_other _ _ _ a1]
  generalize fillA (u2 (u2 (u2 (u2 i 37 4 (n : Int)) 37 6 0) 37 9 0) 37 10 0) 40 ((4 : Nat) : Int) (-1) = I0 at g37 g40 go ⊢
  have eB : BT I0 = BT i := by funext j; show I0 35 _ = i 35 _; rw [go 35 (by decide) (by decide)]
  refine g_aload_n (pc' := 29) 0 dX7_lawOf_28 rfl rfl ?_
  refine g_cVV (pc' := 32) (vs := []) (st := []) (c := 7) (sp_X7_step (w := w) (d := e + 43) (i := I0) (l := l0) (n := n) (q := 0) (P := fun J2 l2 => l2 = l0 ∧ stf I0 J2 ∧ Rd1 (BT I0) n (skT (BT I0) n 0) J2) (by omega) h400 (by rw [g37, if_neg (by decide), if_neg (by decide), if_neg (by decide), if_pos rfl]) (by rw [g37, if_neg (by decide), if_neg (by decide), if_pos rfl]; rfl) (Nat.zero_le _) (fun J2 f2 r2 => ⟨rfl, f2, r2⟩)) mv_X7_step lk_X7_48 rfl rfl rfl rfl (Nat.le_of_ble_eq_true rfl) (Nat.le_of_ble_eq_true rfl) rfl dX7_lawOf_29 rfl z2 (fun J2 l2 hP2 => ?_)
  obtain ⟨rfl, f2, r2⟩ := hP2
  refine g_iconst (pc' := 33) dX7_lawOf_32 rfl ?_
  refine g_istore_n (pc' := 34) dX7_lawOf_33 rfl (by decide) rfl ?_
  rw [eB, skT_0] at r2
  refine lp_lawOf (i := i) hC hN hN4 12 [] 0 0 0 J2 rfl ⟨?_, ?_, r2, ?_, ?_⟩ (fun a a1 a2 a3 a4 => ?_) (Nat.zero_le _) (by omega) (Nat.le_refl _) rfl ⟨trivial, fun h hh => ?_⟩ hF hO
  · rw [← eB]; funext j; show J2 35 _ = I0 35 _; rw [f2.1 35 (by decide)]
  · rw [f2.2 4 (by decide) (by decide) (by decide) (by decide), g37, if_neg (by decide), if_neg (by decide), if_neg (by decide), if_pos rfl]
  · rw [f2.2 9 (by decide) (by decide) (by decide) (by decide), g37, if_neg (by decide), if_pos rfl]; rfl
  · rw [f2.2 10 (by decide) (by decide) (by decide) (by decide), g37, if_pos rfl]; rfl
  · rw [f2.1 a a1, go a a1 a4]
  · have e40 : J2 40 (h : Int) = -1 := by rw [f2.1 40 (by decide), g40 _ (by omega) (by omega)]
    rw [e40]
    exact ⟨⟨by omega, by omega⟩, ⟨fun z => by omega, fun ⟨c, hc, _⟩ => (by cases hc)⟩, fun c hc => (by cases hc)⟩
end
