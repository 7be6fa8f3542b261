/-! a LAW is made -/
section
variable {w : Wd} {d : Nat} {i : IM} {l : LM}
theorem nwD_s {δ : Dl} {q : Shp} {a : Nat} (h : a < δ.1) : (nwD δ q).2.1 a = δ.2.1 a := if_neg (by omega)
theorem nwD_r {δ : Dl} {q : Shp} {a : Nat} (h : a < δ.1) (k : Int) : (nwD δ q).2.2 a k = δ.2.2 a k := if_neg (by omega)
def wL (w : Wd) (u m : Nat) : Wd := (w.1, w.2.1 + 4, fun a => if a = w.2.1 + 1 then u else if a = w.2.1 + 2 then m else if a = w.2.1 + 3 then 4 else w.2.2.1 a, w.2.2.2)
def dL (w : Wd) (u m : Nat) : Dl := nwD (nwD (nwD (nwD (dw w) (.inr 2)) (.inl (0, u))) (.inl (0, m))) (.inl (0, 4))
theorem rep_wL {u m : Nat} (hN : 125 ≤ w.2.1) (hN4 : (w.2.1 - 125) % 4 = 0) {E : GE} {H : Heap} (h : Rep E ((dL w u m).1, (dL w u m).2.1, u2r (u2r (u2r (dL w u m).2.2 w.2.1 0 (some (w.2.1 + 1))) w.2.1 1 (some (w.2.1 + 2))) w.2.1 2 (some (w.2.1 + 3))) i l H) : Rep E (dw (wL w u m)) i l H := by
  refine rep_cast (δ := ((dL w u m).1, (dL w u m).2.1, u2r (u2r (u2r (dL w u m).2.2 w.2.1 0 (some (w.2.1 + 1))) w.2.1 1 (some (w.2.1 + 2))) w.2.1 2 (some (w.2.1 + 3)))) (δ2 := dw (wL w u m)) rfl (fun a q ha => ?_) h
  have ha' : shW (w.2.1 + 4) (wL w u m).2.2.1 a = some q := ha
  have es : (dL w u m).2.1 a = if a = w.2.1 + 1 + 1 + 1 then some (.inl (0, 4)) else if a = w.2.1 + 1 + 1 then some (.inl (0, m)) else if a = w.2.1 + 1 then some (.inl (0, u)) else if a = w.2.1 then some (.inr 2) else shW w.2.1 w.2.2.1 a := rfl
  have er : ∀ k : Int, (dL w u m).2.2 a k = if a = w.2.1 + 1 + 1 + 1 then none else if a = w.2.1 + 1 + 1 then none else if a = w.2.1 + 1 then none else if a = w.2.1 then none else rfW w.2.2.2 a k := fun k => rfl
  show (dL w u m).2.1 a = some q ∧ ∀ j : Nat, rfIn q j → rfW w.2.2.2 a (j : Int) = u2r (u2r (u2r (dL w u m).2.2 w.2.1 0 (some (w.2.1 + 1))) w.2.1 1 (some (w.2.1 + 2))) w.2.1 2 (some (w.2.1 + 3)) a (j : Int)
  rw [es]
  unfold shW at ha'
  by_cases c1 : a < w.2.1
  · rw [if_neg (by omega), if_neg (by omega), if_neg (by omega), if_neg (by omega)]
    refine ⟨?_, fun j _ => ?_⟩
    · unfold shW
      by_cases c2 : a < 125
      · rw [if_pos c2] at ha' ⊢; exact ha'
      · rw [if_neg c2, if_pos (by omega)] at ha' ⊢
        by_cases c3 : (a - 125) % 4 = 0
        · rw [if_pos c3] at ha' ⊢; exact ha'
        · rw [if_neg c3] at ha' ⊢
          have el : (wL w u m).2.2.1 a = w.2.2.1 a := by
            show (if a = w.2.1 + 1 then u else if a = w.2.1 + 2 then m else if a = w.2.1 + 3 then 4 else w.2.2.1 a) = _
            rw [if_neg (by omega), if_neg (by omega), if_neg (by omega)]
          rw [el] at ha'
          exact ha'
    · rw [u2r_other _ _ _ (by omega), u2r_other _ _ _ (by omega), u2r_other _ _ _ (by omega), er, if_neg (by omega), if_neg (by omega), if_neg (by omega), if_neg (by omega)]
  · rw [if_neg (by omega)] at ha'
    by_cases c2 : a < w.2.1 + 4
    · rw [if_pos c2] at ha'
      by_cases c3 : a = w.2.1
      · subst c3
        rw [if_pos hN4] at ha'
        cases ha'
        rw [if_neg (by omega), if_neg (by omega), if_neg (by omega), if_pos rfl]
        refine ⟨rfl, fun j hj => ?_⟩
        have hj3 : j < 3 := hj.1
        have h3 : j = 0 ∨ j = 1 ∨ j = 2 := by omega
        have e0 : rfW w.2.2.2 w.2.1 (j : Int) = some (w.2.1 + 1 + j) := by
          unfold rfW
          rw [if_neg (by omega), Int.toNat_natCast]
        rw [e0, u2r_at, u2r_at, u2r_at]
        rcases h3 with rfl | rfl | rfl
        · exact (show _ = if ((0 : Nat) : Int) = 2 then _ else if ((0 : Nat) : Int) = 1 then _ else if ((0 : Nat) : Int) = 0 then some (w.2.1 + 1) else _ from rfl)
        · exact (show _ = if ((1 : Nat) : Int) = 2 then _ else if ((1 : Nat) : Int) = 1 then some (w.2.1 + 2) else _ from rfl)
        · exact (show _ = if ((2 : Nat) : Int) = 2 then some (w.2.1 + 3) else _ from rfl)
      · have hm : ¬ (a - 125) % 4 = 0 := by omega
        rw [if_neg hm] at ha'
        cases ha'
        refine ⟨?_, fun j hj => absurd (show 4 ≤ 0 from hj.1) (by decide)⟩
        show _ = some (Sum.inl (0, if a = w.2.1 + 1 then u else if a = w.2.1 + 2 then m else if a = w.2.1 + 3 then 4 else w.2.2.1 a))
        have h3 : a = w.2.1 + 1 ∨ a = w.2.1 + 2 ∨ a = w.2.1 + 3 := by omega
        rcases h3 with e | e | e
        · rw [if_neg (by omega), if_neg (by omega), if_pos e, if_pos e]
        · rw [if_neg (by omega), if_pos e, if_neg (by omega), if_pos e]
        · rw [if_pos e, if_neg (by omega), if_neg (by omega), if_pos e]
    · rw [if_neg c2] at ha'
      cases ha'
set_option maxRecDepth 20000 in
theorem mk_law {c u : Nat} {x : Int} {Post : PT} (hN : 125 ≤ w.2.1) (hN4 : (w.2.1 - 125) % 4 = 0) (hu : i 37 9 = (u : Int)) (hu4 : u ≤ 400) (hc : c < 12) (hP : ∀ i' l', (∀ a, a < w.2.1 → i' a = i a) → (∀ a, a < w.2.1 → l' a = l a) → (∀ k : Int, 0 ≤ k → k < u → i' (w.2.1 + 1) k = i 38 k) → (∀ k : Int, 0 ≤ k → k < 4 * ((c : Int) + 1) → i' (w.2.1 + 2) k = i 39 k) → (∀ k : Int, 0 ≤ k → k < 4 → i' (w.2.1 + 3) k = i 40 k) → Post (some (vR (some w.2.1))) (dw (wL w u (4 * (c + 1)))) i' l') : G w.1 (rmD (d + 4) 4 455) X_X7_lawOf (qM w.1 4 455 Post) 0 0 (dw w) i l 60 [(2, vI (c : Int)), (0, vR (some 37)), (1, vI x)] [] := by
  have s37 : (dw w).2.1 37 = some (.inr 7) := rfl
  have n1 : (nwD (dw w) (.inr 2)).1 = w.2.1 + 1 := rfl
  have n0 : (dw w).1 = w.2.1 := rfl
  refine g_new (pc' := 63) (c := 2) rfl rfl ck_law nq_2.1 nq_2.2 dX7_lawOf_60 rfl (by show 0 + 1 ≤ 4; omega) (by show 0 + 3 ≤ 455; omega) ?_
  refine g_dup (pc' := 64) dX7_lawOf_63 rfl rfl ?_
  refine g_aload_n (pc' := 65) 1 dX7_lawOf_64 rfl rfl ?_
  refine g_getR (pc' := 68) (o := some 38) (c := 7) fl_X7_11 ((nwD_s (by omega)).trans s37) rfl ((nwD_r (by omega) _).trans rfl) dX7_lawOf_65 rfl ?_
  refine g_aload_n (pc' := 69) 1 dX7_lawOf_68 rfl rfl ?_
  refine g_getI (pc' := 72) (z := 9) (c := 7) rfl fl_X7_36 ((nwD_s (by omega)).trans s37) rfl dX7_lawOf_69 rfl (fun _ => ?_)
  have e9 : nwI (dw w) i 37 9 = (u : Int) := (if_neg (by omega)).trans hu
  rw [e9]
  refine g_callS (pc' := 75) (Y := X_J7_copyOf_59c91) (vs := [vR (some 38), vI (u : Int)]) (st := [vR (some w.2.1), vR (some w.2.1)]) (sp_copyOf (d := d + 1) (N := 400) (n := u) (a := 38) (Post := fun r δ' i' l' => r = some (vR (some (w.2.1 + 1))) ∧ δ' = nwD (nwD (dw w) (.inr 2)) (.inl (0, u)) ∧ l' = nwL (nwD (dw w) (.inr 2)) (nwL (dw w) l) ∧ (∀ b, b ≠ w.2.1 + 1 → i' b = nwI (dw w) i b) ∧ ∀ k : Int, 0 ≤ k → k < u → i' (w.2.1 + 1) k = nwI (dw w) i 38 k) ((nwD_s (by omega)).trans rfl) (by omega) (by omega) hu4 (fun i' h1 h2 => ⟨rfl, rfl, rfl, h1, h2⟩)) mk_J7_copyOf_59c91 ms_J7_copyOf_59c91 lk_X7_58 rfl (Nat.le_of_ble_eq_true rfl) (rm_ok (Nat.le_of_ble_eq_true rfl)) ⟨by show 0 + 1 + 1 ≤ 4; omega, by show 0 + 3 + 400 ≤ 455; omega⟩ rfl dX7_lawOf_72 rfl ?_
  rintro r δ' i2 l2 ⟨rfl, rfl, rfl, a1, a2⟩
  have n2 : (nwD (nwD (dw w) (.inr 2)) (.inl (0, u))).1 = w.2.1 + 1 + 1 := rfl
  refine g_aload_n (pc' := 76) 1 dX7_lawOf_75 rfl rfl ?_
  refine g_getR (pc' := 79) (o := some 39) (c := 7) fl_X7_17 ((nwD_s (by omega)).trans ((nwD_s (by omega)).trans s37)) rfl ((nwD_r (by omega) _).trans ((nwD_r (by omega) _).trans rfl)) dX7_lawOf_76 rfl ?_
  refine g_iload_n (pc' := 80) 0 dX7_lawOf_79 rfl rfl ?_
  refine g_iconst (pc' := 81) dX7_lawOf_80 rfl ?_
  refine g_iadd (pc' := 82) dX7_lawOf_81 rfl ?_
  refine g_iconst (pc' := 83) dX7_lawOf_82 rfl ?_
  refine g_imul (pc' := 84) dX7_lawOf_83 rfl ?_
  have em : ((c : Int) + 1) * 4 = ((4 * (c + 1) : Nat) : Int) := by omega
  rw [em]
  refine g_callS (pc' := 87) (Y := X_J7_copyOf_59c91) (vs := [vR (some 39), vI ((4 * (c + 1) : Nat) : Int)]) (st := [vR (some (w.2.1 + 1)), vR (some w.2.1), vR (some w.2.1)]) (sp_copyOf (d := d + 1) (N := 48) (n := 4 * (c + 1)) (a := 39) (Post := fun r δ' i' l' => r = some (vR (some (w.2.1 + 2))) ∧ δ' = nwD (nwD (nwD (dw w) (.inr 2)) (.inl (0, u))) (.inl (0, 4 * (c + 1))) ∧ l' = nwL (nwD (nwD (dw w) (.inr 2)) (.inl (0, u))) (nwL (nwD (dw w) (.inr 2)) (nwL (dw w) l)) ∧ (∀ b, b ≠ w.2.1 + 2 → i' b = i2 b) ∧ ∀ k : Int, 0 ≤ k → k < ((4 * (c + 1) : Nat) : Int) → i' (w.2.1 + 2) k = i2 39 k) ((nwD_s (by omega)).trans ((nwD_s (by omega)).trans rfl)) (by omega) (by omega) (by omega) (fun i' h1 h2 => ⟨rfl, rfl, rfl, h1, h2⟩)) mk_J7_copyOf_59c91 ms_J7_copyOf_59c91 lk_X7_58 rfl (Nat.le_of_ble_eq_true rfl) (rm_ok (Nat.le_of_ble_eq_true rfl)) ⟨by show 0 + 1 + 1 + 1 ≤ 4; omega, by show 0 + 3 + 400 + 48 ≤ 455; omega⟩ rfl dX7_lawOf_84 rfl ?_
  rintro r δ' i3 l3 ⟨rfl, rfl, rfl, b1, b2⟩
  have n3 : (nwD (nwD (nwD (dw w) (.inr 2)) (.inl (0, u))) (.inl (0, 4 * (c + 1)))).1 = w.2.1 + 1 + 1 + 1 := rfl
  refine g_aload_n (pc' := 88) 1 dX7_lawOf_87 rfl rfl ?_
  refine g_getR (pc' := 91) (o := some 40) (c := 7) fl_X7_20 ((nwD_s (by omega)).trans ((nwD_s (by omega)).trans ((nwD_s (by omega)).trans s37))) rfl ((nwD_r (by omega) _).trans ((nwD_r (by omega) _).trans ((nwD_r (by omega) _).trans rfl))) dX7_lawOf_88 rfl ?_
  refine g_iconst (pc' := 92) dX7_lawOf_91 rfl ?_
  refine g_callS (pc' := 95) (Y := X_J7_copyOf_59c91) (vs := [vR (some 40), vI ((4 : Nat) : Int)]) (st := [vR (some (w.2.1 + 2)), vR (some (w.2.1 + 1)), vR (some w.2.1), vR (some w.2.1)]) (sp_copyOf (d := d + 1) (N := 4) (n := 4) (a := 40) (Post := fun r δ' i' l' => r = some (vR (some (w.2.1 + 3))) ∧ δ' = dL w u (4 * (c + 1)) ∧ l' = nwL (nwD (nwD (nwD (dw w) (.inr 2)) (.inl (0, u))) (.inl (0, 4 * (c + 1)))) (nwL (nwD (nwD (dw w) (.inr 2)) (.inl (0, u))) (nwL (nwD (dw w) (.inr 2)) (nwL (dw w) l))) ∧ (∀ b, b ≠ w.2.1 + 3 → i' b = i3 b) ∧ ∀ k : Int, 0 ≤ k → k < ((4 : Nat) : Int) → i' (w.2.1 + 3) k = i3 40 k) ((nwD_s (by omega)).trans ((nwD_s (by omega)).trans ((nwD_s (by omega)).trans rfl))) (by omega) (by omega) (by omega) (fun i' h1 h2 => ⟨rfl, rfl, rfl, h1, h2⟩)) mk_J7_copyOf_59c91 ms_J7_copyOf_59c91 lk_X7_58 rfl (Nat.le_of_ble_eq_true rfl) (rm_ok (Nat.le_of_ble_eq_true rfl)) ⟨by show 0 + 1 + 1 + 1 + 1 ≤ 4; omega, by show 0 + 3 + 400 + 48 + 4 ≤ 455; omega⟩ rfl dX7_lawOf_92 rfl ?_
  rintro r δ' i4 l4 ⟨rfl, rfl, rfl, c1, c2⟩
  have n4 : (dL w u (4 * (c + 1))).1 = w.2.1 + 1 + 1 + 1 + 1 := rfl
  have sN : (dL w u (4 * (c + 1))).2.1 w.2.1 = some (.inr 2) := (nwD_s (by omega)).trans ((nwD_s (by omega)).trans ((nwD_s (by omega)).trans (if_pos rfl)))
  refine g_callI (pc' := 98) (Y := X_X2_init) (b := w.2.1) (vs := [vR (some (w.2.1 + 1)), vR (some (w.2.1 + 2)), vR (some (w.2.1 + 3))]) (st := [vR (some w.2.1)]) (sp_X2_init (d := d + 2) (Post := fun r δ' i' l' => r = none ∧ δ' = ((dL w u (4 * (c + 1))).1, (dL w u (4 * (c + 1))).2.1, u2r (u2r (u2r (dL w u (4 * (c + 1))).2.2 w.2.1 0 (some (w.2.1 + 1))) w.2.1 1 (some (w.2.1 + 2))) w.2.1 2 (some (w.2.1 + 3))) ∧ i' = i4 ∧ l' = nwL (nwD (nwD (nwD (dw w) (.inr 2)) (.inl (0, u))) (.inl (0, 4 * (c + 1)))) (nwL (nwD (nwD (dw w) (.inr 2)) (.inl (0, u))) (nwL (nwD (dw w) (.inr 2)) (nwL (dw w) l)))) sN ⟨rfl, rfl, rfl, rfl⟩) mk_X2_init rfl rfl mi_X2_init lk_X7_62 rfl (Nat.le_of_ble_eq_true rfl) (rm_ok (Nat.le_of_ble_eq_true rfl)) ⟨by show 0 + 1 + 1 + 1 + 1 + 0 ≤ 4; omega, by show 0 + 3 + 400 + 48 + 4 + 0 ≤ 455; omega⟩ rfl dX7_lawOf_95 rfl ?_
  rintro r δ' i5 l5 ⟨rfl, rfl, rfl, rfl⟩
  refine g_rep (fun H hH => rep_wL hN hN4 hH) ?_
  refine g_aret (rt := .object "ThreeColours$Law") (by show 0 + 1 + 1 + 1 + 1 + 0 ≤ 4; omega) (by show 0 + 3 + 400 + 48 + 4 + 0 ≤ 455; omega) rfl (Or.inl ⟨_, rfl⟩) dX7_lawOf_98 ?_
  have w0 : ∀ b, b ≠ w.2.1 → nwI (dw w) i b = i b := fun b hb => funext fun k => if_neg hb
  refine hP _ _ (fun a ha => ?_) (fun a ha => ?_) (fun k k0 k1 => ?_) (fun k k0 k1 => ?_) (fun k k0 k1 => ?_)
  · rw [c1 a (by omega), b1 a (by omega), a1 a (by omega), w0 a (by omega)]
  · funext k
    show (if a = w.2.1 + 1 + 1 + 1 then 0 else if a = w.2.1 + 1 + 1 then 0 else if a = w.2.1 + 1 then 0 else if a = w.2.1 then 0 else l a k) = l a k
    rw [if_neg (by omega), if_neg (by omega), if_neg (by omega), if_neg (by omega)]
  · rw [c1 _ (by omega), b1 _ (by omega), a2 k k0 k1, w0 38 (by omega)]
  · rw [c1 _ (by omega), b2 k k0 (by omega), a1 39 (by omega), w0 39 (by omega)]
  · rw [c2 k k0 (by omega), b1 40 (by omega), a1 40 (by omega), w0 40 (by omega)]
end
