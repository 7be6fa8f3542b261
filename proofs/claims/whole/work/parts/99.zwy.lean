/-! ONE CALL on both sides: law, the whole of it -/
section
variable {w : Wd} {d k : Nat} {i : IM} {l : LM}
theorem st_law (hd : 90 ≤ d) (hk : k ≤ 100000) (hb : BkA w) (hI : Inv w k i l) : BoE w k d 4 455 X_X11_law X_X12_law [] i l := by
  obtain ⟨A, hA⟩ := hI
  obtain ⟨e, rfl⟩ : ∃ e, d = e + 45 := ⟨d - 45, by omega⟩
  have tp := hA.2.2.2.1
  obtain ⟨n, hn⟩ := Int.eq_ofNat_of_zero_le tp.1.1
  have hn4 := tp.1.2.1
  have hC : CT (BT i) n := ⟨by omega, fun j hj => (tp.2 (j : Int) (by omega) (by omega)).1⟩
  have e12 : i 7 12 = i 101 311 := hA.1.1.1.2.2.2.2.2.2.2.2.2.2.1
  have h6 : 0 ≤ i 101 311 ∧ i 101 311 ≤ 6 := hA.1.2.1.1.1.2.2.2.2.1
  have hc := chg_rg hA hk
  have ms := hA.2.2.2.2.2.1
  have wd : Wrd i := hA.2.2.2.2.2.2.2
  have n10 : i 99 10 = (n : Int) := by rw [tp.1.2.2]; exact hn
  have hbm : ∀ Y : IM, Y 105 = i 105 → BM (BT i) n Y := fun Y hY => BM_of (fun j hj => by
    have := tp.2 (j : Int) (by omega) (by omega)
    rw [hY]
    exact this)
  refine wk_law (w := w) (e := e) hn hC hb.2.2.2.1 hb.2.2.2.2 (by omega) (ref_rg hA hk r5) (ref_rg hA hk r6) hc.1 (fun z => ?_) (fun z q J e1 f1 => ?_) (fun z cs U J l' e1 k1 k2 k3 => ?_)
  · refine ⟨-5, w, rfl, rg_lit rfl, rfl, rfl, hb, ?_⟩
    have yo : ∀ a, a ≠ 6 → a ≠ 36 → cRef (u2 i 6 15 0) (-5) 3 a = i a := fun a a1 a2 => by unfold cRef; rw [u2_other _ _ _ a2, u2_other _ _ _ a1, u2_other _ _ _ a1]
    have y6 : ∀ x : Int, cRef (u2 i 6 15 0) (-5) 3 6 x = if x = 18 then -5 else if x = 15 then 0 else i 6 x := fun x => by unfold cRef; rw [u2_other _ _ _ (by decide), u2_at, u2_at]
    have y36 : ∀ x : Int, cRef (u2 i 6 15 0) (-5) 3 36 x = if x = 3 then i 36 3 + 1 else i 36 x := fun x => by unfold cRef; rw [u2_at, u2_other _ _ _ (by decide), u2_other _ _ _ (by decide), u2_other _ _ _ (by decide)]
    generalize cRef (u2 i 6 15 0) (-5) 3 = Y at yo y6 y36 ⊢
    have y101 := yo 101 (by decide) (by decide)
    have y99 := yo 99 (by decide) (by decide)
    refine md_lawC (by omega) hC (by rw [y99]; exact n10) (hbm Y (yo 105 (by decide) (by decide))) (by unfold Wrd; rw [yo 104 (by decide) (by decide)]; exact wd) (by rw [y101]; exact h6) (fun y d1 e1 => ?_) (fun y => absurd (by rw [y101, ← e12]; exact z) y) (fun y => absurd (by rw [y101, ← e12]; exact z) y)
    refine ref_txt hA hk (by omega) r5 (fun a a1 a2 a3 a4 a5 => by rw [u2_other _ _ _ a4, yo a a1 a2]) (fun x hx => by rw [u2_other _ _ _ (by decide), y36, if_neg hx]) (by rw [u2_other _ _ _ (by decide), y36, if_pos rfl]) (fun x x1 x2 x3 => by rw [u2_other _ _ _ (by decide), y6, if_neg x3, if_neg x1]) (by rw [u2_other _ _ _ (by decide), y6, if_pos rfl]) (fun x x1 x2 x3 => by rw [u2_at, if_neg x1, y99]) ⟨by rw [u2_other _ _ _ (by decide), y6, if_neg (by decide), if_pos rfl], u2_self ..⟩ ?_
    rw [u2_other _ _ _ (by decide), y6, if_neg (by decide), if_neg (by decide), u2_at, if_neg (by decide), y99]
    exact ms.2.2
  · refine ⟨-6, w, rfl, rg_lit rfl, rfl, rfl, hb, ?_⟩
    have yo : ∀ a, a ≠ 6 → a ≠ 36 → ¬ (37 ≤ a ∧ a ≤ 40) → cRef (u2 J 6 16 (poT (BT i) n q : Int)) (-6) 4 a = i a := fun a a1 a2 a3 => by unfold cRef; rw [u2_other _ _ _ a2, u2_other _ _ _ a1, u2_other _ _ _ a1, f1 a (by omega) (by omega) (by omega) (by omega), u2_other _ _ _ a1]
    have y6 : ∀ x : Int, cRef (u2 J 6 16 (poT (BT i) n q : Int)) (-6) 4 6 x = if x = 18 then -6 else if x = 16 then (poT (BT i) n q : Int) else if x = 15 then 0 else i 6 x := fun x => by unfold cRef; rw [u2_other _ _ _ (by decide), u2_at, u2_at, f1 6 (by decide) (by decide) (by decide) (by decide), u2_at]
    have y36 : ∀ x : Int, cRef (u2 J 6 16 (poT (BT i) n q : Int)) (-6) 4 36 x = if x = 4 then i 36 4 + 1 else i 36 x := fun x => by unfold cRef; rw [u2_at, u2_other _ _ _ (by decide), u2_other _ _ _ (by decide), u2_other _ _ _ (by decide), f1 36 (by decide) (by decide) (by decide) (by decide), u2_other _ _ _ (by decide)]
    generalize cRef (u2 J 6 16 (poT (BT i) n q : Int)) (-6) 4 = Y at yo y6 y36 ⊢
    have y101 := yo 101 (by decide) (by decide) (by omega)
    have y99 := yo 99 (by decide) (by decide) (by omega)
    refine md_lawC (by omega) hC (by rw [y99]; exact n10) (hbm Y (yo 105 (by decide) (by decide) (by omega))) (by unfold Wrd; rw [yo 104 (by decide) (by decide) (by omega)]; exact wd) (by rw [y101]; exact h6) (fun y => absurd (by rw [← y101, y] : i 101 311 = 6) (by rw [← e12]; exact z)) (fun y q2 i' e2 f2 a1 a2 d1 ed => ?_) (fun y cs i' i2 e2 => by rw [e1] at e2; cases e2)
    rw [e1] at e2
    cases e2
    refine ref_txt hA hk (by omega) r6 (fun a b1 b2 b3 b4 b5 => by rw [f2.1 a b4 (by omega) (by omega) (by omega), yo a b1 b2 b3]) (fun x hx => by rw [f2.1 36 (by decide) (by decide) (by decide) (by decide), y36, if_neg hx]) (by rw [f2.1 36 (by decide) (by decide) (by decide) (by decide), y36, if_pos rfl]) (fun x x1 x2 x3 => by rw [f2.1 6 (by decide) (by decide) (by decide) (by decide), y6, if_neg x3, if_neg x2, if_neg x1]) (by rw [f2.1 6 (by decide) (by decide) (by decide) (by decide), y6, if_pos rfl]) (fun x x1 x2 x3 => by rw [f2.2 x x1 x2 (by omega) (by omega) (by omega) (by omega), y99]) ⟨by rw [f2.1 6 (by decide) (by decide) (by decide) (by decide), y6, if_neg (by decide), if_neg (by decide), if_pos rfl], a1⟩ ?_
    rw [f2.1 6 (by decide) (by decide) (by decide) (by decide), y6, if_neg (by decide), if_pos rfl, a2]
  · obtain ⟨t, et⟩ := Int.eq_ofNat_of_zero_le h6.1
    have et' : i 101 311 = (t : Int) := et
    have e7 : i 7 12 = (t : Int) := by rw [e12]; exact et'
    have ht6 : t < 6 := by omega
    have hN := hb.2.2.2.1
    rw [e7]
    refine ⟨(t : Int), wB (wL w U (4 * cs.length)) 15 (t : Int) (some w.2.1), rfl, ⟨by omega, by omega⟩, rfl, rfl, BkA_law hb, ?_⟩
    have jo : ∀ a, a < w.2.1 → a ≠ 6 → ¬ (37 ≤ a ∧ a ≤ 40) → J a = i a := fun a a0 a1 a2 => by rw [k2 a a0 (by omega) (by omega) (by omega) (by omega), u2_other _ _ _ a1]
    have j6 : ∀ x : Int, J 6 x = if x = 15 then 0 else i 6 x := fun x => by rw [k2 6 (by omega) (by decide) (by decide) (by decide) (by decide), u2_at]
    have yo : ∀ a, a ≠ 6 → a ≠ 7 → cChg (u2 (u2 J 6 16 (-1)) 7 12 ((t : Int) + 1)) a = J a := fun a a1 a2 => by unfold cChg; rw [u2_other _ _ _ a1, u2_other _ _ _ a2, u2_other _ _ _ a2, u2_other _ _ _ a1]
    have y6 : ∀ x : Int, cChg (u2 (u2 J 6 16 (-1)) 7 12 ((t : Int) + 1)) 6 x = if x = 18 then 0 else if x = 16 then -1 else J 6 x := fun x => by unfold cChg; rw [u2_at, u2_other _ _ _ (by decide), u2_other _ _ _ (by decide), u2_at]
    have y7 : ∀ x : Int, cChg (u2 (u2 J 6 16 (-1)) 7 12 ((t : Int) + 1)) 7 x = if x = 15 then i 7 15 + 1 else if x = 12 then (t : Int) + 1 else i 7 x := fun x => by
      unfold cChg
      rw [u2_other _ _ _ (by decide), u2_at, u2_at, u2_at, u2_other _ _ _ (by decide), jo 7 (by omega) (by decide) (by omega), if_neg (show ¬ (15 : Int) = 12 by decide)]
    generalize cChg (u2 (u2 J 6 16 (-1)) 7 12 ((t : Int) + 1)) = Y at yo y6 y7 ⊢
    have yi : ∀ a, a < w.2.1 → a ≠ 6 → a ≠ 7 → ¬ (37 ≤ a ∧ a ≤ 40) → Y a = i a := fun a a0 a1 a2 a3 => by rw [yo a a1 a2, jo a a0 a1 a3]
    have y101 := yi 101 (by omega) (by decide) (by decide) (by omega)
    have y99 := yi 99 (by omega) (by decide) (by decide) (by omega)
    have y311 : Y 101 311 = (t : Int) := by rw [y101]; exact et'
    refine md_lawC (by omega) hC (by rw [y99]; exact n10) (hbm Y (yi 105 (by omega) (by decide) (by decide) (by omega))) (by unfold Wrd; rw [yi 104 (by omega) (by decide) (by decide) (by omega)]; exact wd) (by rw [y101]; exact h6) (fun y => by omega) (fun y q2 i' e2 => by rw [e1] at e2; cases e2) (fun y cs2 i' i2 e2 f2 a1 a2 o2 kp d1 ed => ?_)
    rw [e1] at e2
    cases e2
    rw [y311] at kp ⊢
    rw [Int.toNat_natCast] at kp
    have c99 : ∀ x : Int, (u2 i2 101 311 ((t : Int) + 1)) 99 x = i' 99 x := fun x => by rw [u2_other _ _ _ (by decide), o2 99 (by decide)]
    have p1 : i' 99 1 = i 99 1 := by rw [f2.2 1 (by decide) (by decide) (by decide) (by decide) (by decide) (by decide), y99]
    refine sp_X12_good (by omega) ⟨by omega, by omega⟩ (by rw [c99, p1]; exact hc.2) ⟨rfl, ?_⟩
    have qo : ∀ a, a ≠ 99 → a ≠ 101 → ¬ (107 ≤ a ∧ a ≤ 109) → mGood (u2 i2 101 311 ((t : Int) + 1)) a = Y a := fun a b1 b2 b3 => by
      unfold mGood
      rw [u2_other _ _ _ b1, u2_other _ _ _ b1, u2_other _ _ _ b2, o2 a b2, f2.1 a b1 (by omega) (by omega) (by omega)]
    have q99 : ∀ x : Int, mGood (u2 i2 101 311 ((t : Int) + 1)) 99 x = if x = 1 then i 99 1 + 1 else if x = 0 then 0 else i' 99 x := fun x => by
      unfold mGood
      rw [u2_at, u2_at, c99, c99, p1]
    have q101 : ∀ x : Int, mGood (u2 i2 101 311 ((t : Int) + 1)) 101 x = if x = 311 then (t : Int) + 1 else i2 101 x := fun x => by
      unfold mGood
      rw [u2_other _ _ _ (by decide), u2_other _ _ _ (by decide), u2_at]
    generalize mGood (u2 i2 101 311 ((t : Int) + 1)) = M at qo q99 q101 ⊢
    have hT4 := nT_le (BT i) n
    have h400 := hC.1
    have b101 : ∀ x : Int, (u2 i' 101 (314 + (t : Int)) (nT (BT i) n : Int)) 101 x = if x = 314 + (t : Int) then (nT (BT i) n : Int) else i 101 x := fun x => by rw [u2_at, f2.1 101 (by decide) (by decide) (by decide) (by decide), y101]
    refine law_end hA hb hC et' ht6 e1 k1 (fun a b0 b1 b2 b3 b4 b5 b6 => by rw [qo a b4 b5 b6, yi a b0 b1 b2 b3]) (fun a b0 => by rw [qo a (by omega) (by omega) (by omega), yo a (by omega) (by omega)]) (fun x => by rw [qo 6 (by decide) (by decide) (by omega), y6, j6]) (fun x => by rw [qo 7 (by decide) (by decide) (by omega), y7]) ⟨?_, ?_, ?_, ?_, fun x x1 x2 x3 x4 x5 => ?_⟩ (fun x x1 x2 x3 x4 => ?_) ?_ ?_ (fun q hq => ⟨?_, ?_⟩)
    · rw [q99, if_neg (by decide), if_pos rfl]
    · rw [q99, if_pos rfl]
    · rw [q99, if_neg (by decide), if_neg (by decide), a1]
    · rw [q99, if_neg (by decide), if_neg (by decide), a2]
    · rw [q99, if_neg x2, if_neg x1, f2.2 x x3 x4 (by omega) (by omega) (by omega) (by omega), y99]
    · rw [q101, if_neg x1, kp, if_neg (by omega), if_neg (by omega), b101, if_neg x2]
    · rw [q101, if_pos rfl]
    · rw [q101, if_neg (by omega), kp, if_neg (by omega), if_neg (by omega), b101, if_pos rfl]
    · rw [q101, if_neg (by omega), kp, if_pos (by omega), show (320 + ((400 * t + q : Nat) : Int) - (320 + 400 * (t : Int))).toNat = q by omega]
    · rw [q101, if_neg (by omega), kp, if_neg (by omega), if_pos (by omega), show (2720 + ((400 * t + q : Nat) : Int) - (2720 + 400 * (t : Int))).toNat = q by omega]
end
