/-! ONE CALL on both sides: feed -/
section
variable {w : Wd} {d k : Nat} {i : IM} {l : LM}
theorem iand_255 (y : Int) : 0 ≤ iand y 255 ∧ iand y 255 ≤ 255 := by
  have h : ((Int32.ofInt y).toBitVec &&& 255#32).toNat ≤ 255 := by rw [BitVec.toNat_and]; exact Nat.and_le_right
  have e : iand y 255 = ((Int32.ofInt y).toBitVec &&& 255#32).toInt := rfl
  rw [e, BitVec.toInt_eq_toNat_of_lt (by omega)]
  omega
theorem i8_255 (y : Int) : i8 (i8 y) = i8 (iand y 255) := by
  unfold i8 iand
  rw [Int32.ofInt_toInt, Int32.ofInt_toInt, Int8.toInt8_toInt32, Int32.toInt8_and]
  have e : (Int32.ofInt 255).toInt8 = -1 := by decide
  rw [e, Int8.and_neg_one]
def fdB (p : Int) (j : Int) : Int := iand (ishr p (24 - 8 * j)) 255
def apR (i i' : IM) (p n : Int) (t : Nat) : Prop := (∀ a, a ≠ 6 → a ≠ 35 → i' a = i a) ∧ (∀ x : Int, x ≠ 15 → i' 6 x = i 6 x) ∧ i' 6 15 = n + (t : Int) ∧ (∀ j : Int, (j < n ∨ n + (t : Int) ≤ j) → i' 35 j = i 35 j) ∧ (∀ j : Int, 0 ≤ j → j < (t : Int) → i' 35 (n + j) = fdB p j)
theorem lp_app {P : IM → LM → Prop} {p n : Int} (h0 : 0 ≤ n) (h1 : n + 4 ≤ 400) (hP : ∀ i', apR i i' p n 4 → P i' l) : ∀ r t : Nat, t + r = 4 → ∀ i', apR i i' p n t → gV w d X_X11_append P i' l 3 [(0, vR (some 6)), (1, vI p), (2, vI (24 - 8 * (t : Int)))] [] := by
  intro r
  induction r with
  | zero =>
    intro t ht i' ha
    have e : t = 4 := by omega
    subst e
    refine s_X11_append_3 _ _ ⟨⟨by omega, by omega⟩, fun _ => hP i' ha, fun z => ?_, fun z => ?_⟩
    · have := z.1; omega
    · have := z.1; omega
  | succ r ih =>
    intro t ht i' ha
    obtain ⟨a1, a2, a3, a4, a5⟩ := ha
    have nx := ih (t + 1) (by omega) (u2 (u2 i' 35 (n + (t : Int)) (iand (ishr p (24 - 8 * (t : Int))) 255)) 6 15 (n + (t : Int) + 1)) ⟨fun a b1 b2 => by rw [u2_other _ _ _ b1, u2_other _ _ _ b2, a1 a b1 b2], fun x hx => by
        rw [u2_at, if_neg hx, u2_other _ _ _ (by decide)]; exact a2 x hx, by rw [u2_self]; omega, fun j hj => by
        rw [u2_other _ _ _ (by decide), u2_at, if_neg (by omega)]; exact a4 j (by omega), fun j j0 j1 => by
        rw [u2_other _ _ _ (by decide), u2_at]
        by_cases c : j = (t : Int)
        · subst c; rw [if_pos rfl]; rfl
        · rw [if_neg (by omega)]; exact a5 j j0 (by omega)⟩
    rw [show 24 - 8 * ((t + 1 : Nat) : Int) = 24 - 8 * (t : Int) + (-8) by omega] at nx
    refine s_X11_append_3 _ _ ⟨⟨by omega, by omega⟩, fun z => by omega, fun z => ?_, fun z => ?_⟩
    · have := z.2; omega
    · rw [a3]
      refine ⟨⟨by omega, by omega⟩, ?_, ?_⟩
      · show rg (i' 6 15 + 1)
        rw [a3]; exact ⟨by omega, by omega⟩
      · rw [show u2 i' 35 (n + (t : Int)) (iand (ishr p (24 - 8 * (t : Int))) 255) 6 15 = n + (t : Int) from a3]
        exact nx
theorem sp_X11_append (hd : 1 ≤ d) {P : IM → LM → Prop} {p n : Int} (hn : i 6 15 = n) (h0 : 0 ≤ n) (h1 : n + 4 ≤ 400) (hP : ∀ i', apR i i' p n 4 → P i' l) : cVd w d X_X11_append [vR (some 6), vI p] i l P := by
  obtain ⟨d, rfl, hd1⟩ := d_pos hd
  refine e_X11_append (s_X11_append _ ?_)
  exact lp_app h0 h1 hP 4 0 (by omega) i ⟨fun _ _ _ => rfl, fun _ _ => rfl, by rw [hn]; omega, fun _ _ => rfl, fun j j0 j1 => by omega⟩
def fvF (p0 p1 p2 p3 p4 : Int) (m : Int) : Int := if m = 0 then p0 else if m = 1 then p1 else if m = 2 then p2 else if m = 3 then p3 else p4
def fmR (i1 i' : IM) (n : Int) (t : Nat) : Prop := (∀ a, a ≠ 105 → i' a = i1 a) ∧ (∀ j : Int, (j < n ∨ n + (t : Int) ≤ j) → i' 105 j = i1 105 j) ∧ ∀ j : Int, 0 ≤ j → j < (t : Int) → i' 105 (n + j) = i8 (i8 (ishr (i1 106 (j / 4)) (24 - 8 * (j % 4))))
theorem lp_feedM {P : Int → IM → LM → Prop} {i1 : IM} {n : Int} (hn : i1 99 10 = n) (h0 : 0 ≤ n) (h1 : n + 20 ≤ 400) (hP : ∀ i', fmR i1 i' n 20 → P (n + 20) (u2 i' 99 10 (n + 20)) l) : ∀ r t : Nat, t + r = 20 → ∀ i', fmR i1 i' n t → gI w d X_X12_feed P i' l 55 [(0, vR (some 99)), (6, vI (t : Int))] [] := by
  intro r
  induction r with
  | zero =>
    intro t ht i' ha
    have e : t = 20 := by omega
    subst e
    have e99 : i' 99 10 = n := by rw [ha.1 99 (by decide), hn]
    refine s_X12_feed_55 _ ⟨⟨by omega, by omega⟩, fun _ => ?_, fun z => by omega⟩
    rw [e99, u2_self]
    exact ⟨⟨by omega, by omega⟩, hP i' ha⟩
  | succ r ih =>
    intro t ht i' ha
    obtain ⟨a1, a2, a3⟩ := ha
    have e99 : i' 99 10 = n := by rw [a1 99 (by decide), hn]
    have ed : Int.tdiv (t : Int) 4 = (t : Int) / 4 := Int.tdiv_eq_ediv_of_nonneg (by omega)
    have em : Int.tmod (t : Int) 4 = (t : Int) % 4 := Int.tmod_eq_emod_of_nonneg (by omega)
    have nx := ih (t + 1) (by omega) (u2 i' 105 (n + (t : Int)) (i8 (i8 (ishr (i' 106 ((t : Int) / 4)) (24 - 8 * ((t : Int) % 4)))))) ⟨fun a b1 => by rw [u2_other _ _ _ b1, a1 a b1], fun j hj => by
        rw [u2_at, if_neg (by omega)]; exact a2 j (by omega), fun j j0 j1 => by
        rw [u2_at]
        by_cases c : j = (t : Int)
        · subst c; rw [if_pos rfl, a1 106 (by decide)]
        · rw [if_neg (by omega)]; exact a3 j j0 (by omega)⟩
    refine s_X12_feed_55 _ ⟨⟨by omega, by omega⟩, fun z => by omega, fun z => ?_⟩
    rw [e99, ed, em]
    exact ⟨⟨by omega, by omega⟩, ⟨by omega, by omega⟩, ⟨by omega, by omega⟩, nx⟩
theorem st_feed (hd : 90 ≤ d) (hI : Inv w k i l) {p0 p1 p2 p3 p4 : Int} (h0 : rg p0) (h1 : rg p1) (h2 : rg p2) (h3 : rg p3) (h4 : rg p4) : BoC w k d X_X11_feed X_X12_feed [vI p0, vI p1, vI p2, vI p3, vI p4] i l := by
  obtain ⟨A, hA⟩ := hI
  obtain ⟨d, rfl, hd1⟩ := d_pos (k := 89) hd
  have tp := hA.2.2.2.1
  have tp1 := tp.1
  obtain ⟨n, hn⟩ : ∃ n, i 6 15 = n := ⟨_, rfl⟩
  rw [hn] at tp1
  refine e_X11_feed (s_X11_feed _ _ _ _ _ ?_)
  rw [hn]
  refine ⟨⟨by omega, by omega⟩, fun z => ?_, fun z => ?_⟩
  · refine sp_X11_append (by omega) hn (by omega) (by omega) (fun i1 r1 => ?_)
    refine sp_X11_append (by omega) r1.2.2.1 (by omega) (by omega) (fun i2 r2 => ?_)
    refine sp_X11_append (by omega) r2.2.2.1 (by omega) (by omega) (fun i3 r3 => ?_)
    refine sp_X11_append (by omega) r3.2.2.1 (by omega) (by omega) (fun i4 r4 => ?_)
    refine sp_X11_append (by omega) r4.2.2.1 (by omega) (by omega) (fun i5 r5 => ?_)
    obtain ⟨a1, a2, a3, a4, a5⟩ := r1
    obtain ⟨b1, b2, b3, b4, b5⟩ := r2
    obtain ⟨c1, c2, c3, c4, c5⟩ := r3
    obtain ⟨d1, d2, d3, d4, d5⟩ := r4
    obtain ⟨e1, e2, e3, e4, e5⟩ := r5
    have fo : ∀ a, a ≠ 6 → a ≠ 35 → i5 a = i a := fun a x y => by rw [e1 a x y, d1 a x y, c1 a x y, b1 a x y, a1 a x y]
    have f6 : ∀ x : Int, x ≠ 15 → i5 6 x = i 6 x := fun x hx => by rw [e2 x hx, d2 x hx, c2 x hx, b2 x hx, a2 x hx]
    have f15 : i5 6 15 = n + 20 := by omega
    have fl : ∀ j : Int, (j < n ∨ n + 20 ≤ j) → i5 35 j = i 35 j := fun j hj => by rw [e4 j (by omega), d4 j (by omega), c4 j (by omega), b4 j (by omega), a4 j (by omega)]
    have fv : ∀ j : Int, 0 ≤ j → j < 20 → i5 35 (n + j) = iand (ishr (fvF p0 p1 p2 p3 p4 (j / 4)) (24 - 8 * (j % 4))) 255 := fun j j0 j1 => by
      have hq : j / 4 = 0 ∨ j / 4 = 1 ∨ j / 4 = 2 ∨ j / 4 = 3 ∨ j / 4 = 4 := by omega
      unfold fdB at a5 b5 c5 d5 e5
      rcases hq with q | q | q | q | q
      · rw [q, e4 _ (by omega), d4 _ (by omega), c4 _ (by omega), b4 _ (by omega), show j % 4 = j by omega, a5 j (by omega) (by omega)]; rfl
      · rw [q, e4 _ (by omega), d4 _ (by omega), c4 _ (by omega), show n + j = n + ((4 : Nat) : Int) + (j - 4) by omega, show j % 4 = j - 4 by omega, b5 (j - 4) (by omega) (by omega)]; rfl
      · rw [q, e4 _ (by omega), d4 _ (by omega), show n + j = n + ((4 : Nat) : Int) + ((4 : Nat) : Int) + (j - 8) by omega, show j % 4 = j - 8 by omega, c5 (j - 8) (by omega) (by omega)]; rfl
      · rw [q, e4 _ (by omega), show n + j = n + ((4 : Nat) : Int) + ((4 : Nat) : Int) + ((4 : Nat) : Int) + (j - 12) by omega, show j % 4 = j - 12 by omega, d5 (j - 12) (by omega) (by omega)]; rfl
      · rw [q, show n + j = n + ((4 : Nat) : Int) + ((4 : Nat) : Int) + ((4 : Nat) : Int) + ((4 : Nat) : Int) + (j - 16) by omega, show j % 4 = j - 16 by omega, e5 (j - 16) (by omega) (by omega)]; rfl
    clear a1 a2 a3 a4 a5 b1 b2 b3 b4 b5 c1 c2 c3 c4 c5 d1 d2 d3 d4 d5 e1 e2 e3 e4 e5
    have j10 : i5 99 10 = n := by rw [fo 99 (by decide) (by decide)]; omega
    rw [f15]
    refine e_X12_feed (s_X12_feed _ _ _ _ _ ?_)
    rw [j10]
    refine ⟨⟨by omega, by omega⟩, fun _ => ⟨h0, h1, h2, h3, h4, ?_⟩, fun y => by omega⟩
    have m106 : ∀ j : Int, 0 ≤ j → j < 5 → u2 (u2 (u2 (u2 (u2 i5 106 0 p0) 106 1 p1) 106 2 p2) 106 3 p3) 106 4 p4 106 j = fvF p0 p1 p2 p3 p4 j := fun j j0 j1 => by
      rw [u2_at, u2_at, u2_at, u2_at, u2_at]
      have hq : j = 0 ∨ j = 1 ∨ j = 2 ∨ j = 3 ∨ j = 4 := by omega
      rcases hq with rfl | rfl | rfl | rfl | rfl <;> rfl
    have mo : ∀ a, a ≠ 106 → u2 (u2 (u2 (u2 (u2 i5 106 0 p0) 106 1 p1) 106 2 p2) 106 3 p3) 106 4 p4 a = i5 a := fun a ha => by
      rw [u2_other _ _ _ ha, u2_other _ _ _ ha, u2_other _ _ _ ha, u2_other _ _ _ ha, u2_other _ _ _ ha]
    generalize u2 (u2 (u2 (u2 (u2 i5 106 0 p0) 106 1 p1) 106 2 p2) 106 3 p3) 106 4 p4 = J at m106 mo ⊢
    have hlp := lp_feedM (w := w) (d := d) (l := l) (i1 := J) (n := n) (P := fun v' i2 l2 => v' = n + 20 ∧ Inv w (k + 1) i2 l2) (by rw [mo 99 (by decide), j10]) (by omega) (by omega) (fun i' hf => ⟨rfl, ?_⟩) 20 0 (by omega) J ⟨fun _ _ => rfl, fun _ _ => rfl, fun j j0 j1 => by omega⟩
    · exact hlp
    obtain ⟨g1, g2, g3⟩ := hf
    refine Inv_tape hA (fun a x1 x2 x3 x4 x5 => by rw [u2_other _ _ _ x3, g1 a x4, mo a x5, fo a x1 x2]) (fun x hx => by rw [u2_other _ _ _ (by decide), g1 6 (by decide), mo 6 (by decide), f6 x hx]) (fun x hx => by rw [u2_at, if_neg hx, g1 99 (by decide), mo 99 (by decide), fo 99 (by decide) (by decide)]) ?_
    refine ⟨?_, fun j j0 j1 => ?_⟩
    · rw [u2_other _ _ _ (show (6 : Nat) ≠ 99 by decide), u2_self, g1 6 (by decide), mo 6 (by decide), f15]
      omega
    · rw [u2_other _ _ _ (show (35 : Nat) ≠ 99 by decide), u2_other _ _ _ (show (105 : Nat) ≠ 99 by decide), g1 35 (by decide), mo 35 (by decide)]
      by_cases c : j < n ∨ n + 20 ≤ j
      · rw [fl j c, g2 j c, mo 105 (by decide), fo 105 (by decide) (by decide)]
        exact tp.2 j j0 j1
      · rw [show j = n + (j - n) by omega, fv (j - n) (by omega) (by omega), g3 (j - n) (by omega) (by omega), m106 _ (by omega) (by omega)]
        exact ⟨iand_255 _, i8_255 _⟩
  · exact e_X12_feed (s_X12_feed _ _ _ _ _ ⟨by rw [tp1.2.2]; exact ⟨by omega, by omega⟩, fun y => absurd (by rw [tp1.2.2] at y; exact y) z, fun _ => ⟨rfl, Inv_up hA⟩⟩)
end
