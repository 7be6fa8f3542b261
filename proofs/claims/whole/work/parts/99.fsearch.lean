/-! MENDER and PAINTER in memory: whole searches -/
section
variable {w : Wd} {d : Nat} {i : IM} {l : LM}
/-- the state before anything is found -/
abbrev ms0 : MS := (1000000, 0, o0)
theorem lp_sr2 {P : IM → LM → Prop} (hd : 17 ≤ d) {n W : Nat} {i : IM} (hcv : cvOK i n) (hsk : shK i W) (h8 : i 83 8 = 1000000) {l : LM} (h0 : ∀ q : Nat, q < (rwM i l 83).1 → l 84 (q : Int) = 0) (hP : ∀ i' l', (∀ c, c ≠ 83 → c ≠ 86 → c ≠ 87 → c ≠ 88 → c ≠ 89 → i' c = i c) → (∀ k : Int, k ≠ 8 → i' 83 k = i 83 k) → (∀ c, c ≠ 83 → c ≠ 84 → l' c = l c) → mS i' l' n (srX (pcM i) (prM i n) (rwM i l 83) (shF i W) n ms0) → P i' l') : ∀ t : Nat, t ≤ n → ∀ i', cfm i i' → CpP i' n t → gV w d X_X3_search P i' l 112 [(0, vR (some 83)), (2, vI ((t : Int) - 1))] [] := by
  have hn := hcv.1
  have hR := hcv.2.2.1
  have eR : (rwM i l 83).1 = (i 51 13).toNat := rfl
  intro t
  induction t with
  | zero =>
    intro _ i' hi hs
    have hcv' := cvOK_c hi hcv
    have hcp : CpM i' n := ⟨fun t h => hs.1 t (Nat.zero_le _) h, fun t h => hs.2 t (Nat.zero_le _) h⟩
    have epc := pcM_c hi
    have epr := prM_c (n := n) hi
    have erw : rwM i' l 83 = rwM i l 83 := by unfold rwM; rw [hi 51 (by decide) (by decide)]
    have e51 : i' 51 13 = i 51 13 := by rw [hi 51 (by decide) (by decide)]
    have hsk' : shK i' W := by unfold shK; rw [hi 7 (by decide) (by decide), hi 9 (by decide) (by decide)]; exact hsk
    have e9 : i' 9 = i 9 := hi 9 (by decide) (by decide)
    have h83 : i' 83 = i 83 := hi 83 (by decide) (by decide)
    have hms0 : mS i' l n ms0 := ⟨by rw [h83]; exact h8, fun z => absurd z (by decide)⟩
    have hone : ishl 1 (i' 51 13) - 1 = ((2 ^ (rwM i l 83).1 - 1 : Nat) : Int) := by
      rw [e51]
      have e : i 51 13 = (((rwM i l 83).1 : Nat) : Int) := by rw [eR]; omega
      rw [e, ishl_one (by omega)]
      have := Nat.one_le_two_pow (n := (rwM i l 83).1)
      omega
    have h12 : 2 ^ (rwM i l 83).1 ≤ 2 ^ 12 := Nat.pow_le_pow_right (by omega) (by omega)
    have hsn : ∀ q : Nat, q < (rwM i' l 83).1 → (2 ^ (rwM i l 83).1 - 1).testBit q = true → l 84 (((0 : Nat) : Int) * 12 + (q : Int)) = vw (rwM i' l 83) o0 q 0 := by
      intro q hq _
      rw [erw] at hq
      rw [show (((0 : Nat) : Int) * 12 + (q : Int)) = (q : Int) by omega]
      exact h0 q hq
    refine s_X3_search_112 _ ⟨⟨by omega, by omega⟩, fun _ => ?_, fun q => by omega⟩
    rw [hone]
    have hst := sp_X3_stillOpen (w := w) (i := i') (l := l) (d := d) (t := 0) (o := o0) (F := 0) (P := fun r34 i34 l34 => (((r34 = 0) → cVd w d X_X3_record [vR (some 83), vI 0, vI (i34 87 0), vL 0] i34 l34 (fun i40 l40 => P i40 l40)) ∧ ((¬ (r34 = 0)) → cVd w d X_X3_explore [vR (some 83), vI 0, vI 0, vL 0, vI r34] i34 l34 (fun i38 l38 => P i38 l38)))) (by omega) hcv'.2.2.1 (Nat.zero_le _) (op := 2 ^ (rwM i l 83).1 - 1) (by omega) hsn
    refine hst ?_
    rw [erw]
    have hlt := soM_lt (rwM i l 83) 0 o0 0 (2 ^ (rwM i l 83).1 - 1) (rwM i l 83).1
    unfold srX at hP
    refine ⟨fun z => ?_, fun z => ?_⟩
    · rw [if_pos (by omega)] at hP
      have x87 : i' 87 0 = ch (pcM i).1 (prM i n) n 0 := by
        have := hcp.1 0 (Nat.zero_le _)
        rw [epc, epr, Nat.sub_zero] at this
        exact this
      have hcb := ch_bd hcv n 0 (Nat.zero_add _)
      rw [x87]
      have := sp_X3_record (w := w) (d := d) (i := i') (l := l) (P := P) (by omega) hcv' hcp (t := 0) (Nat.zero_le _) (o := o0) (fun j hj => by omega) (sum := ch (pcM i).1 (prM i n) n 0) ⟨by omega, by omega⟩ (F := 0) (fun i2 l2 hi2 hl2 hm2 => by
        rw [epc, epr] at hm2
        refine hP i2 l2 (fun c c1 c2 c3 c4 c5 => by rw [hi2.1 c c1 c2 c5, hi c c3 c4]) (fun k hk => by rw [hi2.2.1 k hk, h83]) (fun c c1 c2 => hl2.1 c c1 c2) hm2)
      exact this
    · rw [if_neg (by omega)] at hP
      have := sp_X3_explore (w := w) (n := n) (W := W) n d 0 o0 0 (soM (rwM i l 83) 0 o0 0 (2 ^ (rwM i l 83).1 - 1) (rwM i l 83).1) ms0 i' l P (by omega) (Nat.zero_add _) hcv' hcp hsk' (by omega) (fun j hj => by omega) (fun q hq hqo => by
        rw [erw] at hq
        exact hsn q (by rw [erw]; exact hq) ((soM_bit (rwM i l 83) 0 o0 0 (2 ^ (rwM i l 83).1 - 1) (rwM i l 83).1 q hq).mp hqo).1) hms0 (fun i2 l2 hi2 hl2 hm2 => by
        unfold shF at hm2
        rw [epc, epr, erw, e9] at hm2
        exact hP i2 l2 (fun c c1 c2 c3 c4 c5 => by rw [hi2.1 c c1 c2 c5, hi c c3 c4]) (fun k hk => by rw [hi2.2.1 k hk, h83]) (fun c c1 c2 => hl2.1 c c1 c2) hm2)
      exact this
  | succ t ih =>
    intro ht i' hi hs
    refine s_X3_search_112 _ ⟨⟨by omega, by omega⟩, fun q => by omega, fun q => ?_⟩
    have e : ((t + 1 : Nat) : Int) - 1 = (t : Int) := by omega
    rw [e]
    refine sp_X3_sumUp (by omega) (cvOK_c hi hcv) (by omega) hs (fun i2 hi2 hs2 => ?_)
    exact ih (by omega) i2 (fun c c1 c2 => (hi2 c c1 c2).trans (hi c c1 c2)) hs2
theorem lp_sr1 {P : IM → LM → Prop} (hd : 17 ≤ d) {n W : Nat} {i : IM} (hcv : cvOK i n) (hsk : shK i W) (h8 : i 83 8 = 1000000) {l0 : LM} (hP : ∀ i' l' l1, (∀ c, c ≠ 83 → c ≠ 86 → c ≠ 87 → c ≠ 88 → c ≠ 89 → i' c = i c) → (∀ k : Int, k ≠ 8 → i' 83 k = i 83 k) → (∀ c, c ≠ 83 → c ≠ 84 → c ≠ 85 → l' c = l0 c) → (∀ c, c ≠ 84 → c ≠ 85 → l1 c = l0 c) → (∀ q : Nat, q < (i 51 13).toNat → l1 85 (q : Int) = sparL l0 (q : Int) 255 (-1)) → mS i' l' n (srX (pcM i) (prM i n) (rwM i l1 83) (shF i W) n ms0) → P i' l') : ∀ r q : Nat, q + r = (i 51 13).toNat → ∀ l', (∀ c, c ≠ 84 → c ≠ 85 → l' c = l0 c) → (∀ y : Nat, y < q → l' 85 (y : Int) = sparL l0 (y : Int) 255 (-1) ∧ l' 84 (y : Int) = 0) → gV w d X_X3_search P i l' 47 [(0, vR (some 83)), (2, vI (q : Int))] [] := by
  have hR := hcv.2.2.1
  have hn := hcv.1
  have h7 := hcv.2.1
  intro r
  induction r with
  | zero =>
    intro q hq l' hl hw
    have e : q = (i 51 13).toNat := by omega
    subst e
    have n1 : u2 i 87 (i 7 8) 0 7 8 = i 7 8 := by rw [u2_other _ _ _ (by decide)]
    refine s_X3_search_47 _ (by omega) ⟨⟨by omega, by omega⟩, fun _ => ?_, fun z => by omega⟩
    rw [n1, h7]
    refine ⟨⟨by omega, by omega⟩, ?_⟩
    have hf : cfm i (u2 i 87 (n : Int) 0) := fun c c1 c2 => u2_other _ _ _ c1
    have epc := pcM_c hf
    have epr := prM_c (n := n) hf
    have erw : rwM (u2 i 87 (n : Int) 0) l' 83 = rwM i l' 83 := by unfold rwM; rw [hf 51 (by decide) (by decide)]
    have e9 : u2 i 87 (n : Int) 0 9 = i 9 := hf 9 (by decide) (by decide)
    refine lp_sr2 (i := u2 i 87 (n : Int) 0) (l := l') (W := W) hd (cvOK_c hf hcv) (by unfold shK; rw [hf 7 (by decide) (by decide), hf 9 (by decide) (by decide)]; exact hsk) (by rw [hf 83 (by decide) (by decide)]; exact h8) (fun q hq => (hw q (by rw [erw] at hq; exact hq)).2) (fun i2 l2 hi2 hk2 hl2 hm2 => ?_) n (Nat.le_refl _) _ (fun _ _ _ => rfl) ⟨fun t h1 h2 => ?_, fun t h1 h2 => by omega⟩
    · unfold shF at hm2
      rw [epc, epr, erw, e9] at hm2
      exact hP i2 l2 l' (fun c c1 c2 c3 c4 c5 => by rw [hi2 c c1 c2 c3 c4 c5, hf c c3 c4]) (fun k hk => by rw [hk2 k hk, hf 83 (by decide) (by decide)]) (fun c c1 c2 c3 => by rw [hl2 c c1 c2, hl c c2 c3]) hl (fun q hq => (hw q hq).1) hm2
    · have e : t = n := by omega
      subst e
      rw [Nat.sub_self, u2_self]
      rfl
  | succ r ih =>
    intro q hq l' hl hw
    have esp : sparL l' (q : Int) 255 (-1) = sparL l0 (q : Int) 255 (-1) := by unfold sparL; rw [hl 60 (by decide) (by decide)]
    refine s_X3_search_47 _ (by omega) ⟨⟨by omega, by omega⟩, fun z => by omega, fun z => ⟨⟨by omega, by omega⟩, rg_lit rfl, ⟨by omega, by omega⟩, ?_⟩⟩
    refine ih (q + 1) (by omega) _ (fun c a1 a2 => by rw [u2l_other _ _ _ a1, u2l_other _ _ _ a2]; exact hl c a1 a2) (fun y hy => ?_)
    rw [u2l_other _ _ _ (show (85 : Nat) ≠ 84 by decide)]
    by_cases e : y = q
    · subst e
      refine ⟨?_, ?_⟩
      · show (if (85 : Nat) = 85 ∧ (y : Int) = (y : Int) then sparL l' (y : Int) 255 (-1) else _) = _
        rw [if_pos ⟨rfl, rfl⟩, esp]
      · exact if_pos (c := (84 : Nat) = 84 ∧ (y : Int) = (y : Int)) ⟨rfl, rfl⟩
    · refine ⟨?_, ?_⟩
      · show (if (85 : Nat) = 85 ∧ (y : Int) = (q : Int) then sparL l' (q : Int) 255 (-1) else l' 85 (y : Int)) = _
        rw [if_neg (fun z => e (by have := z.2; omega))]; exact (hw y (by omega)).1
      · show (if (84 : Nat) = 84 ∧ (y : Int) = (q : Int) then (0 : Int64) else u2l l' 85 (q : Int) (sparL l' (q : Int) 255 (-1)) 84 (y : Int)) = _
        rw [if_neg (fun z => e (by have := z.2; omega)), u2l_other _ _ _ (by decide)]; exact (hw y (by omega)).2
theorem sp_X3_search {P : IM → LM → Prop} (hd : 18 ≤ d) {n W : Nat} (hcv : cvOK i n) (hsk : shK i W) {months : Int} (hm : rg months) (hkeep : i 83 11 = i 7 15 → i 83 10 = months → P i l) (hP : ∀ i' l' l1, (∀ c, c ≠ 83 → c ≠ 86 → c ≠ 87 → c ≠ 88 → c ≠ 89 → i' c = i c) → (i' 83 11 = i 7 15 ∧ i' 83 10 = months) → (∀ c, c ≠ 83 → c ≠ 84 → c ≠ 85 → l' c = l c) → (∀ c, c ≠ 84 → c ≠ 85 → l1 c = l c) → (∀ q : Nat, q < (i 51 13).toNat → l1 85 (q : Int) = sparL l (q : Int) 255 (-1)) → mS i' l' n (srX (pcM i) (prM i n) (rwM i l1 83) (shF i W) n ms0) → P i' l') : cVd w d X_X3_search [vR (some 83), vI months] i l P := by
  obtain ⟨d, rfl, hd1⟩ := d_pos hd
  refine e_X3_search (s_X3_search _ ⟨fun _ => hm, fun z => hkeep z.1 z.2, fun z => ⟨hm, ?_⟩⟩)
  have hJ : ∀ c, c ≠ 83 → u2 (u2 (u2 i 83 11 (i 7 15)) 83 10 months) 83 8 1000000 c = i c := fun c hc => by rw [u2_other _ _ _ hc, u2_other _ _ _ hc, u2_other _ _ _ hc]
  generalize hJe : u2 (u2 (u2 i 83 11 (i 7 15)) 83 10 months) 83 8 1000000 = J at hJ
  have j8 : J 83 8 = 1000000 := by rw [← hJe]; exact u2_self ..
  have j10 : J 83 10 = months := by rw [← hJe]; rfl
  have j11 : J 83 11 = i 7 15 := by rw [← hJe]; rfl
  have epc : pcM J = pcM i := by unfold pcM; rw [hJ 52 (by decide), hJ 54 (by decide), hJ 55 (by decide)]
  have epr : prM J n = prM i n := by funext x c; unfold prM; rw [hJ 53 (by decide)]
  have hcv' : cvOK J n := by
    unfold cvOK
    rw [epc, hJ 7 (by decide), hJ 51 (by decide), hJ 52 (by decide), hJ 53 (by decide), hJ 54 (by decide), hJ 55 (by decide)]
    exact hcv
  have hsk' : shK J W := by unfold shK; rw [hJ 7 (by decide), hJ 9 (by decide)]; exact hsk
  have e51 : J 51 13 = i 51 13 := by rw [hJ 51 (by decide)]
  refine lp_sr1 (l0 := l) hd1 hcv' hsk' j8 (fun i2 l2 l1 hi2 hk2 hl2 hl1 hw2 hm2 => ?_) (J 51 13).toNat 0 (Nat.zero_add _) l (fun _ _ _ => rfl) (fun y hy => by omega)
  have erw : rwM J l1 83 = rwM i l1 83 := by unfold rwM; rw [hJ 51 (by decide)]
  unfold shF at hm2
  rw [epc, epr, erw, hJ 9 (by decide)] at hm2
  exact hP i2 l2 l1 (fun c c1 c2 c3 c4 c5 => by rw [hi2 c c1 c2 c3 c4 c5, hJ c c1]) ⟨by rw [hk2 11 (by decide), j11], by rw [hk2 10 (by decide), j10]⟩ hl2 hl1 (fun q hq => hw2 q (by rw [e51]; exact hq)) hm2
end
