/-! TOKENS in the model: words -/
section
variable {w : Wd} {d : Nat} {i : IM} {l : LM}
theorem i8_ball : ∀ b : Fin 256, i8 (b.val : Int) = (if b.val < 128 then (b.val : Int) else (b.val : Int) - 256) ∧ iand (i8 (b.val : Int)) 255 = (b.val : Int) := by decide +kernel
def BM (B : Nat → Int) (n : Nat) (i : IM) : Prop := ∀ j : Nat, j < n → (0 ≤ B j ∧ B j ≤ 255) ∧ (B j < 128 → i 105 (j : Int) = B j) ∧ (128 ≤ B j → i 105 (j : Int) = B j - 256) ∧ iand (i 105 (j : Int)) 255 = B j
theorem BM_of {B : Nat → Int} {n : Nat} (h : ∀ j : Nat, j < n → (0 ≤ B j ∧ B j ≤ 255) ∧ i 105 (j : Int) = i8 (B j)) : BM B n i := fun j hj => by
  obtain ⟨h1, h2⟩ := h j hj
  obtain ⟨b, hb⟩ := Int.eq_ofNat_of_zero_le h1.1
  have h3 := i8_ball ⟨b, by omega⟩
  rw [h2, hb]
  refine ⟨by omega, fun z => ?_, fun z => ?_, h3.2⟩
  · rw [h3.1]; exact if_pos (show b < 128 by omega)
  · rw [h3.1]; exact if_neg (show ¬ b < 128 by omega)
theorem lp_mcmp {P : Int → IM → LM → Prop} {B : Nat → Int} {k e : Nat} (hke : k ≤ e) (he : e ≤ 400) (hB : ∀ j, k ≤ j → j < e → i 105 (j : Int) = B j) {wd : List Int} {o : Nat} (ho : o + wd.length < 93) (hw : ∀ q, q < wd.length → i 104 ((o + q : Nat) : Int) = wd.getD q 0) {x3 : Int} (hx3 : 0 ≤ x3 ∧ x3 ≤ 100) (hY : sB B k e = wd → P x3 i l) (hN : ¬ sB B k e = wd → gI w d X_X12_wordOf P i l 5 [(0, vR (some 99)), (1, vI (k : Int)), (2, vI (e : Int)), (3, vI (x3 + 1)), (4, vI ((o : Int) + ((wd.length : Int) + 1)))] []) : ∀ r q : Nat, q + r = wd.length → ∀ x6 : Int, ((x6 = 1 ∧ e - k = wd.length ∧ ∀ j, j < q → B (k + j) = wd.getD j 0) ∨ (x6 = 0 ∧ ¬ sB B k e = wd)) → gI w d X_X12_wordOf P i l 57 [(0, vR (some 99)), (1, vI (k : Int)), (2, vI (e : Int)), (3, vI x3), (4, vI (o : Int)), (5, vI (wd.length : Int)), (6, vI x6), (7, vI (q : Int))] [] := by
  intro r
  induction r with
  | zero =>
    intro q hq x6 hx
    have hx6 : rg x6 := by rcases hx with h | h <;> exact ⟨by omega, by omega⟩
    refine s_X12_wordOf_57 _ _ _ _ _ _ _ ⟨⟨by omega, by omega⟩, ⟨by omega, by omega⟩, fun _ => hx6, fun _ => ⟨hx6, fun z => ?_, fun z => ⟨⟨by omega, by omega⟩, ?_⟩⟩, fun z => absurd (Or.inl (by omega)) z⟩
    · rcases hx with h | h
      · omega
      · exact hN h.2
    · rcases hx with h | h
      · refine hY (sB_eq.mpr ⟨h.2.1, fun j hj => h.2.2 j (by omega)⟩)
      · exact absurd h.1 z
  | succ r ih =>
    intro q hq x6 hx
    have hx6 : rg x6 := by rcases hx with h | h <;> exact ⟨by omega, by omega⟩
    have nx := ih (q + 1) (by omega)
    rw [show ((q + 1 : Nat) : Int) = (q : Int) + 1 by omega] at nx
    refine s_X12_wordOf_57 _ _ _ _ _ _ _ ⟨⟨by omega, by omega⟩, ⟨by omega, by omega⟩, fun _ => hx6, fun z => ⟨hx6, fun z2 => ?_, fun z2 => ?_⟩, fun z => ?_⟩
    · rcases hx with h | h
      · omega
      · exact hN h.2
    · rcases z with z | z
      · omega
      · exact absurd z z2
    · rcases hx with h | h
      · obtain ⟨-, h1, h2⟩ := h
        refine ⟨⟨by omega, by omega⟩, ⟨by omega, by omega⟩, ?_⟩
        have e1 : i 104 ((o : Int) + (q : Int)) = wd.getD q 0 := by rw [← hw q (by omega)]; congr 1
        have e2 : i 105 ((k : Int) + (q : Int)) = B (k + q) := by rw [← hB (k + q) (by omega) (by omega)]; congr 1
        rw [e1, e2]
        by_cases c : wd.getD q 0 = B (k + q)
        · rw [bI_t c]
          refine nx 1 (Or.inl ⟨rfl, h1, fun j hj => ?_⟩)
          by_cases ej : j = q
          · rw [ej]; exact c.symm
          · exact h2 j (by omega)
        · rw [bI_f c]
          exact nx 0 (Or.inr ⟨rfl, fun hs => c ((sB_eq.mp hs).2 q (by omega)).symm⟩)
      · exact absurd (Or.inr h.1) z
theorem lp_mscan {P : Int → IM → LM → Prop} {x1 x2 x3 : Int} {wd : List Int} {o : Nat} (ho : o + wd.length < 93) (hw : ∀ q, q < wd.length → i 104 ((o + q : Nat) : Int) = wd.getD q 0 ∧ ¬ wd.getD q 0 = 32) (hsp : i 104 ((o + wd.length : Nat) : Int) = 32) (hr : rg (x2 - x1)) (hN : gI w d X_X12_wordOf P i l 57 [(0, vR (some 99)), (1, vI x1), (2, vI x2), (3, vI x3), (4, vI (o : Int)), (5, vI (wd.length : Int)), (6, vI (bI ((wd.length : Int) = x2 - x1))), (7, vI 0)] []) : ∀ r q : Nat, q + r = wd.length → gI w d X_X12_wordOf P i l 18 [(0, vR (some 99)), (1, vI x1), (2, vI x2), (3, vI x3), (4, vI (o : Int)), (5, vI (q : Int))] [] := by
  intro r
  induction r with
  | zero =>
    intro q hq
    have e0 : q = wd.length := by omega
    subst e0
    have e : i 104 ((o : Int) + (wd.length : Int)) = 32 := by rw [← hsp]; congr 1
    exact s_X12_wordOf_18 _ _ _ _ _ ⟨⟨by omega, by omega⟩, fun _ => ⟨⟨by omega, by omega⟩, hr, hN⟩, fun z => absurd e z⟩
  | succ r ih =>
    intro q hq
    have e : i 104 ((o : Int) + (q : Int)) = wd.getD q 0 := by rw [← (hw q (by omega)).1]; congr 1
    have nx := ih (q + 1) (by omega)
    rw [show ((q + 1 : Nat) : Int) = (q : Int) + 1 by omega] at nx
    exact s_X12_wordOf_18 _ _ _ _ _ ⟨⟨by omega, by omega⟩, fun z => absurd (e.symm.trans z) (hw q (by omega)).2, fun _ => nx⟩
theorem lp_mwords {P : Int → IM → LM → Prop} {B : Nat → Int} {k e : Nat} (hke : k ≤ e) (he : e ≤ 400) (hB : ∀ j, k ≤ j → j < e → i 105 (j : Int) = B j) : ∀ (ws : List (List Int)) (o : Nat) (x3 : Int), (0 ≤ x3 ∧ x3 + (ws.length : Int) ≤ 50) → o + (flW ws).length = 93 → (∀ j, j < (flW ws).length → i 104 ((o + j : Nat) : Int) = (flW ws).getD j 0) → (∀ wd ∈ ws, ∀ q, q < wd.length → ¬ wd.getD q 0 = 32) → P (wmF (sB B k e) ws x3) i l → gI w d X_X12_wordOf P i l 5 [(0, vR (some 99)), (1, vI (k : Int)), (2, vI (e : Int)), (3, vI x3), (4, vI (o : Int))] []
  | [], o, x3, hx, ho, hh, hs, hP => by
    have e0 : o = 93 := by simpa [flW] using ho
    subst e0
    exact s_X12_wordOf_5 _ _ _ _ ⟨⟨by omega, by omega⟩, fun _ => hP, fun z => by omega⟩
  | wd :: ws, o, x3, hx, ho, hh, hs, hP => by
    have hl : (flW (wd :: ws)).length = wd.length + 1 + (flW ws).length := by show (wd ++ 32 :: flW ws).length = _; simp; omega
    simp only [List.length_cons] at hx
    have hP' : P (if sB B k e = wd then x3 else wmF (sB B k e) ws (x3 + 1)) i l := hP
    have hw : ∀ q, q < wd.length → i 104 ((o + q : Nat) : Int) = wd.getD q 0 := fun q hq => by
      rw [hh q (by omega)]; exact getD_app1 hq
    have hsp : i 104 ((o + wd.length : Nat) : Int) = 32 := by
      rw [hh wd.length (by omega)]
      exact getD_app2 (a := wd) (b := 32 :: flW ws) (j := 0)
    refine s_X12_wordOf_5 _ _ _ _ ⟨⟨by omega, by omega⟩, fun z => by omega, fun _ => ?_⟩
    refine lp_mscan (wd := wd) (by omega) (fun q hq => ⟨hw q hq, hs wd (List.mem_cons_self ..) q hq⟩) hsp ⟨by omega, by omega⟩ ?_ wd.length 0 (by omega)
    refine lp_mcmp (wd := wd) (o := o) hke he hB (by omega) hw (by omega) (fun c => by rw [if_pos c] at hP'; exact hP') (fun c => ?_) wd.length 0 (by omega) _ ?_
    · rw [if_neg c] at hP'
      rw [show (o : Int) + ((wd.length : Int) + 1) = ((o + wd.length + 1 : Nat) : Int) by omega]
      refine lp_mwords hke he hB ws (o + wd.length + 1) (x3 + 1) (by omega) (by omega) (fun j hj => ?_) (fun wd' hm => hs wd' (List.mem_cons_of_mem _ hm)) hP'
      have := hh (wd.length + 1 + j) (by omega)
      rw [show o + wd.length + 1 + j = o + (wd.length + 1 + j) by omega, this]
      have e2 := getD_app2 (a := wd) (b := 32 :: flW ws) (j := 1 + j)
      rw [show wd.length + 1 + j = wd.length + (1 + j) by omega]
      refine e2.trans ?_
      rw [show 1 + j = j + 1 by omega]
      rfl
    · by_cases c : (wd.length : Int) = (e : Int) - (k : Int)
      · rw [bI_t c]
        exact Or.inl ⟨rfl, by omega, fun j hj => absurd hj (Nat.not_lt_zero _)⟩
      · rw [bI_f c]
        exact Or.inr ⟨rfl, fun h => c (by have := (sB_eq.mp h).1; omega)⟩
theorem sp_X12_wordOf (hd : 1 ≤ d) {P : Int → IM → LM → Prop} {B : Nat → Int} {k e : Nat} (hke : k ≤ e) (he : e ≤ 400) (hW : Wrd i) (hB : ∀ j, k ≤ j → j < e → i 105 (j : Int) = B j) (hP : P (wmF (sB B k e) mWs 1) i l) : cI w d X_X12_wordOf [vR (some 99), vI (k : Int), vI (e : Int)] i l P := by
  obtain ⟨d, rfl, hd1⟩ := d_pos hd
  refine e_X12_wordOf (s_X12_wordOf _ _ ?_)
  have hh : ∀ j : Fin 93, mWds.getD j.val 0 = (flW mWs).getD j.val 0 := by decide +kernel
  have h32 : ∀ wd ∈ mWs, ∀ q, q < wd.length → ¬ wd.getD q 0 = 32 := by decide +kernel
  have hl : (flW mWs).length = 93 := by decide +kernel
  refine lp_mwords hke he hB mWs 0 1 (by decide) (by rw [hl]) (fun j hj => ?_) h32 hP
  rw [hl] at hj
  rw [show 0 + j = j by omega, hW j hj]
  exact hh ⟨j, hj⟩
end
