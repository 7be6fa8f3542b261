/-! CANVAS: prepare -/
section
variable {w : Wd} {d : Nat} {i : IM} {l : LM}
/-- all choices are laid -/
def chAll (i : IM) (cs : List Cla) : Prop := ChK i ∧ ∀ t : Nat, (t : Int) < i 101 307 → chS i i cs t 3
theorem mPr_K {i i' : IM} (e : i' 101 = i 101) : mPr i' = mPr i := by funext cs t c; unfold mPr; rw [e, mMay_K e, mColour_K e]
theorem mGn_K {i i' : IM} (e : i' 101 = i 101) : mGn i' = mGn i := by funext cs t c; unfold mGn; rw [e, mColour_K e, mPr_K e]
theorem mTl_K {i i' : IM} (e : i' 101 = i 101) : mTl i' = mTl i := by funext t c; unfold mTl; rw [e, mColour_K e]
theorem chS_K {i i' : IM} (e : i' 101 = i 101) : chS i' = chS i := by
  funext j cs t k; unfold chS; rw [mColour_K e, mPr_K e, mGn_K e, mTl_K e]
theorem chS_j {i j j' : IM} (h53 : j' 53 = j 53) (h54 : j' 54 = j 54) (h55 : j' 55 = j 55) (h59 : j' 59 = j 59) (cs : List Cla) (t k : Nat) : chS i j' cs t k ↔ chS i j cs t k := by
  unfold chS; rw [h53, h54, h55, h59]
theorem chAll_K {i i' : IM} {cs : List Cla} (e : i' 101 = i 101) (e52 : i' 52 = i 52) (e53 : i' 53 = i 53) (e54 : i' 54 = i 54) (e55 : i' 55 = i 55) (e59 : i' 59 = i 59) (h : chAll i cs) : chAll i' cs := by
  refine ⟨ChK_K e e52 e59 h.1, fun t ht => ?_⟩
  rw [chS_K e, chS_j e53 e54 e55 e59]
  exact h.2 t (by rw [e] at ht; exact ht)
/-- what CANVAS keeps is right, if nothing changed since -/
def CvC (i : IM) (l : LM) (cs : List Cla) : Prop := i 51 15 ≤ i 7 15 ∧ (i 51 15 = i 7 15 → chAll i cs ∧ ∃ R : Nat, R ≤ 12 ∧ i 51 13 = (R : Int) ∧ cvR i l cs (i 101 307).toNat R (msI (i 51 14) 12))
/-- all but ASKER and CANVAS -/
def ppf (i i' : IM) : Prop := ∀ a : Nat, a ≠ 41 → a ≠ 42 → a ≠ 51 → a ≠ 52 → a ≠ 53 → a ≠ 54 → a ≠ 55 → a ≠ 59 → a ≠ 62 → i' a = i a
theorem ppf_rf (i : IM) : ppf i i := fun _ _ _ _ _ _ _ _ _ _ => rfl
theorem ppf_tr {i j k : IM} (h1 : ppf i j) (h2 : ppf j k) : ppf i k := fun a x1 x2 x3 x4 x5 x6 x7 x8 x9 => (h2 a x1 x2 x3 x4 x5 x6 x7 x8 x9).trans (h1 a x1 x2 x3 x4 x5 x6 x7 x8 x9)
theorem Cx_pp {i i' : IM} {cs : List Cla} (hh : ppf i i') (hx : Cx w i cs) : Cx w i' cs := by
  have e101 := hh 101 (by decide) (by decide) (by decide) (by decide) (by decide) (by decide) (by decide) (by decide) (by decide)
  refine ⟨?_, by rw [e101]; exact hx.2.1, forceC_K (hh 7 (by decide) (by decide) (by decide) (by decide) (by decide) (by decide) (by decide) (by decide) (by decide)) (fun b hb => hh b (by omega) (by omega) (by omega) (by omega) (by omega) (by omega) (by omega) (by omega) (by omega)) hx.2.2.1, hx.2.2.2⟩
  have ht := hx.1
  unfold TW
  rw [hh 7 (by decide) (by decide) (by decide) (by decide) (by decide) (by decide) (by decide) (by decide) (by decide), hh 8 (by decide) (by decide) (by decide) (by decide) (by decide) (by decide) (by decide) (by decide) (by decide), hh 9 (by decide) (by decide) (by decide) (by decide) (by decide) (by decide) (by decide) (by decide) (by decide), hh 10 (by decide) (by decide) (by decide) (by decide) (by decide) (by decide) (by decide) (by decide) (by decide), hh 11 (by decide) (by decide) (by decide) (by decide) (by decide) (by decide) (by decide) (by decide) (by decide), hh 13 (by decide) (by decide) (by decide) (by decide) (by decide) (by decide) (by decide) (by decide) (by decide), hh 14 (by decide) (by decide) (by decide) (by decide) (by decide) (by decide) (by decide) (by decide) (by decide), e101, mLow_K e101]
  exact ht
theorem sp_prep61 {P : IM → LM → Prop} (hd : 7 ≤ d) {cs : List Cla} (hx : Cx w i cs) (hch : chAll i cs) {months : Int} (hm : rg months) (hP : ∀ i' l' (R : Nat), R ≤ 12 → ppf i i' → pml l l' → i' 51 15 = i' 7 15 → i' 51 14 = months → chAll i' cs → i' 51 13 = (R : Int) → cvR i' l' cs (i' 101 307).toNat R (msI months 12) → P i' l') : gV w d X_X1_prepare P i l 61 [(0, vR (some 51)), (1, vI months)] [] := by
  have hJ : ∀ a, a ≠ 51 → u2 (u2 i 51 15 (i 7 15)) 51 14 months a = i a := fun a ha => by rw [u2_other _ _ _ ha, u2_other _ _ _ ha]
  generalize hJe : u2 (u2 i 51 15 (i 7 15)) 51 14 months = J at hJ
  have j14 : J 51 14 = months := by rw [← hJe]; exact u2_self ..
  have j15 : J 51 15 = i 7 15 := by rw [← hJe]; rfl
  have hppJ : ppf i J := fun a _ _ a3 _ _ _ _ _ _ => hJ a a3
  have hxJ := Cx_pp hppJ hx
  have hfJ := hxJ.2.2.1
  have main : ∀ f : Int, rg f → (f = 0 → noW 5 2 cs ∧ noW 5 3 cs) → gV w d X_X1_prepare P (u2 (fillA J 62 10 0) 51 13 0) l 129 [(0, vR (some 51)), (1, vI months), (3, vI f), (4, vI 0)] [] := by
    intro f hf hno
    have hM : ∀ a, a ≠ 51 → a ≠ 62 → u2 (fillA J 62 10 0) 51 13 0 a = i a := fun a h1 h2 => by
      rw [u2_other _ _ _ h1]
      have : fillA J 62 10 0 a = J a := by funext y; exact if_neg (fun z => h2 z.1)
      rw [this, hJ a h1]
    generalize hMe : u2 (fillA J 62 10 0) 51 13 0 = M at hM
    have m62 : ∀ t : Nat, t < 10 → M 62 (t : Int) = 0 := fun t ht => by
      rw [← hMe, u2_other _ _ _ (by decide)]
      exact if_pos (c := (62 : Nat) = 62 ∧ 0 ≤ (t : Int) ∧ (t : Int) < 10) ⟨rfl, by omega, by omega⟩
    have m13 : M 51 13 = ((0 : Nat) : Int) := by rw [← hMe]; exact u2_self ..
    have m14 : M 51 14 = months := by rw [← hMe]; exact j14
    have m15 : M 51 15 = i 7 15 := by rw [← hMe]; exact j15
    have hppM : ppf i M := fun a _ _ a3 _ _ _ _ _ a9 => hM a a3 a9
    have e101 : M 101 = i 101 := hM 101 (by decide) (by decide)
    have hchM : chAll M cs := chAll_K e101 (hM 52 (by decide) (by decide)) (hM 53 (by decide) (by decide)) (hM 54 (by decide) (by decide)) (hM 55 (by decide) (by decide)) (hM 59 (by decide) (by decide)) hch
    refine lp_months (i := M) (l0 := l) hd (Cx_pp hppM hx) hchM.1 hf hno (fun i' l' R hR hi hl h51 hcv => ?_) 12 0 rfl M l 0 (Nat.le_refl _) ⟨fun _ _ _ _ _ => rfl, fun _ _ => rfl⟩ (fun _ _ _ _ _ _ _ => rfl) m13 ⟨fun _ => 0, ⟨fun q hq => by omega, fun mo hmo => by
      have h1 := hmo.1.1
      have h2 := hmo.1.2
      omega⟩, fun q hq => by omega⟩ (fun mo => KnI_0 m62)
    have g101 : i' 101 = M 101 := hi.1 101 (by decide) (by decide) (by decide) (by decide)
    refine hP i' l' R hR (fun a a1 a2 a3 a4 a5 a6 a7 a8 a9 => by rw [hi.1 a a1 a2 a3 a9, hM a a3 a9]) hl ?_ ?_ (chAll_K g101 (hi.1 52 (by decide) (by decide) (by decide) (by decide)) (hi.1 53 (by decide) (by decide) (by decide) (by decide)) (hi.1 54 (by decide) (by decide) (by decide) (by decide)) (hi.1 55 (by decide) (by decide) (by decide) (by decide)) (hi.1 59 (by decide) (by decide) (by decide) (by decide)) hchM) h51 ?_
    · rw [hi.2 15 (by decide), m15, hi.1 7 (by decide) (by decide) (by decide) (by decide), hM 7 (by decide) (by decide)]
    · rw [hi.2 14 (by decide), m14]
    · rw [cvR_K g101, g101]; exact hcv
  refine s_X1_prepare_61 _ (by omega) ?_
  rw [hJe]
  refine ⟨hm, hfJ.1, fun z => ?_, fun lw z => ?_⟩
  · rcases hfJ.2 with h | ⟨lw, h, -⟩
    · have hc := h.2
      subst hc
      exact main 0 (rg_lit rfl) (fun _ => ⟨noW_nil _ _, noW_nil _ _⟩)
    · rw [z] at h; cases h
  · rcases hfJ.2 with h | ⟨lw', h, hL⟩
    · rw [h.1] at z; cases z
    · rw [z] at h
      cases h
      refine ⟨hL.1, main _ (bI_rg _) (fun y => ?_)⟩
      rw [bI_eq] at y
      exact ⟨noW_of hL (h := 2) (x := 5) (by omega) (by omega) (fun q => y (Or.inr q)), noW_of hL (h := 3) (x := 5) (by omega) (by omega) (fun q => y (Or.inl q))⟩
theorem lp_prep39 {P : IM → LM → Prop} (hd : 7 ≤ d) {cs : List Cla} {i : IM} (hx : Cx w i cs) {months : Int} {l0 : LM} (hnext : ∀ i' l', ppf i i' → psc l0 l' → chAll i' cs → gV w d X_X1_prepare P i' l' 61 [(0, vR (some 51)), (1, vI months)] []) : ∀ r t : Nat, t + r = (i 101 307).toNat → ∀ i' l', ppf i i' → psc l0 l' → (∀ t' c : Nat, t' < t → c < 3 → (0 ≤ i' 52 (t' : Int) ∧ i' 52 (t' : Int) < 8) ∧ (iand (ishr (i' 52 (t' : Int)) (c : Int)) 1 = 1 ↔ mMay i (t' : Int) (c : Int) = true)) → (∀ t' : Nat, t' < t → chS i i' cs t' 3) → gV w d X_X1_prepare P i' l' 39 [(0, vR (some 51)), (1, vI months), (2, vI (t : Int))] [] := by
  have h307 := hx.2.1.1.1
  have h7 := Cx_7 hx
  intro r
  induction r with
  | zero =>
    intro t ht i' l' hi hl h52 hs
    have e7 : i' 7 8 = i 101 307 := by rw [hi 7 (by decide) (by decide) (by decide) (by decide) (by decide) (by decide) (by decide) (by decide) (by decide), h7.1]
    have e101 : i' 101 = i 101 := hi 101 (by decide) (by decide) (by decide) (by decide) (by decide) (by decide) (by decide) (by decide) (by decide)
    refine s_X1_prepare_39 _ _ ⟨⟨by omega, by omega⟩, fun _ => hnext i' l' hi hl ⟨fun t' c h1 hc => ?_, fun t' h1 => ?_⟩, fun z => by rw [e7] at z; omega⟩
    · rw [e101] at h1
      have a := h52 t' c (by omega) hc
      rw [mMay_K e101, mColour_K e101]
      exact ⟨a.1, a.2, (hs t' (by omega) c hc).1⟩
    · rw [e101] at h1
      rw [chS_K e101]
      exact hs t' (by omega)
  | succ r ih =>
    intro t ht i' l' hi hl h52 hs
    have e7 : i' 7 8 = i 101 307 := by rw [hi 7 (by decide) (by decide) (by decide) (by decide) (by decide) (by decide) (by decide) (by decide) (by decide), h7.1]
    have e101 : i' 101 = i 101 := hi 101 (by decide) (by decide) (by decide) (by decide) (by decide) (by decide) (by decide) (by decide) (by decide)
    refine s_X1_prepare_39 _ _ ⟨⟨by omega, by omega⟩, fun z => by rw [e7] at z; omega, fun z => ?_⟩
    refine sp_X1_layChoices (by omega) (Cx_pp hi hx) (t := t) (by rw [e101]; omega) (fun i2 l2 a1 a2 a3 a4 => ?_)
    rw [mMay_K e101] at a3
    rw [chS_K e101] at a4
    refine ih (t + 1) (by omega) i2 l2 (fun a b1 b2 b3 b4 b5 b6 b7 b8 b9 => by rw [a1.1 a b1 b2 b4 b5 b6 b7 b8]; exact hi a b1 b2 b3 b4 b5 b6 b7 b8 b9) (psc_tr hl a2) (fun t' c h1 hc => ?_) (fun t' h1 => ?_)
    · by_cases e : t' = t
      · subst e; exact a3 c hc
      · rw [a1.2.2 _ (by omega)]; exact h52 t' c (by omega) hc
    · by_cases e : t' = t
      · subst e; exact a4
      · intro c hc
        have hsl := a1.2.1 ((t' : Int) * 3 + (c : Int)) (by omega)
        rw [hsl.1, hsl.2.1, hsl.2.2.1, hsl.2.2.2]
        exact hs t' (by omega) c hc
theorem sp_X1_prepare {P : IM → LM → Prop} (hd : 8 ≤ d) {cs : List Cla} (hx : Cx w i cs) (hcv : CvC i l cs) {months : Int} (hm : rg months) (hP : ∀ i' l' (R : Nat), R ≤ 12 → ppf i i' → pml l l' → i' 51 15 = i' 7 15 → i' 51 14 = months → chAll i' cs → i' 51 13 = (R : Int) → cvR i' l' cs (i' 101 307).toNat R (msI months 12) → P i' l') : cVd w d X_X1_prepare [vR (some 51), vI months] i l P := by
  obtain ⟨d, rfl, hd1⟩ := d_pos hd
  refine e_X1_prepare (s_X1_prepare _ ⟨fun _ => hm, fun z => ?_, fun z => s_X1_prepare_23 _ ⟨fun y => ?_, fun y => ?_⟩⟩)
  · obtain ⟨h1, R, h2, h3, h4⟩ := hcv.2 z.1
    rw [z.2] at h4
    exact hP i l R h2 (ppf_rf i) (fun _ _ _ _ _ _ _ => rfl) z.1 z.2 h1 h3 h4
  · exact sp_prep61 hd1 hx (hcv.2 y).1 hm hP
  · refine lp_prep39 hd1 hx (fun i' l' hi hl hch => ?_) _ 0 (Nat.zero_add _) i l (ppf_rf i) (psc_rf l) (fun t' c h => by omega) (fun t' h => by omega)
    exact sp_prep61 hd1 (Cx_pp hi hx) hch hm (fun i2 l2 R a1 a2 a3 a4 a5 a6 a7 a8 => hP i2 l2 R a1 (ppf_tr hi a2) (fun a b1 b2 b3 b4 b5 b6 => by rw [a3 a b1 b2 b3 b4 b5 b6, hl a b1]) a4 a5 a6 a7 a8)
end
