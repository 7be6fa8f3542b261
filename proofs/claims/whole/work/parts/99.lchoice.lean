/-! CANVAS: the choices of a THING -/
section
variable {w : Wd} {d : Nat} {i : IM} {l : LM}
def mPr (i : IM) (cs : List Cla) (t c : Int) : Int := if mMay i t c = true ∧ ¬ c = 0 then fPrice cs t (mColour i t c) (i 101 (8 * t + 0)) (i 101 (8 * t + 3)) else 0
def mGn (i : IM) (cs : List Cla) (t c : Int) : Int := (if mColour i t c = i 101 (8 * t + 2) then i 101 (8 * t + 4) else 0) - mPr i cs t c
def mTl (i : IM) (t c : Int) : Int := ior (ior (bI (mColour i t c = 0)) (if c = 0 then (0 : Int) else 256)) (if mColour i t c = i 101 (8 * t + 2) then (0 : Int) else 65536)
theorem fPrice_rg {cs : List Cla} {t c s k : Int} (hk : 0 ≤ k ∧ k ≤ 99) : 0 ≤ fPrice cs t c s k ∧ fPrice cs t c s k ≤ 99 := by
  unfold fPrice
  split
  · next x _ => unfold clampI; split <;> (try split) <;> omega
  · exact hk
theorem mPr_rg (hk : kOK (i 101)) (cs : List Cla) {t c : Int} (ht : 0 ≤ t ∧ t < 10) : 0 ≤ mPr i cs t c ∧ mPr i cs t c ≤ 99 := by
  have h := hk.2.1 t ht.1 ht.2
  unfold mPr
  split
  · exact fPrice_rg h.2.2.2.1
  · omega
theorem may_ne {t c : Int} (hc : c = 0 ∨ c = 1 ∨ c = 2) (h : mMay i t c = true) (h0 : ¬ c = 0) : ¬ i 101 (8 * t + 1) = mColour i t c := by
  unfold mMay at h
  unfold mColour
  rcases hc with e | e | e
  · exact absurd e h0
  · subst e
    rw [if_neg h0, if_pos rfl]
    intro z
    by_cases m : i 101 (8 * t + 5) = 1
    · rw [if_pos m, if_pos z] at h
      exact absurd (of_decide_eq_true h) h0
    · rw [if_neg m] at h
      simp [z] at h
  · subst e
    rw [if_neg h0, if_neg (by decide)]
    intro z
    by_cases m : i 101 (8 * t + 5) = 1
    · rw [if_pos m] at h
      split at h
      · exact absurd (of_decide_eq_true h) h0
      · exact absurd (of_decide_eq_true h) (by decide)
    · rw [if_neg m] at h
      simp [z] at h
/-- slots of a THING that are laid -/
def chS (i i' : IM) (cs : List Cla) (t : Nat) (k : Nat) : Prop := ∀ c : Nat, c < k → i' 59 ((t : Int) * 3 + (c : Int)) = mColour i (t : Int) (c : Int) ∧ i' 53 ((t : Int) * 3 + (c : Int)) = mPr i cs (t : Int) (c : Int) ∧ i' 54 ((t : Int) * 3 + (c : Int)) = mGn i cs (t : Int) (c : Int) ∧ i' 55 ((t : Int) * 3 + (c : Int)) = mTl i (t : Int) (c : Int)
/-- all but ASKER and the slots of one THING -/
def lcf (t : Nat) (i i' : IM) : Prop := (∀ a : Nat, a ≠ 41 → a ≠ 42 → a ≠ 52 → a ≠ 53 → a ≠ 54 → a ≠ 55 → a ≠ 59 → i' a = i a) ∧ (∀ x : Int, (x < (t : Int) * 3 ∨ (t : Int) * 3 + 3 ≤ x) → i' 53 x = i 53 x ∧ i' 54 x = i 54 x ∧ i' 55 x = i 55 x ∧ i' 59 x = i 59 x) ∧ ∀ x : Int, x ≠ (t : Int) → i' 52 x = i 52 x
theorem lcf_tr {t : Nat} {i j k : IM} (h1 : lcf t i j) (h2 : lcf t j k) : lcf t i k := ⟨fun a x1 x2 x3 x4 x5 x6 x7 => (h2.1 a x1 x2 x3 x4 x5 x6 x7).trans (h1.1 a x1 x2 x3 x4 x5 x6 x7), fun x h => ⟨(h2.2.1 x h).1.trans (h1.2.1 x h).1, (h2.2.1 x h).2.1.trans (h1.2.1 x h).2.1, (h2.2.1 x h).2.2.1.trans (h1.2.1 x h).2.2.1, (h2.2.1 x h).2.2.2.trans (h1.2.1 x h).2.2.2⟩, fun x h => (h2.2.2 x h).trans (h1.2.2 x h)⟩
theorem lcf_c {t : Nat} {i i' : IM} (h : cscr i i') : lcf t i i' := ⟨fun a x1 x2 _ _ _ _ _ => cscr_c h x2 x1, fun x _ => ⟨by rw [cscr_c h (by decide) (by decide)], by rw [cscr_c h (by decide) (by decide)], by rw [cscr_c h (by decide) (by decide)], by rw [cscr_c h (by decide) (by decide)]⟩, fun x _ => by rw [cscr_c h (by decide) (by decide)]⟩
theorem lcf_u {t a : Nat} {i : IM} {c : Nat} {v : Int} (ha : a = 53 ∨ a = 54 ∨ a = 55 ∨ a = 59) (hc : c < 3) : lcf t i (u2 i a ((t : Int) * 3 + (c : Int)) v) := by
  refine ⟨fun b x1 x2 x3 x4 x5 x6 x7 => u2_other _ _ _ (by omega), fun x hx => ?_, fun x _ => by rw [u2_other _ _ _ (by omega)]⟩
  have : ∀ b, u2 i a ((t : Int) * 3 + (c : Int)) v b x = i b x := fun b => if_neg (fun z => by have := z.2; omega)
  exact ⟨this 53, this 54, this 55, this 59⟩
theorem Cx_l {i i' : IM} {cs : List Cla} {t : Nat} (h : lcf t i i') (hx : Cx w i cs) : Cx w i' cs := by
  have hh : ∀ a, a ≠ 41 → a ≠ 42 → a ≠ 52 → a ≠ 53 → a ≠ 54 → a ≠ 55 → a ≠ 59 → i' a = i a := h.1
  have e101 := hh 101 (by decide) (by decide) (by decide) (by decide) (by decide) (by decide) (by decide)
  refine ⟨?_, by rw [e101]; exact hx.2.1, forceC_K (hh 7 (by decide) (by decide) (by decide) (by decide) (by decide) (by decide) (by decide)) (fun b hb => hh b (by omega) (by omega) (by omega) (by omega) (by omega) (by omega) (by omega)) hx.2.2.1, hx.2.2.2⟩
  have ht := hx.1
  unfold TW
  rw [hh 7 (by decide) (by decide) (by decide) (by decide) (by decide) (by decide) (by decide), hh 8 (by decide) (by decide) (by decide) (by decide) (by decide) (by decide) (by decide), hh 9 (by decide) (by decide) (by decide) (by decide) (by decide) (by decide) (by decide), hh 10 (by decide) (by decide) (by decide) (by decide) (by decide) (by decide) (by decide), hh 11 (by decide) (by decide) (by decide) (by decide) (by decide) (by decide) (by decide), hh 13 (by decide) (by decide) (by decide) (by decide) (by decide) (by decide) (by decide), hh 14 (by decide) (by decide) (by decide) (by decide) (by decide) (by decide) (by decide), e101, mLow_K e101]
  exact ht
theorem lp_ch {P : IM → LM → Prop} (hd : 5 ≤ d) {cs : List Cla} {i : IM} (hx : Cx w i cs) {t : Nat} (ht : (t : Int) < i 101 307) {m : Int} (hmr : ∀ c : Nat, c < 3 → (iand (ishr m (c : Int)) 1 = 1 ↔ mMay i (t : Int) (c : Int) = true)) {l0 : LM} (hP : ∀ i' l', lcf t i i' → psc l0 l' → i' 52 (t : Int) = m → chS i i' cs t 3 → P i' l') : ∀ r k : Nat, k + r = 3 → ∀ i' l', lcf t i i' → psc l0 l' → i' 52 (t : Int) = m → chS i i' cs t k → gV w d X_X1_layChoices P i' l' 98 [(0, vR (some 51)), (1, vI (t : Int)), (2, vI (i 101 (8 * (t : Int) + 1))), (3, vI (i 101 (8 * (t : Int) + 2))), (5, vI m), (6, vI (k : Int))] [] := by
  have h307 := hx.2.1.1.1
  have htr := hx.2.1.2.1 (t : Int) (by omega) (by omega)
  intro r
  induction r with
  | zero =>
    intro k hk i' l' hi hl h52 hs
    have e : k = 3 := by omega
    subst e
    exact s_X1_layChoices_98 _ _ _ _ _ (by omega) ⟨⟨by omega, by omega⟩, fun _ => hP i' l' hi hl h52 hs, fun z => by omega⟩
  | succ r ih =>
    intro k hk i' l' hi hl h52 hs
    have hk3 : k < 3 := by omega
    have hnx := ih (k + 1) (by omega)
    have hhue : (if (k : Int) = 0 then i 101 (8 * (t : Int) + 1) else if (k : Int) = 1 then i 101 (8 * (t : Int) + 2) else 0) = mColour i (t : Int) (k : Int) := rfl
    have hcl := mColour_lt (i := i) hx.2.1 (t := (t : Int)) (c := (k : Int)) ⟨by omega, by omega⟩
    have hpr := mPr_rg (i := i) hx.2.1 cs (t := (t : Int)) (c := (k : Int)) ⟨by omega, by omega⟩
    have hslot : 0 ≤ (t : Int) * 3 + (k : Int) ∧ (t : Int) * 3 + (k : Int) < 30 := ⟨by omega, by omega⟩
    have e8 : ∀ J : IM, lcf t i J → J 8 ((t : Int) * 8 + 4) = i 101 (8 * (t : Int) + 4) := fun J hJ => by
      rw [hJ.1 8 (by decide) (by decide) (by decide) (by decide) (by decide) (by decide) (by decide), TW_trait hx.1 ⟨by omega, by omega⟩ (by omega)]
    -- the end of a slot
    have fin : ∀ (J : IM) (l2 : LM) (p : Int), lcf t i J → psc l0 l2 → J 52 (t : Int) = m → chS i J cs t k → J 59 ((t : Int) * 3 + (k : Int)) = mColour i (t : Int) (k : Int) → p = mPr i cs (t : Int) (k : Int) → (0 ≤ (t : Int) * 3 + (k : Int) ∧ (t : Int) * 3 + (k : Int) < 30) ∧ rg (i 101 (8 * (t : Int) + 2)) ∧ (mColour i (t : Int) (k : Int) = i 101 (8 * (t : Int) + 2) → 0 ≤ (t : Int) * 8 + 4 ∧ (t : Int) * 8 + 4 < 80) ∧ (0 ≤ (t : Int) * 3 + (k : Int) ∧ (t : Int) * 3 + (k : Int) < 30) ∧ rg ((if mColour i (t : Int) (k : Int) = i 101 (8 * (t : Int) + 2) then u2 J 53 ((t : Int) * 3 + (k : Int)) p 8 ((t : Int) * 8 + 4) else 0) - u2 J 53 ((t : Int) * 3 + (k : Int)) p 53 ((t : Int) * 3 + (k : Int))) ∧ rg (k : Int) ∧ rg (i 101 (8 * (t : Int) + 2)) ∧ (0 ≤ (t : Int) * 3 + (k : Int) ∧ (t : Int) * 3 + (k : Int) < 30) ∧ gV w d X_X1_layChoices P (u2 (u2 (u2 J 53 ((t : Int) * 3 + (k : Int)) p) 54 ((t : Int) * 3 + (k : Int)) ((if mColour i (t : Int) (k : Int) = i 101 (8 * (t : Int) + 2) then u2 J 53 ((t : Int) * 3 + (k : Int)) p 8 ((t : Int) * 8 + 4) else 0) - u2 J 53 ((t : Int) * 3 + (k : Int)) p 53 ((t : Int) * 3 + (k : Int)))) 55 ((t : Int) * 3 + (k : Int)) (mTl i (t : Int) (k : Int))) l2 98 [(0, vR (some 51)), (1, vI (t : Int)), (2, vI (i 101 (8 * (t : Int) + 1))), (3, vI (i 101 (8 * (t : Int) + 2))), (5, vI m), (6, vI ((k : Int) + 1))] [] := by
      intro J l2 p hJ hl2 hJ52 hJs hJ59 hp
      have eg : ((if mColour i (t : Int) (k : Int) = i 101 (8 * (t : Int) + 2) then u2 J 53 ((t : Int) * 3 + (k : Int)) p 8 ((t : Int) * 8 + 4) else 0) - u2 J 53 ((t : Int) * 3 + (k : Int)) p 53 ((t : Int) * 3 + (k : Int))) = mGn i cs (t : Int) (k : Int) := by
        rw [u2_self, u2_other _ _ _ (show (8 : Nat) ≠ 53 by decide), e8 J hJ, hp]
        rfl
      have hgr : rg (mGn i cs (t : Int) (k : Int)) := by
        unfold mGn
        split
        · exact ⟨by omega, by omega⟩
        · exact ⟨by omega, by omega⟩
      rw [eg]
      refine ⟨hslot, ⟨by omega, by omega⟩, fun _ => ⟨by omega, by omega⟩, hslot, hgr, ⟨by omega, by omega⟩, ⟨by omega, by omega⟩, hslot, ?_⟩
      refine hnx _ l2 (lcf_tr (lcf_tr (lcf_tr hJ (lcf_u (by omega) hk3)) (lcf_u (by omega) hk3)) (lcf_u (by omega) hk3)) hl2 ?_ (fun c hc => ?_)
      · rw [u2_other _ _ _ (by decide), u2_other _ _ _ (by decide), u2_other _ _ _ (by decide)]; exact hJ52
      · by_cases e : c = k
        · subst e
          refine ⟨?_, ?_, ?_, ?_⟩
          · rw [u2_other _ _ _ (by decide), u2_other _ _ _ (by decide), u2_other _ _ _ (by decide)]; exact hJ59
          · rw [u2_other _ _ _ (by decide), u2_other _ _ _ (by decide), u2_self]; exact hp
          · rw [u2_other _ _ _ (by decide), u2_self]
          · exact u2_self ..
        · have nE : ∀ (J : IM) (a : Nat) (y : Int), u2 J a ((t : Int) * 3 + (k : Int)) y a ((t : Int) * 3 + (c : Int)) = J a ((t : Int) * 3 + (c : Int)) := fun J a y => if_neg (fun z => e (by have := z.2; omega))
          have ho := hJs c (by omega)
          refine ⟨?_, ?_, ?_, ?_⟩
          · rw [u2_other _ _ _ (by decide), u2_other _ _ _ (by decide), u2_other _ _ _ (by decide)]; exact ho.1
          · rw [u2_other _ _ _ (by decide), u2_other _ _ _ (by decide), nE]; exact ho.2.1
          · rw [u2_other _ _ _ (by decide), nE, u2_other _ _ _ (by decide)]; exact ho.2.2.1
          · rw [nE, u2_other _ _ _ (by decide), u2_other _ _ _ (by decide)]; exact ho.2.2.2
    have hi59 : lcf t i (u2 i' 59 ((t : Int) * 3 + (k : Int)) (mColour i (t : Int) (k : Int))) := lcf_tr hi (lcf_u (by omega) hk3)
    have hs59 : chS i (u2 i' 59 ((t : Int) * 3 + (k : Int)) (mColour i (t : Int) (k : Int))) cs t k := by
      intro c hc
      have ho := hs c hc
      refine ⟨?_, by rw [u2_other _ _ _ (by decide)]; exact ho.2.1, by rw [u2_other _ _ _ (by decide)]; exact ho.2.2.1, by rw [u2_other _ _ _ (by decide)]; exact ho.2.2.2⟩
      have : u2 i' 59 ((t : Int) * 3 + (k : Int)) (mColour i (t : Int) (k : Int)) 59 ((t : Int) * 3 + (c : Int)) = i' 59 ((t : Int) * 3 + (c : Int)) := if_neg (fun z => by have := z.2; omega)
      rw [this]; exact ho.1
    have h5259 : u2 i' 59 ((t : Int) * 3 + (k : Int)) (mColour i (t : Int) (k : Int)) 52 (t : Int) = m := by rw [u2_other _ _ _ (by decide)]; exact h52
    refine s_X1_layChoices_98 _ _ _ _ _ (by omega) ⟨⟨by omega, by omega⟩, fun z => by omega, fun z => ⟨⟨by omega, by omega⟩, hslot, ?_⟩⟩
    rw [hhue]
    refine ⟨⟨by omega, by omega⟩, fun _ => ⟨by omega, by omega⟩, fun z2 => ?_, fun z2 => ?_⟩
    · have hmay := (hmr k hk3).mp z2.1
      have hxJ := Cx_l hi59 hx
      have e81 : u2 i' 59 ((t : Int) * 3 + (k : Int)) (mColour i (t : Int) (k : Int)) 8 ((t : Int) * 8 + 1) = i 101 (8 * (t : Int) + 1) := by
        rw [hi59.1 8 (by decide) (by decide) (by decide) (by decide) (by decide) (by decide) (by decide), TW_trait hx.1 ⟨by omega, by omega⟩ (by omega)]
      have e80 : u2 i' 59 ((t : Int) * 3 + (k : Int)) (mColour i (t : Int) (k : Int)) 8 ((t : Int) * 8 + 0) = i 101 (8 * (t : Int) + 0) := by
        rw [hi59.1 8 (by decide) (by decide) (by decide) (by decide) (by decide) (by decide) (by decide), TW_trait hx.1 ⟨by omega, by omega⟩ (by omega)]
      have e83 : u2 i' 59 ((t : Int) * 3 + (k : Int)) (mColour i (t : Int) (k : Int)) 8 ((t : Int) * 8 + 3) = i 101 (8 * (t : Int) + 3) := by
        rw [hi59.1 8 (by decide) (by decide) (by decide) (by decide) (by decide) (by decide) (by decide), TW_trait hx.1 ⟨by omega, by omega⟩ (by omega)]
      refine sp_X0_priceOf (by omega) hxJ.2.2.1 hxJ.2.2.2 ⟨by omega, by omega⟩ ⟨by omega, by omega⟩ (by rw [e80]; exact ⟨by omega, by omega⟩) (fun i2 l2 hi2 hl2 => ?_)
      rw [e81, e80, e83, if_neg (may_ne (by omega) hmay z2.2)]
      have hi3 := lcf_tr hi59 (lcf_c hi2)
      have hkeep : ∀ a, a ≠ 42 → a ≠ 41 → i2 a = u2 i' 59 ((t : Int) * 3 + (k : Int)) (mColour i (t : Int) (k : Int)) a := fun a h1 h2 => cscr_c hi2 h1 h2
      exact fin i2 l2 _ hi3 (psc_tr hl hl2) (by rw [hkeep 52 (by decide) (by decide)]; exact h5259) (fun c hc => by rw [hkeep 59 (by decide) (by decide), hkeep 53 (by decide) (by decide), hkeep 54 (by decide) (by decide), hkeep 55 (by decide) (by decide)]; exact hs59 c hc) (by rw [hkeep 59 (by decide) (by decide)]; exact u2_self ..) (by unfold mPr; rw [if_pos ⟨hmay, z2.2⟩])
    · have hno : ¬ (mMay i (t : Int) (k : Int) = true ∧ ¬ (k : Int) = 0) := fun y => z2 ⟨(hmr k hk3).mpr y.1, y.2⟩
      exact fin _ l' 0 hi59 hl h5259 hs59 (u2_self ..) (by unfold mPr; rw [if_neg hno])
end
