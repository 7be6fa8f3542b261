/-! ONE CALL on both sides: law, where it is refused -/
section
variable {w : Wd} {d k : Nat} {i : IM} {l : LM}
theorem InA_txt {A : Nat → List Cla} {X : IM} (hI : InA w k i l A) (h : ∀ a, a ≠ 6 → ¬ (37 ≤ a ∧ a ≤ 40) → a ≠ 99 → ¬ (107 ≤ a ∧ a ≤ 109) → X a = i a) (h6 : ∀ x : Int, x ≠ 15 → x ≠ 16 → X 6 x = i 6 x) (h99 : ∀ x : Int, x ≠ 10 → x ≠ 11 → ¬ (15 ≤ x ∧ x ≤ 18) → X 99 x = i 99 x) (hz : X 6 15 = 0 ∧ X 99 10 = 0) (hf : X 6 16 = X 99 11) : InA w k X l A := by
  obtain ⟨h1, ⟨g1, g2⟩, r1, r2, r3, r4, r5, r6⟩ := hI
  have e101 := h 101 (by decide) (by omega) (by decide) (by omega)
  refine ⟨?_, ⟨?_, ?_⟩, ?_, ?_, ?_, ?_, ?_, ?_⟩
  · rw [e101]
    exact TK_eq (fun a x => h a (by omega) (by omega) (by omega) (by omega)) (fun x _ => by rw [h 7 (by decide) (by omega) (by decide) (by omega)]) (fun a x => h a (by omega) (by omega) (by omega) (by omega)) h1
  · rw [e101]
    exact CHs_eq (fun a x => h a (by omega) (by omega) (by omega) (by omega)) (fun _ _ => rfl) g1
  · rw [e101]
    exact PnC_eq (fun x hx => h99 x (by omega) (by omega) (by omega)) (fun a x => h a (by omega) (by omega) (by omega) (by omega)) g2
  · exact Img_eq (h6 14 (by decide) (by decide)) (fun a x => h a (by omega) (by omega) (by omega) (by omega)) r1
  · refine ⟨⟨by rw [hz.1]; omega, by rw [hz.1]; omega, by rw [hz.1, hz.2]⟩, fun j j0 j1 => ?_⟩
    rw [h 35 (by decide) (by omega) (by decide) (by omega), h 105 (by decide) (by omega) (by decide) (by omega)]
    exact r2.2 j j0 j1
  · obtain ⟨⟨c1, c2⟩, c3, c4, c5⟩ := r3
    refine ⟨⟨?_, ?_⟩, fun x x0 x5 => ?_, ?_, ?_⟩
    · rw [h 7 (by decide) (by omega) (by decide) (by omega)]; exact c1
    · rw [h99 1 (by decide) (by decide) (by omega)]; exact c2
    · rw [h 36 (by decide) (by omega) (by decide) (by omega)]; exact c3 x x0 x5
    · rw [h 36 (by decide) (by omega) (by decide) (by omega), h 100 (by decide) (by omega) (by decide) (by omega)]; exact c4
    · exact limB_eq (h 112 (by decide) (by omega) (by decide) (by omega)) c5
  · exact ⟨by rw [h6 18 (by decide) (by decide), h99 0 (by decide) (by decide) (by omega)]; exact r4.1, by rw [h6 17 (by decide) (by decide), h99 6 (by decide) (by decide) (by omega)]; exact r4.2.1, hf⟩
  · exact Dy_eq (by rw [h 94 (by decide) (by omega) (by decide) (by omega)]) (h 95 (by decide) (by omega) (by decide) (by omega)) (h99 50 (by decide) (by decide) (by omega)) (h 124 (by decide) (by omega) (by decide) (by omega)) r5
  · unfold Wrd; rw [h 104 (by decide) (by omega) (by decide) (by omega)]; exact r6
theorem ref_txt {A : Nat → List Cla} {Y : IM} (hI : InA w k i l A) (hk : k ≤ 100000) (hd : 1 ≤ d) {r ix : Int} (hr : rIx r ix) (h : ∀ a, a ≠ 6 → a ≠ 36 → ¬ (37 ≤ a ∧ a ≤ 40) → a ≠ 99 → ¬ (107 ≤ a ∧ a ≤ 109) → Y a = i a) (h36 : ∀ x : Int, x ≠ ix → Y 36 x = i 36 x) (h36i : Y 36 ix = i 36 ix + 1) (h6 : ∀ x : Int, x ≠ 15 → x ≠ 16 → x ≠ 18 → Y 6 x = i 6 x) (h18 : Y 6 18 = r) (h99 : ∀ x : Int, x ≠ 10 → x ≠ 11 → ¬ (15 ≤ x ∧ x ≤ 18) → Y 99 x = i 99 x) (hz : Y 6 15 = 0 ∧ Y 99 10 = 0) (hf : Y 6 16 = Y 99 11) : cI w d X_X12_refuses [vR (some 99), vI r] Y l (fun v' i2 l2 => v' = r ∧ Inv w (k + 2) i2 l2) := by
  have x6 : ∀ x : Int, (u2 (u2 Y 6 18 (i 6 18)) 36 ix (i 36 ix)) 6 x = if x = 18 then i 6 18 else Y 6 x := fun x => by rw [u2_other _ _ _ (by decide), u2_at]
  have x36 : ∀ x : Int, (u2 (u2 Y 6 18 (i 6 18)) 36 ix (i 36 ix)) 36 x = if x = ix then i 36 ix else Y 36 x := fun x => by rw [u2_at, u2_other _ _ _ (by decide)]
  have xo : ∀ a, a ≠ 6 → a ≠ 36 → (u2 (u2 Y 6 18 (i 6 18)) 36 ix (i 36 ix)) a = Y a := fun a a1 a2 => by rw [u2_other _ _ _ a2, u2_other _ _ _ a1]
  have hX : InA w k (u2 (u2 Y 6 18 (i 6 18)) 36 ix (i 36 ix)) l A := by
    refine InA_txt hI (fun a a1 a2 a3 a4 => ?_) (fun x x1 x2 => ?_) (fun x x1 x2 x3 => ?_) ⟨?_, ?_⟩ ?_
    · by_cases c : a = 36
      · subst c
        funext x
        rw [x36]
        by_cases c2 : x = ix
        · rw [if_pos c2, c2]
        · rw [if_neg c2, h36 x c2]
      · rw [xo a a1 c, h a a1 c a2 a3 a4]
    · rw [x6]
      by_cases c : x = 18
      · rw [if_pos c, c]
      · rw [if_neg c, h6 x x1 x2 c]
    · rw [xo 99 (by decide) (by decide), h99 x x1 x2 x3]
    · rw [x6, if_neg (by decide), hz.1]
    · rw [xo 99 (by decide) (by decide), hz.2]
    · rw [x6, if_neg (by decide), xo 99 (by decide) (by decide), hf]
  have eY : cRef (u2 (u2 Y 6 18 (i 6 18)) 36 ix (i 36 ix)) r ix = Y := by
    funext a x
    unfold cRef
    by_cases c : a = 36
    · subst c
      rw [u2_at]
      by_cases c2 : x = ix
      · rw [if_pos c2, x36, if_pos rfl, c2, h36i]
      · rw [if_neg c2, u2_other _ _ _ (by decide), x36, if_neg c2]
    · rw [u2_other _ _ _ c]
      by_cases c3 : a = 6
      · subst c3
        rw [u2_at]
        by_cases c2 : x = 18
        · rw [if_pos c2, c2, h18]
        · rw [if_neg c2, x6, if_neg c2]
      · rw [u2_other _ _ _ c3, xo a c3 c]
  have h0 := ref2 hX hk hd hr
  rw [eY] at h0
  exact CI_mono h0 (fun v i2 l2 _ q => ⟨q.1, Inv_u q.2⟩)
end
/-! the LAWS that are there stay where one is made -/
section
variable {w : Wd} {d k : Nat} {i : IM} {l : LM}
theorem lawC_ext {w w' : Wd} {i i' : IM} {a : Nat} {cs : List Cla} (h : lawC w i a cs) (hn : w.2.1 ≤ w'.2.1) (hl : ∀ b, b < w.2.1 → w'.2.2.1 b = w.2.2.1 b) (hi : ∀ b, 125 ≤ b → b < w.2.1 → i' b = i b) : lawC w' i' a cs := by
  obtain ⟨⟨a1, a2, a3, a4, a5, a6⟩, q2, q3, q4⟩ := h
  have key : ∀ (cs : List Cla) (j u : Nat), lawCs w i a j u cs → lawCs w' i' a j u cs := by
    intro cs
    induction cs with
    | nil => intro j u _; trivial
    | cons x cs ih =>
      intro j u hh
      refine ⟨?_, ih _ _ hh.2⟩
      have hx := hh.1
      unfold claC atC at hx ⊢
      rw [hi (a + 2) (by omega) (by omega), hi (a + 1) (by omega) (by omega), hl (a + 1) (by omega)]
      exact hx
  exact ⟨⟨a1, by omega, a3, by rw [hl _ (by omega)]; exact a4, by rw [hl _ (by omega)]; exact a5, by rw [hl _ (by omega)]; exact a6⟩, by rw [hl _ (by omega)]; exact q2, key cs 0 0 q3, fun h hh => by rw [hi (a + 3) (by omega) (by omega)]; exact q4 h hh⟩
theorem lawM_ext {K K' : Int → Int} {f t : Nat} (hf : f < 6) (ht : t < 6) (hne : f ≠ t) (h : ∀ x : Int, x ≠ 311 → x ≠ 314 + (t : Int) → ¬ (320 + 400 * (t : Int) ≤ x ∧ x < 320 + 400 * (t : Int) + 400) → ¬ (2720 + 400 * (t : Int) ≤ x ∧ x < 2720 + 400 * (t : Int) + 400) → K' x = K x) {cs : List Cla} (hl : lawM K f cs) : lawM K' f cs := by
  have hs : (K (314 + (f : Int))).toNat ≤ 400 := hl.1.1
  have e0 : K' (314 + (f : Int)) = K (314 + (f : Int)) := h _ (by omega) (by omega) (by omega) (by omega)
  have et : tkOf K' f = tkOf K f := by
    unfold tkOf
    rw [e0]
    have h1 : (fun k => if k < (K (314 + (f : Int))).toNat then K' (320 + ((400 * f + k : Nat) : Int)) else 0) = (fun k => if k < (K (314 + (f : Int))).toNat then K (320 + ((400 * f + k : Nat) : Int)) else 0) := by
      funext k
      by_cases c : k < (K (314 + (f : Int))).toNat
      · rw [if_pos c, if_pos c, h _ (by omega) (by omega) (by omega) (by omega)]
      · rw [if_neg c, if_neg c]
    have h2 : (fun k => if k < (K (314 + (f : Int))).toNat then K' (2720 + ((400 * f + k : Nat) : Int)) else 0) = (fun k => if k < (K (314 + (f : Int))).toNat then K (2720 + ((400 * f + k : Nat) : Int)) else 0) := by
      funext k
      by_cases c : k < (K (314 + (f : Int))).toNat
      · rw [if_pos c, if_pos c, h _ (by omega) (by omega) (by omega) (by omega)]
      · rw [if_neg c, if_neg c]
    rw [h1, h2]
  unfold lawM
  rw [et, e0]
  exact hl
theorem lawM_new {B : Nat → Int} {n t : Nat} (hC : CT B n) {K : Int → Int} (h0 : K (314 + (t : Int)) = (nT B n : Int)) (h1 : ∀ q : Nat, q < nT B n → K (320 + ((400 * t + q : Nat) : Int)) = (tT B n).1 q ∧ K (2720 + ((400 * t + q : Nat) : Int)) = (tT B n).2.1 q) {cs : List Cla} (hp : pWhole (tT B n) = .inr cs) : lawM K t cs := by
  have et : tkOf K t = tT B n := by
    have e1 : (fun k => if k < nT B n then K (320 + ((400 * t + k : Nat) : Int)) else 0) = (tT B n).1 := by
      funext k
      by_cases c : k < nT B n
      · rw [if_pos c, (h1 k c).1]
      · rw [if_neg c]
        show 0 = if k < nT B n then _ else 0
        rw [if_neg c]
    have e2 : (fun k => if k < nT B n then K (2720 + ((400 * t + k : Nat) : Int)) else 0) = (tT B n).2.1 := by
      funext k
      by_cases c : k < nT B n
      · rw [if_pos c, (h1 k c).2]
      · rw [if_neg c]
        show 0 = if k < nT B n then _ else 0
        rw [if_neg c]
    unfold tkOf
    rw [h0, Int.toNat_natCast, e1, e2]
    rfl
  refine ⟨by rw [et]; exact tkOK_CT hC, by rw [h0]; omega, by rw [et]; exact hp⟩
theorem TK_ext {w' : Wd} {i' : IM} {b : Nat} {K : Int → Int} {A : Nat → List Cla} (h : TK w i b K A) (hi : ∀ c, b ≤ c → c ≤ b + 7 → i' c = i c) (hbk : ∀ j : Int, w'.2.2.2 (b + 8) j = w.2.2.2 (b + 8) j) (hn : w.2.1 ≤ w'.2.1) (hl : ∀ b, b < w.2.1 → w'.2.2.1 b = w.2.2.1 b) (hi2 : ∀ b, 125 ≤ b → b < w.2.1 → i' b = i b) : TK w' i' b K A := by
  obtain ⟨⟨h1, h2⟩, h3, h4⟩ := h
  refine ⟨⟨?_, ?_⟩, h3, fun j hj => ?_⟩
  · unfold TWg
    rw [hi (b + 1) (by omega) (by omega), hi (b + 2) (by omega) (by omega), hi (b + 3) (by omega) (by omega), hi (b + 4) (by omega) (by omega), hi (b + 6) (by omega) (by omega), hi (b + 7) (by omega) (by omega), hi b (by omega) (by omega)]
    exact h1
  · unfold TLd
    rw [hi (b + 5) (by omega) (by omega)]
    exact h2
  · obtain ⟨⟨a, q1, q2⟩, q3⟩ := h4 j hj
    exact ⟨⟨a, by rw [hbk]; exact q1, lawC_ext q2 hn hl hi2⟩, q3⟩
end
