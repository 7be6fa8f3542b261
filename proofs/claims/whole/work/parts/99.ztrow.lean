/-! ONE CALL on both sides: row -/
section
variable {w : Wd} {d k : Nat} {i : IM} {l : LM}
abbrev roB (b : Int → Int) (len : Int) (K : Int → Int) (p : Int) : Prop := p + 2 < len ∧ K 310 < 60 ∧ b p < K 309 ∧ b (p + 1) < 120 ∧ (b (p + 2) = 255 ∨ b (p + 2) < 10)
def plB (b : Int → Int) (p : Int) : Int := if b (p + 2) = 255 then -1 else b (p + 2)
def qwK (b : Int → Int) (len : Int) (K : Int → Int) : Nat → Int → Int
  | 0 => K
  | t + 1 => if roB b len (qwK b len K t) (3 * (t : Int)) then wkK (qwK b len K t) (b (3 * (t : Int))) (b (3 * (t : Int) + 1)) (plB b (3 * (t : Int))) else qwK b len K t
def qwN (b : Int → Int) (len : Int) (K : Int → Int) : Nat → Int
  | 0 => 0
  | t + 1 => qwN b len K t + if roB b len (qwK b len K t) (3 * (t : Int)) then 1 else 0
theorem wkK_309 {K : Int → Int} {p m q : Int} (hn : 0 ≤ K 310 ∧ K 310 < 60) : wkK K p m q 309 = K 309 := by
  unfold wkK
  rw [upK_ne (by omega), upK_ne (by omega), upK_ne (by omega), upK_ne (by omega)]
theorem plB_rg {b : Int → Int} {p : Int} (h : b (p + 2) = 255 ∨ b (p + 2) < 10) (h0 : 0 ≤ b (p + 2)) : -1 ≤ plB b p ∧ plB b p < 10 := by
  unfold plB; split <;> omega
theorem qw_ok {b : Int → Int} {len : Int} {K : Int → Int} (hb : ∀ j : Int, 0 ≤ j → j < 400 → 0 ≤ b j ∧ b j ≤ 255) (hl : len ≤ 400) (kp : KP K) : ∀ t : Nat, KP (qwK b len K t) ∧ qwK b len K t 309 = K 309 ∧ (∀ x : Int, 311 ≤ x → qwK b len K t x = K x) ∧ (0 ≤ qwN b len K t ∧ qwN b len K t ≤ (t : Int))
  | 0 => ⟨kp, rfl, fun _ _ => rfl, by show (0 : Int) ≤ 0; omega, by show (0 : Int) ≤ 0; omega⟩
  | t + 1 => by
    obtain ⟨h1, h2, h3, h4⟩ := qw_ok hb hl kp t
    have h309 := h1.1.1.2.2.1
    have h310 := h1.1.1.2.2.2.1
    unfold qwK qwN
    by_cases c : roB b len (qwK b len K t) (3 * (t : Int))
    · rw [if_pos c, if_pos c]
      have b0 := hb (3 * (t : Int)) (by omega) (by omega)
      have b1 := hb (3 * (t : Int) + 1) (by omega) (by omega)
      have b2 := hb (3 * (t : Int) + 2) (by omega) (by omega)
      have pr := plB_rg c.2.2.2.2 b2.1
      refine ⟨wk_KP h1 (by omega) (by omega) (by omega) pr, by rw [wkK_309 (by omega), h2], fun x hx => by rw [wkK_hi (by omega) hx, h3 x hx], by omega, by omega⟩
    · rw [if_neg c, if_neg c]
      exact ⟨h1, h2, h3, by omega, by omega⟩
theorem qw_last {b : Int → Int} {len : Int} {K : Int → Int} {t : Nat} (h : len ≤ 3 * (t : Int) + 2) : qwK b len K (t + 1) = qwK b len K t ∧ qwN b len K (t + 1) = qwN b len K t := by
  have c : ¬ roB b len (qwK b len K t) (3 * (t : Int)) := fun z => by have := z.1; omega
  exact ⟨by show (if roB b len (qwK b len K t) (3 * (t : Int)) then _ else _) = _; rw [if_neg c], by show qwN b len K t + (if roB b len (qwK b len K t) (3 * (t : Int)) then 1 else 0) = _; rw [if_neg c]; omega⟩
theorem sp_X11_comes (hd : 2 ≤ d) {P : Int → IM → LM → Prop} {K : Int → Int} {p : Int} (hp : 0 ≤ p ∧ p < 400) (e15 : i 6 15 ≤ 400) (e11 : i 7 11 = K 310) (e10 : i 7 10 = K 309) (hn : 0 ≤ K 310) (hb : ∀ j : Int, 0 ≤ j → j < 400 → 0 ≤ i 35 j ∧ i 35 j ≤ 255) (hT : roB (i 35) (i 6 15) K p → P 1 (cWk i (i 35 p) (i 35 (p + 1)) (plB (i 35) p)) l) (hF : ¬ roB (i 35) (i 6 15) K p → P 0 i l) : cI w d X_X11_comes [vR (some 6), vI p] i l P := by
  obtain ⟨d, rfl, hd1⟩ := d_pos hd
  refine e_X11_comes (s_X11_comes _ ⟨⟨by omega, by omega⟩, fun z => hF (fun y => ?_), fun z => ?_⟩)
  · rw [e11] at z
    have := y.1; have := y.2.1; omega
  · rw [e11] at z
    have b0 := hb p (by omega) (by omega)
    have b1 := hb (p + 1) (by omega) (by omega)
    have b2 := hb (p + 2) (by omega) (by omega)
    refine ⟨⟨by omega, by omega⟩, fun _ => ⟨by omega, by omega⟩, ⟨by omega, by omega⟩, fun _ => ⟨by omega, by omega⟩, fun y => hF (fun u => ?_), fun y => ⟨⟨by omega, by omega⟩, ⟨by omega, by omega⟩, ?_⟩⟩
    · rw [e10] at y
      obtain ⟨-, -, u3, u4, u5⟩ := u
      rcases y with y | y | y
      · omega
      · omega
      · by_cases c : i 35 (p + 2) = 255
        · rw [if_pos c] at y; omega
        · rw [if_neg c] at y; omega
    · rw [e10] at y
      have hro : roB (i 35) (i 6 15) K p := by
        refine ⟨by omega, by omega, by omega, by omega, ?_⟩
        by_cases c : i 35 (p + 2) = 255
        · exact Or.inl c
        · rw [if_neg c] at y; right; omega
      have pr := plB_rg hro.2.2.2.2 b2.1
      exact sp_X9_addWalk (by omega) ⟨by omega, by omega⟩ ⟨by omega, by omega⟩ (show rg (plB (i 35) p) from ⟨by omega, by omega⟩) (by omega) (hT hro)
def rcR (i i' : IM) (K : Int → Int) : Prop := (∀ a, a ≠ 7 → a ≠ 14 → i' a = i a) ∧ i' 7 15 = i 7 15 ∧ TWg 7 K i' ∧ TLd 7 K i'
theorem lp_rowC {P : Int → IM → LM → Prop} (hd : 2 ≤ d) {K : Int → Int} {T : Nat} (h15 : i 6 15 ≤ 400) (hT : i 6 15 ≤ 3 * (T : Int) ∧ 3 * (T : Int) < i 6 15 + 3) (hb : ∀ j : Int, 0 ≤ j → j < 400 → 0 ≤ i 35 j ∧ i 35 j ≤ 255) (kp : KP K) (hP : ∀ i', rcR i i' (qwK (i 35) (i 6 15) K T) → cI w d X_X11_changed [vR (some 6), vI (qwN (i 35) (i 6 15) K T)] (u2 (u2 i' 6 15 0) 6 17 ((T : Int) - qwN (i 35) (i 6 15) K T)) l P) : ∀ r t : Nat, t + r = T → ∀ i', rcR i i' (qwK (i 35) (i 6 15) K t) → gI w d X_X11_row P i' l 20 [(0, vR (some 6)), (1, vI (qwN (i 35) (i 6 15) K t)), (2, vI ((t : Int) - qwN (i 35) (i 6 15) K t)), (3, vI (3 * (t : Int)))] [] := by
  intro r
  induction r with
  | zero =>
    intro t ht i' hr
    have e : t = T := by omega
    subst e
    have q := (qw_ok hb h15 kp t).2.2.2
    have e6 : i' 6 15 = i 6 15 := by rw [hr.1 6 (by decide) (by decide)]
    refine s_X11_row_20 _ _ _ ⟨⟨by omega, by omega⟩, fun _ => ⟨⟨by omega, by omega⟩, hP i' hr⟩, fun z => by omega⟩
  | succ r ih =>
    intro t ht i' hr
    have q := qw_ok hb h15 kp t
    have h310 := q.1.1.1.2.2.2.1
    have q2 := q.2.2.2
    obtain ⟨r1, r2, r3⟩ := hr
    have e6 : i' 6 = i 6 := r1 6 (by decide) (by decide)
    have e35 : i' 35 = i 35 := r1 35 (by decide) (by decide)
    have e10 : i' 7 10 = qwK (i 35) (i 6 15) K t 309 := r3.1.2.2.2.2.2.2.2.2.1
    have e11 : i' 7 11 = qwK (i 35) (i 6 15) K t 310 := r3.1.2.2.2.2.2.2.2.2.2.1
    refine s_X11_row_20 _ _ _ ⟨⟨by omega, by omega⟩, fun z => by rw [e6] at z; omega, fun z => ?_⟩
    rw [e6] at z
    refine sp_X11_comes hd ⟨by omega, by omega⟩ (by rw [e6]; omega) e11 e10 (by omega) (by rw [e35]; exact hb) (fun y => ⟨fun u => by omega, fun _ => ?_⟩) (fun y => ⟨fun _ => ?_, fun u => by omega⟩)
    · rw [e35] at y ⊢
      rw [e6] at y
      have eK : qwK (i 35) (i 6 15) K (t + 1) = wkK (qwK (i 35) (i 6 15) K t) (i 35 (3 * (t : Int))) (i 35 (3 * (t : Int) + 1)) (plB (i 35) (3 * (t : Int))) := if_pos y
      have eN : qwN (i 35) (i 6 15) K (t + 1) = qwN (i 35) (i 6 15) K t + 1 := by
        show qwN (i 35) (i 6 15) K t + (if roB (i 35) (i 6 15) (qwK (i 35) (i 6 15) K t) (3 * (t : Int)) then 1 else 0) = _
        rw [if_pos y]
      have nx := ih (t + 1) (by omega) (cWk i' (i 35 (3 * (t : Int))) (i 35 (3 * (t : Int) + 1)) (plB (i 35) (3 * (t : Int)))) ⟨fun a a1 a2 => by unfold cWk; rw [u2_other _ _ _ a1, u2_other _ _ _ a2, u2_other _ _ _ a2, u2_other _ _ _ a2, r1 a a1 a2], by
        unfold cWk; rw [u2_at, if_neg (by decide), u2_other _ _ _ (by decide), u2_other _ _ _ (by decide), u2_other _ _ _ (by decide), r2], by rw [eK]; exact wk_TW r3 (by have := y.2.1; omega)⟩
      rw [eN, show ((t + 1 : Nat) : Int) - (qwN (i 35) (i 6 15) K t + 1) = (t : Int) - qwN (i 35) (i 6 15) K t by omega, show 3 * ((t + 1 : Nat) : Int) = 3 * (t : Int) + 3 by omega] at nx
      exact nx
    · rw [e35, e6] at y
      have eK : qwK (i 35) (i 6 15) K (t + 1) = qwK (i 35) (i 6 15) K t := if_neg y
      have eN : qwN (i 35) (i 6 15) K (t + 1) = qwN (i 35) (i 6 15) K t := by
        show qwN (i 35) (i 6 15) K t + (if roB (i 35) (i 6 15) (qwK (i 35) (i 6 15) K t) (3 * (t : Int)) then 1 else 0) = _
        rw [if_neg y]; omega
      have nx := ih (t + 1) (by omega) i' ⟨r1, r2, by rw [eK]; exact r3⟩
      rw [eN, show ((t + 1 : Nat) : Int) - qwN (i 35) (i 6 15) K t = (t : Int) - qwN (i 35) (i 6 15) K t + 1 by omega, show 3 * ((t + 1 : Nat) : Int) = 3 * (t : Int) + 3 by omega] at nx
      exact nx
theorem i8_all : ∀ b : Fin 256, i8 ((b.val : Nat) : Int) = (if b.val < 128 then ((b.val : Nat) : Int) else ((b.val : Nat) : Int) - 256) ∧ iand (i8 ((b.val : Nat) : Int)) 255 = ((b.val : Nat) : Int) := by decide +kernel
theorem i8_b {b : Int} (h : 0 ≤ b ∧ b ≤ 255) : (i8 b = if b < 128 then b else b - 256) ∧ iand (i8 b) 255 = b := by
  obtain ⟨n, rfl⟩ := Int.eq_ofNat_of_zero_le h.1
  have := i8_all ⟨n, by omega⟩
  refine ⟨?_, this.2⟩
  rw [this.1]
  by_cases c : n < 128
  · rw [if_pos c, if_pos (by omega)]
  · rw [if_neg c, if_neg (by omega)]
def rmR (i i' : IM) (K : Int → Int) (s : Int) : Prop := (∀ a, a ≠ 99 → a ≠ 101 → i' a = i a) ∧ (∀ x : Int, x ≠ 6 → i' 99 x = i 99 x) ∧ i' 99 6 = s ∧ i' 101 = K
theorem lp_rowM {P : Int → IM → LM → Prop} (hd : 2 ≤ d) {K b : Int → Int} {len s0 : Int} {T : Nat} (h15 : len ≤ 400) (hs0 : 0 ≤ s0 ∧ s0 ≤ 1) (hT : 3 * (T : Int) ≤ len ∧ len < 3 * (T : Int) + 3) (hb : ∀ j : Int, 0 ≤ j → j < 400 → (0 ≤ b j ∧ b j ≤ 255) ∧ i 105 j = i8 (b j)) (kp : KP K) (hP : ∀ i', rmR i i' (qwK b len K T) (s0 + ((T : Int) - qwN b len K T)) → cI w d X_X12_good [vR (some 99), vI (qwN b len K T)] i' l P) : ∀ r t : Nat, t + r = T → ∀ i', rmR i i' (qwK b len K t) (s0 + ((t : Int) - qwN b len K t)) → gI w d X_X12_row P i' l 40 [(0, vR (some 99)), (1, vI len), (2, vI (qwN b len K t)), (3, vI (3 * (t : Int)))] [] := by
  intro r
  induction r with
  | zero =>
    intro t ht i' hr
    have e : t = T := by omega
    subst e
    refine s_X12_row_40 _ _ _ hd ⟨⟨by omega, by omega⟩, ⟨by omega, by omega⟩, fun _ => hP i' hr, fun z => by omega⟩
  | succ r ih =>
    intro t ht i' hr
    have q := qw_ok (fun j j0 j1 => (hb j j0 j1).1) h15 kp t
    have h309 := q.1.1.1.2.2.1
    have h310 := q.1.1.1.2.2.2.1
    have q2 := q.2.2.2
    obtain ⟨r1, r2, r3, r4⟩ := hr
    have b0 := hb (3 * (t : Int)) (by omega) (by omega)
    have b1 := hb (3 * (t : Int) + 1) (by omega) (by omega)
    have b2 := hb (3 * (t : Int) + 2) (by omega) (by omega)
    have e105 : i' 105 = i 105 := r1 105 (by decide) (by decide)
    have g0 := i8_b b0.1
    have g1 := i8_b b1.1
    have g2 := i8_b b2.1
    have no : ¬ roB b len (qwK b len K t) (3 * (t : Int)) → ∀ x4, gI w d X_X12_row P i' l 158 [(0, vR (some 99)), (1, vI len), (2, vI (qwN b len K t)), (3, vI (3 * (t : Int))), (4, vI x4)] [] := fun y x4 => by
      have eK : qwK b len K (t + 1) = qwK b len K t := if_neg y
      have eN : qwN b len K (t + 1) = qwN b len K t := by
        show qwN b len K t + (if roB b len (qwK b len K t) (3 * (t : Int)) then 1 else 0) = _
        rw [if_neg y]; omega
      have nx := ih (t + 1) (by omega) (u2 i' 99 6 (i' 99 6 + 1)) ⟨fun a a1 a2 => by rw [u2_other _ _ _ a1, r1 a a1 a2], fun x hx => by rw [u2_at, if_neg hx, r2 x hx], by rw [u2_self, r3, eN]; omega, by rw [u2_other _ _ _ (by decide), r4, eK]⟩
      rw [eN, show 3 * ((t + 1 : Nat) : Int) = 3 * (t : Int) + 3 by omega] at nx
      refine s_X12_row_158 _ _ _ _ (s_X12_row_186 _ _ _ _ ⟨rg_lit rfl, rg_lit rfl, ?_⟩)
      rw [bI_t rfl, bI_f (fun z => z rfl), show qwN b len K t + 0 = qwN b len K t by omega]
      exact ⟨by rw [r3]; exact ⟨by omega, by omega⟩, nx⟩
    have yes : roB b len (qwK b len K t) (3 * (t : Int)) → ∀ x4, x4 = plB b (3 * (t : Int)) → gI w d X_X12_row P i' l 141 [(0, vR (some 99)), (1, vI len), (2, vI (qwN b len K t)), (3, vI (3 * (t : Int))), (4, vI x4)] [] := fun y x4 h4 => by
      have eK : qwK b len K (t + 1) = wkK (qwK b len K t) (b (3 * (t : Int))) (b (3 * (t : Int) + 1)) (plB b (3 * (t : Int))) := if_pos y
      have eN : qwN b len K (t + 1) = qwN b len K t + 1 := by
        show qwN b len K t + (if roB b len (qwK b len K t) (3 * (t : Int)) then 1 else 0) = _
        rw [if_pos y]
      have pr := plB_rg y.2.2.2.2 b2.1.1
      have i0 : i' 105 (3 * (t : Int)) = b (3 * (t : Int)) := by rw [e105, b0.2, g0.1, if_pos (by have := y.2.2.1; omega)]
      have i1 : i' 105 (3 * (t : Int) + 1) = b (3 * (t : Int) + 1) := by rw [e105, b1.2, g1.1, if_pos (by have := y.2.2.2.1; omega)]
      subst h4
      refine s_X12_row_141 _ _ _ _ ⟨fun z => by rw [r4] at z; have := y.2.1; omega, fun _ => ⟨⟨by omega, by omega⟩, ⟨by omega, by omega⟩, ?_⟩⟩
      rw [i0, i1]
      refine sp_X12_walks (by omega) ⟨by omega, by omega⟩ ⟨by omega, by omega⟩ ⟨by omega, by omega⟩ (by rw [r4]; have := y.2.1; omega) ?_
      have e3 := mWk_101 (i := i') (b (3 * (t : Int))) (b (3 * (t : Int) + 1)) (plB b (3 * (t : Int)))
      have eo : ∀ a, a ≠ 101 → mWk i' (b (3 * (t : Int))) (b (3 * (t : Int) + 1)) (plB b (3 * (t : Int))) a = i' a := fun a ha => by unfold mWk; rw [u2_other _ _ _ ha, u2_other _ _ _ ha, u2_other _ _ _ ha, u2_other _ _ _ ha]
      generalize mWk i' (b (3 * (t : Int))) (b (3 * (t : Int) + 1)) (plB b (3 * (t : Int))) = J at e3 eo ⊢
      have nx := ih (t + 1) (by omega) (u2 J 99 6 (J 99 6 + 0)) ⟨fun a a1 a2 => by rw [u2_other _ _ _ a1, eo a a2, r1 a a1 a2], fun x hx => by rw [u2_at, if_neg hx, eo 99 (by decide), r2 x hx], by rw [u2_self, eo 99 (by decide), r3, eN]; omega, by rw [u2_other _ _ _ (by decide), e3, r4, eK]⟩
      rw [eN, show 3 * ((t + 1 : Nat) : Int) = 3 * (t : Int) + 3 by omega] at nx
      refine s_X12_row_186 _ _ _ _ ⟨rg_lit rfl, rg_lit rfl, ?_⟩
      rw [bI_f (show ¬ (1 : Int) = 0 by decide), bI_t (show ¬ (1 : Int) = 0 by decide)]
      exact ⟨by rw [eo 99 (by decide), r3]; exact ⟨by omega, by omega⟩, nx⟩
    refine s_X12_row_40 _ _ _ hd ⟨⟨by omega, by omega⟩, ⟨by omega, by omega⟩, fun z => by omega, fun z => ?_⟩
    rw [e105, b0.2, b1.2, b2.2, g2.2, r4, g0.1, g1.1, g2.1]
    refine ⟨⟨by omega, by omega⟩, fun _ => ⟨by omega, by omega⟩, ⟨by omega, by omega⟩, ⟨by omega, by omega⟩, fun _ => ⟨by omega, by omega⟩, fun _ _ _ => ⟨by omega, by omega⟩, fun y => no (fun u => ?_) _, fun y => ?_, fun y => ?_⟩
    · obtain ⟨-, -, u3, u4, u5⟩ := u
      rw [if_pos (by omega), if_pos (by omega)] at y
      by_cases c : b (3 * (t : Int) + 2) = 255
      · rw [if_pos c] at y; omega
      · rw [if_neg c, if_pos (by omega)] at y; omega
    · by_cases c : 60 ≤ qwK b len K t 310
      · refine s_X12_row_141 _ _ _ _ ⟨fun _ => no (fun u => by have := u.2.1; omega) _, fun u => by rw [r4] at u; omega⟩
      · have y0 : b (3 * (t : Int)) < 128 := by
          by_cases q : b (3 * (t : Int)) < 128
          · exact q
          · rw [if_neg q] at y; omega
        have y1 : b (3 * (t : Int) + 1) < 128 := by
          by_cases q : b (3 * (t : Int) + 1) < 128
          · exact q
          · rw [if_neg q] at y; omega
        rw [if_pos y0, if_pos y1] at y
        by_cases c2 : b (3 * (t : Int) + 2) = 255
        · rw [if_pos c2] at y; omega
        · rw [if_neg c2] at y
          have y2 : b (3 * (t : Int) + 2) < 128 := by
            by_cases q : b (3 * (t : Int) + 2) < 128
            · exact q
            · rw [if_neg q] at y; omega
          rw [if_pos y2] at y
          refine yes ⟨by omega, by omega, by omega, by omega, by omega⟩ _ ?_
          unfold plB
          rw [if_neg c2, if_neg c2, if_pos y2]
    · by_cases c : 60 ≤ qwK b len K t 310
      · refine s_X12_row_141 _ _ _ _ ⟨fun _ => no (fun u => by have := u.2.1; omega) _, fun u => by rw [r4] at u; omega⟩
      · have y0 : b (3 * (t : Int)) < 128 := by
          by_cases q : b (3 * (t : Int)) < 128
          · exact q
          · rw [if_neg q] at y; omega
        have y1 : b (3 * (t : Int) + 1) < 128 := by
          by_cases q : b (3 * (t : Int) + 1) < 128
          · exact q
          · rw [if_neg q] at y; omega
        rw [if_pos y0, if_pos y1] at y
        have c2 : b (3 * (t : Int) + 2) = 255 := y.2.2.2
        refine yes ⟨by omega, by omega, by omega, by omega, by omega⟩ _ ?_
        unfold plB
        rw [if_pos c2, if_pos c2]
theorem mGo6 (i : IM) {a : Nat} (ha : a ≠ 99) : mGood i a = i a := by unfold mGood; rw [u2_other _ _ _ ha, u2_other _ _ _ ha]
theorem mGo99 (i : IM) (x : Int) : mGood i 99 x = if x = 1 then i 99 1 + 1 else if x = 0 then 0 else i 99 x := by unfold mGood; rw [u2_at, u2_at]
theorem cC6 (i : IM) (x : Int) : cChg i 6 x = if x = 18 then 0 else i 6 x := by unfold cChg; rw [u2_at]; rfl
theorem cC7 (i : IM) (x : Int) : cChg i 7 x = if x = 15 then i 7 15 + 1 else i 7 x := by
  show u2 i 7 15 (i 7 15 + 1) 7 x = _
  rw [u2_at]
theorem st_row (hd : 90 ≤ d) (hk : k ≤ 100000) (hI : Inv w k i l) : BoC w k d X_X11_row X_X12_row [] i l := by
  obtain ⟨A, hA⟩ := hI
  obtain ⟨d, rfl, hd1⟩ := d_pos (k := 89) hd
  have tw := hA.1.1
  have kp : KP (i 101) := hA.1.2.1
  have tp := hA.2.2.2.1
  have hc := chg_rg hA hk
  obtain ⟨n, hn⟩ : ∃ n, i 6 15 = n := ⟨_, rfl⟩
  have tp1 := tp.1
  rw [hn] at tp1
  have hb : ∀ j : Int, 0 ≤ j → j < 400 → 0 ≤ i 35 j ∧ i 35 j ≤ 255 := fun j j0 j1 => (tp.2 j j0 j1).1
  refine e_X11_row (s_X11_row ⟨fun z => ?_, fun z => ?_⟩)
  · refine sp_X11_refuse (by omega) r6 (ref_rg hA hk r6) ?_
    have h99 : cRef i (-6) 4 99 10 = 0 := by rw [cRo _ _ _ (by decide) (by decide)]; omega
    have e : u2 (cRef i (-6) 4) 99 10 0 = cRef i (-6) 4 := by
      funext a x
      unfold u2
      split
      · next q => rw [q.1, q.2, h99]
      · rfl
    have hf := ref2 (d := d) hA hk (by omega) r6
    rw [← e] at hf
    exact e_X12_row (s_X12_row ⟨fun _ => hf, fun y => absurd h99 y⟩)
  · rw [hn] at z
    -- so many rounds on one side, so many on the other
    obtain ⟨N, hN⟩ := Int.eq_ofNat_of_zero_le tp1.1
    obtain ⟨T', hT'⟩ : ∃ T' : Nat, 3 * (T' : Int) ≤ n ∧ n < 3 * (T' : Int) + 3 := ⟨N / 3, by omega, by omega⟩
    obtain ⟨T, hT⟩ : ∃ T : Nat, n ≤ 3 * (T : Int) ∧ 3 * (T : Int) < n + 3 := ⟨(N + 2) / 3, by omega, by omega⟩
    have ok := qw_ok hb tp1.2.1 kp T
    have sm : qwK (i 35) n (i 101) T = qwK (i 35) n (i 101) T' ∧ qwN (i 35) n (i 101) T = qwN (i 35) n (i 101) T' ∧ bI (¬ Int.tmod n 3 = 0) + ((T' : Int) - qwN (i 35) n (i 101) T') = (T : Int) - qwN (i 35) n (i 101) T := by
      have em : Int.tmod n 3 = n % 3 := Int.tmod_eq_emod_of_nonneg (by omega)
      rw [em]
      by_cases c : n % 3 = 0
      · have e : T = T' := by omega
        subst e
        exact ⟨rfl, rfl, by rw [bI_f (fun y => y c)]; omega⟩
      · have e : T = T' + 1 := by omega
        subst e
        have := qw_last (b := i 35) (len := n) (K := i 101) (t := T') (by omega)
        exact ⟨this.1, this.2, by rw [bI_t c, this.2]; omega⟩
    have hlp := lp_rowC (w := w) (d := d) (i := i) (l := l) (K := i 101) (T := T) (P := fun v i1 l1 => cI w (d + 1) X_X12_row [vR (some 99)] i1 l1 (fun v' i2 l2 => v' = v ∧ Inv w (k + 1) i2 l2)) (by omega) (by rw [hn]; exact tp1.2.1) (by rw [hn]; exact hT) hb kp (fun i' hr => ?_) T 0 (by omega) i ⟨fun _ _ _ => rfl, rfl, tw⟩
    · exact hlp
    rw [hn] at hr ⊢
    obtain ⟨r1, r2, r3⟩ := hr
    have okN := ok.2.2.2
    refine sp_X11_changed (by omega) ⟨by omega, by omega⟩ (by rw [u2_other _ _ _ (by decide), u2_other _ _ _ (by decide), r2]; exact hc.1) ?_
    have J6 : ∀ x : Int, cChg (u2 (u2 i' 6 15 0) 6 17 ((T : Int) - qwN (i 35) n (i 101) T)) 6 x = if x = 18 then 0 else if x = 17 then (T : Int) - qwN (i 35) n (i 101) T else if x = 15 then 0 else i 6 x := fun x => by
      rw [cC6, u2_at, u2_at, r1 6 (by decide) (by decide)]
    have J7 : ∀ x : Int, cChg (u2 (u2 i' 6 15 0) 6 17 ((T : Int) - qwN (i 35) n (i 101) T)) 7 x = if x = 15 then i 7 15 + 1 else i' 7 x := fun x => by
      rw [cC7, u2_other _ _ _ (by decide), u2_other _ _ _ (by decide), r2]
    have Jo : ∀ a, a ≠ 6 → a ≠ 7 → cChg (u2 (u2 i' 6 15 0) 6 17 ((T : Int) - qwN (i 35) n (i 101) T)) a = i' a := fun a a1 a2 => by
      rw [cCo _ a1 a2, u2_other _ _ _ a1, u2_other _ _ _ a1]
    generalize cChg (u2 (u2 i' 6 15 0) 6 17 ((T : Int) - qwN (i 35) n (i 101) T)) = J at J6 J7 Jo ⊢
    have Jp : ∀ a, a ≠ 6 → a ≠ 7 → a ≠ 14 → J a = i a := fun a a1 a2 a3 => by rw [Jo a a1 a2, r1 a a2 a3]
    have j10 : J 99 10 = n := by rw [Jp 99 (by decide) (by decide) (by decide)]; omega
    refine e_X12_row (s_X12_row ⟨fun y => by omega, fun _ => ?_⟩)
    rw [j10]
    refine ⟨by rw [Int.tmod_eq_emod_of_nonneg (by omega)]; exact ⟨by omega, by omega⟩, ?_⟩
    have s01 : 0 ≤ bI (¬ Int.tmod n 3 = 0) ∧ bI (¬ Int.tmod n 3 = 0) ≤ 1 := by unfold bI; split <;> omega
    have hlm := lp_rowM (w := w) (d := d) (i := u2 (u2 J 99 10 0) 99 6 (bI (¬ Int.tmod n 3 = 0))) (l := l) (K := i 101) (b := i 35) (len := n) (s0 := bI (¬ Int.tmod n 3 = 0)) (T := T') (P := fun v' i2 l2 => v' = qwN (i 35) n (i 101) T ∧ Inv w (k + 1) i2 l2) (by omega) tp1.2.1 s01 hT' (fun j j0 j1 => by
      refine ⟨hb j j0 j1, ?_⟩
      rw [u2_other _ _ _ (by decide), u2_other _ _ _ (by decide), Jp 105 (by decide) (by decide) (by decide)]
      exact (tp.2 j j0 j1).2) kp (fun i3 hr3 => ?_) T' 0 (by omega) (u2 (u2 J 99 10 0) 99 6 (bI (¬ Int.tmod n 3 = 0))) ⟨fun _ _ _ => rfl, fun _ _ => rfl, by rw [u2_self]; show _ = bI (¬ Int.tmod n 3 = 0) + (((0 : Nat) : Int) - 0); omega, by rw [u2_other _ _ _ (by decide), u2_other _ _ _ (by decide), Jp 101 (by decide) (by decide) (by decide)]; rfl⟩
    · exact hlm
    obtain ⟨s1, s2, s3, s4⟩ := hr3
    rw [sm.2.2] at s3
    rw [← sm.1] at s4
    have i3o : ∀ a, a ≠ 6 → a ≠ 7 → a ≠ 14 → a ≠ 99 → a ≠ 101 → i3 a = i a := fun a a1 a2 a3 a4 a5 => by rw [s1 a a4 a5, u2_other _ _ _ a4, u2_other _ _ _ a4, Jp a a1 a2 a3]
    have i3J : ∀ a, a ≠ 99 → a ≠ 101 → i3 a = J a := fun a a4 a5 => by rw [s1 a a4 a5, u2_other _ _ _ a4, u2_other _ _ _ a4]
    have i399 : ∀ x : Int, x ≠ 6 → x ≠ 10 → i3 99 x = i 99 x := fun x x1 x2 => by rw [s2 x x1, u2_at, if_neg x1, u2_at, if_neg x2, Jp 99 (by decide) (by decide) (by decide)]
    have i310 : i3 99 10 = 0 := by rw [s2 10 (by decide), u2_at, if_neg (by decide), u2_self]
    rw [← sm.2.1]
    refine sp_X12_good (by omega) ⟨by omega, by omega⟩ (by rw [i399 1 (by decide) (by decide)]; exact hc.2) ⟨rfl, ?_⟩
    have g7 : ∀ x : Int, mGood i3 7 x = if x = 15 then i 7 15 + 1 else i' 7 x := fun x => by rw [mGo6 _ (by decide), i3J 7 (by decide) (by decide), J7]
    have g6 : ∀ x : Int, mGood i3 6 x = if x = 18 then 0 else if x = 17 then (T : Int) - qwN (i 35) n (i 101) T else if x = 15 then 0 else i 6 x := fun x => by rw [mGo6 _ (by decide), i3J 6 (by decide) (by decide), J6]
    have g99 := mGo99 i3
    have go : ∀ a, a ≠ 6 → a ≠ 7 → a ≠ 14 → a ≠ 99 → a ≠ 101 → mGood i3 a = i a := fun a a1 a2 a3 a4 a5 => by rw [mGo6 _ a4, i3o a a1 a2 a3 a4 a5]
    have gJ : ∀ a, 8 ≤ a → a ≤ 14 → mGood i3 a = i' a := fun a a1 a2 => by rw [mGo6 _ (by omega), i3J a (by omega) (by omega), Jo a (by omega) (by omega)]
    have g101 : mGood i3 101 = qwK (i 35) n (i 101) T := by rw [mGo6 _ (by decide), s4]
    generalize mGood i3 = M at g7 g6 g99 go gJ g101
    obtain ⟨q1, q2, q3, q4, q5, q6⟩ := hA.2.2
    refine ⟨A, InA_ch hA (fun a x => go a (by omega) (by omega) (by omega) (by omega) (by omega)) ⟨?_, ?_, ?_⟩ (by rw [g7]; rfl) (by rw [g99, i399 1 (by decide) (by decide)]; rfl) (by rw [g99, i399 32 (by decide) (by decide)]; rfl) (by rw [g99, i399 50 (by decide) (by decide)]; rfl) (Img_eq (by rw [g6]; rfl) (fun a x => go a (by omega) (by omega) (by omega) (by omega) (by omega)) q1) ⟨?_, ?_⟩ ⟨?_, ?_, ?_⟩⟩
    · rw [g101]
      exact TWg_eq7 gJ (fun x hx => by rw [g7, if_neg hx]) r3
    · rw [g101]; exact ok.1
    · intro j hj
      rw [g101] at hj ⊢
      rw [ok.2.2.1 311 (by omega)] at hj
      obtain ⟨⟨a, v1, v2⟩, v3⟩ := hA.1.2.2 j hj
      exact ⟨⟨a, v1, lawC_same (fun b hb => go b (by omega) (by omega) (by omega) (by omega) (by omega)) v2⟩, lawM_cg (fun p hp => ok.2.2.1 p (by omega)) v3⟩
    · rw [g6, g99, i310]
      exact ⟨(show (0 : Int) ≤ 0 by decide), (show (0 : Int) ≤ 400 by decide), rfl⟩
    · rw [go 35 (by decide) (by decide) (by decide) (by decide) (by decide), go 105 (by decide) (by decide) (by decide) (by decide) (by decide)]
      exact tp.2
    · rw [g6, g99]; rfl
    · rw [g6, g99, s3]; rfl
    · rw [g6, g99, i399 11 (by decide) (by decide)]
      exact q4.2.2
end
