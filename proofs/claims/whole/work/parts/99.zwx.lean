/-! ONE CALL on both sides: law -/
section
variable {w : Wd} {d k : Nat} {i : IM} {l : LM}
theorem wL_ln {u m b : Nat} (h : b < w.2.1) : (wL w u m).2.2.1 b = w.2.2.1 b := by
  show (if b = w.2.1 + 1 then u else if b = w.2.1 + 2 then m else if b = w.2.1 + 3 then 4 else w.2.2.1 b) = _
  rw [if_neg (by omega), if_neg (by omega), if_neg (by omega)]
theorem BkA_law {u m : Nat} {j : Int} (hb : BkA w) : BkA (wB (wL w u m) 15 j (some w.2.1)) := by
  obtain ⟨h1, h2, h3, h4, h5⟩ := hb
  have up : ∀ a, (dw w).2.1 a = some (.inr 2) → (dw (wB (wL w u m) 15 j (some w.2.1))).2.1 a = some (.inr 2) := fun a ha => by
    have ha' : shW w.2.1 w.2.2.1 a = some (.inr 2) := ha
    show shW (w.2.1 + 4) (wL w u m).2.2.1 a = some (.inr 2)
    unfold shW at ha' ⊢
    by_cases c : a < 125
    · rw [if_pos c] at ha' ⊢; exact ha'
    · rw [if_neg c] at ha' ⊢
      by_cases c2 : a < w.2.1
      · rw [if_pos c2] at ha'
        rw [if_pos (by omega)]
        by_cases c3 : (a - 125) % 4 = 0
        · rw [if_pos c3]
        · rw [if_neg c3] at ha'; cases ha'
      · rw [if_neg c2] at ha'; cases ha'
  have new : (dw (wB (wL w u m) 15 j (some w.2.1))).2.1 w.2.1 = some (.inr 2) := by
    show shW (w.2.1 + 4) (wL w u m).2.2.1 w.2.1 = some (.inr 2)
    unfold shW
    rw [if_neg (by omega), if_pos (by omega), if_pos h5]
  refine ⟨fun x a x0 x1 hx => ?_, fun x a x0 x1 hx => ?_, fun x a x0 x1 hx => ?_, by show 125 ≤ w.2.1 + 4; omega, by show (w.2.1 + 4 - 125) % 4 = 0; omega⟩
  · have hx' : u2r w.2.2.2 15 j (some w.2.1) 15 x = some a := hx
    rw [u2r_at] at hx'
    by_cases c : x = j
    · rw [if_pos c] at hx'; cases hx'; exact new
    · rw [if_neg c] at hx'; exact up a (h1 x a x0 x1 hx')
  · have hx' : u2r w.2.2.2 15 j (some w.2.1) 25 x = some a := hx
    rw [u2r_other _ _ _ (by decide)] at hx'
    exact up a (h2 x a x0 x1 hx')
  · have hx' : u2r w.2.2.2 15 j (some w.2.1) 34 x = some a := hx
    rw [u2r_other _ _ _ (by decide)] at hx'
    exact up a (h3 x a x0 x1 hx')
theorem law_end {A : Nat → List Cla} (hI : InA w k i l A) (hb : BkA w) {cs : List Cla} {B : Nat → Int} {U n t : Nat} (hC : CT B n) (ht : i 101 311 = (t : Int)) (ht6 : t < 6) (hp : pWhole (tT B n) = .inr cs) {J M : IM} {l' : LM} (hL : lawC (wL w U (4 * cs.length)) J w.2.1 cs) (mo : ∀ a, a < w.2.1 → a ≠ 6 → a ≠ 7 → ¬ (37 ≤ a ∧ a ≤ 40) → a ≠ 99 → a ≠ 101 → ¬ (107 ≤ a ∧ a ≤ 109) → M a = i a) (mN : ∀ a, 125 ≤ a → M a = J a) (m6 : ∀ x : Int, M 6 x = if x = 18 then 0 else if x = 16 then -1 else if x = 15 then 0 else i 6 x) (m7 : ∀ x : Int, M 7 x = if x = 15 then i 7 15 + 1 else if x = 12 then (t : Int) + 1 else i 7 x) (m99 : M 99 0 = 0 ∧ M 99 1 = i 99 1 + 1 ∧ M 99 10 = 0 ∧ M 99 11 = -1 ∧ ∀ x : Int, x ≠ 0 → x ≠ 1 → x ≠ 10 → x ≠ 11 → ¬ (15 ≤ x ∧ x ≤ 18) → M 99 x = i 99 x) (m101 : ∀ x : Int, x ≠ 311 → x ≠ 314 + (t : Int) → ¬ (320 + 400 * (t : Int) ≤ x ∧ x < 320 + 400 * (t : Int) + 400) → ¬ (2720 + 400 * (t : Int) ≤ x ∧ x < 2720 + 400 * (t : Int) + 400) → M 101 x = i 101 x) (m311 : M 101 311 = (t : Int) + 1) (m314 : M 101 (314 + (t : Int)) = (nT B n : Int)) (mtok : ∀ q : Nat, q < nT B n → M 101 (320 + ((400 * t + q : Nat) : Int)) = (tT B n).1 q ∧ M 101 (2720 + ((400 * t + q : Nat) : Int)) = (tT B n).2.1 q) : Inv (wB (wL w U (4 * cs.length)) 15 (t : Int) (some w.2.1)) (k + 2) M l' := by
  obtain ⟨-, -, -, hN, hN4⟩ := hb
  have lo : ∀ x : Int, 0 ≤ x → x < 314 → x ≠ 311 → M 101 x = i 101 x := fun x x0 x1 x2 => m101 x x2 (by omega) (by omega) (by omega)
  have hl : ∀ b, b < w.2.1 → (wB (wL w U (4 * cs.length)) 15 (t : Int) (some w.2.1)).2.2.1 b = w.2.2.1 b := fun b hb => wL_ln hb
  have hn : w.2.1 ≤ (wB (wL w U (4 * cs.length)) 15 (t : Int) (some w.2.1)).2.1 := by show w.2.1 ≤ w.2.1 + 4; omega
  have hi : ∀ b, 125 ≤ b → b < w.2.1 → M b = i b := fun b b1 b2 => mo b b2 (by omega) (by omega) (by omega) (by omega) (by omega) (by omega)
  have g : ∀ a, a < 125 → a ≠ 6 → a ≠ 7 → ¬ (37 ≤ a ∧ a ≤ 40) → a ≠ 99 → a ≠ 101 → ¬ (107 ≤ a ∧ a ≤ 109) → M a = i a := fun a a0 => mo a (by omega)
  refine Inv_u ⟨fun j => if j = t then cs else A j, InA_ch hI (fun a ha => g a (by omega) (by omega) (by omega) (by omega) (by omega) (by omega) (by omega)) ?_ (by rw [m7, if_pos rfl]) m99.2.1 (m99.2.2.2.2 32 (by decide) (by decide) (by decide) (by decide) (by omega)) (m99.2.2.2.2 50 (by decide) (by decide) (by decide) (by decide) (by omega)) ?_ ?_ ?_⟩
  · obtain ⟨⟨⟨t1, t2, t3, t4, t5, t6, t7⟩, h2⟩, ⟨k1, k2, k3⟩, h4⟩ := hI.1
    refine ⟨⟨⟨fun j j0 j1 => ?_, fun j j0 j1 => ?_, fun j j0 j1 => ?_, fun j j0 j1 => ?_, fun c c0 c1 => ?_, fun j j0 j1 => ?_, ?_⟩, fun c hc => ?_⟩, ⟨kOK_of (fun p p0 p1 p2 => ?_), SyK_cg (fun p p0 p1 p2 => lo p (by omega) (by omega) (by omega)) k2, ?_⟩, fun j hj => ?_⟩
    · rw [g (7 + 1) (by omega) (by omega) (by omega) (by omega) (by omega) (by omega) (by omega), lo _ (by omega) (by omega) (by omega)]; exact t1 j j0 j1
    · rw [g (7 + 2) (by omega) (by omega) (by omega) (by omega) (by omega) (by omega) (by omega), lo _ (by omega) (by omega) (by omega)]; exact t2 j j0 j1
    · rw [g (7 + 3) (by omega) (by omega) (by omega) (by omega) (by omega) (by omega) (by omega), lo _ (by omega) (by omega) (by omega)]; exact t3 j j0 j1
    · rw [g (7 + 4) (by omega) (by omega) (by omega) (by omega) (by omega) (by omega) (by omega), lo _ (by omega) (by omega) (by omega)]; exact t4 j j0 j1
    · rw [g (7 + 6) (by omega) (by omega) (by omega) (by omega) (by omega) (by omega) (by omega), mLow_cg (K := i 101) (fun c c0 c1 => lo _ (by omega) (by omega) (by omega))]; exact t5 c c0 c1
    · rw [g (7 + 7) (by omega) (by omega) (by omega) (by omega) (by omega) (by omega) (by omega), lo _ (by omega) (by omega) (by omega)]; exact t6 j j0 j1
    · have e7 : ∀ x : Int, x ≠ 15 → x ≠ 12 → M 7 x = i 7 x := fun x x1 x2 => by rw [m7, if_neg x1, if_neg x2]
      have e12 : M 7 12 = (t : Int) + 1 := by rw [m7, if_neg (by decide), if_pos rfl]
      rw [e7 8 (by decide) (by decide), e7 9 (by decide) (by decide), e7 10 (by decide) (by decide), e7 11 (by decide) (by decide), e12, e7 13 (by decide) (by decide), e7 14 (by decide) (by decide), lo 307 (by decide) (by decide) (by decide), lo 308 (by decide) (by decide) (by decide), lo 309 (by decide) (by decide) (by decide), lo 310 (by decide) (by decide) (by decide), m311, lo 313 (by decide) (by decide) (by decide), lo 312 (by decide) (by decide) (by decide)]
      exact ⟨t7.1, t7.2.1, t7.2.2.1, t7.2.2.2.1, rfl, t7.2.2.2.2.2.1, t7.2.2.2.2.2.2⟩
    · rw [g (7 + 5) (by omega) (by omega) (by omega) (by omega) (by omega) (by omega) (by omega), lo _ (by omega) (by omega) (by omega)]; exact h2 c hc
    · by_cases c : p = 311
      · subst c
        rw [m311]
        have e1 : kLo 311 = 0 := by decide
        have e2 : kHi 311 = 6 := by decide
        rw [e1, e2]
        omega
      · rw [lo p p0 p1 c]; exact kBd_of k1 p p0 p1 p2
    · unfold FrK
      rw [lo 312 (by decide) (by decide) (by decide), m311]
      have : FrK (i 101) := k3
      unfold FrK at this
      omega
    · have hj' : (j : Int) < (t : Int) + 1 := by rw [← m311]; exact hj
      by_cases c : j = t
      · subst c
        have eA : (if j = j then cs else A j) = cs := if_pos rfl
        refine ⟨⟨w.2.1, ?_, ?_⟩, ?_⟩
        · show u2r w.2.2.2 15 (j : Int) (some w.2.1) 15 (j : Int) = some w.2.1
          rw [u2r_at, if_pos rfl]
        · show lawC _ M w.2.1 (if j = j then cs else A j)
          rw [eA]
          exact lawC_ext hL (Nat.le_refl _) (fun _ _ => rfl) (fun b b1 _ => mN b b1)
        · show lawM (M 101) j (if j = j then cs else A j)
          rw [eA]
          exact lawM_new hC m314 mtok hp
      · have eA : (if j = t then cs else A j) = A j := if_neg c
        obtain ⟨⟨a, q1, q2⟩, q3⟩ := h4 j (by rw [ht]; omega)
        refine ⟨⟨a, ?_, ?_⟩, ?_⟩
        · show u2r w.2.2.2 15 (t : Int) (some w.2.1) 15 (j : Int) = some a
          rw [u2r_at, if_neg (by omega)]
          exact q1
        · show lawC _ M a (if j = t then cs else A j)
          rw [eA]
          exact lawC_ext q2 hn hl hi
        · show lawM (M 101) j (if j = t then cs else A j)
          rw [eA]
          exact lawM_ext (by omega) ht6 c m101 q3
  · have r1 := hI.2.2.1
    have e14 : M 6 14 = i 6 14 := by rw [m6, if_neg (by decide), if_neg (by decide), if_neg (by decide)]
    have e103 := g 103 (by decide) (by decide) (by decide) (by omega) (by decide) (by decide) (by omega)
    have e102 := g 102 (by decide) (by decide) (by decide) (by omega) (by decide) (by decide) (by omega)
    refine ⟨by rw [e14]; exact r1.1, fun m hm => ?_⟩
    rw [e14, e103, e102]
    obtain ⟨q1, q2⟩ := r1.2 m hm
    refine ⟨q1, fun z => ?_⟩
    obtain ⟨A2, q3⟩ := q2 z
    refine ⟨A2, TK_ext q3 (fun c c1 c2 => g c (by omega) (by omega) (by omega) (by omega) (by omega) (by omega) (by omega)) (fun j => ?_) hn hl hi⟩
    show u2r w.2.2.2 15 (t : Int) (some w.2.1) (17 + 9 * m + 8) j = _
    rw [u2r_other _ _ _ (by omega)]
  · have tp := hI.2.2.2.1
    have e15 : M 6 15 = 0 := by rw [m6, if_neg (by decide), if_neg (by decide), if_pos rfl]
    refine ⟨⟨by rw [e15]; omega, by rw [e15]; omega, by rw [e15, m99.2.2.1]⟩, fun j j0 j1 => ?_⟩
    rw [g 35 (by decide) (by decide) (by decide) (by omega) (by decide) (by decide) (by omega), g 105 (by decide) (by decide) (by decide) (by omega) (by decide) (by decide) (by omega)]
    exact tp.2 j j0 j1
  · have ms := hI.2.2.2.2.2.1
    refine ⟨by rw [m6, if_pos rfl, m99.1], ?_, ?_⟩
    · rw [m6, if_neg (by decide), if_neg (by decide), if_neg (by decide), m99.2.2.2.2 6 (by decide) (by decide) (by decide) (by decide) (by omega)]
      exact ms.2.1
    · rw [m6, if_neg (by decide), if_pos rfl, m99.2.2.2.1]
end
