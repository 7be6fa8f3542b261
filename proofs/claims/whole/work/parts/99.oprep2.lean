/-! CANVAS: prepared -/
section
variable {w : Wd} {d : Nat} {i : IM} {l : LM}
theorem mMay_K {i i' : IM} (e : i' 101 = i 101) : mMay i' = mMay i := by funext t c; unfold mMay; rw [e]
theorem mColour_K {i i' : IM} (e : i' 101 = i 101) : mColour i' = mColour i := by funext t c; unfold mColour; rw [e]
theorem allB_K {i i' : IM} (e : i' 101 = i 101) : allB i' = allB i := by
  funext cs mo t v k
  induction k with
  | zero => rfl
  | succ k ih => unfold allB; rw [ih, e, mMay_K e, mColour_K e, mBit_K e]
theorem restB_K {i i' : IM} (e : i' 101 = i 101) : restB i' = restB i := by
  funext cs mo v r
  induction r with
  | zero => rfl
  | succ r ih => funext t; unfold restB; rw [ih, allB_K e]
theorem moreB_K {i i' : IM} (e : i' 101 = i 101) : moreB i' = moreB i := by
  funext cs mo v r
  induction r with
  | zero => rfl
  | succ r ih => funext t; unfold moreB; rw [ih, allB_K e]
theorem mvw_K {i i' : IM} (e : i' 101 = i 101) : mvw i' = mvw i := by
  funext cs o v mo t
  induction t with
  | zero => rfl
  | succ t ih => unfold mvw; rw [ih, mColour_K e, mBit_K e]
theorem rowP_K {i i' : IM} (e : i' 101 = i 101) : rowP i' = rowP i := by
  funext l cs mo q t0
  unfold rowP shB
  rw [e, mMay_K e, mColour_K e, mBit_K e, restB_K e, moreB_K e]
theorem spB_KK {i i' : IM} (e : i' 101 = i 101) : spB i' = spB i := by funext cs mo x; unfold spB; rw [e]
theorem cvR_K {i i' : IM} (e : i' 101 = i 101) : cvR i' = cvR i := by
  funext l cs n R ms
  unfold cvR rowsOK moOK
  rw [e, mMay_K e, mvw_K e, spB_KK e, rowP_K e]
theorem ChK_K {i i' : IM} (e : i' 101 = i 101) (e52 : i' 52 = i 52) (e59 : i' 59 = i 59) (h : ChK i) : ChK i' := by
  unfold ChK
  rw [e, e52, e59, mMay_K e, mColour_K e]
  exact h
/-- what the MONTHS change -/
def pmf (i i' : IM) : Prop := (∀ a : Nat, a ≠ 41 → a ≠ 42 → a ≠ 51 → a ≠ 62 → i' a = i a) ∧ ∀ k : Int, k ≠ 13 → i' 51 k = i 51 k
def pml (l l' : LM) : Prop := ∀ a : Nat, a ≠ 43 → a ≠ 56 → a ≠ 57 → a ≠ 58 → a ≠ 60 → a ≠ 61 → l' a = l a
theorem Cx_p {i i' : IM} {cs : List Cla} (h : pmf i i') (hx : Cx w i cs) : Cx w i' cs := by
  have hh := h.1
  have e101 := hh 101 (by decide) (by decide) (by decide) (by decide)
  refine ⟨?_, by rw [e101]; exact hx.2.1, forceC_K (hh 7 (by decide) (by decide) (by decide) (by decide)) (fun b hb => hh b (by omega) (by omega) (by omega) (by omega)) hx.2.2.1, hx.2.2.2⟩
  have ht := hx.1
  unfold TW
  rw [hh 7 (by decide) (by decide) (by decide) (by decide), hh 8 (by decide) (by decide) (by decide) (by decide), hh 9 (by decide) (by decide) (by decide) (by decide), hh 10 (by decide) (by decide) (by decide) (by decide), hh 11 (by decide) (by decide) (by decide) (by decide), hh 13 (by decide) (by decide) (by decide) (by decide), hh 14 (by decide) (by decide) (by decide) (by decide), e101, mLow_K e101]
  exact ht
theorem KnI_0 {cs : List Cla} {mo : Int} (h : ∀ t : Nat, t < 10 → i 62 (t : Int) = 0) : KnI i l cs mo := by
  intro t c ht hc
  rw [h t ht]
  refine ⟨⟨by omega, by omega⟩, fun z => ?_⟩
  have e : (0 : Int) = ((0 : Nat) : Int) := rfl
  rw [e, ibit_nat (by omega) (by omega), Nat.zero_div] at z
  exact absurd z (by decide)
theorem KnI_mo {cs : List Cla} (h2 : noW 5 2 cs) (h3 : noW 5 3 cs) {mo mo' : Int} (h : KnI i l cs mo) : KnI i l cs mo' := by
  intro t c ht hc
  refine ⟨(h t c ht hc).1, fun z v hv => ?_⟩
  rw [vB_mo h2 h3 (v : Int) (t : Int) (c : Int) mo' mo]
  exact (h t c ht hc).2 z v hv
theorem KnI_K {i i' : IM} {cs : List Cla} {mo : Int} (e : i' 101 = i 101) (e62 : i' 62 = i 62) (h : KnI i l cs mo) : KnI i' l cs mo := by
  unfold KnI vwB
  rw [e, e62, vB_K e]
  exact h
abbrev msI (months : Int) (m : Int) : Int → Prop := fun mo => (0 ≤ mo ∧ mo < m) ∧ iand (ishr months mo) 1 = 1
theorem lp_months {P : IM → LM → Prop} (hd : 7 ≤ d) {cs : List Cla} {i : IM} (hx : Cx w i cs) (hch : ChK i) {months f : Int} (hf : rg f) (hno : f = 0 → noW 5 2 cs ∧ noW 5 3 cs) {l0 : LM} (hP : ∀ i' l' (R : Nat), R ≤ 12 → pmf i i' → pml l0 l' → i' 51 13 = (R : Int) → cvR i l' cs (i 101 307).toNat R (msI months 12) → P i' l') : ∀ r m : Nat, m + r = 12 → ∀ i' l' (R : Nat), R ≤ m → pmf i i' → pml l0 l' → i' 51 13 = (R : Int) → cvR i l' cs (i 101 307).toNat R (msI months (m : Int)) → (∀ mo, KnI i' l' cs mo) → gV w d X_X1_prepare P i' l' 129 [(0, vR (some 51)), (1, vI months), (3, vI f), (4, vI (m : Int))] [] := by
  have h307 := hx.2.1.1.1
  have hn : (((i 101 307).toNat : Nat) : Int) = i 101 307 := by omega
  intro r
  induction r with
  | zero =>
    intro m hm i' l' R hR hi hl h51 hcv hkn
    have e : m = 12 := by omega
    subst e
    exact s_X1_prepare_129 _ _ _ (by omega) ⟨⟨by omega, by omega⟩, fun _ => hP i' l' R hR hi hl h51 hcv, fun z => by omega, fun z => by omega⟩
  | succ r ih =>
    intro m hm i' l' R hR hi hl h51 hcv hkn
    have hnx := ih (m + 1) (by omega)
    refine s_X1_prepare_129 _ _ _ (by omega) ⟨⟨by omega, by omega⟩, fun z => by omega, fun z => ?_, fun z => ?_⟩
    · refine hnx i' l' R (by omega) hi hl h51 (cvR_cg (fun mo => ?_) hcv) hkn
      constructor
      · rintro ⟨a, b⟩; exact ⟨⟨a.1, by omega⟩, b⟩
      · rintro ⟨a, b⟩
        refine ⟨⟨a.1, ?_⟩, b⟩
        by_cases e : mo = (m : Int)
        · subst e; exact absurd b z.2
        · omega
    · have e101 : i' 101 = i 101 := hi.1 101 (by decide) (by decide) (by decide) (by decide)
      have e52 : i' 52 = i 52 := hi.1 52 (by decide) (by decide) (by decide) (by decide)
      have e59 : i' 59 = i 59 := hi.1 59 (by decide) (by decide) (by decide) (by decide)
      have hk := hx.2.1
      have hk' : kOK (i' 101) := by rw [e101]; exact hk
      have hch' := ChK_K e101 e52 e59 hch
      have hms : ∀ mo, ((msI months (m : Int) mo) ∨ mo = (m : Int)) ↔ msI months ((m + 1 : Nat) : Int) mo := by
        intro mo
        constructor
        · rintro (⟨a, b⟩ | e)
          · exact ⟨⟨a.1, by omega⟩, b⟩
          · subst e; exact ⟨⟨by omega, by omega⟩, z.2⟩
        · rintro ⟨a, b⟩
          by_cases e : mo = (m : Int)
          · exact Or.inr e
          · exact Or.inl ⟨⟨a.1, by omega⟩, b⟩
      -- behind the row
      have fin : ∀ (i2 : IM) (l2 : LM) (R2 : Nat), R2 ≤ m + 1 → pmf i i2 → pml l0 l2 → i2 51 13 = (R2 : Int) → cvR i l2 cs (i 101 307).toNat R2 (msI months ((m + 1 : Nat) : Int)) → KnI i2 l2 cs (m : Int) → (rg f ∧ ((f = 0) → gV w d X_X1_prepare P i2 l2 129 [(0, vR (some 51)), (1, vI months), (3, vI f), (4, vI ((m : Int) + 1))] []) ∧ ((¬ f = 0) → gV w d X_X1_prepare P (fillA i2 62 10 0) l2 129 [(0, vR (some 51)), (1, vI months), (3, vI f), (4, vI ((m : Int) + 1))] [])) := by
        intro i2 l2 R2 hR2 hi2 hl2 h512 hcv2 hkn2
        refine ⟨hf, fun z2 => hnx i2 l2 R2 hR2 hi2 hl2 h512 hcv2 (fun mo => KnI_mo (hno z2).1 (hno z2).2 hkn2), fun z2 => ?_⟩
        have hfo : ∀ a, a ≠ 62 → fillA i2 62 10 0 a = i2 a := fun a ha => by funext y; exact if_neg (fun z => ha z.1)
        refine hnx _ l2 R2 hR2 ⟨fun a a1 a2 a3 a4 => by rw [hfo a a4]; exact hi2.1 a a1 a2 a3 a4, fun k hk => by rw [hfo 51 (by decide)]; exact hi2.2 k hk⟩ hl2 (by rw [hfo 51 (by decide)]; exact h512) hcv2 (fun mo => KnI_0 (fun t ht => if_pos (c := (62 : Nat) = 62 ∧ 0 ≤ (t : Int) ∧ (t : Int) < 10) ⟨rfl, by omega, by omega⟩))
      refine sp_X1_layRow hd (Cx_p hi hx) hch' (mo := (m : Int)) ⟨by omega, by omega⟩ (q := R) (by omega) h51 (hkn _) (fun i2 l2 lim a1 a2 a3 a4 a5 a6 a7 => ?_) (fun i2 l2 lim a1 a2 a3 a4 a5 a6 a7 => ?_)
      · have hi2 : pmf i i2 := ⟨fun a b1 b2 b3 b4 => by rw [a1 a b1 b2 b4]; exact hi.1 a b1 b2 b3 b4, fun k hk => by rw [a1 51 (by decide) (by decide) (by decide)]; exact hi.2 k hk⟩
        have hl2 : pml l0 l2 := fun a b1 b2 b3 b4 b5 b6 => by rw [a2.1 a b1 b2 b3 b4 b5 b6]; exact hl a b1 b2 b3 b4 b5 b6
        have hc1 := cvR_l (i := i) (by omega) a2 hcv
        rw [← cvR_K e101] at hc1
        have hc2 := cvR_drop hk' hch' (by rw [e101]; exact hn) hc1 a4 a5 a6 a7
        rw [cvR_K e101] at hc2
        exact fin i2 l2 R (by omega) hi2 hl2 (by rw [a1 51 (by decide) (by decide) (by decide)]; exact h51) (cvR_cg hms hc2) a3
      · have hu : ∀ a, a ≠ 51 → u2 i2 51 13 ((R : Int) + 1) a = i2 a := fun a ha => u2_other _ _ _ ha
        have hi2 : pmf i (u2 i2 51 13 ((R : Int) + 1)) := ⟨fun a b1 b2 b3 b4 => by rw [hu a b3, a1 a b1 b2 b4]; exact hi.1 a b1 b2 b3 b4, fun k hk => by
          have : u2 i2 51 13 ((R : Int) + 1) 51 k = i2 51 k := if_neg (fun z => hk z.2)
          rw [this, a1 51 (by decide) (by decide) (by decide)]; exact hi.2 k hk⟩
        have hl2 : pml l0 l2 := fun a b1 b2 b3 b4 b5 b6 => by rw [a2.1 a b1 b2 b3 b4 b5 b6]; exact hl a b1 b2 b3 b4 b5 b6
        have hc1 := cvR_l (i := i) (by omega) a2 hcv
        rw [← cvR_K e101] at hc1
        have hc2 := cvR_new hc1 a4 a5 a6
        rw [cvR_K e101] at hc2
        exact fin _ l2 (R + 1) (by omega) hi2 hl2 (by rw [u2_self]; omega) (cvR_cg hms hc2) (KnI_K (hu 101 (by decide)) (hu 62 (by decide)) a3)
end
