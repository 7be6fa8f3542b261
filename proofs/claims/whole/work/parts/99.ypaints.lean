/-! the model's search as a whole -/
section
variable {w : Wd} {d : Nat} {l : LM}
abbrev es0 : ES := ((0, (0, 0, o0), 1000000, 1000000, 1000000), (2147483647, 0, o0), fun _ => false)
/-- all that the model finds -/
def enX (i : IM) (cs : List Cla) (months more : Int) : ES := pG (fMy i) (lfN i cs (i 101 307).toNat (i 101 308).toNat months more) (i 101 307).toNat 0 o0 es0
theorem enX_K {i i' : IM} (e : i' 101 = i 101) : enX i' = enX i := by
  funext cs months more
  have h1 : fMy i' = fMy i := by funext t c; unfold fMy; rw [mMay_K e]
  have h2 : ∀ n W, lfN i' cs n W months more = lfN i cs n W months more := by
    intro n W
    funext o s
    have e1 : fWo i' = fWo i := by funext t c; unfold fWo; rw [mColour_K e, e]
    have e2 : fPr i' = fPr i := by funext cs t c; unfold fPr; rw [mPr_K e]
    have e3 : fGr i' = fGr i := by funext t c; unfold fGr; rw [mColour_K e]
    have e4 : fPt i' = fPt i := rfl
    have e5 : fOf i' = fOf i := by funext t c; unfold fOf; rw [mColour_K e, e]
    unfold lfN
    rw [e1, e2, e3, e4, e5, shN_K e, flN_K e]
  unfold enX
  rw [e, h1, h2]
def ptf (i i' : IM) : Prop := ∀ (a : Nat) (k : Int), (a < 110 ∨ 119 < a) → (a ≠ 99 ∨ ((k ≠ 19 ∧ k ≠ 20 ∧ k ≠ 21) ∧ (k < 32 ∨ 43 < k))) → i' a k = i a k
theorem ptf_rf (i : IM) : ptf i i := fun _ _ _ _ => rfl
theorem ptf_tr {i j k : IM} (h1 : ptf i j) (h2 : ptf j k) : ptf i k := fun a x p1 p2 => (h2 a x p1 p2).trans (h1 a x p1 p2)
theorem ptf_u {i : IM} {a : Nat} {k v : Int} (h : (110 ≤ a ∧ a ≤ 119) ∨ (a = 99 ∧ 32 ≤ k ∧ k ≤ 43)) : ptf i (u2 i a k v) := fun b x p1 p2 => if_neg (fun z => by omega)
theorem ptf_c {i i' : IM} (h : ptf i i') {a : Nat} (h1 : a < 110 ∨ 119 < a) (h2 : a ≠ 99) : i' a = i a := funext fun k => h a k h1 (Or.inl h2)
theorem ptf_ly {i i' : IM} (h : lyf i i') : ptf i i' := fun a k p1 p2 => h.1 a k (by omega) (by omega) (by omega) (by omega) (by omega) (by omega) (by omega)
theorem ptf_pn {i i' : IM} (h : pnf i i') : ptf i i' := fun a k p1 p2 => h a k (by omega) (by omega) (by omega) (by omega) (by omega) (by omega)
/-- the model's limits stay small -/
def limB (i : IM) (B : Int) : Prop := ∀ k : Int, 0 ≤ k → k < 96 → 0 ≤ i 112 k ∧ i 112 k ≤ B
/-- from the fresh fields on -/
theorem lp_pts130 {P : IM → LM → Prop} (hd : 16 ≤ d) {i0 : IM} {cs : List Cla} {n W : Nat} {months eased : Int} (hk : kOK (i0 101)) (hl : laid i0 cs n W months eased) (hv : ∀ v m : Nat, v < W → m < 12 → inMo months m → i0 113 (12 * (v : Int) + (m : Int)) = 0) (h35 : i0 99 35 = 0 ∧ i0 99 36 = 0 ∧ i0 99 38 = -1 ∧ i0 99 40 = 1000000 ∧ i0 99 41 = 1000000 ∧ i0 99 42 = 1000000) (hP : ∀ i', pnf i0 i' → eS i' n (pG (fMy i0) (lfN i0 cs n W months eased) n 0 o0 es0) → P i' l) : ∀ r k : Nat, k + r = 256 → ∀ i', (∀ a, a ≠ 119 → i' a = i0 a) → (∀ j : Nat, j < k → i' 119 (j : Int) = 0) → gV w d X_X12_paints P i' l 130 [(0, vR (some 99)), (3, vI (k : Int))] [] := by
  have k7 := hk.1.1
  intro r
  induction r with
  | zero =>
    intro k hkr i' hi hz
    have e : k = 256 := by omega
    subst e
    refine s_X12_paints_130 _ ⟨⟨by omega, by omega⟩, fun _ => ?_, fun z => by omega⟩
    have l7 := hl.1
    have hp10 : (3 : Int) ^ n ≤ 59049 := by
      have h : 3 ^ n ≤ 3 ^ 10 := Nat.pow_le_pow_right (by decide) (by omega)
      have h2 : (3 : Nat) ^ 10 = 59049 := by decide
      have e : (3 : Int) ^ n = ((3 ^ n : Nat) : Int) := by rw [Int.natCast_pow]; rfl
      omega
    refine sp_X12_paintsOn hk hl n d 0 o0 es0 i' P (by omega) (by omega) ⟨fun a k p1 p2 p3 p4 p5 p6 => by rw [hi a p5], ?_, fun j hj => by omega, ⟨?_, ?_, ?_⟩, ?_⟩ (by show (0 : Int) + 3 ^ n ≤ 1000000; omega) (fun i2 hi2 => hP i2 hi2.1 hi2.2.2.2)
    · intro t' v m h1 h2 h3 h4
      have e : t' = 0 := by omega
      subst e
      rw [hi 113 (by decide)]
      have e0 : (96 * ((0 : Nat) : Int) + 12 * (v : Int)) + (m : Int) = 12 * (v : Int) + (m : Int) := by omega
      rw [e0, hv v m h2 h3 h4]; rfl
    · rw [show i' 99 = i0 99 from hi 99 (by decide)] 
      exact h35.1
    · rw [show i' 99 = i0 99 from hi 99 (by decide)]
      exact h35.2.1
    · rw [show i' 99 = i0 99 from hi 99 (by decide)]
      exact ⟨fun z => absurd z (by decide), h35.2.2.2.1, h35.2.2.2.2.1, h35.2.2.2.2.2, by decide, by decide, fun z => absurd z (by decide)⟩
    · refine ⟨⟨by decide, fun _ => by rw [show i' 99 = i0 99 from hi 99 (by decide)]; exact h35.2.2.1, fun z => absurd z (by decide)⟩, fun j hj => ?_⟩
      rw [hz j (by omega)]; rfl
  | succ r ih =>
    intro k hkr i' hi hz
    refine s_X12_paints_130 _ ⟨⟨by omega, by omega⟩, fun z => by omega, fun _ => ⟨⟨by omega, by omega⟩, ?_⟩⟩
    refine ih (k + 1) (by omega) _ (fun a ha => by rw [u2_other _ _ _ ha]; exact hi a ha) (fun j hj => ?_)
    by_cases e : j = k
    · subst e; exact u2_self ..
    · have : u2 i' 119 (k : Int) 0 119 (j : Int) = i' 119 (j : Int) := if_neg (fun z => by omega)
      rw [this]; exact hz j (by omega)
def fld7 (i : IM) : IM := u2 (u2 (u2 (u2 (u2 (u2 (u2 i 99 35 0) 99 36 0) 99 37 0) 99 38 (-1)) 99 40 1000000) 99 41 1000000) 99 42 1000000
theorem fld7_c {i : IM} {a : Nat} (h : a ≠ 99) : fld7 i a = i a := by
  unfold fld7; rw [u2_other _ _ _ h, u2_other _ _ _ h, u2_other _ _ _ h, u2_other _ _ _ h, u2_other _ _ _ h, u2_other _ _ _ h, u2_other _ _ _ h]
theorem fld7_43 (i : IM) : fld7 i 99 43 = i 99 43 := by unfold fld7 u2; simp
theorem fld7_v (i : IM) : fld7 i 99 35 = 0 ∧ fld7 i 99 36 = 0 ∧ fld7 i 99 38 = -1 ∧ fld7 i 99 40 = 1000000 ∧ fld7 i 99 41 = 1000000 ∧ fld7 i 99 42 = 1000000 := by unfold fld7 u2; simp
theorem laid_K {i i' : IM} {cs : List Cla} {n W : Nat} {months eased : Int} (e : i' 101 = i 101) (e11 : i' 111 = i 111) (e12 : i' 112 = i 112) (e14 : i' 114 = i 114) (e15 : i' 115 = i 115) (e43 : i' 99 43 = i 99 43) (h : laid i cs n W months eased) : laid i' cs n W months eased := by
  unfold laid
  rw [e, e11, e12, e14, e15, e43, mMay_K e, mPr_K e, mBit_K e, mColour_K e]
  exact h
theorem ptf_7 (i : IM) : ptf i (fld7 i) := ptf_tr (ptf_u (by omega)) (ptf_tr (ptf_u (by omega)) (ptf_tr (ptf_u (by omega)) (ptf_tr (ptf_u (by omega)) (ptf_tr (ptf_u (by omega)) (ptf_tr (ptf_u (by omega)) (ptf_u (by omega)))))))

/-- what the model remembers of its last search -/
def PnC (i : IM) (cs : List Cla) : Prop := i 99 32 ≤ i 99 1 ∧ (i 99 32 = i 99 1 → eS i (i 101 307).toNat (enX i cs (i 99 33) (i 99 34)))
theorem lp_pts90 {P : IM → LM → Prop} (hd : 16 ≤ d) {i : IM} {cs : List Cla} {n W : Nat} {months eased : Int} (hk : kOK (i 101)) (hl : laid i cs n W months eased) (hv : ∀ v m : Nat, v < W → m < 12 → inMo months m → i 113 (12 * (v : Int) + (m : Int)) = 0) (hP : ∀ i', ptf i i' → (i' 112 = i 112 ∧ i' 99 32 = i 99 32 ∧ i' 99 33 = i 99 33 ∧ i' 99 34 = i 99 34) → eS i' n (enX i cs months eased) → P i' l) : gV w d X_X12_paints P i l 90 [(0, vR (some 99))] [] := by
  refine s_X12_paints_90 ?_
  have h0 : u2 (u2 (u2 (u2 (u2 (u2 (u2 i 99 35 0) 99 36 0) 99 37 0) 99 38 (-1)) 99 40 1000000) 99 41 1000000) 99 42 1000000 = fld7 i := rfl
  rw [h0]
  have e101 : fld7 i 101 = i 101 := fld7_c (by decide)
  have l7 := hl.1
  have l8 := hl.2.1
  have hE : enX i cs months eased = pG (fMy (fld7 i)) (lfN (fld7 i) cs n W months eased) n 0 o0 es0 := by
    rw [← enX_K e101]
    unfold enX
    rw [e101, l7, l8, Int.toNat_natCast, Int.toNat_natCast]
  rw [hE] at hP
  have k3 : ∀ k : Int, k = 32 ∨ k = 33 ∨ k = 34 → fld7 i 99 k = i 99 k := by
    intro k hk3
    unfold fld7 u2
    rw [if_neg (fun z => by omega), if_neg (fun z => by omega), if_neg (fun z => by omega), if_neg (fun z => by omega), if_neg (fun z => by omega), if_neg (fun z => by omega), if_neg (fun z => by omega)]
  refine lp_pts130 hd (i0 := fld7 i) (by rw [e101]; exact hk) (laid_K e101 (fld7_c (by decide)) (fld7_c (by decide)) (fld7_c (by decide)) (fld7_c (by decide)) (fld7_43 i) hl) (by rw [fld7_c (by decide)]; exact hv) (fld7_v i) (fun i' hi hs => hP i' (ptf_tr (ptf_7 i) (ptf_pn hi)) ⟨?_, ?_, ?_, ?_⟩ hs) 256 0 (by omega) _ (fun _ _ => rfl) (fun j hj => by omega)
  · rw [pnf_c hi (by decide) (by decide) (by decide) (by decide) (by decide) (by decide)]; exact fld7_c (by decide)
  · rw [hi 99 32 (by decide) (by decide) (by decide) (by decide) (by decide) (by omega)]; exact k3 _ (by omega)
  · rw [hi 99 33 (by decide) (by decide) (by decide) (by decide) (by decide) (by omega)]; exact k3 _ (by omega)
  · rw [hi 99 34 (by decide) (by decide) (by decide) (by decide) (by decide) (by omega)]; exact k3 _ (by omega)
/-- one colour more at one WINDOW -/
theorem lp_pts63 {P : IM → LM → Prop} {i : IM} {B : Int} (hB : limB i B) (hB2 : B ≤ 1000000) {more : Nat} (hm : more < 8) (hnext : ∀ i', (∀ a, a ≠ 112 → i' a = i a) → (∀ k : Int, i' 112 k = i 112 k + if 12 * (more : Int) ≤ k ∧ k < 12 * (more : Int) + 12 then 1 else 0) → gV w d X_X12_paints P i' l 90 [(0, vR (some 99))] []) : ∀ r m : Nat, m + r = 12 → ∀ i', (∀ a, a ≠ 112 → i' a = i a) → (∀ k : Int, i' 112 k = i 112 k + if 12 * (more : Int) ≤ k ∧ k < 12 * (more : Int) + (m : Int) then 1 else 0) → gV w d X_X12_paints P i' l 63 [(0, vR (some 99)), (2, vI (more : Int)), (3, vI (m : Int))] [] := by
  intro r
  induction r with
  | zero =>
    intro m hmr i' hi hk
    have e : m = 12 := by omega
    subst e
    exact s_X12_paints_63 _ _ ⟨⟨by omega, by omega⟩, fun _ => hnext i' hi hk, fun z => by omega⟩
  | succ r ih =>
    intro m hmr i' hi hk
    have hb := hB (12 * (more : Int) + (m : Int)) (by omega) (by omega)
    have e := hk (12 * (more : Int) + (m : Int))
    rw [if_neg (by omega)] at e
    refine s_X12_paints_63 _ _ ⟨⟨by omega, by omega⟩, fun z => by omega, fun _ => ⟨⟨by omega, by omega⟩, ⟨by omega, by omega⟩, ?_⟩⟩
    refine ih (m + 1) (by omega) _ (fun a ha => by rw [u2_other _ _ _ ha]; exact hi a ha) (fun k => ?_)
    by_cases c : k = 12 * (more : Int) + (m : Int)
    · subst c
      rw [u2_self, e, if_pos (by omega)]; omega
    · have : u2 i' 112 (12 * (more : Int) + (m : Int)) (i' 112 (12 * (more : Int) + (m : Int)) + 1) 112 k = i' 112 k := if_neg (fun z => c z.2)
      rw [this, hk k]
      by_cases c2 : 12 * (more : Int) ≤ k ∧ k < 12 * (more : Int) + (m : Int)
      · rw [if_pos c2, if_pos (by omega)]
      · rw [if_neg c2, if_neg (by omega)]
theorem sp_X12_paints {P : IM → LM → Prop} (hd : 81 ≤ d) {i : IM} {A : Nat → List Cla} (hk : kOK (i 101)) (hf : forceM (i 101) A) (hc : hasDep (inForce (i 101) A)) {B : Int} (hB8 : 8 ≤ B) (hB2 : B ≤ 1000000) (hB : limB i B) {months more : Int} (hmo : rg months) (hmr : more = -1 ∨ (0 ≤ more ∧ more < i 101 308)) (hcc : PnC i (inForce (i 101) A)) (hP : ∀ i', ptf i i' → limB i' (B + 1) → i' 99 32 = i 99 1 → i' 99 33 = months → i' 99 34 = more → eS i' (i 101 307).toNat (enX i (inForce (i 101) A) months more) → P i' l) : cVd w d X_X12_paints [vR (some 99), vI months, vI more] i l P := by
  obtain ⟨d, rfl⟩ : ∃ d', d = d' + 1 := ⟨d - 1, by omega⟩
  have k7 := hk.1.1
  have k8 := hk.1.2.1
  have hrm : rg more := ⟨by omega, by omega⟩
  refine e_X12_paints (s_X12_paints _ _ ⟨fun _ => hmo, fun _ _ => hrm, fun z => ?_, fun _ => ?_⟩)
  · have := hcc.2 z.1
    rw [z.2.1, z.2.2] at this
    exact hP i (ptf_rf i) (fun k h1 h2 => ⟨(hB k h1 h2).1, by have := (hB k h1 h2).2; omega⟩) z.1 z.2.1 z.2.2 this
  · refine s_X12_paints_28 _ _ ⟨hmo, hrm, ?_⟩
    have q32 : (u2 (u2 (u2 (u2 i 99 32 (i 99 1)) 99 33 months) 99 34 more) 99 43 months) 99 32 = i 99 1 := by unfold u2; simp
    have q33 : (u2 (u2 (u2 (u2 i 99 32 (i 99 1)) 99 33 months) 99 34 more) 99 43 months) 99 33 = months := by unfold u2; simp
    have q34 : (u2 (u2 (u2 (u2 i 99 32 (i 99 1)) 99 33 months) 99 34 more) 99 43 months) 99 34 = more := by unfold u2; simp
    have q43 : (u2 (u2 (u2 (u2 i 99 32 (i 99 1)) 99 33 months) 99 34 more) 99 43 months) 99 43 = months := by unfold u2; simp
    have qo : ∀ a, a ≠ 99 → (u2 (u2 (u2 (u2 i 99 32 (i 99 1)) 99 33 months) 99 34 more) 99 43 months) a = i a := fun a ha => by
      rw [u2_other _ _ _ ha, u2_other _ _ _ ha, u2_other _ _ _ ha, u2_other _ _ _ ha]
    have qf : ptf i (u2 (u2 (u2 (u2 i 99 32 (i 99 1)) 99 33 months) 99 34 more) 99 43 months) := ptf_tr (ptf_u (by omega)) (ptf_tr (ptf_u (by omega)) (ptf_tr (ptf_u (by omega)) (ptf_u (by omega))))
    generalize hJ : u2 (u2 (u2 (u2 i 99 32 (i 99 1)) 99 33 months) 99 34 more) 99 43 months = J at *
    have j101 : J 101 = i 101 := qo 101 (by decide)
    refine sp_X12_lays (by omega) (A := A) (by rw [j101]; exact hk) (by rw [j101]; exact hf) (by rw [j101]; exact hc) (fun i1 hi1 => ?_)
    rw [j101] at hi1
    obtain ⟨a1, a2, a3, a4⟩ := hi1
    have e1 : i1 101 = J 101 := lyf_101 a1
    have g99 : ∀ k : Int, k ≠ 19 ∧ k ≠ 20 ∧ k ≠ 21 → i1 99 k = J 99 k := fun k hk => a1.1 99 k (by decide) (by decide) (by decide) (by decide) (by decide) (by decide) (Or.inr hk)
    have hB1 : limB i1 B := by
      intro k h1 h2
      rcases a1.2 k with h | h
      · rw [h, qo 112 (by decide)]; exact hB k h1 h2
      · exact ⟨h.1, by omega⟩
    have n7 : i1 101 307 = ((i 101 307).toNat : Int) := by rw [e1, j101]; omega
    have n8 : i1 101 308 = ((i 101 308).toNat : Int) := by rw [e1, j101]; omega
    have hlaid : ∀ i2 : IM, i2 101 = i1 101 → i2 111 = i1 111 → i2 114 = i1 114 → i2 115 = i1 115 → i2 99 43 = i1 99 43 → (∀ v m : Nat, v < (i 101 308).toNat → m < 12 → inMo months m → i2 112 (12 * (v : Int) + (m : Int)) = fLimit (inForce (i 101) A) (v : Int) (m : Int) 0 + (if more = (v : Int) then 1 else 0)) → laid i2 (inForce (i 101) A) (i 101 307).toNat (i 101 308).toNat months more := by
      intro i2 f1 f11 f14 f15 f43 f12
      have ej : i2 101 = J 101 := by rw [f1, e1]
      refine ⟨by rw [f1]; exact n7, by rw [f1]; exact n8, by rw [f43, g99 43 (by decide)]; exact q43, fun x c hx hc3 => ?_, fun v m x c h1 h2 h3 h4 h5 h6 => ?_, f12⟩
      · rw [f15, f14, mMay_K ej, mPr_K ej]
        exact a2 x c (Or.inl ⟨by rw [j101]; exact hx, hc3⟩)
      · rw [f11, mBit_K ej, mColour_K ej]
        rw [mMay_K ej] at h6
        have := a3 v m x c (by rw [j101]; omega) h2 h3 (by rw [j101]; omega) h5 (Or.inl h1)
        rw [if_pos h6, ← Int.add_assoc] at this
        exact this
    have hview : ∀ i2 : IM, i2 113 = i1 113 → ∀ v m : Nat, v < (i 101 308).toNat → m < 12 → inMo months m → i2 113 (12 * (v : Int) + (m : Int)) = 0 := fun i2 f v m h1 h2 h3 => by
      rw [f]; exact (a4 v m (by rw [j101]; omega) h2 h3 (Or.inl h1)).2
    refine ⟨fun z => ?_, fun z => ?_⟩
    · subst z
      refine lp_pts90 (by omega) (cs := inForce (i 101) A) (eased := -1) (by rw [e1, j101]; exact hk) (hlaid i1 rfl rfl rfl rfl rfl (fun v m h1 h2 h3 => ?_)) (hview i1 rfl) (fun i3 p3 c3 s3 => ?_)
      · rw [(a4 v m (by rw [j101]; omega) h2 h3 (Or.inl h1)).1, if_neg (by omega), Int.add_zero]
      · rw [enX_K (show i1 101 = i 101 by rw [e1, j101])] at s3
        refine hP i3 (ptf_tr qf (ptf_tr (ptf_ly a1) p3)) (fun k h1 h2 => by rw [c3.1]; exact ⟨(hB1 k h1 h2).1, by have := (hB1 k h1 h2).2; omega⟩) ?_ ?_ ?_ s3
        · rw [c3.2.1, g99 32 (by decide)]; exact q32
        · rw [c3.2.2.1, g99 33 (by decide)]; exact q33
        · rw [c3.2.2.2, g99 34 (by decide)]; exact q34
    · have hm0 : 0 ≤ more ∧ more < i 101 308 := by omega
      obtain ⟨mn, rfl⟩ : ∃ mn : Nat, more = (mn : Int) := ⟨more.toNat, by omega⟩
      refine lp_pts63 hB1 hB2 (more := mn) (by omega) (fun i2 hi2 hk2 => ?_) 12 0 (by omega) i1 (fun _ _ => rfl) (fun k => by rw [if_neg (by omega)]; omega)
      have e2 : i2 101 = i1 101 := hi2 101 (by decide)
      refine lp_pts90 (by omega) (cs := inForce (i 101) A) (eased := (mn : Int)) (by rw [e2, e1, j101]; exact hk) (hlaid i2 e2 (hi2 111 (by decide)) (hi2 114 (by decide)) (hi2 115 (by decide)) (by rw [hi2 99 (by decide)]) (fun v m h1 h2 h3 => ?_)) (hview i2 (hi2 113 (by decide))) (fun i3 p3 c3 s3 => ?_)
      · rw [hk2, (a4 v m (by rw [j101]; omega) h2 h3 (Or.inl h1)).1]
        by_cases c : (mn : Int) = (v : Int)
        · rw [if_pos c, if_pos (by omega)]
        · rw [if_neg c, if_neg (by omega)]
      · rw [enX_K (show i2 101 = i 101 by rw [e2, e1, j101])] at s3
        have pf2 : ptf i1 i2 := fun a k p1 p2 => by rw [hi2 a (by omega)]
        refine hP i3 (ptf_tr qf (ptf_tr (ptf_ly a1) (ptf_tr pf2 p3))) (fun k h1 h2 => ?_) ?_ ?_ ?_ s3
        · rw [c3.1, hk2 k]
          have := hB1 k h1 h2
          split <;> omega
        · rw [c3.2.1, hi2 99 (by decide), g99 32 (by decide)]; exact q32
        · rw [c3.2.2.1, hi2 99 (by decide), g99 33 (by decide)]; exact q33
        · rw [c3.2.2.2, hi2 99 (by decide), g99 34 (by decide)]; exact q34
end
