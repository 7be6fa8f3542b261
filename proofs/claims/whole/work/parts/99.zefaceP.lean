/-! best, paint, fewest, mend, shut, bars, third: the program -/
section
variable {w : Wd} {d : Nat} {i : IM} {l : LM}
theorem enX_first (i : IM) (cs : List Cla) (months e : Int) : (0 < (enX i cs months e).1.1 → ∀ j, j < (i 101 307).toNat → (enX i cs months e).1.2.1.2.2 j < 3) ∧ ((enX i cs months e).2.1.1 < 2147483647 → ∀ j, j < (i 101 307).toNat → (enX i cs months e).2.1.2.2 j < 3) := by
  have h := pG_ind (may := fMy i) (leaf := lfN i cs (i 101 307).toNat (i 101 308).toNat months e) (n := (i 101 307).toNat) (I := fun _ (s : ES) => ((0 ≤ s.1.1 ∧ (s.1.1 = 0 → s.1.2.1.1 = 0)) ∧ (0 < s.1.1 → ∀ j, j < (i 101 307).toNat → s.1.2.1.2.2 j < 3)) ∧ (s.2.1.1 < 2147483647 → ∀ j, j < (i 101 307).toNat → s.2.1.2.2 j < 3)) (fun _ _ _ _ hI => hI) (i 101 307).toNat 0 o0 (fun _ => False) es0 (Nat.zero_add _) (fun o' E s he hI => by
      obtain ⟨⟨s1, ⟨b, v, f⟩, s3⟩, ⟨m1, m2, m3⟩, s2⟩ := s
      obtain ⟨⟨⟨q0, q1⟩, q2⟩, q3⟩ := hI
      simp only at q0 q1 q2 q3
      have ho : ∀ j, j < (i 101 307).toNat → o' j < 3 := fun j hj => (he.2 j (Nat.zero_le _) hj).2
      refine ⟨?_, ?_⟩
      · show (0 ≤ (if flN i cs (i 101 307).toNat months e o' (i 101 308).toNat = 0 then addB (1, 1, valO i cs o', o', vs (fGr i) o' (i 101 307).toNat, vs (fPt i) o' (i 101 307).toNat, vs (fOf i) o' (i 101 307).toNat) (s1, (b, v, f), s3) else (s1, (b, v, f), s3)).1 ∧ ((if flN i cs (i 101 307).toNat months e o' (i 101 308).toNat = 0 then addB (1, 1, valO i cs o', o', vs (fGr i) o' (i 101 307).toNat, vs (fPt i) o' (i 101 307).toNat, vs (fOf i) o' (i 101 307).toNat) (s1, (b, v, f), s3) else (s1, (b, v, f), s3)).1 = 0 → (if flN i cs (i 101 307).toNat months e o' (i 101 308).toNat = 0 then addB (1, 1, valO i cs o', o', vs (fGr i) o' (i 101 307).toNat, vs (fPt i) o' (i 101 307).toNat, vs (fOf i) o' (i 101 307).toNat) (s1, (b, v, f), s3) else (s1, (b, v, f), s3)).2.1.1 = 0)) ∧ (0 < (if flN i cs (i 101 307).toNat months e o' (i 101 308).toNat = 0 then addB (1, 1, valO i cs o', o', vs (fGr i) o' (i 101 307).toNat, vs (fPt i) o' (i 101 307).toNat, vs (fOf i) o' (i 101 307).toNat) (s1, (b, v, f), s3) else (s1, (b, v, f), s3)).1 → ∀ j, j < (i 101 307).toNat → (if flN i cs (i 101 307).toNat months e o' (i 101 308).toNat = 0 then addB (1, 1, valO i cs o', o', vs (fGr i) o' (i 101 307).toNat, vs (fPt i) o' (i 101 307).toNat, vs (fOf i) o' (i 101 307).toNat) (s1, (b, v, f), s3) else (s1, (b, v, f), s3)).2.1.2.2 j < 3)
        by_cases c : flN i cs (i 101 307).toNat months e o' (i 101 308).toNat = 0
        · simp only [if_pos c]
          refine ⟨⟨by show 0 ≤ s1 + 1; omega, fun z => absurd (show s1 + 1 = 0 from z) (by omega)⟩, fun _ j hj => ?_⟩
          show (upB 1 (valO i cs o') o' (b, v, f)).2.2 j < 3
          unfold upB
          simp only
          by_cases p : 0 < s1
          · split
            · exact q2 p j hj
            · split
              · exact q2 p j hj
              · exact ho j hj
          · have b0 : b = 0 := q1 (by omega)
            rw [if_neg (fun z => by omega), if_neg (fun z => by omega)]
            exact ho j hj
        · simp only [if_neg c]
          exact ⟨⟨q0, q1⟩, q2⟩
      · show (if vs (fPr i cs) o' (i 101 307).toNat + shN i cs (i 101 307).toNat months e o' (i 101 308).toNat < m1 then (vs (fPr i cs) o' (i 101 307).toNat + shN i cs (i 101 307).toNat months e o' (i 101 308).toNat, flN i cs (i 101 307).toNat months e o' (i 101 308).toNat, o') else (m1, m2, m3)).1 < 2147483647 → ∀ j, j < (i 101 307).toNat → (if vs (fPr i cs) o' (i 101 307).toNat + shN i cs (i 101 307).toNat months e o' (i 101 308).toNat < m1 then (vs (fPr i cs) o' (i 101 307).toNat + shN i cs (i 101 307).toNat months e o' (i 101 308).toNat, flN i cs (i 101 307).toNat months e o' (i 101 308).toNat, o') else (m1, m2, m3)).2.2 j < 3
        split
        · exact fun _ j hj => ho j hj
        · exact q3) ⟨⟨⟨Int.le_refl _, fun _ => rfl⟩, fun z => absurd (show (0 : Int) < 0 from z) (by decide)⟩, fun z => absurd (show (2147483647 : Int) < 2147483647 from z) (by decide)⟩
  exact ⟨h.1.2, h.2⟩
theorem val_rg (hk : kOK (i 101)) (cs : List Cla) (months e : Int) (hpos : 0 < (enX i cs months e).1.1) : -990 ≤ (enX i cs months e).1.2.1.2.1 ∧ (enX i cs months e).1.2.1.2.1 ≤ 990 := by
  have h307 := hk.1.1
  obtain ⟨-, ⟨o, h1, h2, h3⟩, -⟩ := (enX_val i cs months e).2.2 hpos
  have b1 := vs_rg (g := fPr i cs) (b := 99) o (i 101 307).toNat (fun t ht => mPr_rg hk cs ⟨by omega, by omega⟩)
  have b2 := vs_rg (g := fWo i) (b := 99) o (i 101 307).toNat (fun t ht => by
    have := (hk.2.1 (t : Int) (by omega) (by omega)).2.2.2.2.1
    show 0 ≤ (if mColour i (t : Int) ((o t : Nat) : Int) = i 101 (8 * (t : Int) + 2) then i 101 (8 * (t : Int) + 4) else 0) ∧ (if mColour i (t : Int) ((o t : Nat) : Int) = i 101 (8 * (t : Int) + 2) then i 101 (8 * (t : Int) + 4) else 0) ≤ 99
    split <;> omega)
  rw [← h3]
  unfold valO
  omega
abbrev mon (p : Int) : Prop := 1 ≤ p ∧ p ≤ 4095
def mBest (i : IM) (cs : List Cla) (p0 p1 : Int) : Int := if mon p0 ∧ (0 ≤ p1 ∧ p1 ≤ 2) then (if p1 = 0 then (enX i cs p0 (-1)).1.2.1.1 else if p1 = 2 then (enX i cs p0 (-1)).1.1 else if (enX i cs p0 (-1)).1.1 = 0 then -10000 else (enX i cs p0 (-1)).1.2.1.2.1) else -10000
def mPaint (i : IM) (cs : List Cla) (p0 p1 : Int) : Int := if mon p0 ∧ (0 ≤ p1 ∧ p1 < i 101 307) then (if (enX i cs p0 (-1)).1.1 = 0 then -1 else mColour i p1 (((enX i cs p0 (-1)).1.2.1.2.2 p1.toNat : Nat) : Int)) else -1
def mFewest (i : IM) (cs : List Cla) (p0 p1 : Int) : Int := if mon p0 ∧ (0 ≤ p1 ∧ p1 ≤ 2) then (if (enX i cs p0 (-1)).1.1 = 0 then -1 else if p1 = 0 then (enX i cs p0 (-1)).1.2.2.1 else if p1 = 1 then (enX i cs p0 (-1)).1.2.2.2.1 else (enX i cs p0 (-1)).1.2.2.2.2) else -1
def mMend (i : IM) (cs : List Cla) (p0 p1 : Int) : Int := if mon p0 ∧ (p1 = -1 ∨ (0 ≤ p1 ∧ p1 < i 101 307)) then (if p1 = -1 then (enX i cs p0 (-1)).2.1.1 else mColour i p1 (((enX i cs p0 (-1)).2.1.2.2 p1.toNat : Nat) : Int)) else -1
def mShut (i : IM) (cs : List Cla) (p0 : Int) : Int := if mon p0 then (((enX i cs p0 (-1)).2.1.2.1 : Nat) : Int) else -1
def canB (s : Nat → Bool) (k : Nat) : Bool := (List.range 256).any (fun fl => s fl && decide (fl &&& k = 0))
theorem canB_iff (s : Nat → Bool) (k : Nat) : canB s k = true ↔ ∃ fl : Nat, fl < 256 ∧ s fl = true ∧ fl &&& k = 0 := by
  unfold canB
  rw [List.any_eq_true]
  constructor
  · rintro ⟨fl, h1, h2⟩
    rw [Bool.and_eq_true, decide_eq_true_iff] at h2
    exact ⟨fl, List.mem_range.mp h1, h2.1, h2.2⟩
  · rintro ⟨fl, h1, h2, h3⟩
    exact ⟨fl, List.mem_range.mpr h1, by rw [Bool.and_eq_true, decide_eq_true_iff]; exact ⟨h2, h3⟩⟩
def clrB (x v : Nat) : Nat := x &&& (255 ^^^ 2 ^ v)
def barGo (s : Nat → Bool) (W : Nat) : Nat → Nat
  | 0 => 2 ^ W - 1
  | v + 1 => if canB s (clrB (barGo s W v) v) = true then barGo s W v else clrB (barGo s W v) v
theorem clrB_all : ∀ x : Fin 256, ∀ v : Fin 8, iand ((x.val : Nat) : Int) (ixor (ishl 1 ((v.val : Nat) : Int)) (-1)) = ((clrB x.val v.val : Nat) : Int) := by decide +kernel
theorem clrB_eq {x v : Nat} (hx : x < 256) (hv : v < 8) : iand (x : Int) (ixor (ishl 1 (v : Int)) (-1)) = ((clrB x v : Nat) : Int) := clrB_all ⟨x, hx⟩ ⟨v, hv⟩
theorem clrB_lt {x v : Nat} (hx : x < 256) : clrB x v < 256 := by
  have : clrB x v ≤ x := Nat.and_le_left
  omega
theorem barGo_lt (s : Nat → Bool) {W : Nat} (hW : W ≤ 8) : ∀ v, barGo s W v < 256
  | 0 => by
    have : 2 ^ W ≤ 2 ^ 8 := Nat.pow_le_pow_right (by omega) hW
    show 2 ^ W - 1 < 256
    omega
  | v + 1 => by
    have := barGo_lt s hW v
    unfold barGo
    split
    · exact this
    · exact clrB_lt this
def mBars (i : IM) (cs : List Cla) (p0 : Int) : Int := if mon p0 then (if 0 < (enX i cs p0 (-1)).1.1 then 0 else ((barGo (enX i cs p0 (-1)).2.2 (i 101 308).toNat (i 101 308).toNat : Nat) : Int)) else -1
def mThird (i : IM) (cs : List Cla) (p0 p1 : Int) : Int := if mon p0 ∧ (0 ≤ p1 ∧ p1 < i 101 308) then (if (enX i cs p0 (-1)).1.1 = 0 then -1 else (enX i cs p0 p1).1.2.1.2.1 - (enX i cs p0 (-1)).1.2.1.2.1) else -1
theorem mon_rg {p : Int} (h : mon p) : rg p := ⟨by have := h.1; omega, by have := h.2; omega⟩
theorem sp_X11_best (hd : 24 ≤ d) {P : Int → IM → LM → Prop} {cs : List Cla} (hx : Cx w i cs) (hcv : CvC i l cs) (hpt : PtC i cs) (hmd : MdC i l cs) {p0 p1 : Int} (h0 : rg p0) (h1 : rg p1) (hP : ∀ i' l', pgf i i' → CvC i' l' cs → PtC i' cs → MdC i' l' cs → P (mBest i cs p0 p1) i' l') : cI w d X_X11_best [vR (some 6), vI p0, vI p1] i l P := by
  obtain ⟨d, rfl, hd1⟩ := d_pos hd
  unfold mBest at hP
  refine e_X11_best (s_X11_best _ _ (by omega) ⟨h0, fun _ => h1, fun q => ?_, fun q => ?_⟩)
  · rw [if_pos q] at hP
    refine sp_X11_survey (by omega) hx hcv hpt hmd h0 (fun i' l' f pr pt md r => ?_)
    have hp := hP i' l' f (CvC_prd pr) pt md
    have hv := enX_val i cs p0 (-1)
    unfold ptR at r
    rw [enX_K (f 101 (by omega))] at r
    refine ⟨h1, fun z => ?_, fun z => ?_, fun z => ?_⟩
    · rw [if_neg z.2, if_neg z.1] at hp
      by_cases c : (enX i cs p0 (-1)).1.1 = 0
      · rw [if_pos c] at hp
        rw [if_pos (by omega)]
        exact hp
      · rw [if_neg c] at hp
        rw [if_neg (by omega), (r.2.2 (by omega)).1]
        exact hp
    · rw [if_pos z.2] at hp
      rw [r.2.1]; exact hp
    · rw [if_neg (by omega), if_pos z] at hp
      rw [r.1]; exact hp
  · rw [if_neg q] at hP
    exact hP i l (pgf_rf i) hcv hpt hmd
theorem hue_at {cs : List Cla} {months : Int} (pr : prd i l cs months) {t c : Nat} (ht : (t : Int) < i 101 307) (hc : c < 3) : i 59 ((t : Int) * 3 + (c : Int)) = mColour i (t : Int) (c : Int) := (pr.2.2.1.1 t c ht hc).2.2
theorem sp_X11_paint (hd : 24 ≤ d) {P : Int → IM → LM → Prop} {cs : List Cla} (hx : Cx w i cs) (hcv : CvC i l cs) (hpt : PtC i cs) (hmd : MdC i l cs) {p0 p1 : Int} (h0 : rg p0) (h1 : rg p1) (hP : ∀ i' l', pgf i i' → CvC i' l' cs → PtC i' cs → MdC i' l' cs → P (mPaint i cs p0 p1) i' l') : cI w d X_X11_paint [vR (some 6), vI p0, vI p1] i l P := by
  obtain ⟨d, rfl, hd1⟩ := d_pos hd
  have h7 := Cx_7 hx
  have h307 := hx.2.1.1.1
  unfold mPaint at hP
  refine e_X11_paint (s_X11_paint _ _ (by omega) ⟨h0, fun _ => h1, fun q => ?_, fun q => ?_⟩)
  · rw [h7.1] at q
    rw [if_pos q] at hP
    refine sp_X11_survey (by omega) hx hcv hpt hmd h0 (fun i' l' f pr pt md r => ?_)
    have hp := hP i' l' f (CvC_prd pr) pt md
    have hv := enX_val i cs p0 (-1)
    have e101 := f 101 (by omega)
    unfold ptR at r
    rw [enX_K e101, e101] at r
    obtain ⟨t, ht⟩ := Int.eq_ofNat_of_zero_le q.2.1
    subst ht
    rw [Int.toNat_natCast] at hp
    by_cases c : (enX i cs p0 (-1)).1.1 = 0
    · rw [if_pos c] at hp
      rw [if_pos (by omega)]
      exact ⟨fun z => absurd (by omega) z, fun z => absurd (by omega) z, hp⟩
    · rw [if_neg c] at hp
      rw [if_neg (by omega)]
      have h72 := (r.2.2 (by omega)).2.1 t (by omega)
      have h3 := (enX_first i cs p0 (-1)).1 (by omega) t (by omega)
      rw [h72]
      refine ⟨fun _ => ⟨by omega, by omega⟩, fun _ => ⟨by omega, by omega⟩, ?_⟩
      rw [hue_at pr (by rw [e101]; omega) h3, mColour_K e101]
      exact hp
  · rw [h7.1] at q
    rw [if_neg q] at hP
    exact hP i l (pgf_rf i) hcv hpt hmd
theorem sp_X11_fewest (hd : 24 ≤ d) {P : Int → IM → LM → Prop} {cs : List Cla} (hx : Cx w i cs) (hcv : CvC i l cs) (hpt : PtC i cs) (hmd : MdC i l cs) {p0 p1 : Int} (h0 : rg p0) (h1 : rg p1) (hP : ∀ i' l', pgf i i' → CvC i' l' cs → PtC i' cs → MdC i' l' cs → P (mFewest i cs p0 p1) i' l') : cI w d X_X11_fewest [vR (some 6), vI p0, vI p1] i l P := by
  obtain ⟨d, rfl, hd1⟩ := d_pos hd
  unfold mFewest at hP
  refine e_X11_fewest (s_X11_fewest _ _ (by omega) ⟨h0, fun _ => h1, fun q => ?_, fun q => ?_⟩)
  · rw [if_pos q] at hP
    refine sp_X11_survey (by omega) hx hcv hpt hmd h0 (fun i' l' f pr pt md r => ?_)
    have hp := hP i' l' f (CvC_prd pr) pt md
    have hv := enX_val i cs p0 (-1)
    have e101 := f 101 (by omega)
    unfold ptR at r
    rw [enX_K e101, e101] at r
    refine ⟨fun z => ?_, fun z => ?_⟩
    · rw [if_pos (by omega)] at hp
      exact hp
    · rw [if_neg (by omega)] at hp
      obtain ⟨x, y, z, hb, h14, he⟩ := (r.2.2 (by omega)).2.2
      rw [he] at hp
      exact sp_X5_fewestOf (Or.inl rfl) (by omega) hb.1 hb.2.1 hb.2.2 h14 q.2 hp
  · rw [if_neg q] at hP
    exact hP i l (pgf_rf i) hcv hpt hmd
theorem sp_X11_mend (hd : 24 ≤ d) {P : Int → IM → LM → Prop} {cs : List Cla} (hx : Cx w i cs) (hcv : CvC i l cs) (hpt : PtC i cs) (hmd : MdC i l cs) {p0 p1 : Int} (h0 : rg p0) (h1 : rg p1) (hP : ∀ i' l', pgf i i' → CvC i' l' cs → PtC i' cs → MdC i' l' cs → P (mMend i cs p0 p1) i' l') : cI w d X_X11_mend [vR (some 6), vI p0, vI p1] i l P := by
  obtain ⟨d, rfl, hd1⟩ := d_pos hd
  have h7 := Cx_7 hx
  have h307 := hx.2.1.1.1
  unfold mMend at hP
  refine e_X11_mend (s_X11_mend _ _ (by omega) ⟨h0, fun _ => h1, fun q => ?_, fun q => ?_⟩)
  · rw [h7.1] at q
    rw [if_pos q] at hP
    refine s_X11_mend_28 _ _ (by omega) ?_
    refine sp_mendC (by omega) hx hcv hpt hmd h0 (fun i' l' f pr pt md r => ?_)
    have hp := hP i' l' f (CvC_prd pr) pt md
    have e101 := f 101 (by omega)
    unfold mdR at r
    rw [enX_K e101, e101] at r
    by_cases c : p1 = -1
    · rw [if_pos c] at hp
      rw [if_pos c, r.1]
      exact ⟨h1, fun z => absurd c z, fun z => absurd c z, hp⟩
    · rw [if_neg c] at hp
      rw [if_neg c]
      obtain ⟨t, ht⟩ := Int.eq_ofNat_of_zero_le (show 0 ≤ p1 by omega)
      subst ht
      rw [Int.toNat_natCast] at hp
      have h89 := r.2.2 t (by omega)
      have h3 := (enX_first i cs p0 (-1)).2 (enX_lt hx.2.1 cs p0 (-1)) t (by omega)
      rw [h89]
      refine ⟨h1, fun _ => ⟨by omega, by omega⟩, fun _ => ⟨by omega, by omega⟩, ?_⟩
      rw [hue_at pr (by rw [e101]; omega) h3, mColour_K e101]
      exact hp
  · rw [h7.1] at q
    rw [if_neg q] at hP
    exact hP i l (pgf_rf i) hcv hpt hmd
theorem sp_X11_shut (hd : 24 ≤ d) {P : Int → IM → LM → Prop} {cs : List Cla} (hx : Cx w i cs) (hcv : CvC i l cs) (hpt : PtC i cs) (hmd : MdC i l cs) {p0 : Int} (h0 : rg p0) (hP : ∀ i' l', pgf i i' → CvC i' l' cs → PtC i' cs → MdC i' l' cs → P (mShut i cs p0) i' l') : cI w d X_X11_shut [vR (some 6), vI p0] i l P := by
  obtain ⟨d, rfl, hd1⟩ := d_pos hd
  unfold mShut at hP
  refine e_X11_shut (s_X11_shut _ (by omega) ⟨h0, fun q => ?_, fun q => ?_⟩)
  · rw [if_pos q] at hP
    refine sp_mendC (by omega) hx hcv hpt hmd h0 (fun i' l' f pr pt md r => ?_)
    have hp := hP i' l' f (CvC_prd pr) pt md
    have e101 := f 101 (by omega)
    unfold mdR at r
    rw [enX_K e101, e101] at r
    refine sp_X3_walledUp (by omega) ?_
    rw [r.2.1]
    exact hp
  · rw [if_neg q] at hP
    exact hP i l (pgf_rf i) hcv hpt hmd
theorem sp_X11_third (hd : 24 ≤ d) {P : Int → IM → LM → Prop} {cs : List Cla} (hx : Cx w i cs) (hcv : CvC i l cs) (hpt : PtC i cs) (hmd : MdC i l cs) {p0 p1 : Int} (h0 : rg p0) (h1 : rg p1) (hP : ∀ i' l', pgf i i' → CvC i' l' cs → PtC i' cs → MdC i' l' cs → P (mThird i cs p0 p1) i' l') : cI w d X_X11_third [vR (some 6), vI p0, vI p1] i l P := by
  obtain ⟨d, rfl, hd1⟩ := d_pos hd
  have h7 := Cx_7 hx
  have h308 := hx.2.1.1.2.1
  unfold mThird at hP
  refine e_X11_third (s_X11_third _ _ (by omega) ⟨h0, fun _ => h1, fun q => ?_, fun q => ?_⟩)
  · rw [h7.2.1] at q
    rw [if_pos q] at hP
    refine sp_X11_survey (by omega) hx hcv hpt hmd h0 (fun i' l' f pr pt md r => ?_)
    have hv := enX_val i cs p0 (-1)
    have e101 := f 101 (by omega)
    have hx1 := Cx_pg f hx
    unfold ptR at r
    rw [enX_K e101, e101] at r
    refine ⟨fun z => ?_, fun z => ?_⟩
    · have hp := hP i' l' f (CvC_prd pr) pt md
      rw [if_pos (by omega)] at hp
      exact hp
    · have hpos : 0 < (enX i cs p0 (-1)).1.1 := by omega
      have hb := val_rg hx.2.1 cs p0 (-1) hpos
      have h13 := (r.2.2 hpos).1
      obtain ⟨c15, c14, hch, R, hR, c13, hcvr⟩ := pr
      have hpr : prd i' l' cs p0 := ⟨c15, c14, hch, R, hR, c13, hcvr⟩
      have hZ := (rwK_ok hx1 hch hR c13 hcvr (k := 255) (by omega) (eased := p1) (Or.inr ⟨rfl, q.2.1, by rw [e101]; exact q.2.2, by rw [e101]; omega⟩)).1
      rw [h13]
      refine sp_X5_highest (Or.inr rfl) (by omega) (cvOK_of hx1 hch hR c13) h1 ⟨by omega, by omega⟩ hZ (fun v i2 l2 t1 t2 g1 g2 => ?_)
      have hl := high_link hx1 hch hR c13 hcvr (e := p1) ⟨q.2.1, by rw [e101]; exact q.2.2⟩ (by rw [enX_K e101]; exact hpos) (v := v) (by rw [enX_K e101]; exact g1) g2
      rw [enX_K e101] at hl
      have hb2 := val_rg hx.2.1 cs p0 p1 hl.1
      have e63 : i2 63 = i' 63 := t1 63 (by omega)
      have hp := hP i2 l2 (pgf_tr f (pgf_t (Or.inr rfl) t1)) (CvC_prd (prd_eq (fun a x => t1 a (by omega)) (fun a x => t2 a (by omega)) hpr)) (PtC_eq (t1 7 (by omega)) e63 (t1 72 (by omega)) (t1 101 (by omega)) pt) (MdC_eq (t1 7 (by omega)) (t1 83 (by omega)) (t1 89 (by omega)) (t1 101 (by omega)) (t2 83 (by omega)) md)
      rw [if_neg (by omega)] at hp
      rw [e63, h13, ← hl.2]
      exact ⟨⟨by omega, by omega⟩, hp⟩
  · rw [h7.2.1] at q
    rw [if_neg q] at hP
    exact hP i l (pgf_rf i) hcv hpt hmd
end
