/-! the class's search against the model's: GOOD ones, and the mend -/
section
variable {w : Wd} {d : Nat} {i : IM} {l : LM}
theorem my_eq {cs : List Cla} (h : chAll i cs) {t c : Nat} (ht : t < (i 101 307).toNat) (hc : c < 3) : (pcM i).1 t c = fMy i t c := by
  have := (pcM_at h (t := t) (c := c) (by omega) hc).1
  cases h1 : (pcM i).1 t c with
  | true => exact (this.mp h1).symm
  | false =>
    cases h2 : fMy i t c with
    | false => rfl
    | true =>
      have := this.mpr h2
      rw [h1] at this; cases this
theorem ext_ok {cs : List Cla} (h : chAll i cs) {o : Nat → Nat} (he : ext (pcM i).1 (i 101 307).toNat 0 o0 o) : okO i (i 101 307).toNat o := by
  intro j hj
  have := he.2 j (Nat.zero_le _) hj
  exact ⟨(pcM_at h (by omega) this.2).1.mp this.1, this.2⟩
theorem survey_link {cs : List Cla} (hx : Cx w i cs) (h : chAll i cs) {R : Nat} (hR : R ≤ 12) (h51 : i 51 13 = (R : Int)) {months : Int} (hcv : cvR i l cs (i 101 307).toNat R (msI months 12)) (v : Int) : RA (i 101 307).toNat (pG (pcM i).1 (fun o s => if gd (rwK i l 255 (-1)) (i 101 307).toNat o = true then addB (one (pcM i) (i 101 307).toNat o) s else s) (i 101 307).toNat 0 o0 (sa0 v)) (enX i cs months (-1)).1 := by
  have h307 := hx.2.1.1.1
  have h308 := hx.2.1.1.2.1
  have hok : ∀ o, okO i (i 101 307).toNat o → (gd (rwK i l 255 (-1)) (i 101 307).toNat o = true ↔ ∀ mo, msI months 12 mo → moOK i cs (i 101 307).toNat 255 (-1) o mo) := (rwK_ok hx h hR h51 hcv (k := 255) (by omega) (eased := -1) (Or.inl rfl)).2
  refine pG_rel (R := fun s (s' : ES) => RA (i 101 307).toNat s s'.1) (fun t c ht hc => my_eq h ht hc) (i 101 307).toNat 0 o0 (sa0 v) es0 (Nat.zero_add _) (fun o s s' he hr => ?_) ⟨Int.le_refl 0, rfl, rfl, fun z => absurd (show (0 : Int) < 0 from z) (by decide), fun _ => ⟨rfl, rfl, rfl⟩⟩
  have ho := ext_ok h he
  have hg := (hok o ho).trans moOK_fl
  rw [flN_255 (by omega)] at hg
  show RA (i 101 307).toNat (if gd (rwK i l 255 (-1)) (i 101 307).toNat o = true then addB (one (pcM i) (i 101 307).toNat o) s else s) (if flN i cs (i 101 307).toNat months (-1) o (i 101 308).toNat = 0 then addB _ s'.1 else s'.1)
  by_cases c : flN i cs (i 101 307).toNat months (-1) o (i 101 308).toNat = 0
  · rw [if_pos c, if_pos (hg.mpr c)]
    have hat := fun (t : Nat) (ht : t < (i 101 307).toNat) => pcM_at h (t := t) (c := o t) (by omega) (ho t ht).2
    have e1 : vs (pcM i).2.1 o (i 101 307).toNat = vs (fWo i) o (i 101 307).toNat - vs (fPr i cs) o (i 101 307).toNat := vs_sub o _ (fun t ht => (hat t ht).2.1)
    have e2 : vs (pcM i).2.2.1 o (i 101 307).toNat = vs (fGr i) o (i 101 307).toNat := vs_at _ (fun t ht => (hat t ht).2.2.1)
    have e3 : vs (pcM i).2.2.2.1 o (i 101 307).toNat = vs (fPt i) o (i 101 307).toNat := vs_at _ (fun t ht => (hat t ht).2.2.2.1)
    have e4 : vs (pcM i).2.2.2.2 o (i 101 307).toNat = vs (fOf i) o (i 101 307).toNat := vs_at _ (fun t ht => (hat t ht).2.2.2.2)
    unfold one
    rw [e1, e2, e3, e4]
    have r3 := vs_rg (g := fGr i) (b := 1) o (i 101 307).toNat (fun x hx => by
      show 0 ≤ (if mColour i (x : Int) ((o x : Nat) : Int) = 0 then (1 : Int) else 0) ∧ (if mColour i (x : Int) ((o x : Nat) : Int) = 0 then (1 : Int) else 0) ≤ 1
      split <;> omega)
    have r4 := vs_rg (g := fPt i) (b := 1) o (i 101 307).toNat (fun x hx => by
      show 0 ≤ (if ((o x : Nat) : Int) = 0 then (0 : Int) else 1) ∧ (if ((o x : Nat) : Int) = 0 then (0 : Int) else 1) ≤ 1
      split <;> omega)
    have r5 := vs_rg (g := fOf i) (b := 1) o (i 101 307).toNat (fun x hx => by
      show 0 ≤ (if mColour i (x : Int) ((o x : Nat) : Int) = i 101 (8 * (x : Int) + 2) then (0 : Int) else 1) ∧ (if mColour i (x : Int) ((o x : Nat) : Int) = i 101 (8 * (x : Int) + 2) then (0 : Int) else 1) ≤ 1
      split <;> omega)
    exact RA_add hr rfl (fun j hj => if_pos hj) (by omega) (by omega) (by omega)
  · rw [if_neg c, if_neg (fun z => c (hg.mp z))]
    exact hr
/-- the bytes that tell which WINDOWS fail -/
theorem FLs_v {cs : List Cla} (hx : Cx w i cs) (h : chAll i cs) {R : Nat} (hR : R ≤ 12) (h51 : i 51 13 = (R : Int)) {months : Int} (hcv : cvR i l cs (i 101 307).toNat R (msI months 12)) {o : Nat → Nat} (ho : okO i (i 101 307).toNat o) {v : Nat} (hv : v < 8) : 128 ≤ Bt (FLs (rwK i l 255 (-1)) (i 101 307).toNat o) v ↔ v < (i 101 308).toNat ∧ ¬ vh i cs (i 101 307).toNat months (-1) o v = true := by
  have h307 := hx.2.1.1.1
  have h308 := hx.2.1.1.2.1
  have hn : (((i 101 307).toNat : Nat) : Int) = i 101 307 := by omega
  have hZ : RWok (pcM i) (rwK i l 255 (-1)) (i 101 307).toNat := (rwK_ok hx h hR h51 hcv (k := 255) (by omega) (eased := -1) (Or.inl rfl)).1
  obtain ⟨mq, hr, hq⟩ := hcv
  have eR : (rwK i l 255 (-1)).1 = R := by
    show (i 51 13).toNat = R
    rw [h51]; omega
  have hb := flGo_b (rwK i l 255 (-1)) (i 101 307).toNat o (rwK i l 255 (-1)).1 v hv
  have h1 : 128 ≤ Bt (FLs (rwK i l 255 (-1)) (i 101 307).toNat o) v ↔ Bt (flGo (rwK i l 255 (-1)) (i 101 307).toNat o (rwK i l 255 (-1)).1) v = 128 := by
    show 128 ≤ Bt (flGo (rwK i l 255 (-1)) (i 101 307).toNat o (rwK i l 255 (-1)).1) v ↔ _
    omega
  rw [h1, flGo_iff hZ o hv _ (Nat.le_refl _), eR]
  have hrow : ∀ q, q < R → (128 ≤ cntB (Bt (vw (rwK i l 255 (-1)) o q (i 101 307).toNat) v) 8 + Bt ((rwK i l 255 (-1)).2.2.1 q) v ↔ v < (i 101 308).toNat ∧ ¬ moOK i cs (i 101 307).toNat (2 ^ v) (-1) o (mq q)) := by
    intro q hqR
    have hz : zRow i cs (i 101 307).toNat (rwK i l 255 (-1)) q (mq q) := ⟨fun t c v ht hc hm hv => (hq q hqR).2.1 t c (Nat.zero_le _) (by omega) hc hm v hv, fun t v ht hv => (hq q hqR).2.2 t v (Nat.zero_le _) (by omega) hv⟩
    have hs := spK_of (k := 255) (by omega) (hq q hqR).1 (eased := -1) (Or.inl rfl) v hv
    have hs2 : (Bt ((rwK i l 255 (-1)).2.2.1 q) v : Int) = if v < (i 101 308).toNat ∧ (255 : Nat).testBit v = true then 127 - fLimit cs (v : Int) (mq q) 0 - (if (-1 : Int) = (v : Int) then 1 else 0) else 0 := hs
    rw [if_neg (show ¬ (-1 : Int) = (v : Int) by omega)] at hs2
    rw [vw_mvw hz ho hv _ (Nat.le_refl _)]
    have hf := fLimit_rg cs (v : Int) (mq q) 0
    by_cases c : v < (i 101 308).toNat
    · rw [if_pos c]
      rw [if_pos ⟨c, bits255 v hv⟩] at hs2
      have hmo : moOK i cs (i 101 307).toNat (2 ^ v) (-1) o (mq q) ↔ (cntB (mvw i cs o v (mq q) (i 101 307).toNat) 8 : Int) ≤ fLimit cs (v : Int) (mq q) 0 := by
        constructor
        · intro hm
          have := hm v c ((bit_pow v v).mpr rfl)
          rw [if_neg (show ¬ (-1 : Int) = (v : Int) by omega)] at this
          omega
        · intro hm u hu hb
          have : v = u := (bit_pow v u).mp hb
          subst this
          rw [if_neg (show ¬ (-1 : Int) = (v : Int) by omega)]
          omega
      rw [hmo]
      constructor
      · intro hh; exact ⟨c, by omega⟩
      · intro hh
        have := hh.2
        omega
    · rw [if_neg c]
      rw [if_neg (fun z => c z.1)] at hs2
      have c0 : cntB 0 8 = 0 := by decide
      constructor
      · intro hh; omega
      · intro hh; exact absurd hh.1 c
  have hvh : v < (i 101 308).toNat → (vh i cs (i 101 307).toNat months (-1) o v = true ↔ ∀ mo, msI months 12 mo → moOK i cs (i 101 307).toNat (2 ^ v) (-1) o mo) := by
    intro hW
    rw [moOK_vh]
    constructor
    · intro hh u hu hb
      have : v = u := (bit_pow v u).mp hb
      subst this
      exact hh
    · intro hh
      exact hh v hW ((bit_pow v v).mpr rfl)
  constructor
  · rintro ⟨q, hqR, hc⟩
    have := (hrow q hqR).mp hc
    exact ⟨this.1, fun z => this.2 ((hvh this.1).mp z _ (hr.1 q hqR))⟩
  · rintro ⟨hW, hne⟩
    rw [hvh hW] at hne
    obtain ⟨mo, hne2⟩ := Classical.not_forall.mp hne
    obtain ⟨hms, hne3⟩ := Classical.not_imp.mp hne2
    rcases hr.2 mo hms with hall | ⟨q, hqR, hq2⟩
    · exact absurd (hall o _ _ ho) hne3
    · exact ⟨q, hqR, (hrow q hqR).mpr ⟨hW, fun z => hne3 ((hq2 o _ _ ho).mpr z)⟩⟩
theorem wuN_fl {cs : List Cla} (hx : Cx w i cs) (h : chAll i cs) {R : Nat} (hR : R ≤ 12) (h51 : i 51 13 = (R : Int)) {months : Int} (hcv : cvR i l cs (i 101 307).toNat R (msI months 12)) {o : Nat → Nat} (ho : okO i (i 101 307).toNat o) : wuN (FLs (rwK i l 255 (-1)) (i 101 307).toNat o) 8 = flN i cs (i 101 307).toNat months (-1) o (i 101 308).toNat := by
  have h308 := hx.2.1.1.2.1
  apply Nat.eq_of_testBit_eq
  intro v
  have h1 := wuN_bit (FLs (rwK i l 255 (-1)) (i 101 307).toNat o) 8 v
  have h2 := flN_bit i cs (i 101 307).toNat months (-1) o (i 101 308).toNat v
  have h3 : (wuN (FLs (rwK i l 255 (-1)) (i 101 307).toNat o) 8).testBit v = true ↔ (flN i cs (i 101 307).toNat months (-1) o (i 101 308).toNat).testBit v = true := by
    rw [h1, h2]
    constructor
    · rintro ⟨a, b⟩; exact (FLs_v hx h hR h51 hcv ho a).mp b
    · rintro ⟨a, b⟩
      have hv : v < 8 := by omega
      exact ⟨hv, (FLs_v hx h hR h51 hcv ho hv).mpr ⟨a, b⟩⟩
  exact Bool.eq_iff_iff.mpr h3
theorem shF_sh {cs : List Cla} (hx : Cx w i cs) (h : chAll i cs) {R : Nat} (hR : R ≤ 12) (h51 : i 51 13 = (R : Int)) {months : Int} (hcv : cvR i l cs (i 101 307).toNat R (msI months 12)) {o : Nat → Nat} (ho : okO i (i 101 307).toNat o) : ∀ k, k ≤ (i 101 308).toNat → shGo (fun v => i 9 (v * 3 + 2)) (FLs (rwK i l 255 (-1)) (i 101 307).toNat o) k = shN i cs (i 101 307).toNat months (-1) o k
  | 0, _ => rfl
  | k + 1, hk => by
    have h308 := hx.2.1.1.2.1
    have ih := shF_sh hx h hR h51 hcv ho k (by omega)
    have hf := FLs_v hx h hR h51 hcv ho (v := k) (by omega)
    have e9 := TW_view hx.1 (v := (k : Int)) (x := 2) ⟨by omega, by omega⟩ ⟨by omega, by omega⟩
    rw [shN_s, ← ih]
    show shGo (fun v => i 9 (v * 3 + 2)) (FLs (rwK i l 255 (-1)) (i 101 307).toNat o) k + (if 128 ≤ Bt (FLs (rwK i l 255 (-1)) (i 101 307).toNat o) k then i 9 ((k : Int) * 3 + 2) else 0) = _
    by_cases c : vh i cs (i 101 307).toNat months (-1) o k = true
    · rw [if_pos c, if_neg (fun z => (hf.mp z).2 c)]
    · rw [if_neg c, if_pos (hf.mpr ⟨by omega, c⟩), e9]
/-- the mend: the class's against the model's -/
def RMd (n : Nat) (s : MS) (s' : Int × Nat × (Nat → Nat)) : Prop := (s.1 = 1000000 ∧ s'.1 = 2147483647) ∨ (s.1 < 1000000 ∧ s.1 = s'.1 ∧ wuN s.2.1 8 = s'.2.1 ∧ ∀ j, j < n → s.2.2 j = s'.2.2 j)
theorem shK_ok {W : Nat} (h : shK i W) : shOK (shF i W) := ⟨fun F => (shGo_bd W h.2.2).1, fun F G hF hG hh => shGo_mono W (fun v hv => (h.2.2 v hv).1) (fun v hv hc => by
  have := h.1
  rcases hF v (by omega) with e | e
  · omega
  · have := hh v (by omega) e; omega)⟩
theorem shK_of {cs : List Cla} (hx : Cx w i cs) : shK i (i 101 308).toNat := by
  have h308 := hx.2.1.1.2.1
  refine ⟨by omega, by rw [(Cx_7 hx).2.1]; omega, fun v hv => ?_⟩
  rw [TW_view hx.1 (v := (v : Int)) (x := 2) ⟨by omega, by omega⟩ ⟨by omega, by omega⟩]
  exact (hx.2.1.2.2.1 (v : Int) (by omega) (by omega)).2.2
theorem mend_link {cs : List Cla} (hx : Cx w i cs) (h : chAll i cs) {R : Nat} (hR : R ≤ 12) (h51 : i 51 13 = (R : Int)) {months : Int} (hcv : cvR i l cs (i 101 307).toNat R (msI months 12)) {l1 : LM} (hl1 : ∀ c, c ≠ 84 → c ≠ 85 → l1 c = l c) (hw : ∀ q : Nat, q < (i 51 13).toNat → l1 85 (q : Int) = sparL l (q : Int) 255 (-1)) : RMd (i 101 307).toNat (srX (pcM i) (prM i (i 101 307).toNat) (rwM i l1 83) (shF i (i 101 308).toNat) (i 101 307).toNat ms0) (enX i cs months (-1)).2.1 := by
  have h307 := hx.2.1.1.1
  have h308 := hx.2.1.1.2.1
  have hZ : RWok (pcM i) (rwK i l 255 (-1)) (i 101 307).toNat := (rwK_ok hx h hR h51 hcv (k := 255) (by omega) (eased := -1) (Or.inl rfl)).1
  have hz : zeq (rwK i l 255 (-1)) (rwM i l1 83) := by
    refine ⟨rfl, ?_, fun q hq => (hw q hq).symm, ?_, ?_⟩
    · show (fun t c q => l 56 _) = (fun t c q => l1 56 _)
      rw [hl1 56 (by decide) (by decide)]
    · show (fun t q => l 57 _) = (fun t q => l1 57 _)
      rw [hl1 57 (by decide) (by decide)]
    · show (fun t q => l 58 _) = (fun t q => l1 58 _)
      rw [hl1 58 (by decide) (by decide)]
  have hcvo := cvOK_of hx h hR h51
  have hp := prM_ok hcvo
  have hC : hasM (pcM i).1 (i 101 307).toNat := hcvo.2.2.2.1
  have hsk := shK_of hx
  have hch : ch (pcM i).1 (prM i (i 101 307).toNat) (i 101 307).toNat 0 < (1000000 : Int) := by
    have := (ch_bd hcvo (i 101 307).toNat 0 (Nat.zero_add _)).2
    omega
  rw [srX_all hp hC (RWok_z hz hZ) (shK_ok hsk) (shGo_0 _ _ hsk.1) (s := ms0) hch]
  refine pG_rel (R := fun s (s' : ES) => RMd (i 101 307).toNat s s'.2.1) (fun t c ht hc => my_eq h ht hc) (i 101 307).toNat 0 o0 ms0 es0 (Nat.zero_add _) (fun o s s' he hr => ?_) (Or.inl ⟨rfl, rfl⟩)
  have ho := ext_ok h he
  have eT : (tM (pcM i) (prM i (i 101 307).toNat) (rwM i l1 83) (shF i (i 101 308).toNat) (i 101 307).toNat).1 o = vs (fPr i cs) o (i 101 307).toNat + shN i cs (i 101 307).toNat months (-1) o (i 101 308).toNat := by
    show vs (prM i (i 101 307).toNat) o (i 101 307).toNat + shGo (fun v => i 9 (v * 3 + 2)) (FLs (rwM i l1 83) (i 101 307).toNat o) (i 101 308).toNat = _
    rw [← FLs_z hz, shF_sh hx h hR h51 hcv ho _ (Nat.le_refl _)]
    congr 1
    refine vs_at _ (fun t ht => ?_)
    rw [← prM_at ht (ho t ht).2]
    exact (h.2 t (by omega) (o t) (ho t ht).2).2.1
  have eW : wuN ((tM (pcM i) (prM i (i 101 307).toNat) (rwM i l1 83) (shF i (i 101 308).toNat) (i 101 307).toNat).2.1 o) 8 = flN i cs (i 101 307).toNat months (-1) o (i 101 308).toNat := by
    show wuN (FLs (rwM i l1 83) (i 101 307).toNat o) 8 = _
    rw [← FLs_z hz]
    exact wuN_fl hx h hR h51 hcv ho
  show RMd (i 101 307).toNat (if (tM (pcM i) (prM i (i 101 307).toNat) (rwM i l1 83) (shF i (i 101 308).toNat) (i 101 307).toNat).1 o < s.1 then _ else s) (if vs (fPr i cs) o (i 101 307).toNat + shN i cs (i 101 307).toNat months (-1) o (i 101 308).toNat < s'.2.1.1 then _ else s'.2.1)
  rw [eT]
  have hv1 := vs_rg (g := fPr i cs) (b := 99) o (i 101 307).toNat (fun t ht => mPr_rg hx.2.1 cs ⟨by omega, by omega⟩)
  have hv2 := shN_rg hx.2.1 cs (i 101 307).toNat months (-1) o (k := (i 101 308).toNat) (by omega)
  rcases hr with hr | hr
  · rw [if_pos (by rw [hr.1]; omega), if_pos (by rw [hr.2]; omega)]
    exact Or.inr ⟨by show vs (fPr i cs) o (i 101 307).toNat + shN i cs (i 101 307).toNat months (-1) o (i 101 308).toNat < 1000000; omega, rfl, eW, fun j hj => if_pos hj⟩
  · rw [hr.2.1]
    by_cases c : vs (fPr i cs) o (i 101 307).toNat + shN i cs (i 101 307).toNat months (-1) o (i 101 308).toNat < s'.2.1.1
    · rw [if_pos c, if_pos c]
      exact Or.inr ⟨by show vs (fPr i cs) o (i 101 307).toNat + shN i cs (i 101 307).toNat months (-1) o (i 101 308).toNat < 1000000; omega, rfl, eW, fun j hj => if_pos hj⟩
    · rw [if_neg c, if_neg c]
      exact Or.inr hr
end
