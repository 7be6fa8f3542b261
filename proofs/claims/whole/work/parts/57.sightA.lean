/-! SIGHT asks as the model does -/
section
variable {w : Wd} {d : Nat} {i : IM} {l : LM}
/-- the TOWN as it stands, on both sides, and the LAW in FORCE -/
def Cx (w : Wd) (i : IM) (cs : List Cla) : Prop := TW i ∧ kOK (i 101) ∧ forceC w i cs ∧ hasDep cs
theorem Cx_sfr {i i' : IM} {cs : List Cla} (h : sfr i i') (hx : Cx w i cs) : Cx w i' cs :=
  ⟨TW_sfr h hx.1, by rw [h 101 (by decide) (by decide) (by decide) (by decide) (by decide)]; exact hx.2.1, forceC_sfr h hx.2.2.1, hx.2.2.2⟩
theorem sfr_101 {i i' : IM} (h : sfr i i') : i' 101 = i 101 := h 101 (by decide) (by decide) (by decide) (by decide) (by decide)
theorem sfr_7 {i i' : IM} (h : sfr i i') : i' 7 = i 7 := h 7 (by decide) (by decide) (by decide) (by decide) (by decide)
theorem sfr_44 {i i' : IM} (h : sfr i i') : i' 44 = i 44 := h 44 (by decide) (by decide) (by decide) (by decide) (by decide)
theorem sfr_45 {i i' : IM} (h : sfr i i') : i' 45 = i 45 := h 45 (by decide) (by decide) (by decide) (by decide) (by decide)
theorem sfr_49 {i i' : IM} (h : sfr i i') : i' 49 = i 49 := h 49 (by decide) (by decide) (by decide) (by decide) (by decide)
theorem TW_view (ht : TW i) {v x : Int} (hv : 0 ≤ v ∧ v < 8) (hx : 0 ≤ x ∧ x < 3) : i 9 (v * 3 + x) = i 101 (80 + 3 * v + x) := by
  rw [ht.2.1 (v * 3 + x) (by omega) (by omega)]
  congr 1
  omega
theorem TW_trait (ht : TW i) {t x : Int} (hv : 0 ≤ t ∧ t < 10) (hx : 0 ≤ x ∧ x < 8) : i 8 (t * 8 + x) = i 101 (8 * t + x) := by
  rw [ht.1 (t * 8 + x) (by omega) (by omega)]
  congr 1
  omega
theorem TW_shown (ht : TW i) {t p m : Int} (hv : 0 ≤ t ∧ t < 10) : cShown i t p m = mShows i t p m := by
  unfold cShown mShows
  rw [TW_trait ht hv (by omega), TW_trait ht hv (by omega)]
theorem bit01 {a : Int} {k : Int} (ha : 0 ≤ a ∧ a ≤ 4095) (hk : 0 ≤ k ∧ k < 32) : iand (ishr a k) 1 = 0 ∨ iand (ishr a k) 1 = 1 := by
  obtain ⟨n, rfl⟩ := Int.eq_ofNat_of_zero_le ha.1
  obtain ⟨m, rfl⟩ := Int.eq_ofNat_of_zero_le hk.1
  rw [ibit_nat (by omega) (by omega)]
  have := ibit_lt n m
  omega
theorem Cx_mo {cs : List Cla} (hx : Cx w i cs) : bd (i 101 313) := ⟨by have := hx.2.1.1.2.2.2.2.2; omega, by have := hx.2.1.1.2.2.2.2.2; omega⟩
theorem Cx_7 {cs : List Cla} (hx : Cx w i cs) : i 7 8 = i 101 307 ∧ i 7 9 = i 101 308 ∧ i 7 10 = i 101 309 ∧ i 7 11 = i 101 310 ∧ i 7 12 = i 101 311 ∧ i 7 13 = i 101 313 ∧ i 7 14 = i 101 312 := hx.1.2.2.2.2.2.2
theorem sp_X8_limitAt (hd : 5 ≤ d) {P : Int → IM → LM → Prop} {cs : List Cla} (hx : Cx w i cs) (hs : SgF i cs) {v m : Int} (hv : 0 ≤ v ∧ v < 8) (hm : 0 ≤ m ∧ m < 120) (hP : ∀ i' l', sfr i i' → psc l l' → SgF i' cs → P (fLimit cs v (i 101 313) m) i' l') : cI w d X_X8_limitAt [vR (some 44), vI v, vI m] i l P := by
  obtain ⟨d, rfl, hd1⟩ := d_pos hd
  have hsl := sl_rg (f := i 44 13) hv hm
  refine e_X8_limitAt (s_X8_limitAt _ _ ⟨hsl, fun q => ?_, fun q => ⟨hsl, ?_⟩⟩)
  · rw [(Cx_7 hx).2.2.2.2.2.1]
    refine sp_X0_limitOf hd1 hx.2.2.1 hx.2.2.2 ⟨by omega, by omega⟩ (Cx_mo hx) ⟨by omega, by omega⟩ (fun i' l' hi hl => ⟨hsl, ?_⟩)
    have e44 : i' 44 = i 44 := cscr_c hi (by decide) (by decide)
    have e101 : i' 101 = i 101 := cscr_c hi (by decide) (by decide)
    have := hP (u2 i' 47 (sl (i 44 13) v m) (fLimit cs v (i 101 313) m)) l' (sfr_tr (sfr_cs hi) (sfr_u (by omega))) hl (by
      have := SgF_47 (SgF_cs hi hs) (v := v) hm
      rw [e44, e101] at this
      exact this)
    rw [u2_self]
    exact this
  · have h3 := hs.2.2.1 v m hv hm
    have := hP i l (sfr_rf i) (psc_rf l) hs
    rcases h3 with h3 | h3
    · exact absurd h3 q
    · rw [← h3] at this
      exact this
/-- a bit that is there already -/
theorem ior_in {a n : Nat} (ha : a < 256) (hn : n < 8) (h : ¬ iand (a : Int) (ishl 1 (n : Int)) = 0) : ior (a : Int) (ishl 1 (n : Int)) = (a : Int) := by
  have h2 : 2 ^ n < 2 ^ 8 := Nat.pow_lt_pow_right (by omega) hn
  rw [ishl_one (by omega)] at h ⊢
  rw [iand_nat (by omega)] at h
  rw [ior_nat (by omega) (by omega)]
  have hb : a.testBit n = true := by
    by_cases q : a.testBit n = true
    · exact q
    · exfalso
      apply h
      have : a &&& 2 ^ n = 0 := by
        apply Nat.eq_of_testBit_eq
        intro x
        rw [Nat.testBit_and, Nat.zero_testBit]
        by_cases e : n = x
        · subst e
          simp [q]
        · have : (2 ^ n).testBit x = false := by
            have := mt (bit_pow n x).mp e
            simpa using this
          simp [this]
      rw [this]
      rfl
  congr 1
  apply Nat.eq_of_testBit_eq
  intro x
  rw [Nat.testBit_or]
  by_cases e : n = x
  · subst e
    simp [hb]
  · have : (2 ^ n).testBit x = false := by
      have := mt (bit_pow n x).mp e
      simpa using this
    simp [this]
theorem fBit_1 {cs : List Cla} {e : LEnv} (h : fCount cs e) (lw : Int) : fBit cs e lw = ishl 1 lw := by
  unfold fBit
  rw [cntN_1 h, if_neg (by decide)]
theorem fBit_0 {cs : List Cla} {e : LEnv} (h : ¬ fCount cs e) (lw : Int) : fBit cs e lw = 0 := by
  unfold fBit
  rw [cntN_0 h, if_pos rfl]
theorem ior_0 {a : Nat} (ha : a < 256) : ior (a : Int) 0 = (a : Int) := by
  have := ior_nat (a := a) (b := 0) (by omega) (by omega)
  rw [Nat.or_zero] at this
  exact this
theorem lp_thingsFrom (hd : 5 ≤ d) {P : Int → IM → LM → Prop} {cs : List Cla} {i : IM} (hx : Cx w i cs) {v m : Int} (hv : 0 ≤ v ∧ v < 8) (hm : 0 ≤ m ∧ m < 120) {s : Int} (hs : 0 ≤ s ∧ s < 960) (hP : ∀ i' l', cscr i i' → psc l l' → P (mThings i cs v (i 101 313) m) (u2 i' 46 s (mThings i cs v (i 101 313) m)) l') : ∀ (r k : Nat), k + r = (i 101 307).toNat → ∀ i' l', cscr i i' → psc l l' → gI w d X_X8_thingsFrom P i' l' 52 [(0, vR (some 44)), (1, vI v), (2, vI m), (3, vI s), (4, vI (orGo (fun t => mBit i cs v (t : Int) (i 101 (8 * (t : Int) + 1)) (i 101 313) m) 0 k)), (5, vI (i 9 (v * 3 + 0))), (6, vI (k : Int))] [] := by
  have h7 := Cx_7 hx
  have h307 := hx.2.1.1.1
  intro r
  induction r with
  | zero =>
    intro k hk i' l' hi hl
    have e7 : i' 7 = i 7 := cscr_c hi (by decide) (by decide)
    obtain ⟨b, hb, hb2⟩ := mThings_nat hx.2.1 cs v (i 101 313) m
    have hk2 : k = (i 101 307).toNat := by omega
    refine s_X8_thingsFrom_52 _ _ _ _ _ _ (by omega) ⟨⟨by omega, by omega⟩, fun q => ⟨hs, ?_, ?_⟩, fun q => ?_, fun q => ?_⟩
    · rw [hk2]; show rg (mThings i cs v (i 101 313) m); rw [hb]; exact ⟨by omega, by omega⟩
    · rw [hk2]; exact hP i' l' hi hl
    · rw [e7, h7.1] at q; omega
    · rw [e7, h7.1] at q; omega
  | succ r ih =>
    intro k hk i' l' hi hl
    have e7 : i' 7 = i 7 := cscr_c hi (by decide) (by decide)
    have e8 : i' 8 = i 8 := cscr_c hi (by decide) (by decide)
    have e13 : i' 13 = i 13 := cscr_c hi (by decide) (by decide)
    have hk10 : 0 ≤ (k : Int) ∧ (k : Int) < 10 := by omega
    have ht := hx.2.1.2.1 k (by omega) (by omega)
    obtain ⟨b, hb, hb2⟩ := orGo_nat (g := fun t => mBit i cs v (t : Int) (i 101 (8 * (t : Int) + 1)) (i 101 313) m) (x := 0) ⟨0, rfl, by omega⟩ k (fun y hy => mBit_nat hx.2.1 cs ⟨by omega, by omega⟩ (hx.2.1.2.1 y (by omega) (by omega)).2.1)
    have ec : cShown i' k (i' 8 (k * 8 + 1)) (i' 7 13) = mShows i k (i 101 (8 * (k : Int) + 1)) (i 101 313) := by
      have : cShown i' = cShown i := by funext a b c; unfold cShown; rw [e8]
      rw [this, e8, e7, h7.2.2.2.2.2.1, TW_shown hx.1 hk10, TW_trait hx.1 hk10 (by omega)]
    have hc8 := mShows_lt (i := i) (t := k) (c := i 101 (8 * (k : Int) + 1)) (m := i 101 313) ht.2.1 ht.2.2.2.2.2.2.2
    obtain ⟨n, hn, hn8⟩ := mLow_nat (i := i) _ hc8
    have e13b : i' 13 (mShows i k (i 101 (8 * (k : Int) + 1)) (i 101 313)) = (n : Int) := by
      rw [e13, hx.1.2.2.2.2.1 _ hc8.1 hc8.2, hn]
    have ev : i 9 (v * 3 + 0) = i 101 (80 + 3 * v + 0) := TW_view hx.1 hv (by omega)
    have enext : orGo (fun t => mBit i cs v (t : Int) (i 101 (8 * (t : Int) + 1)) (i 101 313) m) 0 (k + 1) = ior (b : Int) (mBit i cs v (k : Int) (i 101 (8 * (k : Int) + 1)) (i 101 313) m) := by
      show ior _ _ = _
      rw [hb]
    have hnext := ih (k + 1) (by omega)
    rw [enext] at hnext
    refine s_X8_thingsFrom_52 _ _ _ _ _ _ (by omega) ⟨⟨by omega, by omega⟩, fun q => ?_, fun q => ?_, fun q => ⟨⟨by omega, by omega⟩, hk10, ?_, fun q2 => ?_, fun q2 => ?_⟩⟩
    · rw [e7, h7.1] at q; omega
    · have e0 : mBit i cs v (k : Int) (i 101 (8 * (k : Int) + 1)) (i 101 313) m = 0 := by
        unfold mBit
        rw [← ev, if_neg q.2]
      rw [e0, ior_0 hb2] at hnext
      rw [hb]
      exact hnext i' l' hi hl
    · rw [ec]; exact hc8
    · rw [ec, e13b] at q2 ⊢
      rw [e7, h7.2.2.2.2.2.1]
      have es : i' 8 (k * 8 + 0) = i 101 (8 * (k : Int) + 0) := by rw [e8, TW_trait hx.1 hk10 (by omega)]
      have hbit : mBit i cs v (k : Int) (i 101 (8 * (k : Int) + 1)) (i 101 313) m = fBit cs (mkEnv v k 0 (mShows i k (i 101 (8 * (k : Int) + 1)) (i 101 313)) (i 101 (8 * (k : Int) + 0)) (i 101 313) m 0 0) (n : Int) := by
        unfold mBit
        rw [← ev, if_pos q.2, hn]
      rw [hbit] at hnext
      refine sp_X0_showsThing (by omega) (forceC_kept hi hx.2.2.1) hx.2.2.2 ⟨by omega, by omega⟩ hk10 ⟨by omega, by omega⟩ (Cx_mo hx) ⟨by omega, by omega⟩ (by rw [es]; exact ⟨by omega, by omega⟩) (fun i2 l2 hi2 hl2 hc => ⟨fun z => absurd z (by decide), fun _ => ?_⟩) (fun i2 l2 hi2 hl2 hc => ⟨fun _ => ?_, fun z => absurd rfl z⟩)
      · rw [es] at hc
        rw [fBit_1 hc] at hnext
        rw [hb]
        exact hnext i2 l2 (cscr_tr hi hi2) (psc_tr hl hl2)
      · rw [es] at hc
        rw [fBit_0 hc, ior_0 hb2] at hnext
        rw [hb]
        exact hnext i2 l2 (cscr_tr hi hi2) (psc_tr hl hl2)
    · rw [ec, e13b, hb] at q2
      have e1 : ior (b : Int) (mBit i cs v (k : Int) (i 101 (8 * (k : Int) + 1)) (i 101 313) m) = (b : Int) := by
        unfold mBit
        rw [← ev, if_pos q.2, hn]
        unfold fBit
        split
        · exact ior_0 hb2
        · exact ior_in hb2 hn8 q2
      rw [e1] at hnext
      rw [hb]
      exact hnext i' l' hi hl
theorem sp_X8_thingsFrom (hd : 6 ≤ d) {P : Int → IM → LM → Prop} {cs : List Cla} (hx : Cx w i cs) (hs : SgF i cs) {v m : Int} (hv : 0 ≤ v ∧ v < 8) (hm : 0 ≤ m ∧ m < 120) (hP : ∀ i' l', sfr i i' → psc l l' → SgF i' cs → P (mThings i cs v (i 101 313) m) i' l') : cI w d X_X8_thingsFrom [vR (some 44), vI v, vI m] i l P := by
  obtain ⟨d, rfl, hd1⟩ := d_pos hd
  have hsl := sl_rg (f := i 44 12) hv hm
  refine e_X8_thingsFrom (s_X8_thingsFrom _ _ (by omega) ⟨hsl, fun q => ⟨⟨by omega, by omega⟩, ?_⟩, fun q => ⟨hsl, ?_⟩⟩)
  · refine lp_thingsFrom hd1 hx hv hm hsl (fun i' l' hi hl => ?_) _ 0 (Nat.zero_add _) i l (cscr_rf i) (psc_rf l)
    have e44 : i' 44 = i 44 := cscr_c hi (by decide) (by decide)
    have e101 : i' 101 = i 101 := cscr_c hi (by decide) (by decide)
    refine hP _ l' (sfr_tr (sfr_cs hi) (sfr_u (by omega))) hl ?_
    have := SgF_46 (SgF_cs hi hs) (v := v) hm
    rw [e44, e101, mThings_K e101] at this
    exact this
  · have h3 := hs.2.2.2.1 v m hv hm
    have := hP i l (sfr_rf i) (psc_rf l) hs
    rcases h3 with h3 | h3
    · exact absurd h3 q
    · rw [← h3] at this
      exact this
theorem sp_X8_oneFrom (hd : 5 ≤ d) {P : Int → IM → LM → Prop} {cs : List Cla} (hx : Cx w i cs) (hs : SgF i cs) {v p pl m : Int} (hv : 0 ≤ v ∧ v < 8) (hp : 0 ≤ p ∧ p < 5) (hpl : -1 ≤ pl ∧ pl < 10) (hm : 0 ≤ m ∧ m < 120) (hP : ∀ i' l', sfr i i' → psc l l' → SgF i' cs → P (mCoat i cs v p pl (i 101 313) m) i' l') : cI w d X_X8_oneFrom [vR (some 44), vI v, vI p, vI pl, vI m] i l P := by
  obtain ⟨d, rfl, hd1⟩ := d_pos hd
  have h7 := Cx_7 hx
  have ev : i 9 (v * 3 + 1) = i 101 (80 + 3 * v + 1) := TW_view hx.1 hv (by omega)
  have hv1 := (hx.2.1.2.2.1 v hv.1 hv.2).2.1
  have hco := hx.2.1.2.2.2.2.1 p hp.1 hp.2
  have e10 : i 10 p = i 101 (114 + p) := hx.1.2.2.1 p hp.1 hp.2
  refine e_X8_oneFrom (s_X8_oneFrom _ _ _ _ (by omega) ⟨⟨by omega, by omega⟩, fun _ => ⟨by omega, by omega⟩, fun q => ?_, fun q => ?_⟩)
  · have := hP i l (sfr_rf i) (psc_rf l) hs
    have e0 : mCoat i cs v p pl (i 101 313) m = 0 := by
      unfold mCoat
      rw [← ev, if_pos (by rcases q with q | q; exact Or.inl q; exact Or.inr (by rw [q]; decide))]
    rw [e0] at this
    exact this
  · have hq1 : ¬ pl = -1 := fun z => q (Or.inl z)
    have hq2 : iand (ishr (i 9 (v * 3 + 1)) pl) 1 = 1 := by
      have := bit01 (a := i 101 (80 + 3 * v + 1)) (k := pl) ⟨by omega, by omega⟩ ⟨by omega, by omega⟩
      rw [← ev] at this
      rcases this with z | z
      · exact absurd (Or.inr z) q
      · exact z
    have hco2 : mCoat i cs v p pl (i 101 313) m = fBit cs (mkEnv v 0 pl (i 101 (114 + p)) 0 (i 101 313) m 1 p) (mLow i (i 101 (114 + p))) := by
      unfold mCoat
      rw [← ev, if_neg (by rintro (z | z); exact hq1 z; exact z hq2)]
    refine ⟨fun _ => ⟨by omega, by omega⟩, fun q3 => ⟨⟨by omega, by omega⟩, ?_⟩, fun q3 => ?_⟩
    · have := hs.2.2.2.2.1 q3.1 v p pl m hv hp ⟨by omega, by omega⟩
      rcases this with z | z
      · exact absurd z q3.2
      · have h4 := hP i l (sfr_rf i) (psc_rf l) hs
        rw [← z] at h4
        exact h4
    · refine s_X8_oneFrom_61 _ _ _ _ _ ?_
      rw [h7.2.2.2.2.2.1]
      have fin : ∀ (r : Int) i' l', cscr i i' → psc l l' → (if r = 0 then 0 else ishl 1 (mLow i (i 101 (114 + p)))) = mCoat i cs v p pl (i 101 313) m → ((¬ (r = 0) → 0 ≤ p ∧ p < 5) ∧ (¬ (r = 0) → 0 ≤ i' 10 p ∧ i' 10 p < 8) ∧ ((0 ≤ ((v * 5) + p) * 10 + pl ∧ ((v * 5) + p) * 10 + pl < 400) ∧ P ((u2 i' 48 (((v * 5) + p) * 10 + pl) (if (r = 0) then 0 else ishl 1 (i' 13 (i' 10 p)))) 48 (((v * 5) + p) * 10 + pl)) (u2 i' 48 (((v * 5) + p) * 10 + pl) (if (r = 0) then 0 else ishl 1 (i' 13 (i' 10 p)))) l')) := by
        intro r i' l' hi hl hr
        have f10 : i' 10 p = i 101 (114 + p) := by rw [cscr_c hi (by decide) (by decide), e10]
        have f13 : i' 13 (i 101 (114 + p)) = mLow i (i 101 (114 + p)) := by rw [cscr_c hi (by decide) (by decide), hx.1.2.2.2.2.1 _ hco.1 hco.2]
        have e101 : i' 101 = i 101 := cscr_c hi (by decide) (by decide)
        refine ⟨fun _ => hp, fun _ => by rw [f10]; exact hco, ⟨by omega, by omega⟩, ?_⟩
        rw [f10, f13, hr, u2_self]
        refine hP _ l' (sfr_tr (sfr_cs hi) (sfr_u (by omega))) hl ?_
        have := SgF_48 (SgF_cs hi hs) (v := v) (m := m) hp (pl := pl) ⟨by omega, by omega⟩
        rw [e101, mCoat_K e101] at this
        exact this
      refine sp_X0_showsOne hd1 hx.2.2.1 hx.2.2.2 ⟨by omega, by omega⟩ hp ⟨by omega, by omega⟩ (Cx_mo hx) ⟨by omega, by omega⟩ (by rw [e10]; exact ⟨by omega, by omega⟩) (fun i' l' hi hl hc => ?_) (fun i' l' hi hl hc => ?_)
      · rw [e10] at hc
        exact fin 1 i' l' hi hl (by rw [if_neg (by decide), hco2, fBit_1 hc])
      · rw [e10] at hc
        exact fin 0 i' l' hi hl (by rw [if_pos rfl, hco2, fBit_0 hc])
end
