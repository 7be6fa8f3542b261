/-! bars of the program; best, paint, fewest, mend, shut, bars, third of the model -/
section
variable {w : Wd} {d : Nat} {i : IM} {l : LM}
theorem can_all (hk : kOK (i 101)) (cs : List Cla) (months : Int) : canB (enX i cs months (-1)).2.2 (2 ^ (i 101 308).toNat - 1) = true ↔ 0 < (enX i cs months (-1)).1.1 := by
  have h308 := hk.1.2.1
  rw [canB_iff, (enX_val i cs months (-1)).2.1]
  constructor
  · rintro ⟨fl, h1, h2, h3⟩
    obtain ⟨o, e1, e2⟩ := (enX_fl i cs months (-1) fl).mp h2
    refine ⟨o, e1, ?_⟩
    have hlt : flN i cs (i 101 307).toNat months (-1) o (i 101 308).toNat < 2 ^ (i 101 308).toNat := bfGo_lt _ _
    rw [Nat.and_two_pow_sub_one_eq_mod, ← e2, Nat.mod_eq_of_lt hlt] at h3
    exact h3
  · rintro ⟨o, e1, e2⟩
    exact ⟨0, by omega, (enX_fl i cs months (-1) 0).mpr ⟨o, e1, e2⟩, Nat.zero_and _⟩
theorem finds_can {cs : List Cla} (hx : Cx w i cs) {months : Int} (pr : prd i l cs months) {k : Nat} (hk : k < 256) : anP (pcM i) (rwK i l (k : Int) (-1)) (i 101 307).toNat 0 o0 ↔ canB (enX i cs months (-1)).2.2 k = true := by
  obtain ⟨c15, c14, hch, R, hR, c13, hcvr⟩ := pr
  rw [finds_link hx hch hR c13 hcvr hk, canB_iff]
theorem sp_finds {P : Int → IM → LM → Prop} (hd : 20 ≤ d) {cs : List Cla} (hx : Cx w i cs) {months : Int} (pr : prd i l cs months) {k : Nat} (hk : k < 256) (hP : ∀ i' l', tfr 73 i i' → tfl 73 l l' → P (if canB (enX i cs months (-1)).2.2 k = true then 1 else 0) i' l') : cI w d X_X5_finds [vR (some 73), vI (k : Int)] i l P := by
  have hf := finds_can hx pr hk
  obtain ⟨c15, c14, hch, R, hR, c13, hcvr⟩ := pr
  have hZ := (rwK_ok hx hch hR c13 hcvr hk (eased := -1) (Or.inl rfl)).1
  refine sp_X5_finds (Or.inr rfl) hd (cvOK_of hx hch hR c13) hk hZ (fun z i' l' t1 t2 => ?_) (fun z i' l' t1 t2 => ?_)
  · have := hP i' l' t1 t2
    rw [if_pos (hf.mp z)] at this
    exact this
  · have := hP i' l' t1 t2
    rw [if_neg (fun y => z (hf.mpr y))] at this
    exact this
theorem lp_bars {P : Int → IM → LM → Prop} (hd : 20 ≤ d) {cs : List Cla} {i0 : IM} (hx : Cx w i0 cs) {months : Int} {W : Nat} (hW : i0 101 308 = (W : Int)) (hP : ∀ i' l', pgf i0 i' → prd i' l' cs months → PtC i' cs → MdC i' l' cs → P ((barGo (enX i0 cs months (-1)).2.2 W W : Nat) : Int) i' l') : ∀ r v : Nat, v + r = W → ∀ i' l', pgf i0 i' → prd i' l' cs months → PtC i' cs → MdC i' l' cs → gI w d X_X11_bars P i' l' 44 [(0, vR (some 6)), (2, vI ((barGo (enX i0 cs months (-1)).2.2 W v : Nat) : Int)), (3, vI (v : Int))] [] := by
  have h308 := hx.2.1.1.2.1
  have h7 := Cx_7 hx
  intro r
  induction r with
  | zero =>
    intro v hv i' l' f pr pt md
    have e : v = W := by omega
    subst e
    have hlt := barGo_lt (enX i0 cs months (-1)).2.2 (W := v) (by omega) v
    refine s_X11_bars_44 _ _ ⟨⟨by omega, by omega⟩, fun _ => ⟨⟨by omega, by omega⟩, hP i' l' f pr pt md⟩, fun z => ?_⟩
    rw [f 7 (by omega), h7.2.1] at z
    omega
  | succ r ih =>
    intro v hv i' l' f pr pt md
    have hlt := barGo_lt (enX i0 cs months (-1)).2.2 (W := W) (by omega) v
    have est : barGo (enX i0 cs months (-1)).2.2 W (v + 1) = if canB (enX i0 cs months (-1)).2.2 (clrB (barGo (enX i0 cs months (-1)).2.2 W v) v) = true then barGo (enX i0 cs months (-1)).2.2 W v else clrB (barGo (enX i0 cs months (-1)).2.2 W v) v := rfl
    refine s_X11_bars_44 _ _ ⟨⟨by omega, by omega⟩, fun z => ?_, fun z => ?_⟩
    · rw [f 7 (by omega), h7.2.1] at z
      omega
    · rw [clrB_eq hlt (by omega)]
      refine sp_finds hd (Cx_pg f hx) pr (clrB_lt hlt) (fun i2 l2 t1 t2 => ?_)
      rw [enX_K (f 101 (by omega))]
      have f2 := pgf_tr f (pgf_t (Or.inr rfl) t1)
      have pr2 := prd_eq (fun a x => t1 a (by omega)) (fun a x => t2 a (by omega)) pr
      have pt2 := PtC_eq (t1 7 (by omega)) (t1 63 (by omega)) (t1 72 (by omega)) (t1 101 (by omega)) pt
      have md2 := MdC_eq (t1 7 (by omega)) (t1 83 (by omega)) (t1 89 (by omega)) (t1 101 (by omega)) (t2 83 (by omega)) md
      have nx := ih (v + 1) (by omega) i2 l2 f2 pr2 pt2 md2
      rw [est] at nx
      by_cases c : canB (enX i0 cs months (-1)).2.2 (clrB (barGo (enX i0 cs months (-1)).2.2 W v) v) = true
      · rw [if_pos c] at nx ⊢
        exact ⟨fun z => absurd z (by decide), fun _ => nx⟩
      · rw [if_neg c] at nx ⊢
        exact ⟨fun _ => nx, fun z => absurd rfl z⟩
theorem pow_one {W : Nat} (hW : W ≤ 8) : ishl 1 (W : Int) - 1 = ((2 ^ W - 1 : Nat) : Int) := by
  rw [ishl_one (by omega)]
  have := Nat.one_le_two_pow (n := W)
  omega
theorem sp_X11_bars (hd : 24 ≤ d) {P : Int → IM → LM → Prop} {cs : List Cla} (hx : Cx w i cs) (hcv : CvC i l cs) (hpt : PtC i cs) (hmd : MdC i l cs) {p0 : Int} (h0 : rg p0) (hP : ∀ i' l', pgf i i' → CvC i' l' cs → PtC i' cs → MdC i' l' cs → P (mBars i cs p0) i' l') : cI w d X_X11_bars [vR (some 6), vI p0] i l P := by
  obtain ⟨d, rfl, hd1⟩ := d_pos hd
  have h7 := Cx_7 hx
  have h308 := hx.2.1.1.2.1
  unfold mBars at hP
  refine e_X11_bars (s_X11_bars _ (by omega) ⟨h0, fun q => ?_, fun q => ?_⟩)
  · rw [if_pos q] at hP
    refine sp_X1_prepare (by omega) hx hcv h0 (fun i1 l1 R hR f1 g1 c15 c14 hch c13 hcvr => ?_)
    have pd1 : prd i1 l1 cs p0 := ⟨c15, c14, hch, R, hR, c13, hcvr⟩
    have hx1 := Cx_pp f1 hx
    have f1' := pgf_pp f1
    have o1 : ∀ a, (a < 41 ∨ (42 < a ∧ a < 51) ∨ 62 < a) → i1 a = i a := fun a x => f1 a (by omega) (by omega) (by omega) (by omega) (by omega) (by omega) (by omega) (by omega) (by omega)
    have hpt1 : PtC i1 cs := PtC_eq (o1 7 (by omega)) (o1 63 (by omega)) (o1 72 (by omega)) (o1 101 (by omega)) hpt
    have hmd1 : MdC i1 l1 cs := MdC_eq (o1 7 (by omega)) (o1 83 (by omega)) (o1 89 (by omega)) (o1 101 (by omega)) (g1 83 (by omega) (by omega) (by omega) (by omega) (by omega) (by omega)) hmd
    have e101 := f1' 101 (by omega)
    have e8 : i 101 308 = (((i 101 308).toNat : Nat) : Int) := by omega
    have e79 : i1 7 9 = (((i 101 308).toNat : Nat) : Int) := by rw [o1 7 (by omega), h7.2.1]; exact e8
    rw [e79, pow_one (by omega)]
    have h28 : 2 ^ (i 101 308).toNat ≤ 2 ^ 8 := Nat.pow_le_pow_right (by omega) (by omega)
    refine sp_finds (by omega) hx1 pd1 (k := 2 ^ (i 101 308).toNat - 1) (by omega) (fun i2 l2 t1 t2 => ?_)
    have f2 := pgf_tr f1' (pgf_t (Or.inr rfl) t1)
    have pr2 := prd_eq (fun a x => t1 a (by omega)) (fun a x => t2 a (by omega)) pd1
    have pt2 := PtC_eq (t1 7 (by omega)) (t1 63 (by omega)) (t1 72 (by omega)) (t1 101 (by omega)) hpt1
    have md2 := MdC_eq (t1 7 (by omega)) (t1 83 (by omega)) (t1 89 (by omega)) (t1 101 (by omega)) (t2 83 (by omega)) hmd1
    rw [enX_K e101]
    have hca := can_all hx.2.1 cs p0
    by_cases c : 0 < (enX i cs p0 (-1)).1.1
    · rw [if_pos (hca.mpr c)]
      have hp := hP i2 l2 f2 (CvC_prd pr2) pt2 md2
      rw [if_pos c] at hp
      exact ⟨fun z => absurd z (by decide), fun _ => hp⟩
    · rw [if_neg (fun z => c (hca.mp z))]
      refine ⟨fun _ => ?_, fun z => absurd rfl z⟩
      refine lp_bars (by omega) hx e8 (fun i3 l3 g1 g2 g3 g4 => ?_) (i 101 308).toNat 0 (Nat.zero_add _) i2 l2 f2 pr2 pt2 md2
      have hp := hP i3 l3 g1 (CvC_prd g2) g3 g4
      rw [if_neg c] at hp
      exact hp
  · rw [if_neg q] at hP
    exact hP i l (pgf_rf i) hcv hpt hmd
/-! the model -/
theorem PnC_pt {i i' : IM} {cs : List Cla} {months more : Int} (f : ptf i i') (h32 : i' 99 32 = i 99 1) (h33 : i' 99 33 = months) (h34 : i' 99 34 = more) (he : eS i' (i 101 307).toNat (enX i cs months more)) : PnC i' cs := by
  have e101 := ptf_c f (a := 101) (by omega) (by omega)
  have e1 : i' 99 1 = i 99 1 := f 99 1 (by omega) (by omega)
  refine ⟨by rw [h32, e1]; exact Int.le_refl _, fun _ => ?_⟩
  rw [e101, enX_K e101, h33, h34]
  exact he
theorem sp_X12_best (hd : 83 ≤ d) {P : Int → IM → LM → Prop} {A : Nat → List Cla} (hk : kOK (i 101)) (hf : forceM (i 101) A) {B : Int} (hB8 : 8 ≤ B) (hB2 : B ≤ 1000000) (hB : limB i B) (hcc : PnC i (inForce (i 101) A)) {p0 p1 : Int} (h0 : rg p0) (h1 : rg p1) (hP : ∀ i', ptf i i' → limB i' (B + 1) → PnC i' (inForce (i 101) A) → P (mBest i (inForce (i 101) A) p0 p1) i' l) : cI w d X_X12_best [vR (some 99), vI p0, vI p1] i l P := by
  obtain ⟨d, rfl, hd1⟩ := d_pos hd
  unfold mBest at hP
  refine e_X12_best (s_X12_best _ _ (by omega) ⟨h0, fun _ => h1, fun q => ?_, fun q => ?_⟩)
  · rw [if_pos q] at hP
    refine sp_X12_paints (by omega) hk hf (forceM_dep hf) hB8 hB2 hB h0 (Or.inl rfl) hcc (fun i' f b h32 h33 h34 he => ⟨h1, ?_⟩)
    have hp := hP i' f b (PnC_pt f h32 h33 h34 he)
    have hv := enX_val i (inForce (i 101) A) p0 (-1)
    obtain ⟨⟨a1, a2, a3, a4⟩, -, -⟩ := he
    rw [a1, a2]
    by_cases c0 : p1 = 0
    · rw [if_pos c0] at hp ⊢; exact hp
    · rw [if_neg c0] at hp ⊢
      by_cases c2 : p1 = 2
      · rw [if_pos c2] at hp ⊢; exact hp
      · rw [if_neg c2] at hp ⊢
        by_cases c : (enX i (inForce (i 101) A) p0 (-1)).1.1 = 0
        · rw [if_pos c] at hp ⊢; exact hp
        · rw [if_neg c] at hp ⊢
          rw [(a3 (by omega)).1]; exact hp
  · rw [if_neg q] at hP
    exact hP i (ptf_rf i) (limB_up hB (by omega)) hcc
theorem mColour_rg (hk : kOK (i 101)) {t : Int} (ht : 0 ≤ t ∧ t < 10) (c : Int) : 0 ≤ mColour i t c ∧ mColour i t c < 8 := by
  have := hk.2.1 t ht.1 ht.2
  unfold mColour
  split
  · have := this.2.1; rw [← Int.add_comm 0] at *; omega
  · split
    · have := this.2.2.1; omega
    · omega
theorem sp_X12_paint (hd : 83 ≤ d) {P : Int → IM → LM → Prop} {A : Nat → List Cla} (hk : kOK (i 101)) (hf : forceM (i 101) A) {B : Int} (hB8 : 8 ≤ B) (hB2 : B ≤ 1000000) (hB : limB i B) (hcc : PnC i (inForce (i 101) A)) {p0 p1 : Int} (h0 : rg p0) (h1 : rg p1) (hP : ∀ i', ptf i i' → limB i' (B + 1) → PnC i' (inForce (i 101) A) → P (mPaint i (inForce (i 101) A) p0 p1) i' l) : cI w d X_X12_paint [vR (some 99), vI p0, vI p1] i l P := by
  obtain ⟨d, rfl, hd1⟩ := d_pos hd
  have h307 := hk.1.1
  unfold mPaint at hP
  refine e_X12_paint (s_X12_paint _ _ (by omega) ⟨h0, fun _ => h1, fun _ => ⟨by omega, by omega⟩, fun q => ?_, fun q => ?_⟩)
  · rw [if_pos q] at hP
    refine sp_X12_paints (by omega) hk hf (forceM_dep hf) hB8 hB2 hB h0 (Or.inl rfl) hcc (fun i' f b h32 h33 h34 he => ⟨fun _ => ⟨q.2.1, by omega⟩, ?_⟩)
    have hp := hP i' f b (PnC_pt f h32 h33 h34 he)
    have hv := enX_val i (inForce (i 101) A) p0 (-1)
    have e101 := ptf_c f (a := 101) (by omega) (by omega)
    obtain ⟨⟨a1, a2, a3, a4⟩, -, -⟩ := he
    rw [a1, mColour_K e101]
    by_cases c : (enX i (inForce (i 101) A) p0 (-1)).1.1 = 0
    · rw [if_pos c] at hp ⊢; exact ⟨rg_lit rfl, hp⟩
    · rw [if_neg c] at hp ⊢
      obtain ⟨t, ht⟩ := Int.eq_ofNat_of_zero_le q.2.1
      subst ht
      rw [Int.toNat_natCast] at hp
      rw [(a3 (by omega)).2 t (by omega)]
      have := mColour_rg hk (t := (t : Int)) ⟨by omega, by omega⟩ (((enX i (inForce (i 101) A) p0 (-1)).1.2.1.2.2 t : Nat) : Int)
      exact ⟨⟨by omega, by omega⟩, hp⟩
  · rw [if_neg q] at hP
    exact hP i (ptf_rf i) (limB_up hB (by omega)) hcc
theorem sp_X12_fewest (hd : 83 ≤ d) {P : Int → IM → LM → Prop} {A : Nat → List Cla} (hk : kOK (i 101)) (hf : forceM (i 101) A) {B : Int} (hB8 : 8 ≤ B) (hB2 : B ≤ 1000000) (hB : limB i B) (hcc : PnC i (inForce (i 101) A)) {p0 p1 : Int} (h0 : rg p0) (h1 : rg p1) (hP : ∀ i', ptf i i' → limB i' (B + 1) → PnC i' (inForce (i 101) A) → P (mFewest i (inForce (i 101) A) p0 p1) i' l) : cI w d X_X12_fewest [vR (some 99), vI p0, vI p1] i l P := by
  obtain ⟨d, rfl, hd1⟩ := d_pos hd
  unfold mFewest at hP
  refine e_X12_fewest (s_X12_fewest _ _ (by omega) ⟨h0, fun _ => h1, fun q => ?_, fun q => ?_⟩)
  · rw [if_pos q] at hP
    refine sp_X12_paints (by omega) hk hf (forceM_dep hf) hB8 hB2 hB h0 (Or.inl rfl) hcc (fun i' f b h32 h33 h34 he => ⟨fun _ => h1, ?_⟩)
    have hp := hP i' f b (PnC_pt f h32 h33 h34 he)
    obtain ⟨⟨a1, a2, a3, a4, a5, a6, -⟩, -, -⟩ := he
    rw [a1, a4, a5, a6]
    exact hp
  · rw [if_neg q] at hP
    exact hP i (ptf_rf i) (limB_up hB (by omega)) hcc
theorem sp_X12_mend (hd : 83 ≤ d) {P : Int → IM → LM → Prop} {A : Nat → List Cla} (hk : kOK (i 101)) (hf : forceM (i 101) A) {B : Int} (hB8 : 8 ≤ B) (hB2 : B ≤ 1000000) (hB : limB i B) (hcc : PnC i (inForce (i 101) A)) {p0 p1 : Int} (h0 : rg p0) (h1 : rg p1) (hP : ∀ i', ptf i i' → limB i' (B + 1) → PnC i' (inForce (i 101) A) → P (mMend i (inForce (i 101) A) p0 p1) i' l) : cI w d X_X12_mend [vR (some 99), vI p0, vI p1] i l P := by
  obtain ⟨d, rfl, hd1⟩ := d_pos hd
  have h307 := hk.1.1
  unfold mMend at hP
  refine e_X12_mend (s_X12_mend _ _ (by omega) ⟨h0, fun _ => h1, fun _ _ => ⟨by omega, by omega⟩, fun q => ?_, fun q => ?_⟩)
  · rw [if_pos q] at hP
    refine s_X12_mend_22 _ _ (by omega) ?_
    refine sp_X12_paints (by omega) hk hf (forceM_dep hf) hB8 hB2 hB h0 (Or.inl rfl) hcc (fun i' f b h32 h33 h34 he => ?_)
    have hp := hP i' f b (PnC_pt f h32 h33 h34 he)
    have e101 := ptf_c f (a := 101) (by omega) (by omega)
    obtain ⟨-, ⟨b1, b2, b3⟩, -⟩ := he
    obtain ⟨-, c1, c2, c3⟩ := b3 (enX_lt hk (inForce (i 101) A) p0 (-1))
    have hlt := enX_lt hk (inForce (i 101) A) p0 (-1)
    rw [mColour_K e101]
    by_cases c : p1 = -1
    · rw [if_pos c] at hp ⊢
      rw [c1]
      exact ⟨h1, fun z => absurd c z, ⟨by omega, by omega⟩, hp⟩
    · rw [if_neg c] at hp ⊢
      obtain ⟨t, ht⟩ := Int.eq_ofNat_of_zero_le (show 0 ≤ p1 by omega)
      subst ht
      rw [Int.toNat_natCast] at hp
      rw [c3 t (by omega)]
      have := mColour_rg hk (t := (t : Int)) ⟨by omega, by omega⟩ (((enX i (inForce (i 101) A) p0 (-1)).2.1.2.2 t : Nat) : Int)
      exact ⟨h1, fun _ => ⟨by omega, by omega⟩, ⟨by omega, by omega⟩, hp⟩
  · rw [if_neg q] at hP
    exact hP i (ptf_rf i) (limB_up hB (by omega)) hcc
theorem sp_X12_shut (hd : 83 ≤ d) {P : Int → IM → LM → Prop} {A : Nat → List Cla} (hk : kOK (i 101)) (hf : forceM (i 101) A) {B : Int} (hB8 : 8 ≤ B) (hB2 : B ≤ 1000000) (hB : limB i B) (hcc : PnC i (inForce (i 101) A)) {p0 : Int} (h0 : rg p0) (hP : ∀ i', ptf i i' → limB i' (B + 1) → PnC i' (inForce (i 101) A) → P (mShut i (inForce (i 101) A) p0) i' l) : cI w d X_X12_shut [vR (some 99), vI p0] i l P := by
  obtain ⟨d, rfl, hd1⟩ := d_pos hd
  unfold mShut at hP
  refine e_X12_shut (s_X12_shut _ (by omega) ⟨h0, fun q => ?_, fun q => ?_⟩)
  · rw [if_pos q] at hP
    refine sp_X12_paints (by omega) hk hf (forceM_dep hf) hB8 hB2 hB h0 (Or.inl rfl) hcc (fun i' f b h32 h33 h34 he => ?_)
    have hp := hP i' f b (PnC_pt f h32 h33 h34 he)
    obtain ⟨-, ⟨b1, b2, b3⟩, -⟩ := he
    obtain ⟨-, c1, c2, c3⟩ := b3 (enX_lt hk (inForce (i 101) A) p0 (-1))
    rw [c2]
    exact hp
  · rw [if_neg q] at hP
    exact hP i (ptf_rf i) (limB_up hB (by omega)) hcc
theorem anyGo (s : Nat → Bool) (k : Nat) : ∀ r n : Nat, n + r = 256 → (∀ fl, fl < n → ¬ (s fl = true ∧ fl &&& k = 0)) → (canB s k = true ↔ ∃ fl, n ≤ fl ∧ fl < 256 ∧ s fl = true ∧ fl &&& k = 0) := by
  intro r n _ hno
  rw [canB_iff]
  constructor
  · rintro ⟨fl, h1, h2, h3⟩
    refine ⟨fl, ?_, h1, h2, h3⟩
    by_cases c : n ≤ fl
    · exact c
    · exact absurd ⟨h2, h3⟩ (hno fl (by omega))
  · rintro ⟨fl, -, h1, h2, h3⟩
    exact ⟨fl, h1, h2, h3⟩
theorem lp_can {P : Int → IM → LM → Prop} {s : Nat → Bool} (hs : eF i s) {k : Nat} (hk : k < 256) (hP : P (if canB s k = true then 1 else 0) i l) : ∀ r n : Nat, n + r = 256 → (∀ fl, fl < n → ¬ (s fl = true ∧ fl &&& k = 0)) → gI w d X_X12_canHold P i l 2 [(0, vR (some 99)), (1, vI (k : Int)), (2, vI (n : Int))] [] := by
  intro r
  induction r with
  | zero =>
    intro n hn hno
    refine s_X12_canHold_2 _ _ ⟨⟨by omega, by omega⟩, fun z => absurd (by omega) z, fun _ => ?_, fun z => absurd (by omega) z.1, fun z => absurd (by omega) z.1⟩
    rw [if_neg (fun z => by
      obtain ⟨fl, h1, h2, h3⟩ := (canB_iff s k).mp z
      exact hno fl (by omega) ⟨h2, h3⟩)] at hP
    exact hP
  | succ r ih =>
    intro n hn hno
    have hn2 : n < 256 := by omega
    have h119 := hs n hn2
    refine s_X12_canHold_2 _ _ ⟨⟨by omega, by omega⟩, fun _ => ⟨by omega, by omega⟩, fun z => absurd z (by omega), fun z => ?_, fun z => ?_⟩
    · refine ih (n + 1) (by omega) (fun fl hfl hc => ?_)
      by_cases e : fl = n
      · subst e
        rcases z.2 with z2 | z2
        · rw [h119, if_pos hc.1] at z2
          exact absurd z2 (by decide)
        · apply z2
          rw [iand_nat (by omega), hc.2]
          rfl
      · exact hno fl (by omega) hc
    · have e1 : s n = true := by
        cases hh : s n with
        | true => rfl
        | false =>
          rw [hh] at h119
          exact absurd h119 z.2.1
      have e2 : n &&& k = 0 := by
        have := z.2.2
        rw [iand_nat (by omega)] at this
        omega
      rw [if_pos ((canB_iff s k).mpr ⟨n, hn2, e1, e2⟩)] at hP
      exact hP
theorem sp_X12_canHold (hd : 1 ≤ d) {P : Int → IM → LM → Prop} {s : Nat → Bool} (hs : eF i s) {k : Nat} (hk : k < 256) (hP : P (if canB s k = true then 1 else 0) i l) : cI w d X_X12_canHold [vR (some 99), vI (k : Int)] i l P := by
  obtain ⟨d, rfl, hd1⟩ := d_pos hd
  exact e_X12_canHold (s_X12_canHold _ (lp_can hs hk hP 256 0 rfl (fun fl h => by omega)))
theorem lp_barsM {P : Int → IM → LM → Prop} (hd : 1 ≤ d) {s : Nat → Bool} (hs : eF i s) {W : Nat} (h8 : W ≤ 8) (hW : i 101 308 = (W : Int)) (hP : P ((barGo s W W : Nat) : Int) i l) : ∀ r v : Nat, v + r = W → gI w d X_X12_bars P i l 35 [(0, vR (some 99)), (2, vI ((barGo s W v : Nat) : Int)), (3, vI (v : Int))] [] := by
  intro r
  induction r with
  | zero =>
    intro v hv
    have e : v = W := by omega
    subst e
    have hlt := barGo_lt s h8 v
    exact s_X12_bars_35 _ _ hd ⟨⟨by omega, by omega⟩, fun _ => ⟨⟨by omega, by omega⟩, hP⟩, fun z => by omega⟩
  | succ r ih =>
    intro v hv
    have hlt := barGo_lt s h8 v
    have nx := ih (v + 1) (by omega)
    have est : barGo s W (v + 1) = if canB s (clrB (barGo s W v) v) = true then barGo s W v else clrB (barGo s W v) v := rfl
    rw [est] at nx
    refine s_X12_bars_35 _ _ hd ⟨⟨by omega, by omega⟩, fun z => by omega, fun z => ?_⟩
    rw [clrB_eq hlt (by omega)]
    refine sp_X12_canHold hd hs (clrB_lt hlt) ?_
    by_cases c : canB s (clrB (barGo s W v) v) = true
    · rw [if_pos c] at nx ⊢
      exact ⟨fun z => absurd z (by decide), fun _ => nx⟩
    · rw [if_neg c] at nx ⊢
      exact ⟨fun _ => nx, fun z => absurd rfl z⟩
theorem sp_X12_bars (hd : 83 ≤ d) {P : Int → IM → LM → Prop} {A : Nat → List Cla} (hk : kOK (i 101)) (hf : forceM (i 101) A) {B : Int} (hB8 : 8 ≤ B) (hB2 : B ≤ 1000000) (hB : limB i B) (hcc : PnC i (inForce (i 101) A)) {p0 : Int} (h0 : rg p0) (hP : ∀ i', ptf i i' → limB i' (B + 1) → PnC i' (inForce (i 101) A) → P (mBars i (inForce (i 101) A) p0) i' l) : cI w d X_X12_bars [vR (some 99), vI p0] i l P := by
  obtain ⟨d, rfl, hd1⟩ := d_pos hd
  have h308 := hk.1.2.1
  unfold mBars at hP
  refine e_X12_bars (s_X12_bars _ (by omega) ⟨h0, fun q => ?_, fun q => ?_⟩)
  · rw [if_pos q] at hP
    refine sp_X12_paints (by omega) hk hf (forceM_dep hf) hB8 hB2 hB h0 (Or.inl rfl) hcc (fun i' f b h32 h33 h34 he => ?_)
    have hp := hP i' f b (PnC_pt f h32 h33 h34 he)
    have e101 := ptf_c f (a := 101) (by omega) (by omega)
    obtain ⟨⟨a1, -⟩, -, hF⟩ := he
    rw [a1, e101]
    refine ⟨fun z => ?_, fun z => ?_⟩
    · rw [if_neg (by omega)] at hp
      have e8 : i 101 308 = (((i 101 308).toNat : Nat) : Int) := by omega
      have := lp_barsM (w := w) (d := d) (i := i') (l := l) (P := P) (by omega) hF (W := (i 101 308).toNat) (by omega) (by rw [e101]; exact e8) hp (i 101 308).toNat 0 (Nat.zero_add _)
      rw [e8, pow_one (by omega)]
      exact this
    · rw [if_pos (by omega)] at hp
      exact hp
  · rw [if_neg q] at hP
    exact hP i (ptf_rf i) (limB_up hB (by omega)) hcc
theorem sp_X12_third (hd : 83 ≤ d) {P : Int → IM → LM → Prop} {A : Nat → List Cla} (hk : kOK (i 101)) (hf : forceM (i 101) A) {B : Int} (hB8 : 8 ≤ B) (hB2 : B ≤ 900000) (hB : limB i B) (hcc : PnC i (inForce (i 101) A)) {p0 p1 : Int} (h0 : rg p0) (h1 : rg p1) (hP : ∀ i', ptf i i' → limB i' (B + 2) → PnC i' (inForce (i 101) A) → P (mThird i (inForce (i 101) A) p0 p1) i' l) : cI w d X_X12_third [vR (some 99), vI p0, vI p1] i l P := by
  obtain ⟨d, rfl, hd1⟩ := d_pos hd
  have h308 := hk.1.2.1
  unfold mThird at hP
  refine e_X12_third (s_X12_third _ _ (by omega) ⟨h0, fun _ => h1, fun _ => ⟨by omega, by omega⟩, fun q => ?_, fun q => ?_⟩)
  · rw [if_pos q] at hP
    refine sp_X12_paints (by omega) hk hf (forceM_dep hf) hB8 (by omega) hB h0 (Or.inl rfl) hcc (fun i' f b h32 h33 h34 he => ?_)
    have e101 := ptf_c f (a := 101) (by omega) (by omega)
    have hpn := PnC_pt f h32 h33 h34 he
    have hv := enX_val i (inForce (i 101) A) p0 (-1)
    obtain ⟨⟨a1, a2, a3, a4⟩, -, -⟩ := he
    rw [a1]
    refine ⟨fun z => ?_, fun z => ?_⟩
    · have hp := hP i' f (limB_up b (by omega)) hpn
      rw [if_pos z] at hp
      exact hp
    · have hpos : 0 < (enX i (inForce (i 101) A) p0 (-1)).1.1 := by omega
      rw [(a3 hpos).1]
      refine sp_X12_paints (A := A) (by omega) (by rw [e101]; exact hk) (by rw [e101]; exact hf) (by rw [e101]; exact forceM_dep hf) (B := B + 1) (by omega) (by omega) b h0 (Or.inr ⟨q.2.1, by rw [e101]; exact q.2.2⟩) (by rw [e101]; exact hpn) (fun i2 f2 b2 g32 g33 g34 he2 => ?_)
      have hpn2 := PnC_pt f2 g32 g33 g34 he2
      rw [e101] at hpn2
      rw [e101, enX_K e101] at he2
      obtain ⟨⟨b1, b2', b3, b4⟩, -, -⟩ := he2
      have hpos2 : 0 < (enX i (inForce (i 101) A) p0 p1).1.1 := by
        obtain ⟨o, z1, z2⟩ := hv.2.1.mp hpos
        exact (enX_val i (inForce (i 101) A) p0 p1).2.1.mpr ⟨o, z1, fl_ease z2⟩
      have r1 := val_rg hk (inForce (i 101) A) p0 (-1) hpos
      have r2 := val_rg hk (inForce (i 101) A) p0 p1 hpos2
      have hp := hP i2 (ptf_tr f f2) (limB_up b2 (by omega)) hpn2
      rw [if_neg (by omega)] at hp
      rw [(b3 hpos2).1]
      exact ⟨⟨by omega, by omega⟩, hp⟩
  · rw [if_neg q] at hP
    exact hP i (ptf_rf i) (limB_up hB (by omega)) hcc
end
