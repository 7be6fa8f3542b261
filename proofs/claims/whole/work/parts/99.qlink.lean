/-! CANVAS as it is prepared, for PAINTER and MENDER -/
section
variable {w : Wd} {d : Nat} {i : IM} {l : LM}
theorem tl_all : ∀ a b c : Bool, (0 ≤ ior (ior (if a then 1 else 0) (if b then 0 else 256)) (if c then 0 else 65536) ∧ ior (ior (if a then 1 else 0) (if b then 0 else 256)) (if c then 0 else 65536) ≤ 65793 ∧ ior (ior (if a then 1 else 0) (if b then 0 else 256)) (if c then 0 else 65536) % 256 = (if a then 1 else 0) ∧ ior (ior (if a then 1 else 0) (if b then 0 else 256)) (if c then 0 else 65536) / 256 % 256 = (if b then 0 else 1) ∧ ior (ior (if a then 1 else 0) (if b then 0 else 256)) (if c then 0 else 65536) / 65536 % 256 = (if c then 0 else 1)) := by decide +kernel
theorem ifB {α : Type} (p : Prop) [Decidable p] (x y : α) : (if p then x else y) = (if decide p = true then x else y) := by
  by_cases h : p
  · rw [if_pos h, if_pos (decide_eq_true h)]
  · rw [if_neg h, if_neg (by simp [h])]
theorem mTl_rg (t c : Int) : (0 ≤ mTl i t c ∧ mTl i t c ≤ 65793) ∧ mTl i t c % 256 = (if mColour i t c = 0 then 1 else 0) ∧ mTl i t c / 256 % 256 = (if c = 0 then 0 else 1) ∧ mTl i t c / 65536 % 256 = (if mColour i t c = i 101 (8 * t + 2) then 0 else 1) := by
  have h := tl_all (decide (mColour i t c = 0)) (decide (c = 0)) (decide (mColour i t c = i 101 (8 * t + 2)))
  have e : mTl i t c = ior (ior (if decide (mColour i t c = 0) = true then 1 else 0) (if decide (c = 0) = true then 0 else 256)) (if decide (mColour i t c = i 101 (8 * t + 2)) = true then 0 else 65536) := by
    unfold mTl bI
    rw [ifB (mColour i t c = 0), ifB (c = 0), ifB (mColour i t c = i 101 (8 * t + 2))]
  rw [e, ifB (mColour i t c = 0), ifB (c = 0), ifB (mColour i t c = i 101 (8 * t + 2))]
  exact ⟨⟨h.1, h.2.1⟩, h.2.2.1, h.2.2.2.1, h.2.2.2.2⟩
theorem may_ex (t : Int) : ∃ c : Nat, c < 3 ∧ mMay i t (c : Int) = true := by
  by_cases m : i 101 (8 * t + 5) = 1
  · by_cases e : i 101 (8 * t + 1) = i 101 (8 * t + 2)
    · exact ⟨0, by omega, by unfold mMay; rw [if_pos m, if_pos e]; rfl⟩
    · exact ⟨1, by omega, by unfold mMay; rw [if_pos m, if_neg e]; rfl⟩
  · exact ⟨0, by omega, by unfold mMay; rw [if_neg m]; rfl⟩
theorem pcM_at {cs : List Cla} (h : chAll i cs) {t c : Nat} (ht : (t : Int) < i 101 307) (hc : c < 3) : ((pcM i).1 t c = true ↔ mMay i (t : Int) (c : Int) = true) ∧ (pcM i).2.1 t c = mGn i cs (t : Int) (c : Int) ∧ (pcM i).2.2.1 t c = (if mColour i (t : Int) (c : Int) = 0 then 1 else 0) ∧ (pcM i).2.2.2.1 t c = (if (c : Int) = 0 then 0 else 1) ∧ (pcM i).2.2.2.2 t c = (if mColour i (t : Int) (c : Int) = i 101 (8 * (t : Int) + 2) then 0 else 1) := by
  obtain ⟨h1, h2, h3⟩ := h.1 t c ht hc
  obtain ⟨s1, s2, s3, s4⟩ := h.2 t ht c hc
  have ht2 := mTl_rg (i := i) (t : Int) (c : Int)
  refine ⟨?_, s3, ?_, ?_, ?_⟩
  · show decide (iand (ishr (i 52 (t : Int)) (c : Int)) 1 = 1) = true ↔ _
    rw [decide_eq_true_iff]; exact h2
  · show i 55 ((t : Int) * 3 + (c : Int)) % 256 = _
    rw [s4]; exact ht2.2.1
  · show i 55 ((t : Int) * 3 + (c : Int)) / 256 % 256 = _
    rw [s4]; exact ht2.2.2.1
  · show i 55 ((t : Int) * 3 + (c : Int)) / 65536 % 256 = _
    rw [s4]; exact ht2.2.2.2
theorem cvOK_of {cs : List Cla} (hx : Cx w i cs) (h : chAll i cs) {R : Nat} (hR : R ≤ 12) (h51 : i 51 13 = (R : Int)) : cvOK i (i 101 307).toNat := by
  have h307 := hx.2.1.1.1
  have h7 := Cx_7 hx
  refine ⟨by omega, by rw [h7.1]; omega, by rw [h51]; exact ⟨by omega, by omega⟩, fun t ht => ?_, fun t ht => (h.1 t 0 (by omega) (by omega)).1, fun t c ht hc => ?_⟩
  · obtain ⟨c, hc, hm⟩ := may_ex (i := i) (t : Int)
    exact ⟨c, hc, (pcM_at h (by omega) hc).1.mpr hm⟩
  · obtain ⟨s1, s2, s3, s4⟩ := h.2 t (by omega) c hc
    have ht2 := mTl_rg (i := i) (t : Int) (c : Int)
    have hp := mPr_rg (i := i) hx.2.1 cs (t := (t : Int)) (c := (c : Int)) ⟨by omega, by omega⟩
    have htr := hx.2.1.2.1 (t : Int) (by omega) (by omega)
    rw [s2, s3, s4]
    refine ⟨?_, hp, ht2.1.1, ht2.1.2, ?_, ?_, ?_⟩
    · unfold mGn
      split
      · omega
      · omega
    · rw [ht2.2.1]; split <;> decide
    · rw [ht2.2.2.1]; split <;> decide
    · rw [ht2.2.2.2]; split <;> decide
theorem sub1 {x : Int64} {e : Nat} (he : e < 8) (h : 1 ≤ Bt x e) : ∀ v, v < 8 → Bt (x - lshl 1 (8 * (e : Int))) v = Bt x v - (if v = e then 1 else 0) := by
  intro v hv
  have hb : ∀ u, u < 8 → Bt (lshl 1 (8 * (e : Int))) u = if u = e then 1 else 0 := fun u hu => Bt_put (b := 1) (by omega) he nL_lit1 hu
  rw [Bt_sub (fun u hu => by
    rw [hb u hu]
    by_cases z : u = e
    · subst z; rw [if_pos rfl]; exact h
    · rw [if_neg z]; omega) v hv, hb v hv]
theorem spK_of {cs : List Cla} {mo : Int} {q k : Nat} (hk : k < 256) (hsp : spB i cs mo (l 60 (q : Int))) {eased : Int} (he : eased = -1 ∨ (k = 255 ∧ 0 ≤ eased ∧ eased < i 101 308 ∧ i 101 308 ≤ 8)) : spK i cs k eased mo (sparL l (q : Int) (k : Int) eased) := by
  have hand : ∀ v, v < 8 → Bt (l 60 (q : Int) &&& bytL (k : Int)) v = if v < (i 101 308).toNat ∧ k.testBit v = true then (127 - fLimit cs (v : Int) mo 0).toNat else 0 := by
    intro v hv
    rw [Bt_and, bytL_B hk hv, hsp v hv]
    by_cases c2 : k.testBit v = true
    · rw [if_pos c2, and255 _ (by split <;> (have := fLimit_rg cs (v : Int) mo 0; omega))]
      by_cases c1 : v < (i 101 308).toNat
      · rw [if_pos c1, if_pos ⟨c1, c2⟩]
      · rw [if_neg c1, if_neg (fun z => c1 z.1)]
    · rw [if_neg c2, Nat.and_zero, if_neg (fun z => c2 z.2)]
  intro v hv
  have hf := fLimit_rg cs (v : Int) mo 0
  unfold sparL
  rcases he with he | ⟨h1, h2, h3, h4⟩
  · subst he
    rw [if_pos rfl, hand v hv]
    by_cases c : v < (i 101 308).toNat ∧ k.testBit v = true
    · rw [if_pos c, if_pos c, if_neg (by omega)]; omega
    · rw [if_neg c, if_neg c]; rfl
  · subst h1
    obtain ⟨e, rfl⟩ := Int.eq_ofNat_of_zero_le h2
    have he8 : e < 8 := by omega
    have hfe := fLimit_rg cs (e : Int) mo 0
    rw [if_neg (by omega), sub1 he8 (by
      rw [hand e he8, if_pos ⟨by omega, bits255 e he8⟩]
      omega) v hv, hand v hv]
    by_cases c : v < (i 101 308).toNat ∧ (255 : Nat).testBit v = true
    · rw [if_pos c, if_pos c]
      by_cases z : v = e
      · subst z; rw [if_pos rfl, if_pos rfl]; omega
      · rw [if_neg z, if_neg (by omega)]; omega
    · rw [if_neg c, if_neg c]
      by_cases z : v = e
      · subst z; exact absurd ⟨by omega, bits255 v he8⟩ c
      · rw [if_neg z]; rfl
/-- the rows hold just as all MONTHS do -/
theorem rwK_ok {cs : List Cla} (hx : Cx w i cs) (h : chAll i cs) {R : Nat} (hR : R ≤ 12) (h51 : i 51 13 = (R : Int)) {months : Int} (hcv : cvR i l cs (i 101 307).toNat R (msI months 12)) {k : Nat} (hk : k < 256) {eased : Int} (he : eased = -1 ∨ (k = 255 ∧ 0 ≤ eased ∧ eased < i 101 308 ∧ i 101 308 ≤ 8)) : RWok (pcM i) (rwK i l (k : Int) eased) (i 101 307).toNat ∧ ∀ o, okO i (i 101 307).toNat o → (gd (rwK i l (k : Int) eased) (i 101 307).toNat o = true ↔ ∀ mo, msI months 12 mo → moOK i cs (i 101 307).toNat k eased o mo) := by
  have h307 := hx.2.1.1.1
  have hn : (((i 101 307).toNat : Nat) : Int) = i 101 307 := by omega
  obtain ⟨mq, hr, hq⟩ := hcv
  have eR : (rwK i l (k : Int) eased).1 = R := by
    show (i 51 13).toNat = R
    rw [h51]; omega
  have hrow : ∀ q, q < R → zRow i cs (i 101 307).toNat (rwK i l (k : Int) eased) q (mq q) := fun q hqR => ⟨fun t c v ht hc hm hv => (hq q hqR).2.1 t c (Nat.zero_le _) (by omega) hc hm v hv, fun t v ht hv => (hq q hqR).2.2 t v (Nat.zero_le _) (by omega) hv⟩
  have hsp : ∀ q, q < R → spK i cs k eased (mq q) ((rwK i l (k : Int) eased).2.2.1 q) := fun q hqR => spK_of hk (hq q hqR).1 he
  have hZ : RWok (pcM i) (rwK i l (k : Int) eased) (i 101 307).toNat := by
    refine RWok_of hx.2.1 hn (fun t c ht hc hm => (pcM_at h (by omega) hc).1.mp hm) (fun q v hqR hv => ?_) (fun q hqR => ⟨mq q, hrow q (by rw [eR] at hqR; exact hqR)⟩)
    have := hsp q (by rw [eR] at hqR; exact hqR) v hv
    have hf := fLimit_rg cs (v : Int) (mq q) 0
    split at this
    · split at this <;> omega
    · omega
  refine ⟨hZ, fun o ho => ?_⟩
  exact gd_mo hx.2.1 hZ (by rw [eR]; exact hr) (fun q hqR => hrow q (by rw [eR] at hqR; exact hqR)) (fun q hqR => hsp q (by rw [eR] at hqR; exact hqR)) ho
end
