/-! the sweep, and what the program answers of it -/
section
variable {w : Wd} {d : Nat} {i : IM} {l : LM}
/-- n MINUTES are swept -/
def swI (i i' : IM) (cs : List Cla) (n : Nat) : Prop := vfr i i' ∧ i' 44 14 = i 7 15 ∧ SgF i' cs ∧ i' 44 11 = 1 ∧ i' 44 10 = mTotal i cs n ∧ (∀ v : Int, 0 ≤ v → v < i 101 308 → i' 50 v = sumGo (fun m => bI (hB i cs v (m : Int) = 0)) n) ∧ (match fmP i cs (i 101 308).toNat n with
    | some q => i' 44 8 = (q.1 : Int) ∧ i' 44 9 = (q.2 : Int)
    | none => i' 44 8 = -1 ∧ i' 44 9 = -1)
/-- as above, and k WINDOWS of the MINUTE n are added -/
def swJ (i i' : IM) (cs : List Cla) (n k : Nat) : Prop := vfr i i' ∧ i' 44 14 = i 7 15 ∧ SgF i' cs ∧ i' 44 11 = 1 ∧ i' 44 10 = mTotal i cs (n + 1) ∧ (∀ v : Int, 0 ≤ v → v < i 101 308 → i' 50 v = sumGo (fun m => bI (hB i cs v (m : Int) = 0)) n + (if v < (k : Int) then bI (hB i cs v (n : Int) = 0) else 0)) ∧ (match fmP i cs (i 101 308).toNat (n + 1) with
    | some q => i' 44 8 = (q.1 : Int) ∧ i' 44 9 = (q.2 : Int)
    | none => i' 44 8 = -1 ∧ i' 44 9 = -1)
theorem SgF_50 {cs : List Cla} {k x : Int} (h : SgF i cs) : SgF (u2 i 50 k x) cs := SgF_eq (u2_other _ _ _ (by decide)) (u2_other _ _ _ (by decide)) (u2_other _ _ _ (by decide)) (u2_other _ _ _ (by decide)) (u2_other _ _ _ (by decide)) (u2_other _ _ _ (by decide)) h
theorem SgF_44 {i i' : IM} {cs : List Cla} (h12 : i' 44 12 = i 44 12) (h13 : i' 44 13 = i 44 13) (hn : ∀ a, a ≠ 44 → a ≠ 50 → a ≠ 49 → i' a = i a) (h : SgF i cs) : SgF i' cs := by
  have e101 := hn 101 (by decide) (by decide) (by decide)
  unfold SgF
  rw [h12, h13, hn 45 (by decide) (by decide) (by decide), hn 46 (by decide) (by decide) (by decide), hn 47 (by decide) (by decide) (by decide), hn 48 (by decide) (by decide) (by decide), e101, mThings_K e101, mCoat_K e101, mWhere_K e101]
  exact h
theorem fails_w {cs : List Cla} (hk : kOK (i 101)) {o : Int → Int} {m : Nat} (ho : ∀ p : Int, 0 ≤ p → p < i 101 309 → o p = mWhere i p m) : fails i cs o m = bfGo (fun v => hB i cs (v : Int) (m : Int)) (i 101 308).toNat := by
  have h309 := hk.1.2.2.1
  unfold fails
  refine bfGo_cg (fun k _ => ?_)
  show bI (popI (oSeen i cs o k m) ≤ fLimit cs k (i 101 313) m) = bI (popI (mSeen i cs k m (-1) (-1)) ≤ fLimit cs k (i 101 313) m)
  rw [mSeen_o, oSeen_cg (o' := fun p => if p = -1 then -1 else mWhere i p m) h309 (fun p h1 h2 => by rw [ho p h1 h2, if_neg (by omega)])]
theorem lp_sweep2 {P : IM → LM → Prop} {cs : List Cla} {i : IM} (hx : Cx w i cs) {n : Nat} (hn : n < 120) {F : Nat} (hF : F = bfGo (fun v => hB i cs (v : Int) (n : Int)) (i 101 308).toNat) {l : LM} (hP : ∀ i', swI i i' cs (n + 1) → gV w d X_X8_sweep P i' l 42 [(0, vR (some 44)), (1, vI ((n : Int) + 1))] []) : ∀ (r k : Nat), k + r = (i 101 308).toNat → ∀ i', swJ i i' cs n k → gV w d X_X8_sweep P i' l 100 [(0, vR (some 44)), (1, vI (n : Int)), (2, vI (F : Int)), (3, vI (k : Int))] [] := by
  have h7 := Cx_7 hx
  have h308 := hx.2.1.1.2.1
  have hFl : F < 256 := by
    rw [hF]
    have := bfGo_lt (fun v => hB i cs (v : Int) (n : Int)) (i 101 308).toNat
    have h8 : 2 ^ (i 101 308).toNat ≤ 2 ^ 8 := Nat.pow_le_pow_right (by omega) (by omega)
    omega
  intro r
  induction r with
  | zero =>
    intro k hk i' hi
    obtain ⟨a1, a2, a3, a4, a5, a6, a7⟩ := hi
    refine s_X8_sweep_100 _ _ _ ⟨⟨by omega, by omega⟩, fun q => hP i' ⟨a1, a2, a3, a4, a5, fun v h1 h2 => ?_, a7⟩, fun q => ?_⟩
    · rw [a6 v h1 h2, if_pos (by omega)]; rfl
    · rw [a1 7 (by decide), h7.2.1] at q; omega
  | succ r ih =>
    intro k hk i' hi
    obtain ⟨a1, a2, a3, a4, a5, a6, a7⟩ := hi
    have hb : iand (ishr (F : Int) (k : Int)) 1 = bI (hB i cs (k : Int) (n : Int) = 0) := by
      rw [ibit_nat (by omega) (by omega), hF, bfGo_div]
      by_cases q : hB i cs (k : Int) (n : Int) = 0
      · rw [if_pos ⟨by omega, q⟩, bI_t q]; rfl
      · rw [if_neg (fun z => q z.2), bI_f q]; rfl
    have h50 := a6 k (by omega) (by omega)
    rw [if_neg (by omega)] at h50
    have hsum := sumGo_le (g := fun m => bI (hB i cs (k : Int) (m : Int) = 0)) (b := 1) n (fun _ _ => bI_le _)
    have hbl := bI_le (hB i cs (k : Int) (n : Int) = 0)
    refine s_X8_sweep_100 _ _ _ ⟨⟨by omega, by omega⟩, fun q => ?_, fun q => ⟨⟨by omega, by omega⟩, ?_, ?_⟩⟩
    · rw [a1 7 (by decide), h7.2.1] at q; omega
    · rw [hb, h50]; exact ⟨by omega, by omega⟩
    · rw [hb]
      refine ih (k + 1) (by omega) _ ⟨vfr_tr a1 (vfr_u (by omega)), a2, SgF_50 a3, a4, a5, fun v h1 h2 => ?_, a7⟩
      show (if (50 : Nat) = 50 ∧ v = (k : Int) then i' 50 (k : Int) + bI (hB i cs (k : Int) (n : Int) = 0) else i' 50 v) = _
      by_cases e : v = (k : Int)
      · rw [if_pos ⟨rfl, e⟩, if_pos (by omega), e, h50]
        omega
      · rw [if_neg (fun z => e z.2), a6 v h1 h2]
        by_cases c : v < (k : Int)
        · rw [if_pos c, if_pos (by omega)]
        · rw [if_neg c, if_neg (by omega)]
theorem sumGo_1 (g : Nat → Int) (n : Nat) : sumGo g (n + 1) = sumGo g n + g n := rfl
theorem lp_sweep {P : IM → LM → Prop} (hd : 9 ≤ d) {cs : List Cla} {i : IM} (hx : Cx w i cs) {l0 : LM} (hP : ∀ i' l', psc l0 l' → swI i i' cs 120 → P i' l') : ∀ (r n : Nat), n + r = 120 → ∀ i' l', psc l0 l' → swI i i' cs n → gV w d X_X8_sweep P i' l' 42 [(0, vR (some 44)), (1, vI (n : Int))] [] := by
  have h7 := Cx_7 hx
  have h308 := hx.2.1.1.2.1
  have h309 := hx.2.1.1.2.2.1
  intro r
  induction r with
  | zero =>
    intro n hn i' l' hl hi
    have e : n = 120 := by omega
    subst e
    exact s_X8_sweep_42 _ (by omega) ⟨⟨by omega, by omega⟩, fun _ => hP i' l' hl hi, fun q => by omega⟩
  | succ r ih =>
    intro n hn i' l' hl hi
    obtain ⟨a1, a2, a3, a4, a5, a6, a7⟩ := hi
    have hm : 0 ≤ (n : Int) ∧ (n : Int) < 120 := by omega
    refine s_X8_sweep_42 _ (by omega) ⟨⟨by omega, by omega⟩, fun q => by omega, fun q => ?_⟩
    refine sp_X8_letOut (by omega) hm (rg_lit rfl) (fun i2 hi2 ho2 => ?_)
    have hv2 : vfr i i2 := vfr_tr a1 (vfr_o (a := 49) (by omega) hi2)
    have e101 : i2 101 = i 101 := hv2 101 (by decide)
    have h49 : ∀ p : Int, 0 ≤ p → p < 5 → i2 49 p = mWhere i p n := by
      intro p h1 h2
      rw [ho2 p h1 h2, if_neg (by omega), a3.2.2.2.2.2 p n ⟨h1, h2⟩ hm, mWhere_K (a1 101 (by decide))]
    have hs2 : SgF i2 cs := SgF_eq (hi2 44 (by decide)) (hi2 45 (by decide)) (hi2 46 (by decide)) (hi2 47 (by decide)) (hi2 48 (by decide)) (hi2 101 (by decide)) a3
    refine sp_X8_failing (by omega) (Cx_v hv2 hx) hs2 (fun p h1 h2 => by rw [h49 p h1 h2]; exact mWhere_lt hx.2.1 _ _) hm (fun i3 l3 hi3 hl3 hs3 => ?_)
    have hv3 := vfr_tr hv2 (vfr_s hi3)
    have hFe : fails i2 cs (i2 49) (n : Int) = bfGo (fun v => hB i cs (v : Int) (n : Int)) (i 101 308).toNat := by
      rw [fails_w (i := i2) (by rw [e101]; exact hx.2.1) (fun p h1 h2 => by rw [e101] at h2; rw [h49 p h1 (by omega), mWhere_K e101]), e101, hB_K e101]
    rw [hFe]
    have hpop := popI_bf (fun v => hB i cs (v : Int) (n : Int)) (n := (i 101 308).toNat) (by omega)
    have hF : ∀ F : Nat, F = bfGo (fun v => hB i cs (v : Int) (n : Int)) (i 101 308).toNat → (F < 256 ∧ ∀ v, F.testBit v = true ↔ (v < (i 101 308).toNat ∧ hB i cs (v : Int) (n : Int) = 0)) := by
      intro F e
      subst e
      refine ⟨?_, fun v => bfGo_bit (fun v => hB i cs (v : Int) (n : Int)) _ v⟩
      have := bfGo_lt (fun v => hB i cs (v : Int) (n : Int)) (i 101 308).toNat
      have h8 : 2 ^ (i 101 308).toNat ≤ 2 ^ 8 := Nat.pow_le_pow_right (by omega) (by omega)
      omega
    obtain ⟨F, eF⟩ : ∃ F, F = bfGo (fun v => hB i cs (v : Int) (n : Int)) (i 101 308).toNat := ⟨_, rfl⟩
    obtain ⟨hF1, hF2⟩ := hF F eF
    rw [← eF] at hpop ⊢
    have e44 : i3 44 = i' 44 := (sfr_44 hi3).trans (hi2 44 (by decide))
    have e50 : i3 50 = i' 50 := (hi3 50 (by decide) (by decide) (by decide) (by decide) (by decide)).trans (hi2 50 (by decide))
    have hrow : rowBad i cs n (i 101 308).toNat = popI (F : Int) := hpop.symm
    have hrl := rowBad_le i cs n (i 101 308).toNat
    have htot := sumGo_le (g := fun m => rowBad i cs m (i 101 308).toNat) (b := 8) n (fun k _ => by have := rowBad_le i cs k (i 101 308).toNat; omega)
    have hT : mTotal i cs n = sumGo (fun m => rowBad i cs m (i 101 308).toNat) n := rfl
    have hlow := fwGo_low hF2 (i 101 308).toNat 0 (Nat.zero_add _) 10 (by omega)
    have go : ∀ i4, vfr i3 i4 → (∀ a, a ≠ 44 → i4 a = i3 a) → i4 44 10 = i' 44 10 + popI (F : Int) → i4 44 11 = i' 44 11 → i4 44 12 = i' 44 12 → i4 44 13 = i' 44 13 → i4 44 14 = i' 44 14 → (match fmP i cs (i 101 308).toNat (n + 1) with
        | some q => i4 44 8 = (q.1 : Int) ∧ i4 44 9 = (q.2 : Int)
        | none => i4 44 8 = -1 ∧ i4 44 9 = -1) → gV w d X_X8_sweep P i4 l3 100 [(0, vR (some 44)), (1, vI (n : Int)), (2, vI (F : Int)), (3, vI 0)] [] := by
      intro i4 hv4 ho4 b10 b11 b12 b13 b14 bm
      refine lp_sweep2 hx (n := n) (by omega) eF (fun i5 hi5 => ih (n + 1) (by omega) i5 l3 (psc_tr hl hl3) hi5) _ 0 (Nat.zero_add _) i4 ⟨vfr_tr hv3 hv4, ?_, ?_, ?_, ?_, ?_, bm⟩
      · rw [b14, a2]
      · exact SgF_44 (by rw [b12, e44]) (by rw [b13, e44]) (fun a h1 _ _ => ho4 a h1) hs3
      · rw [b11, a4]
      · rw [b10, a5, ← hrow]; rfl
      · intro v h1 h2
        rw [ho4 50 (by decide), e50, a6 v h1 h2, if_neg (by omega)]
        omega
    have hnx : fmP i cs (i 101 308).toNat (n + 1) = (match fmP i cs (i 101 308).toNat n with
      | some q => some q
      | none => match fwGo i cs n (i 101 308).toNat 0 with
        | some v => some (n, v)
        | none => none) := rfl
    have r10 : rg (i' 44 10 + popI (F : Int)) := by rw [a5, hT, ← hrow]; exact ⟨by omega, by omega⟩
    refine ⟨fun q1 => ⟨⟨by omega, by omega⟩, by rw [e44]; exact r10, ?_⟩, fun q1 => ⟨⟨by omega, by omega⟩, ⟨by omega, by omega⟩, ⟨by omega, by omega⟩, ?_, ?_⟩⟩
    · refine go _ (vfr_u (by omega)) (fun a ha => u2_other _ _ _ ha) (by rw [u2_self, e44]) (by show i3 44 11 = _; rw [e44]) (by show i3 44 12 = _; rw [e44]) (by show i3 44 13 = _; rw [e44]) (by show i3 44 14 = _; rw [e44]) ?_
      show (match fmP i cs (i 101 308).toNat (n + 1) with
        | some q => i3 44 8 = (q.1 : Int) ∧ i3 44 9 = (q.2 : Int)
        | none => i3 44 8 = -1 ∧ i3 44 9 = -1)
      rw [hnx, e44]
      rw [e44] at q1
      cases hp : fmP i cs (i 101 308).toNat n with
      | some q => rw [hp] at a7; exact a7
      | none =>
        rw [hp] at a7
        have hz : F = 0 := by
          rcases q1 with z | z
          · omega
          · exact absurd a7.1 z
        cases hw : fwGo i cs n (i 101 308).toNat 0 with
        | none => exact a7
        | some u =>
          have := (hlow.1 u hw).2
          rw [hz, Nat.zero_testBit] at this
          cases this
    · show rg (i3 44 10 + popI (F : Int))
      rw [e44]; exact r10
    · have hne : ¬ (F : Int) = 0 := fun z => q1 (Or.inl z)
      have h8 : i' 44 8 = -1 := by
        rw [e44] at q1
        by_cases z : i' 44 8 = -1
        · exact z
        · exact absurd (Or.inr z) q1
      refine go _ (vfr_tr (vfr_tr (vfr_u (by omega)) (vfr_u (by omega))) (vfr_u (by omega))) (fun a ha => by rw [u2_other _ _ _ ha, u2_other _ _ _ ha, u2_other _ _ _ ha]) (by rw [u2_self]; show i3 44 10 + _ = _; rw [e44]) (by show i3 44 11 = _; rw [e44]) (by show i3 44 12 = _; rw [e44]) (by show i3 44 13 = _; rw [e44]) (by show i3 44 14 = _; rw [e44]) ?_
      show (match fmP i cs (i 101 308).toNat (n + 1) with
        | some q => (n : Int) = (q.1 : Int) ∧ lowB (F : Int) = (q.2 : Int)
        | none => (n : Int) = -1 ∧ lowB (F : Int) = -1)
      rw [hnx]
      cases hp : fmP i cs (i 101 308).toNat n with
      | some q => rw [hp] at a7; have := a7.1; omega
      | none =>
        cases hw : fwGo i cs n (i 101 308).toNat 0 with
        | none =>
          exfalso
          apply hne
          have : F = 0 := Nat.eq_of_testBit_eq (fun x => by rw [hlow.2 hw x (by omega), Nat.zero_testBit])
          rw [this]; rfl
        | some u =>
          have := (hlow.1 u hw).1
          refine ⟨rfl, ?_⟩
          show ((lowFrom F 10 0 : Nat) : Int) = _
          rw [this]
theorem sp_X8_sweep (hd : 10 ≤ d) {P : IM → LM → Prop} {cs : List Cla} (hx : Cx w i cs) (hs : SgC i cs) (hP : ∀ i' l', vfr i i' → psc l l' → i' 44 14 = i' 7 15 → SgF i' cs → Sw i' cs → ¬ i' 44 11 = 0 → P i' l') : cVd w d X_X8_sweep [vR (some 44)] i l P := by
  obtain ⟨d, rfl, hd1⟩ := d_pos hd
  refine e_X8_sweep (s_X8_sweep (by omega) (sp_X8_refresh (by omega) hx hs (fun i1 h1 h14 hs1 hw1 => ⟨fun q => ?_, fun q => hP i1 l h1 (psc_rf l) h14 hs1 hw1 q⟩)))
  have hx1 := Cx_v h1 hx
  have hv : vfr i1 (fillA (u2 (u2 (u2 (u2 i1 44 11 1) 44 8 (-1)) 44 9 (-1)) 44 10 0) 50 8 0) := vfr_tr (vfr_tr (vfr_tr (vfr_tr (vfr_u (by omega)) (vfr_u (by omega))) (vfr_u (by omega))) (vfr_u (by omega))) (vfr_f (by omega))
  have h308 := hx1.2.1.1.2.1
  refine lp_sweep hd1 hx1 (fun i2 l2 hl2 h2 => ?_) 120 0 rfl _ l (psc_rf l) ⟨hv, h14, SgF_44 (i := i1) rfl rfl (fun a q1 q2 _ => ?_) hs1, rfl, rfl, fun v q1 q2 => ?_, ⟨rfl, rfl⟩⟩
  · obtain ⟨a1, a2, a3, a4, a5, a6, a7⟩ := h2
    have e101 := a1 101 (by decide)
    refine hP i2 l2 (vfr_tr h1 a1) hl2 (by rw [a2, a1 7 (by decide)]) a3 (Or.inr ?_) (by rw [a4]; decide)
    rw [e101, mTotal_K e101, hB_K e101, fmP_K e101]
    exact ⟨a5, a6, a7⟩
  · funext x
    have : ∀ (j : IM) (k y : Int), u2 j 44 k y a = j a := fun j k y => u2_other _ _ _ q1
    show (if a = 50 ∧ 0 ≤ x ∧ x < 8 then (0 : Int) else u2 (u2 (u2 (u2 i1 44 11 1) 44 8 (-1)) 44 9 (-1)) 44 10 0 a x) = i1 a x
    rw [if_neg (fun z => q2 z.1), this, this, this, this]
  · exact if_pos (c := (50 : Nat) = 50 ∧ 0 ≤ v ∧ v < 8) ⟨rfl, q1, by omega⟩
end
