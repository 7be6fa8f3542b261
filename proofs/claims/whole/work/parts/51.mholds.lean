section
variable {w : Wd} {d : Nat} {l : LM}
theorem mWhere_scr {i i' : IM} (h : scrM i i') (p m : Int) : mWhere i' p m = mWhere i p m := by
  have e : i' 101 = i 101 := scrM_c h (by decide) (by decide)
  unfold mWhere
  rw [e]
theorem lp_seen {P : Int → IM → LM → Prop} {i : IM} {A : Nat → List Cla} (hd : 76 ≤ d) (hk : kOK (i 101)) (hf : forceM (i 101) A) (hc : hasDep (inForce (i 101) A)) {v mi but pl : Int} (h0 : 0 ≤ v ∧ v < 8) (h2 : bd mi) (hb : rg but) (hpl : -1 ≤ pl ∧ pl < 10) (hP : ∀ i', scrM i i' → P (mSeen i (inForce (i 101) A) v mi but pl) i' l) : ∀ m n : Nat, n + m = (i 101 309).toNat → ∀ i', scrM i i' → gI w d X_X12_seen P i' l 19 [(0, vR (some 99)), (1, vI v), (2, vI mi), (3, vI but), (4, vI pl), (5, vI (orGo (fun p => mCoat i (inForce (i 101) A) v (p : Int) (if (p : Int) = but then pl else mWhere i (p : Int) mi) (i 101 313) mi) (mThings i (inForce (i 101) A) v (i 101 313) mi) n)), (6, vI (n : Int))] [] := by
  have h309 := hk.1.2.2.1
  have h313 := hk.1.2.2.2.2.2
  have h310 := hk.1.2.2.2.1
  have hnat := fun n (hn : n ≤ (i 101 309).toNat) => orGo_nat (g := fun p => mCoat i (inForce (i 101) A) v (p : Int) (if (p : Int) = but then pl else mWhere i (p : Int) mi) (i 101 313) mi) (mThings_nat hk (inForce (i 101) A) v (i 101 313) mi) n (fun k hk2 => mCoat_nat hk _ ⟨by omega, by omega⟩)
  intro m
  induction m with
  | zero =>
    intro n hn i' hi
    have e : n = (i 101 309).toNat := by omega
    obtain ⟨b, hb1, hb2⟩ := hnat n (by omega)
    have e1 : i' 101 = i 101 := scrM_c hi (by decide) (by decide)
    refine s_X12_seen_19 _ _ _ _ _ _ (by omega) ⟨⟨by omega, by omega⟩, fun _ => ⟨by rw [hb1]; exact ⟨by omega, by omega⟩, ?_⟩, fun q => absurd (by rw [e1]; omega) q⟩
    rw [e]
    exact hP i' hi
  | succ m ih =>
    intro n hn i' hi
    have e1 : i' 101 = i 101 := scrM_c hi (by decide) (by decide)
    have hkc := hk.2.2.2.2.1 n (by omega) (by omega)
    have hw := mWhere_lt hk (n : Int) mi
    have hpl2 : bd (if (n : Int) = but then pl else mWhere i' (n : Int) mi) := by
      rw [mWhere_scr hi]
      split
      · exact ⟨by omega, by omega⟩
      · exact ⟨by omega, by omega⟩
    refine s_X12_seen_19 _ _ _ _ _ _ (by omega) ⟨⟨by omega, by omega⟩, fun q => absurd q (by rw [e1]; omega), fun _ => ⟨⟨by omega, by omega⟩, hb, fun _ => bd_rg h2, fun _ => by rw [e1]; exact h310, ?_⟩⟩
    refine sp_X12_coatBit (by omega) (A := A) (by rw [e1]; exact hf) (by rw [e1]; exact hc) (scrM_same hi (kOK_same hk)) h0 ⟨by omega, by omega⟩ hpl2 (by rw [e1]; exact ⟨by omega, by omega⟩) h2 (by rw [e1]; exact hkc) (fun i2 hi2 => ?_)
    have e2 := mCoat_scr hi (inForce (i 101) A) v (n : Int) (if (n : Int) = but then pl else mWhere i (n : Int) mi) (i 101 313) mi
    have hz : (if (if (n : Int) = but then pl else mWhere i' (n : Int) mi) = -1 ∨ ¬ iand (ishr (i' 101 (80 + 3 * v + 1)) (if (n : Int) = but then pl else mWhere i' (n : Int) mi)) 1 = 1 then 0 else fBit (inForce (i' 101) A) (mkEnv v 0 (if (n : Int) = but then pl else mWhere i' (n : Int) mi) (i' 101 (114 + (n : Int))) 0 (i' 101 313) mi 1 (n : Int)) (mLow i' (i' 101 (114 + (n : Int))))) = mCoat i (inForce (i 101) A) v (n : Int) (if (n : Int) = but then pl else mWhere i (n : Int) mi) (i 101 313) mi := by
      rw [← e2, mWhere_scr hi]
      unfold mCoat
      rw [e1]
    rw [hz]
    exact ih (n + 1) (by omega) i2 (scrM_tr hi hi2)
theorem mThings_scr {i i' : IM} (h : scrM i i') (cs : List Cla) (v mo mi : Int) : mThings i' cs v mo mi = mThings i cs v mo mi := by
  have e : i' 101 = i 101 := scrM_c h (by decide) (by decide)
  have e2 : (fun t : Nat => mBit i' cs v (t : Int) (i' 101 (8 * (t : Int) + 1)) mo mi) = fun t : Nat => mBit i cs v (t : Int) (i 101 (8 * (t : Int) + 1)) mo mi := by
    funext t
    rw [mBit_scr h, e]
  unfold mThings
  rw [e2, e]
theorem mSeen_scr {i i' : IM} (h : scrM i i') (cs : List Cla) (v mi but pl : Int) : mSeen i' cs v mi but pl = mSeen i cs v mi but pl := by
  have e : i' 101 = i 101 := scrM_c h (by decide) (by decide)
  have e2 : (fun p : Nat => mCoat i' cs v (p : Int) (if (p : Int) = but then pl else mWhere i' (p : Int) mi) (i' 101 313) mi) = fun p : Nat => mCoat i cs v (p : Int) (if (p : Int) = but then pl else mWhere i (p : Int) mi) (i 101 313) mi := by
    funext p
    rw [mCoat_scr h, mWhere_scr h, e]
  unfold mSeen
  rw [e2, mThings_scr h, e]
theorem sp_X12_seen {P : Int → IM → LM → Prop} {i : IM} {A : Nat → List Cla} (hd : 78 ≤ d) (hk : kOK (i 101)) (hf : forceM (i 101) A) (hc : hasDep (inForce (i 101) A)) {v mi but pl : Int} (h0 : 0 ≤ v ∧ v < 8) (h2 : bd mi) (hb : rg but) (hpl : -1 ≤ pl ∧ pl < 10) (hP : ∀ i', scrM i i' → P (mSeen i (inForce (i 101) A) v mi but pl) i' l) : cI w d X_X12_seen [vR (some 99), vI v, vI mi, vI but, vI pl] i l P := by
  obtain ⟨d, rfl, hd1⟩ := d_pos hd
  have h313 := hk.1.2.2.2.2.2
  refine e_X12_seen (s_X12_seen _ _ _ _ (sp_X12_thingsSeen (by omega) hk hf hc h0 ⟨by omega, by omega⟩ h2 (fun i' hi => ?_)))
  exact lp_seen (by omega) hk hf hc h0 h2 hb hpl hP _ 0 (Nat.zero_add _) i' hi
/-- whether a WINDOW HOLDS at a MINUTE -/
def mHolds (i : IM) (cs : List Cla) (v mi : Int) : Prop := popI (mSeen i cs v mi (-1) (-1)) ≤ fLimit cs v (i 101 313) mi
theorem sp_X12_holds {P : Int → IM → LM → Prop} {i : IM} {A : Nat → List Cla} (hd : 80 ≤ d) (hk : kOK (i 101)) (hf : forceM (i 101) A) (hc : hasDep (inForce (i 101) A)) {v mi : Int} (h0 : 0 ≤ v ∧ v < 8) (h2 : bd mi) (hP : ∀ i', scrM i i' → P (bI (popI (mSeen i (inForce (i 101) A) v mi (-1) (-1)) ≤ fLimit (inForce (i 101) A) v (i 101 313) mi)) i' l) : cI w d X_X12_holds [vR (some 99), vI v, vI mi] i l P := by
  obtain ⟨d, rfl, hd1⟩ := d_pos hd
  have h313 := hk.1.2.2.2.2.2
  have b0 : bd v := ⟨by omega, by omega⟩
  refine e_X12_holds (s_X12_holds _ _ (by omega) (sp_X12_seen (by omega) hk hf hc h0 h2 (rg_lit rfl) ⟨by omega, by omega⟩ (fun i' hi => ?_)))
  obtain ⟨b, hb, hb2⟩ := mSeen_nat hk (inForce (i 101) A) v mi (-1) (-1)
  have e1 : i' 101 = i 101 := scrM_c hi (by decide) (by decide)
  refine ⟨by rw [hb]; exact ⟨by omega, by omega⟩, ?_⟩
  rw [e1]
  refine sp_X12_limitOf (by omega) (A := A) (by rw [e1]; exact hf) (by rw [e1]; exact hc) b0 ⟨by omega, by omega⟩ h2 (fun i2 hi2 => ?_)
  rw [e1]
  have := hP i2 (scrM_tr hi hi2)
  rw [bI_congr (q := popI (mSeen i (inForce (i 101) A) v mi (-1) (-1)) ≤ fLimit (inForce (i 101) A) v (i 101 313) mi) Int.not_lt]
  exact this
end
