/-! sees, judge, bad: the program -/
section
variable {w : Wd} {d : Nat} {i : IM} {l : LM}
theorem SgC_s {i' : IM} {cs : List Cla} (h14 : i' 44 14 = i' 7 15) (h1 : SgF i' cs) (h2 : Sw i' cs) : SgC i' cs := ⟨by rw [h14]; exact Int.le_refl _, fun _ => ⟨h1, h2⟩⟩
theorem sp_X11_sees (hd : 11 ≤ d) {P : Int → IM → LM → Prop} {cs : List Cla} (hx : Cx w i cs) (hs : SgC i cs) {p0 p1 p2 : Int} (h0 : rg p0) (h1 : rg p1) (h2 : rg p2) (hP : ∀ i' l', vfr i i' → psc l l' → SgC i' cs → P (mSees i cs p0 p1 p2) i' l') : cI w d X_X11_sees [vR (some 6), vI p0, vI p1, vI p2] i l P := by
  obtain ⟨d, rfl, hd1⟩ := d_pos hd
  have h7 := Cx_7 hx
  have h308 := hx.2.1.1.2.1
  have h309 := hx.2.1.1.2.2.1
  unfold mSees at hP
  refine e_X11_sees (s_X11_sees _ _ _ (by omega) ⟨h0, fun _ => h1, fun _ _ => h2, fun q => ?_, fun q => ?_⟩)
  · rw [h7.2.1] at q
    rw [if_pos ⟨q.1, ⟨by omega, by omega⟩, q.2.2⟩] at hP
    have hv : 0 ≤ p0 ∧ p0 < 8 := ⟨by omega, by omega⟩
    have hm := q.2.1
    refine sp_X8_refresh (by omega) hx hs (fun i1 v1 h14 s1 w1 => sp_X8_letOut (by omega) hm (rg_lit rfl) (fun i2 hi2 ho2 => ?_))
    have v2 : vfr i i2 := vfr_tr v1 (vfr_o (a := 49) (by omega) hi2)
    have e101 : i2 101 = i 101 := v2 101 (by decide)
    have s2 : SgF i2 cs := SgF_eq (hi2 44 (by decide)) (hi2 45 (by decide)) (hi2 46 (by decide)) (hi2 47 (by decide)) (hi2 48 (by decide)) (hi2 101 (by decide)) s1
    have w2 : Sw i2 cs := Sw_eq (hi2 44 (by decide)) (hi2 50 (by decide)) (hi2 101 (by decide)) w1
    have h14b : i2 44 14 = i2 7 15 := by rw [hi2 44 (by decide), hi2 7 (by decide), h14]
    have h49 : ∀ p : Int, 0 ≤ p → p < 5 → i2 49 p = mWhere i p p1 := by
      intro p z1 z2
      rw [ho2 p z1 z2, if_neg (by omega), s1.2.2.2.2.2 p p1 ⟨z1, z2⟩ hm, mWhere_K (v1 101 (by decide))]
    have x2 := Cx_v v2 hx
    refine sp_X8_limitAt (by omega) x2 s2 hv hm (fun i3 l3 f3 g3 s3 => ?_)
    have v3 := vfr_tr v2 (vfr_s f3)
    have e101c := v3 101 (by decide)
    have w3 := Sw_s f3 w2
    have h14c : i3 44 14 = i3 7 15 := by rw [sfr_44 f3, sfr_7 f3, h14b]
    have esee : oSeen i cs (i3 49) p0 p1 = mSeen i cs p0 p1 (-1) (-1) := by
      rw [mSeen_o, oSeen_cg (o' := fun p => if p = -1 then -1 else mWhere i p p1) h309 (fun p z1 z2 => by rw [sfr_49 f3, h49 p z1 (by omega), if_neg (by omega)])]
    rw [e101]
    refine ⟨h2, fun q1 => ?_, fun q1 => ?_⟩
    · rw [if_neg (by omega), if_pos q1] at hP
      exact hP i3 l3 v3 g3 (SgC_s h14c s3 w3)
    · refine sp_X8_seenFrom (by omega) (Cx_v v3 hx) s3 (fun p z1 z2 => by rw [sfr_49 f3, h49 p z1 z2]; exact mWhere_lt hx.2.1 _ _) hv hm (fun i4 l4 f4 g4 s4 => ?_)
      have h14d : i4 44 14 = i4 7 15 := by rw [sfr_44 f4, sfr_7 f4, h14c]
      have hc4 := SgC_s h14d s4 (Sw_s f4 w3)
      rw [oSeen_K e101c, esee]
      obtain ⟨b, hb, hb2⟩ := mSeen_nat hx.2.1 cs p0 p1 (-1) (-1)
      refine ⟨h2, fun q2 => ?_, fun q2 => ⟨by rw [hb]; exact ⟨by omega, by omega⟩, ?_⟩⟩
      · rw [if_pos q2] at hP
        exact hP i4 l4 (vfr_tr v3 (vfr_s f4)) (psc_tr g3 g4) hc4
      · rw [if_neg q2, if_neg q1] at hP
        have := hP i4 l4 (vfr_tr v3 (vfr_s f4)) (psc_tr g3 g4) hc4
        unfold hB at this
        rw [bI_congr (p := ¬ fLimit cs p0 (i 101 313) p1 < popI (mSeen i cs p0 p1 (-1) (-1))) (q := popI (mSeen i cs p0 p1 (-1) (-1)) ≤ fLimit cs p0 (i 101 313) p1) (by omega)]
        exact this
  · rw [h7.2.1] at q
    rw [if_neg (fun z => q ⟨z.1, ⟨by omega, by omega⟩, z.2.2⟩)] at hP
    exact hP i l (vfr_rf i) (psc_rf l) hs
theorem sp_X11_judge (hd : 11 ≤ d) {P : Int → IM → LM → Prop} {cs : List Cla} (hx : Cx w i cs) (hs : SgC i cs) {p0 : Int} (h0 : rg p0) (hP : ∀ i' l', vfr i i' → psc l l' → SgC i' cs → P (mJudge i cs p0) i' l') : cI w d X_X11_judge [vR (some 6), vI p0] i l P := by
  obtain ⟨d, rfl, hd1⟩ := d_pos hd
  unfold mJudge at hP
  refine e_X11_judge (s_X11_judge _ (by omega) ⟨h0, fun q => ?_, fun q => ?_⟩)
  · rw [if_pos q] at hP
    refine sp_X8_sweep (by omega) hx hs (fun i1 l1 v1 g1 h14 s1 w1 h11 => ?_)
    have e101 := v1 101 (by decide)
    have hp := hP i1 l1 v1 g1 (SgC_s h14 s1 w1)
    rcases w1 with z | ⟨z1, z2, z3⟩
    · exact absurd z h11
    · rw [fmGo_P] at hp
      rw [e101, fmP_K e101] at z3
      rw [mTotal_K e101] at z1
      refine ⟨fun q0 => ?_, fun q0 => ?_⟩
      · rw [if_neg (by omega)] at hp
        cases hf : fmP i cs (i 101 308).toNat 120 with
        | none => rw [hf] at hp z3; rw [z3.1]; exact hp
        | some u => rw [hf] at hp z3; rw [z3.1]; simp only [q0] at hp; exact hp
      · by_cases q1 : p0 = 1
        · rw [if_pos q1]
          rw [if_neg (by omega)] at hp
          cases hf : fmP i cs (i 101 308).toNat 120 with
          | none => rw [hf] at hp z3; rw [z3.2]; exact hp
          | some u => rw [hf] at hp z3; rw [z3.2]; simp only [q0] at hp; exact hp
        · rw [if_neg q1, z1]
          rw [if_pos (by omega)] at hp
          exact hp
  · rw [if_neg q] at hP
    exact hP i l (vfr_rf i) (psc_rf l) hs
theorem sp_X11_bad (hd : 11 ≤ d) {P : Int → IM → LM → Prop} {cs : List Cla} (hx : Cx w i cs) (hs : SgC i cs) {p0 : Int} (h0 : rg p0) (hP : ∀ i' l', vfr i i' → psc l l' → SgC i' cs → P (mBad i cs p0) i' l') : cI w d X_X11_bad [vR (some 6), vI p0] i l P := by
  obtain ⟨d, rfl, hd1⟩ := d_pos hd
  have h7 := Cx_7 hx
  have h308 := hx.2.1.1.2.1
  unfold mBad at hP
  refine e_X11_bad (s_X11_bad _ (by omega) ⟨h0, fun q => ?_, fun q => ?_⟩)
  · rw [h7.2.1] at q
    rw [if_pos q] at hP
    refine sp_X8_sweep (by omega) hx hs (fun i1 l1 v1 g1 h14 s1 w1 h11 => ⟨⟨by omega, by omega⟩, ?_⟩)
    have e101 := v1 101 (by decide)
    have hp := hP i1 l1 v1 g1 (SgC_s h14 s1 w1)
    rcases w1 with z | ⟨z1, z2, z3⟩
    · exact absurd z h11
    · rw [z2 p0 q.1 (by rw [e101]; exact q.2), hB_K e101]
      exact hp
  · rw [h7.2.1] at q
    rw [if_neg q] at hP
    exact hP i l (vfr_rf i) (psc_rf l) hs
end
