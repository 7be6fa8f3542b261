/-! ONE CALL on both sides: those that change a number or two -/
section
variable {w : Wd} {d k : Nat} {i : IM} {l : LM}
abbrev KP (K : Int → Int) : Prop := kOK K ∧ SyK K ∧ FrK K
theorem kRg {K : Int → Int} (h : kOK K) {p : Int} (p0 : 0 ≤ p) (p1 : p < 314) (p2 : p ≠ 312) : -1 ≤ K p ∧ K p ≤ 4095 := by
  have hb := kBd_of h p p0 p1 p2
  have h1 : -1 ≤ kLo p := by unfold kLo; split <;> omega
  have h2 : kHi p ≤ 4095 := by unfold kHi; (repeat' split) <;> omega
  omega
theorem kRg2 {K : Int → Int} (h : kOK K) {p : Int} (p0 : 0 ≤ p) (p1 : p < 314) (p2 : p ≠ 312) : rg (K p) := ⟨by have := kRg h p0 p1 p2; omega, by have := kRg h p0 p1 p2; omega⟩
theorem KP_up {K : Int → Int} {q v : Int} (h : KP K) (hq : q < 104 ∨ (114 ≤ q ∧ q < 119) ∨ 127 ≤ q) (h1 : q ≠ 311) (h2 : q ≠ 312) (hv : kLo q ≤ v ∧ v ≤ kHi q) : KP (upK K q v) := by
  refine ⟨kOK_of (kBd_up (kBd_of h.1) hv), SyK_cg (fun p p0 p1 p2 => upK_ne (by omega)) h.2.1, ?_⟩
  unfold FrK
  rw [upK_ne (by omega), upK_ne (by omega)]
  exact h.2.2
theorem kTr {t x : Int} (ht : 0 ≤ t ∧ t < 10) (hx : 0 ≤ x ∧ x < 8) : kLo (8 * t + x) = 0 ∧ kHi (8 * t + x) = if x = 0 then 3 else if x = 3 ∨ x = 4 then 99 else if x = 5 then 1 else if x = 6 then 4095 else 7 := by
  have e : (8 * t + x) % 8 = x := by omega
  refine ⟨by unfold kLo; rw [if_neg (by omega)], ?_⟩
  unfold kHi
  rw [if_pos (by omega), e]
theorem kVw {t x : Int} (ht : 0 ≤ t ∧ t < 8) (hx : 0 ≤ x ∧ x < 3) : kLo (80 + (3 * t + x)) = 0 ∧ kHi (80 + (3 * t + x)) = if x = 2 then 99 else 1023 := by
  have e : (80 + (3 * t + x) - 80) % 3 = x := by omega
  refine ⟨by unfold kLo; rw [if_neg (by omega)], ?_⟩
  unfold kHi
  rw [if_neg (by omega), if_pos (by omega), e]
theorem hT_most {p : Int} (h : 0 ≤ p ∧ p ≤ 5) : hT p = mostI p := by
  have : p = 0 ∨ p = 1 ∨ p = 2 ∨ p = 3 ∨ p = 4 ∨ p = 5 := by omega
  rcases this with rfl | rfl | rfl | rfl | rfl | rfl <;> rfl
theorem hV_most {p : Int} (h : 0 ≤ p ∧ p ≤ 2) : hV p = if p = 2 then 99 else 1023 := by
  have : p = 0 ∨ p = 1 ∨ p = 2 := by omega
  rcases this with rfl | rfl | rfl <;> rfl
theorem st_put (hd : 90 ≤ d) (hk : k ≤ 100000) (hI : Inv w k i l) {p0 p1 p2 : Int} (h0 : rg p0) (h1 : rg p1) (h2 : rg p2) : BoC w k d X_X11_put X_X12_put [vI p0, vI p1, vI p2] i l := by
  obtain ⟨A, hA⟩ := hI
  obtain ⟨d, rfl, hd1⟩ := d_pos (k := 89) hd
  have tw := hA.1.1
  have t7 := tw.1.2.2.2.2.2.2
  have kp : KP (i 101) := hA.1.2.1
  have h307 := kp.1.1.1
  have hc := chg_rg hA hk
  have e7 : i 7 8 = i 101 307 := t7.1
  refine e_X11_put (s_X11_put _ _ _ (by omega) ⟨h1, fun z => ⟨z.1, by omega⟩, fun _ => h2, fun _ _ => h0, fun z => ?_, fun z => ⟨⟨by omega, by omega⟩, ⟨by omega, by omega⟩, h2, ?_⟩, fun z => ?_⟩)
  · refine sp_X11_refuse (by omega) r1 (ref_rg hA hk r1) ?_
    have hf := ref2 (d := d) hA hk (by omega) r1
    have hj : cRef i (-1) 0 101 = i 101 := rfl
    generalize cRef i (-1) 0 = J at hf hj ⊢
    have no : ¬ ((0 ≤ p1 ∧ p1 ≤ 5) ∧ (0 ≤ p2 ∧ p2 ≤ mostI p1)) := fun y => by
      rcases z with z | z
      · exact z y.1
      · rw [hT_most y.1] at z; exact z y.2
    exact e_X12_put (s_X12_put _ _ _ (by omega) ⟨h1, fun _ => h2, fun _ _ => h0, fun _ _ => by rw [hj]; exact ⟨by omega, by omega⟩, fun _ => hf, fun y => absurd ⟨y.1, y.2.1⟩ no, fun y => absurd ⟨y.1, y.2.1⟩ no⟩)
  · rw [hT_most z.1] at z
    rw [e7] at z
    have ev : i 8 (p0 * 8 + p1) = i 101 (8 * p0 + p1) := TW_trait tw.1 ⟨by omega, by omega⟩ ⟨by omega, by omega⟩
    have hr : rg (i 8 (p0 * 8 + p1)) := by rw [ev]; exact kRg2 kp.1 (by omega) (by omega) (by omega)
    refine sp_X11_changed (by omega) hr hc.1 ?_
    have hj : cChg (u2 i 8 (p0 * 8 + p1) p2) 101 = i 101 := rfl
    refine e_X12_put (s_X12_put _ _ _ (by omega) ⟨h1, fun _ => h2, fun _ _ => h0, fun _ _ => by rw [hj]; exact ⟨by omega, by omega⟩, fun y => by omega, fun _ => ?_, fun y => by rw [hj] at y; omega⟩)
    have eq : 0 + 8 * p0 + p1 = p0 * 8 + p1 := by omega
    rw [eq]
    refine sp_X12_replaces (by omega) ⟨by omega, by omega⟩ h2 (kRg2 kp.1 (by omega) (by omega) (by omega)) hc.2 ⟨?_, ?_⟩
    · show i 101 (p0 * 8 + p1) = i 8 (p0 * 8 + p1)
      rw [ev]; congr 1; omega
    · have e3 : u2 (cChg (u2 i 8 (p0 * 8 + p1) p2)) 101 (p0 * 8 + p1) p2 101 = upK (i 101) (p0 * 8 + p1) p2 := u2_101 _ _ _ _
      refine chg_end2 hA (fun a ha => u2_other _ _ _ (by omega)) rfl rfl (fun a ha => u2_other _ _ _ ha) ?_ ?_ ?_ ?_
      · rw [e3]; exact TWg_u1 ⟨by omega, by omega⟩ tw
      · rw [e3]
        refine KP_up kp (by omega) (by omega) (by omega) ?_
        have := kTr (t := p0) (x := p1) ⟨by omega, by omega⟩ ⟨by omega, by omega⟩
        rw [show p0 * 8 + p1 = 8 * p0 + p1 by omega, this.1, this.2]
        unfold mostI at z
        refine ⟨z.2.1.1, ?_⟩
        have z2 := z.2.1.2
        (repeat' split at z2) <;> (repeat' split) <;> omega
      · rw [e3, upK_ne (by omega)]
      · intro p hp; rw [e3, upK_ne (by omega)]
  · rw [hT_most z.1] at z
    refine sp_X11_refuse (by omega) r2 (ref_rg hA hk r2) ?_
    have hf := ref2 (d := d) hA hk (by omega) r2
    have hj : cRef i (-2) 1 101 = i 101 := rfl
    generalize cRef i (-2) 1 = J at hf hj ⊢
    exact e_X12_put (s_X12_put _ _ _ (by omega) ⟨h1, fun _ => h2, fun _ _ => h0, fun _ _ => by rw [hj]; exact ⟨by omega, by omega⟩, fun y => by omega, fun y => by rw [hj] at y; omega, fun _ => hf⟩)
theorem st_bloom (hd : 90 ≤ d) (hk : k ≤ 100000) (hI : Inv w k i l) {p0 p1 p2 : Int} (h0 : rg p0) (h1 : rg p1) (h2 : rg p2) : BoC w k d X_X11_bloom X_X12_bloom [vI p0, vI p1, vI p2] i l := by
  obtain ⟨A, hA⟩ := hI
  obtain ⟨d, rfl, hd1⟩ := d_pos (k := 89) hd
  have tw := hA.1.1
  have t7 := tw.1.2.2.2.2.2.2
  have kp : KP (i 101) := hA.1.2.1
  have h307 := kp.1.1.1
  have hc := chg_rg hA hk
  have e7 : i 7 8 = i 101 307 := t7.1
  refine e_X11_bloom (s_X11_bloom _ _ _ (by omega) ⟨h1, fun _ => h2, fun _ _ => h0, fun z => ?_, fun z => ⟨⟨by omega, by omega⟩, ⟨by omega, by omega⟩, h2, ?_⟩, fun z => ?_⟩)
  · refine sp_X11_refuse (by omega) r1 (ref_rg hA hk r1) ?_
    have hf := ref2 (d := d) hA hk (by omega) r1
    have hj : cRef i (-1) 0 101 = i 101 := rfl
    generalize cRef i (-1) 0 = J at hf hj ⊢
    exact e_X12_bloom (s_X12_bloom _ _ _ (by omega) ⟨h1, fun _ => h2, fun _ _ => h0, fun _ _ => by rw [hj]; exact ⟨by omega, by omega⟩, fun _ => hf, fun y => by omega, fun y => by omega⟩)
  · rw [e7] at z
    refine sp_X11_changed (by omega) (rg_lit rfl) hc.1 ?_
    have hj : cChg (u2 (u2 i 8 (p0 * 8 + 6) p1) 8 (p0 * 8 + 7) p2) 101 = i 101 := rfl
    have eq6 : 0 + 8 * p0 + 6 = p0 * 8 + 6 := by omega
    have eq7 : 0 + 8 * p0 + 7 = p0 * 8 + 7 := by omega
    refine e_X12_bloom (s_X12_bloom _ _ _ (by omega) ⟨h1, fun _ => h2, fun _ _ => h0, fun _ _ => by rw [hj]; exact ⟨by omega, by omega⟩, fun y => by omega, fun _ => ⟨⟨by omega, by omega⟩, ⟨by omega, by omega⟩, h2, ?_⟩, fun y => by rw [hj] at y; omega⟩)
    rw [eq6, eq7]
    refine sp_X12_good (by omega) (rg_lit rfl) hc.2 ⟨rfl, ?_⟩
    have e3 : u2 (u2 (cChg (u2 (u2 i 8 (p0 * 8 + 6) p1) 8 (p0 * 8 + 7) p2)) 101 (p0 * 8 + 6) p1) 101 (p0 * 8 + 7) p2 101 = upK (upK (i 101) (p0 * 8 + 6) p1) (p0 * 8 + 7) p2 := by rw [u2_101, u2_101]; rfl
    refine chg_end2 (i1 := u2 (u2 i 8 (p0 * 8 + 6) p1) 8 (p0 * 8 + 7) p2) hA (fun a ha => by rw [u2_other _ _ _ (by omega), u2_other _ _ _ (by omega)]) rfl rfl (fun a ha => by rw [u2_other _ _ _ ha, u2_other _ _ _ ha]) ?_ ?_ ?_ ?_
    · rw [e3]; exact TWg_u1 ⟨by omega, by omega⟩ (TWg_u1 ⟨by omega, by omega⟩ tw)
    · rw [e3]
      have a6 := kTr (t := p0) (x := 6) ⟨by omega, by omega⟩ ⟨by omega, by omega⟩
      have a7 := kTr (t := p0) (x := 7) ⟨by omega, by omega⟩ ⟨by omega, by omega⟩
      have b6 : kHi (8 * p0 + 6) = 4095 := a6.2
      have b7 : kHi (8 * p0 + 7) = 7 := a7.2
      rw [show p0 * 8 + 6 = 8 * p0 + 6 by omega, show p0 * 8 + 7 = 8 * p0 + 7 by omega]
      exact KP_up (KP_up kp (by omega) (by omega) (by omega) (by omega)) (by omega) (by omega) (by omega) (by omega)
    · rw [e3, upK_ne (by omega), upK_ne (by omega)]
    · intro p hp; rw [e3, upK_ne (by omega), upK_ne (by omega)]
  · refine sp_X11_refuse (by omega) r2 (ref_rg hA hk r2) ?_
    have hf := ref2 (d := d) hA hk (by omega) r2
    have hj : cRef i (-2) 1 101 = i 101 := rfl
    generalize cRef i (-2) 1 = J at hf hj ⊢
    exact e_X12_bloom (s_X12_bloom _ _ _ (by omega) ⟨h1, fun _ => h2, fun _ _ => h0, fun _ _ => by rw [hj]; exact ⟨by omega, by omega⟩, fun y => by omega, fun y => by rw [hj] at y; omega, fun _ => hf⟩)
theorem st_turn (hd : 90 ≤ d) (hk : k ≤ 100000) (hI : Inv w k i l) {p0 p1 p2 : Int} (h0 : rg p0) (h1 : rg p1) (h2 : rg p2) : BoC w k d X_X11_turn X_X12_turn [vI p0, vI p1, vI p2] i l := by
  obtain ⟨A, hA⟩ := hI
  obtain ⟨d, rfl, hd1⟩ := d_pos (k := 89) hd
  have tw := hA.1.1
  have t7 := tw.1.2.2.2.2.2.2
  have kp : KP (i 101) := hA.1.2.1
  have h308 := kp.1.1.2.1
  have hc := chg_rg hA hk
  have e7 : i 7 9 = i 101 308 := t7.2.1
  refine e_X11_turn (s_X11_turn _ _ _ (by omega) ⟨h1, fun z => ⟨z.1, by omega⟩, fun _ => h2, fun _ _ => h0, fun z => ?_, fun z => ⟨⟨by omega, by omega⟩, ⟨by omega, by omega⟩, h2, ?_⟩, fun z => ?_⟩)
  · refine sp_X11_refuse (by omega) r1 (ref_rg hA hk r1) ?_
    have hf := ref2 (d := d) hA hk (by omega) r1
    have hj : cRef i (-1) 0 101 = i 101 := rfl
    generalize cRef i (-1) 0 = J at hf hj ⊢
    have no : ¬ ((0 ≤ p1 ∧ p1 ≤ 2) ∧ (0 ≤ p2 ∧ p2 ≤ (if p1 = 2 then 99 else 1023))) := fun y => by
      rcases z with z | z
      · exact z y.1
      · rw [hV_most y.1] at z; exact z y.2
    exact e_X12_turn (s_X12_turn _ _ _ (by omega) ⟨h1, fun q => ⟨h2, fun _ => h0, fun _ => by rw [hj]; exact ⟨by omega, by omega⟩, fun y => absurd ⟨q, y.1⟩ no, fun y => absurd ⟨q, y.1⟩ no, fun _ => hf⟩, fun _ => hf⟩)
  · rw [hV_most z.1] at z
    rw [e7] at z
    have ev : i 9 (p0 * 3 + p1) = i 101 (80 + 3 * p0 + p1) := TW_view tw.1 ⟨by omega, by omega⟩ ⟨by omega, by omega⟩
    have hr : rg (i 9 (p0 * 3 + p1)) := by rw [ev]; exact kRg2 kp.1 (by omega) (by omega) (by omega)
    refine sp_X11_changed (by omega) hr hc.1 ?_
    have hj : cChg (u2 i 9 (p0 * 3 + p1) p2) 101 = i 101 := rfl
    refine e_X12_turn (s_X12_turn _ _ _ (by omega) ⟨h1, fun q => ⟨h2, fun _ => h0, fun _ => by rw [hj]; exact ⟨by omega, by omega⟩, fun _ => ?_, fun y => by rw [hj] at y; omega, fun y => absurd z.2.1 y⟩, fun y => absurd z.1 y⟩)
    have eq : 80 + 3 * p0 + p1 = 80 + (p0 * 3 + p1) := by omega
    rw [eq]
    refine sp_X12_replaces (by omega) ⟨by omega, by omega⟩ h2 (kRg2 kp.1 (by omega) (by omega) (by omega)) hc.2 ⟨?_, ?_⟩
    · show i 101 (80 + (p0 * 3 + p1)) = i 9 (p0 * 3 + p1)
      rw [ev]; congr 1; omega
    · have e3 : u2 (cChg (u2 i 9 (p0 * 3 + p1) p2)) 101 (80 + (p0 * 3 + p1)) p2 101 = upK (i 101) (80 + (p0 * 3 + p1)) p2 := u2_101 _ _ _ _
      refine chg_end2 hA (fun a ha => u2_other _ _ _ (by omega)) rfl rfl (fun a ha => u2_other _ _ _ ha) ?_ ?_ ?_ ?_
      · rw [e3]; exact TWg_u2 ⟨by omega, by omega⟩ tw
      · rw [e3]
        refine KP_up kp (by omega) (by omega) (by omega) ?_
        have := kVw (t := p0) (x := p1) ⟨by omega, by omega⟩ ⟨by omega, by omega⟩
        rw [show p0 * 3 + p1 = 3 * p0 + p1 by omega, this.1, this.2]
        exact z.2.1
      · rw [e3, upK_ne (by omega)]
      · intro p hp; rw [e3, upK_ne (by omega)]
  · rw [hV_most z.1] at z
    refine sp_X11_refuse (by omega) r2 (ref_rg hA hk r2) ?_
    have hf := ref2 (d := d) hA hk (by omega) r2
    have hj : cRef i (-2) 1 101 = i 101 := rfl
    generalize cRef i (-2) 1 = J at hf hj ⊢
    exact e_X12_turn (s_X12_turn _ _ _ (by omega) ⟨h1, fun q => ⟨h2, fun _ => h0, fun _ => by rw [hj]; exact ⟨by omega, by omega⟩, fun y => by rw [hj] at y; omega, fun _ => hf, fun y => absurd z.2.1 y⟩, fun y => absurd z.1 y⟩)
theorem st_coat (hd : 90 ≤ d) (hk : k ≤ 100000) (hI : Inv w k i l) {p0 p1 : Int} (h0 : rg p0) (h1 : rg p1) : BoC w k d X_X11_coat X_X12_coat [vI p0, vI p1] i l := by
  obtain ⟨A, hA⟩ := hI
  obtain ⟨d, rfl, hd1⟩ := d_pos (k := 89) hd
  have tw := hA.1.1
  have t7 := tw.1.2.2.2.2.2.2
  have kp : KP (i 101) := hA.1.2.1
  have h309 := kp.1.1.2.2.1
  have hc := chg_rg hA hk
  have e7 : i 7 10 = i 101 309 := t7.2.2.1
  refine e_X11_coat (s_X11_coat _ _ (by omega) ⟨h1, fun _ => h0, fun z => ⟨⟨by omega, by omega⟩, ?_⟩, fun z => ?_, fun z => ?_⟩)
  · rw [e7] at z
    have ev : i 10 p0 = i 101 (114 + p0) := tw.1.2.2.1 p0 (by omega) (by omega)
    refine sp_X11_changed (by omega) (by rw [ev]; exact kRg2 kp.1 (by omega) (by omega) (by omega)) hc.1 ?_
    have hj : cChg (u2 i 10 p0 p1) 101 = i 101 := rfl
    refine e_X12_coat (s_X12_coat _ _ (by omega) ⟨h1, fun _ => h0, fun _ => by rw [hj]; exact ⟨by omega, by omega⟩, fun _ => ?_, fun y => by rw [hj] at y; omega, fun y => absurd z.1 y⟩)
    refine sp_X12_replaces (by omega) ⟨by omega, by omega⟩ h1 (kRg2 kp.1 (by omega) (by omega) (by omega)) hc.2 ⟨ev.symm, ?_⟩
    have e3 : u2 (cChg (u2 i 10 p0 p1)) 101 (114 + p0) p1 101 = upK (i 101) (114 + p0) p1 := u2_101 _ _ _ _
    refine chg_end2 hA (fun a ha => u2_other _ _ _ (by omega)) rfl rfl (fun a ha => u2_other _ _ _ ha) ?_ ?_ ?_ ?_
    · rw [e3]; exact TWg_u3 ⟨by omega, by omega⟩ tw
    · rw [e3]
      refine KP_up kp (by omega) (by omega) (by omega) ?_
      unfold kLo kHi
      rw [if_neg (by omega), if_neg (by omega), if_neg (by omega), if_neg (by omega), if_pos (by omega)]
      exact z.1
    · rw [e3, upK_ne (by omega)]
    · intro p hp; rw [e3, upK_ne (by omega)]
  · rw [e7] at z
    refine sp_X11_refuse (by omega) r2 (ref_rg hA hk r2) ?_
    have hf := ref2 (d := d) hA hk (by omega) r2
    have hj : cRef i (-2) 1 101 = i 101 := rfl
    generalize cRef i (-2) 1 = J at hf hj ⊢
    exact e_X12_coat (s_X12_coat _ _ (by omega) ⟨h1, fun _ => h0, fun _ => by rw [hj]; exact ⟨by omega, by omega⟩, fun y => by rw [hj] at y; omega, fun _ => hf, fun y => absurd z.1 y⟩)
  · refine sp_X11_refuse (by omega) r1 (ref_rg hA hk r1) ?_
    have hf := ref2 (d := d) hA hk (by omega) r1
    have hj : cRef i (-1) 0 101 = i 101 := rfl
    generalize cRef i (-1) 0 = J at hf hj ⊢
    exact e_X12_coat (s_X12_coat _ _ (by omega) ⟨h1, fun _ => h0, fun _ => by rw [hj]; exact ⟨by omega, by omega⟩, fun y => absurd y.1 z, fun y => absurd y.1 z, fun _ => hf⟩)
theorem st_month (hd : 90 ≤ d) (hk : k ≤ 100000) (hI : Inv w k i l) {p0 : Int} (h0 : rg p0) : BoC w k d X_X11_month X_X12_month [vI p0] i l := by
  obtain ⟨A, hA⟩ := hI
  obtain ⟨d, rfl, hd1⟩ := d_pos (k := 89) hd
  have tw := hA.1.1
  have t7 := tw.1.2.2.2.2.2.2
  have kp : KP (i 101) := hA.1.2.1
  have hc := chg_rg hA hk
  have e7 : i 7 13 = i 101 313 := t7.2.2.2.2.2.1
  refine e_X11_month (s_X11_month _ (by omega) ⟨h0, fun z => ?_, fun z => ?_⟩)
  · refine sp_X11_changed (by omega) (by show rg (i 7 13); rw [e7]; exact kRg2 kp.1 (by omega) (by omega) (by omega)) hc.1 ?_
    refine e_X12_month (s_X12_month _ (by omega) ⟨h0, fun _ => ?_, fun y => by omega⟩)
    refine sp_X12_replaces (by omega) ⟨by omega, by omega⟩ h0 (kRg2 kp.1 (by omega) (by omega) (by omega)) hc.2 ⟨e7.symm, ?_⟩
    have e3 : u2 (cChg (u2 i 7 13 p0)) 101 313 p0 101 = upK (i 101) 313 p0 := u2_101 _ _ _ _
    refine chg_end2 hA (fun a ha => u2_other _ _ _ (by omega)) rfl rfl (fun a ha => u2_other _ _ _ ha) ?_ ?_ ?_ ?_
    · rw [e3]; exact TWg_f (Or.inr (Or.inr (Or.inr (Or.inr (Or.inr (Or.inl ⟨rfl, rfl⟩)))))) tw
    · rw [e3]
      refine KP_up kp (by omega) (by omega) (by omega) ?_
      show 0 ≤ p0 ∧ p0 ≤ 11
      omega
    · rw [e3, upK_ne (by omega)]
    · intro p hp; rw [e3, upK_ne (by omega)]
  · refine sp_X11_refuse (by omega) r1 (ref_rg hA hk r1) ?_
    have hf := ref2 (d := d) hA hk (by omega) r1
    generalize cRef i (-1) 0 = J at hf ⊢
    exact e_X12_month (s_X12_month _ (by omega) ⟨h0, fun y => by omega, fun _ => hf⟩)
theorem st_force (hd : 90 ≤ d) (hk : k ≤ 100000) (hI : Inv w k i l) {p0 : Int} (h0 : rg p0) : BoC w k d X_X11_force X_X12_force [vI p0] i l := by
  obtain ⟨A, hA⟩ := hI
  obtain ⟨d, rfl, hd1⟩ := d_pos (k := 89) hd
  have tw := hA.1.1
  have t7 := tw.1.2.2.2.2.2.2
  have kp : KP (i 101) := hA.1.2.1
  have h311 := kp.1.1.2.2.2.2.1
  have hc := chg_rg hA hk
  have e12 : i 7 12 = i 101 311 := t7.2.2.2.2.1
  have e14 : i 7 14 = i 101 312 := t7.2.2.2.2.2.2
  have hr : rg (i 101 312) := by
    rcases kp.2.2 with z | z
    · rw [z]; exact rg_lit rfl
    · exact ⟨by omega, by omega⟩
  refine e_X11_force (s_X11_force _ (by omega) ⟨h0, fun z => ⟨h0, ?_⟩, fun z => ?_⟩)
  · rw [e12] at z
    refine sp_X11_changed (by omega) (by rw [e14]; exact hr) hc.1 ?_
    have hj : cChg (u2 i 7 14 p0) 101 = i 101 := rfl
    refine e_X12_force (s_X12_force _ (by omega) ⟨h0, fun _ => by rw [hj]; exact ⟨by omega, by omega⟩, fun _ => ?_, fun y => by rw [hj] at y; omega⟩)
    refine sp_X12_replaces (by omega) ⟨by omega, by omega⟩ h0 hr hc.2 ⟨e14.symm, ?_⟩
    have e3 : u2 (cChg (u2 i 7 14 p0)) 101 312 p0 101 = upK (i 101) 312 p0 := u2_101 _ _ _ _
    refine chg_end2 hA (fun a ha => u2_other _ _ _ (by omega)) rfl rfl (fun a ha => u2_other _ _ _ ha) ?_ ?_ ?_ ?_
    · rw [e3]; exact TWg_f (Or.inr (Or.inr (Or.inr (Or.inr (Or.inr (Or.inr ⟨rfl, rfl⟩)))))) tw
    · rw [e3]
      refine ⟨kOK_of (fun p q0 q1 q2 => by rw [upK_ne q2]; exact kBd_of kp.1 p q0 q1 q2), SyK_cg (fun p q0 q1 q2 => upK_ne (by omega)) kp.2.1, ?_⟩
      unfold FrK
      rw [upK_self, upK_ne (by omega)]
      exact z
    · rw [e3, upK_ne (by omega)]
    · intro p hp; rw [e3, upK_ne (by omega)]
  · rw [e12] at z
    refine sp_X11_refuse (by omega) r2 (ref_rg hA hk r2) ?_
    have hf := ref2 (d := d) hA hk (by omega) r2
    have hj : cRef i (-2) 1 101 = i 101 := rfl
    generalize cRef i (-2) 1 = J at hf hj ⊢
    exact e_X12_force (s_X12_force _ (by omega) ⟨h0, fun _ => by rw [hj]; exact ⟨by omega, by omega⟩, fun y => by rw [hj] at y; omega, fun _ => hf⟩)
end
