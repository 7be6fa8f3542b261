/-! ONE CALL on both sides: those that add something -/
section
variable {w : Wd} {d k : Nat} {i : IM} {l : LM}
theorem st_person (hd : 90 ≤ d) (hk : k ≤ 100000) (hI : Inv w k i l) {p0 : Int} (h0 : rg p0) : BoC w k d X_X11_person X_X12_person [vI p0] i l := by
  obtain ⟨A, hA⟩ := hI
  obtain ⟨d, rfl, hd1⟩ := d_pos (k := 89) hd
  have tw := hA.1.1
  have t7 := tw.1.2.2.2.2.2.2
  have kp : KP (i 101) := hA.1.2.1
  have h309 := kp.1.1.2.2.1
  have hc := chg_rg hA hk
  have e10 : i 7 10 = i 101 309 := t7.2.2.1
  refine e_X11_person (s_X11_person _ (by omega) ⟨h0, fun z => ⟨⟨by omega, by omega⟩, ?_, ?_⟩, fun z => ?_, fun z => ?_⟩)
  · show rg (i 7 10 + 1); exact ⟨by omega, by omega⟩
  · show cI w d X_X11_changed [vR (some 6), vI (i 7 10 + 1 - 1)] (u2 (u2 i 10 (i 7 10) p0) 7 10 (i 7 10 + 1)) l _
    rw [e10] at z
    rw [e10]
    refine sp_X11_changed (by omega) ⟨by omega, by omega⟩ hc.1 ?_
    have hj : cChg (u2 (u2 i 10 (i 101 309) p0) 7 10 (i 101 309 + 1)) 101 = i 101 := rfl
    have e9 : u2 (cChg (u2 (u2 i 10 (i 101 309) p0) 7 10 (i 101 309 + 1))) 101 (114 + i 101 309) p0 101 309 = i 101 309 := by rw [u2_at, if_neg (by omega)]; rfl
    refine e_X12_person (s_X12_person _ (by omega) ⟨h0, fun _ => ⟨fun y => by rw [hj] at y; omega, fun _ => ?_⟩, fun y => absurd z.1 y⟩)
    rw [hj, e9]
    refine ⟨⟨by omega, by omega⟩, ⟨by omega, by omega⟩, ?_⟩
    refine sp_X12_good (by omega) ⟨by omega, by omega⟩ hc.2 ⟨by omega, ?_⟩
    have e3 : u2 (u2 (cChg (u2 (u2 i 10 (i 101 309) p0) 7 10 (i 101 309 + 1))) 101 (114 + i 101 309) p0) 101 309 (i 101 309 + 1) 101 = upK (upK (i 101) (114 + i 101 309) p0) 309 (i 101 309 + 1) := by rw [u2_101, u2_101]; rfl
    refine chg_end2 (i1 := u2 (u2 i 10 (i 101 309) p0) 7 10 (i 101 309 + 1)) hA (fun a ha => by rw [u2_other _ _ _ (by omega), u2_other _ _ _ (by omega)]) rfl rfl (fun a ha => by rw [u2_other _ _ _ ha, u2_other _ _ _ ha]) ?_ ?_ ?_ ?_
    · rw [e3]; exact TWg_f (Or.inr (Or.inr (Or.inl ⟨rfl, rfl⟩))) (TWg_u3 ⟨by omega, by omega⟩ tw)
    · rw [e3]
      refine KP_up (KP_up kp (by omega) (by omega) (by omega) ?_) (by omega) (by omega) (by omega) ?_
      · unfold kLo kHi
        rw [if_neg (by omega), if_neg (by omega), if_neg (by omega), if_neg (by omega), if_pos (by omega)]
        exact z.1
      · show 0 ≤ i 101 309 + 1 ∧ i 101 309 + 1 ≤ 5
        omega
    · rw [e3, upK_ne (by omega), upK_ne (by omega)]
    · intro p hp; rw [e3, upK_ne (by omega), upK_ne (by omega)]
  · rw [e10] at z
    refine sp_X11_refuse (by omega) r5 (ref_rg hA hk r5) ?_
    have hf := ref2 (d := d) hA hk (by omega) r5
    have hj : cRef i (-5) 3 101 = i 101 := rfl
    generalize cRef i (-5) 3 = J at hf hj ⊢
    exact e_X12_person (s_X12_person _ (by omega) ⟨h0, fun _ => ⟨fun _ => hf, fun y => by rw [hj] at y; omega⟩, fun y => absurd z.1 y⟩)
  · refine sp_X11_refuse (by omega) r1 (ref_rg hA hk r1) ?_
    have hf := ref2 (d := d) hA hk (by omega) r1
    generalize cRef i (-1) 0 = J at hf ⊢
    exact e_X12_person (s_X12_person _ (by omega) ⟨h0, fun y => absurd y z, fun _ => hf⟩)
theorem st_window (hd : 90 ≤ d) (hk : k ≤ 100000) (hI : Inv w k i l) {p0 p1 p2 : Int} (h0 : rg p0) (h1 : rg p1) (h2 : rg p2) : BoC w k d X_X11_window X_X12_window [vI p0, vI p1, vI p2] i l := by
  obtain ⟨A, hA⟩ := hI
  obtain ⟨d, rfl, hd1⟩ := d_pos (k := 89) hd
  have tw := hA.1.1
  have t7 := tw.1.2.2.2.2.2.2
  have kp : KP (i 101) := hA.1.2.1
  have h308 := kp.1.1.2.1
  have hc := chg_rg hA hk
  have e9 : i 7 9 = i 101 308 := t7.2.1
  refine e_X11_window (s_X11_window _ _ _ (by omega) ⟨h0, fun _ => h1, fun _ _ => h2, fun z => ?_, fun z => ?_, fun z => ?_⟩)
  · refine sp_X11_refuse (by omega) r1 (ref_rg hA hk r1) ?_
    have hf := ref2 (d := d) hA hk (by omega) r1
    generalize cRef i (-1) 0 = J at hf ⊢
    exact e_X12_window (s_X12_window _ _ _ (by omega) ⟨h0, fun _ => h1, fun _ _ => h2, fun y => by omega, fun _ => hf⟩)
  · obtain ⟨d, rfl, hd2⟩ := d_pos (k := 88) hd1
    refine e_X9_addWindow (s_X9_addWindow _ _ _ ?_)
    show (0 ≤ i 7 9 * 3 + 0 ∧ i 7 9 * 3 + 0 < 24) ∧ rg p0 ∧ (0 ≤ i 7 9 * 3 + 1 ∧ i 7 9 * 3 + 1 < 24) ∧ rg p1 ∧ (0 ≤ i 7 9 * 3 + 2 ∧ i 7 9 * 3 + 2 < 24) ∧ rg p2 ∧ rg (i 7 9 + 1) ∧ rg (i 7 9 + 1 - 1) ∧ cI w (d + 1) X_X11_changed [vR (some 6), vI (i 7 9 + 1 - 1)] (u2 (u2 (u2 (u2 i 9 (i 7 9 * 3 + 0) p0) 9 (i 7 9 * 3 + 1) p1) 9 (i 7 9 * 3 + 2) p2) 7 9 (i 7 9 + 1)) l _
    rw [e9] at z
    rw [e9]
    refine ⟨⟨by omega, by omega⟩, h0, ⟨by omega, by omega⟩, h1, ⟨by omega, by omega⟩, h2, ⟨by omega, by omega⟩, ⟨by omega, by omega⟩, ?_⟩
    refine sp_X11_changed (by omega) ⟨by omega, by omega⟩ hc.1 ?_
    have hj : cChg (u2 (u2 (u2 (u2 i 9 (i 101 308 * 3 + 0) p0) 9 (i 101 308 * 3 + 1) p1) 9 (i 101 308 * 3 + 2) p2) 7 9 (i 101 308 + 1)) 101 = i 101 := rfl
    have fJ : ∀ a, a ≠ 101 → ∀ v1 v2 v3 v4 x1 x2 x3 x4, u2 (u2 (u2 (u2 (cChg (u2 (u2 (u2 (u2 i 9 (i 101 308 * 3 + 0) p0) 9 (i 101 308 * 3 + 1) p1) 9 (i 101 308 * 3 + 2) p2) 7 9 (i 101 308 + 1))) 101 x1 v1) 101 x2 v2) 101 x3 v3) 101 x4 v4 a = cChg (u2 (u2 (u2 (u2 i 9 (i 101 308 * 3 + 0) p0) 9 (i 101 308 * 3 + 1) p1) 9 (i 101 308 * 3 + 2) p2) 7 9 (i 101 308 + 1)) a := fun a ha v1 v2 v3 v4 x1 x2 x3 x4 => by rw [u2_other _ _ _ ha, u2_other _ _ _ ha, u2_other _ _ _ ha, u2_other _ _ _ ha]
    have h99 : cChg (u2 (u2 (u2 (u2 i 9 (i 101 308 * 3 + 0) p0) 9 (i 101 308 * 3 + 1) p1) 9 (i 101 308 * 3 + 2) p2) 7 9 (i 101 308 + 1)) 99 = i 99 := rfl
    have hce := fun i3 => chg_end2 (i3 := i3) (i1 := u2 (u2 (u2 (u2 i 9 (i 101 308 * 3 + 0) p0) 9 (i 101 308 * 3 + 1) p1) 9 (i 101 308 * 3 + 2) p2) 7 9 (i 101 308 + 1)) hA (fun a ha => by rw [u2_other _ _ _ (by omega), u2_other _ _ _ (by omega), u2_other _ _ _ (by omega), u2_other _ _ _ (by omega)]) rfl rfl
    generalize cChg (u2 (u2 (u2 (u2 i 9 (i 101 308 * 3 + 0) p0) 9 (i 101 308 * 3 + 1) p1) 9 (i 101 308 * 3 + 2) p2) 7 9 (i 101 308 + 1)) = J at hj fJ h99 hce ⊢
    refine e_X12_window (s_X12_window _ _ _ (by omega) ⟨h0, fun _ => h1, fun _ _ => h2, fun _ => ⟨fun y => by rw [hj] at y; omega, fun _ => ?_⟩, fun y => by omega⟩)
    rw [hj]
    have e8 : u2 (u2 (u2 J 101 (80 + 3 * i 101 308) p0) 101 (80 + 3 * i 101 308 + 1) p1) 101 (80 + 3 * i 101 308 + 2) p2 101 308 = i 101 308 := by
      rw [u2_at, if_neg (by omega), u2_at, if_neg (by omega), u2_at, if_neg (by omega), hj]
    rw [e8]
    refine ⟨⟨by omega, by omega⟩, ⟨by omega, by omega⟩, h1, ⟨by omega, by omega⟩, h2, ⟨by omega, by omega⟩, ?_⟩
    refine sp_X12_good (by omega) ⟨by omega, by omega⟩ ?_ ⟨by omega, ?_⟩
    · show rg (J 99 1 + 1); rw [h99]; exact hc.2
    have e3 : u2 (u2 (u2 (u2 J 101 (80 + 3 * i 101 308) p0) 101 (80 + 3 * i 101 308 + 1) p1) 101 (80 + 3 * i 101 308 + 2) p2) 101 308 (i 101 308 + 1) 101 = upK (upK (upK (upK (i 101) (80 + (i 101 308 * 3 + 0)) p0) (80 + (i 101 308 * 3 + 1)) p1) (80 + (i 101 308 * 3 + 2)) p2) 308 (i 101 308 + 1) := by
      rw [u2_101, u2_101, u2_101, u2_101, hj]
      rw [show 80 + 3 * i 101 308 = 80 + (i 101 308 * 3 + 0) by omega, show 80 + (i 101 308 * 3 + 0) + 1 = 80 + (i 101 308 * 3 + 1) by omega, show 80 + (i 101 308 * 3 + 0) + 2 = 80 + (i 101 308 * 3 + 2) by omega]
    refine hce _ (fun a ha => fJ a ha ..) ?_ ?_ ?_ ?_
    · rw [e3]; exact TWg_f (Or.inr (Or.inl ⟨rfl, rfl⟩)) (TWg_u2 ⟨by omega, by omega⟩ (TWg_u2 ⟨by omega, by omega⟩ (TWg_u2 ⟨by omega, by omega⟩ tw)))
    · rw [e3]
      have v0 := kVw (t := i 101 308) (x := 0) ⟨by omega, by omega⟩ ⟨by omega, by omega⟩
      have v1 := kVw (t := i 101 308) (x := 1) ⟨by omega, by omega⟩ ⟨by omega, by omega⟩
      have v2 := kVw (t := i 101 308) (x := 2) ⟨by omega, by omega⟩ ⟨by omega, by omega⟩
      rw [if_neg (by decide)] at v0 v1
      rw [if_pos rfl] at v2
      rw [show i 101 308 * 3 + 0 = 3 * i 101 308 + 0 by omega, show i 101 308 * 3 + 1 = 3 * i 101 308 + 1 by omega, show i 101 308 * 3 + 2 = 3 * i 101 308 + 2 by omega]
      refine KP_up (KP_up (KP_up (KP_up kp (by omega) (by omega) (by omega) (by omega)) (by omega) (by omega) (by omega) (by omega)) (by omega) (by omega) (by omega) (by omega)) (by omega) (by omega) (by omega) ?_
      show 0 ≤ i 101 308 + 1 ∧ i 101 308 + 1 ≤ 8
      omega
    · rw [e3, upK_ne (by omega), upK_ne (by omega), upK_ne (by omega), upK_ne (by omega)]
    · intro p hp; rw [e3, upK_ne (by omega), upK_ne (by omega), upK_ne (by omega), upK_ne (by omega)]
  · rw [e9] at z
    refine sp_X11_refuse (by omega) r5 (ref_rg hA hk r5) ?_
    have hf := ref2 (d := d) hA hk (by omega) r5
    have hj : cRef i (-5) 3 101 = i 101 := rfl
    generalize cRef i (-5) 3 = J at hf hj ⊢
    exact e_X12_window (s_X12_window _ _ _ (by omega) ⟨h0, fun _ => h1, fun _ _ => h2, fun _ => ⟨fun _ => hf, fun y => by rw [hj] at y; omega⟩, fun y => by omega⟩)
/-- a WALK is added, on both sides -/
def cWk (i : IM) (p m q : Int) : IM := u2 (u2 (u2 (u2 i 14 (i 7 11 * 3) p) 14 (i 7 11 * 3 + 1) m) 14 (i 7 11 * 3 + 2) q) 7 11 (i 7 11 + 1)
def mWk (i : IM) (p m q : Int) : IM := u2 (u2 (u2 (u2 i 101 (127 + 3 * i 101 310) p) 101 (127 + 3 * i 101 310 + 1) m) 101 (127 + 3 * i 101 310 + 2) q) 101 310 (i 101 310 + 1)
def wkK (K : Int → Int) (p m q : Int) : Int → Int := upK (upK (upK (upK K (127 + (K 310 * 3)) p) (127 + (K 310 * 3 + 1)) m) (127 + (K 310 * 3 + 2)) q) 310 (K 310 + 1)
theorem mWk_101 (p m q : Int) : mWk i p m q 101 = wkK (i 101) p m q := by
  unfold mWk wkK
  rw [u2_101, u2_101, u2_101, u2_101]
  rw [show 127 + 3 * i 101 310 = 127 + (i 101 310 * 3) by omega, show 127 + (i 101 310 * 3) + 1 = 127 + (i 101 310 * 3 + 1) by omega, show 127 + (i 101 310 * 3) + 2 = 127 + (i 101 310 * 3 + 2) by omega]
theorem sp_X9_addWalk (hd : 1 ≤ d) {P : IM → LM → Prop} {p m q : Int} (h0 : rg p) (h1 : rg m) (h2 : rg q) (hn : 0 ≤ i 7 11 ∧ i 7 11 < 60) (hP : P (cWk i p m q) l) : cVd w d X_X9_addWalk [vR (some 7), vI p, vI m, vI q] i l P := by
  obtain ⟨d, rfl, hd1⟩ := d_pos hd
  refine e_X9_addWalk (s_X9_addWalk _ _ _ ?_)
  exact ⟨⟨by omega, by omega⟩, h0, ⟨by omega, by omega⟩, h1, ⟨by omega, by omega⟩, h2, (show rg (i 7 11 + 1) from ⟨by omega, by omega⟩), hP⟩
theorem sp_X12_walks (hd : 1 ≤ d) {P : IM → LM → Prop} {p m q : Int} (h0 : rg p) (h1 : rg m) (h2 : rg q) (hn : 0 ≤ i 101 310 ∧ i 101 310 < 60) (hP : P (mWk i p m q) l) : cVd w d X_X12_walks [vR (some 99), vI p, vI m, vI q] i l P := by
  obtain ⟨d, rfl, hd1⟩ := d_pos hd
  refine e_X12_walks (s_X12_walks _ _ _ ?_)
  have e8 : u2 (u2 (u2 i 101 (127 + 3 * i 101 310) p) 101 (127 + 3 * i 101 310 + 1) m) 101 (127 + 3 * i 101 310 + 2) q 101 310 = i 101 310 := by
    rw [u2_at, if_neg (by omega), u2_at, if_neg (by omega), u2_at, if_neg (by omega)]
  rw [e8]
  exact ⟨⟨by omega, by omega⟩, h0, ⟨by omega, by omega⟩, h1, ⟨by omega, by omega⟩, h2, ⟨by omega, by omega⟩, hP⟩
theorem wk_TW {K : Int → Int} {p m q : Int} (tw : TWg 7 K i ∧ TLd 7 K i) (hn : 0 ≤ K 310 ∧ K 310 < 60) : TWg 7 (wkK K p m q) (cWk i p m q) ∧ TLd 7 (wkK K p m q) (cWk i p m q) := by
  have e : i 7 11 = K 310 := tw.1.2.2.2.2.2.2.2.2.2.1
  unfold wkK cWk
  rw [e]
  exact TWg_f (Or.inr (Or.inr (Or.inr (Or.inl ⟨rfl, rfl⟩)))) (TWg_u7 ⟨by omega, by omega⟩ (TWg_u7 ⟨by omega, by omega⟩ (TWg_u7 ⟨by omega, by omega⟩ tw)))
theorem kWk {t x : Int} (ht : 0 ≤ t ∧ t < 60) (hx : x = 0 ∨ x = 1 ∨ x = 2) : kLo (127 + (t * 3 + x)) = (if x = 2 then -1 else 0) ∧ kHi (127 + (t * 3 + x)) = if x = 0 then 4 else if x = 1 then 119 else 9 := by
  have e : (127 + (t * 3 + x) - 127) % 3 = x := by omega
  refine ⟨?_, ?_⟩
  · unfold kLo
    rw [e]
    by_cases c : x = 2
    · rw [if_pos ⟨by omega, by omega, c⟩, if_pos c]
    · rw [if_neg (fun z => c z.2.2), if_neg c]
  · unfold kHi
    rw [if_neg (by omega), if_neg (by omega), if_neg (by omega), if_neg (by omega), if_neg (by omega), if_pos (by omega), e]
theorem wk_KP {K : Int → Int} {p m q : Int} (kp : KP K) (hn : 0 ≤ K 310 ∧ K 310 < 60) (hp : 0 ≤ p ∧ p < 5) (hm : 0 ≤ m ∧ m < 120) (hq : -1 ≤ q ∧ q < 10) : KP (wkK K p m q) := by
  have v0 := kWk (t := K 310) (x := 0) ⟨by omega, by omega⟩ (by omega)
  have v1 := kWk (t := K 310) (x := 1) ⟨by omega, by omega⟩ (by omega)
  have v2 := kWk (t := K 310) (x := 2) ⟨by omega, by omega⟩ (by omega)
  rw [if_neg (by decide), if_pos rfl, show K 310 * 3 + 0 = K 310 * 3 by omega] at v0
  rw [if_neg (by decide), if_neg (by decide), if_pos rfl] at v1
  rw [if_pos rfl, if_neg (by decide), if_neg (by decide)] at v2
  unfold wkK
  refine KP_up (KP_up (KP_up (KP_up kp (by omega) (by omega) (by omega) (by omega)) (by omega) (by omega) (by omega) (by omega)) (by omega) (by omega) (by omega) (by omega)) (by omega) (by omega) (by omega) ?_
  show 0 ≤ K 310 + 1 ∧ K 310 + 1 ≤ 60
  omega
theorem wkK_hi {K : Int → Int} {p m q x : Int} (hn : 0 ≤ K 310 ∧ K 310 < 60) (hx : 311 ≤ x) : wkK K p m q x = K x := by
  unfold wkK
  rw [upK_ne (by omega), upK_ne (by omega), upK_ne (by omega), upK_ne (by omega)]
theorem st_walk (hd : 90 ≤ d) (hk : k ≤ 100000) (hI : Inv w k i l) {p0 p1 p2 : Int} (h0 : rg p0) (h1 : rg p1) (h2 : rg p2) : BoC w k d X_X11_walk X_X12_walk [vI p0, vI p1, vI p2] i l := by
  obtain ⟨A, hA⟩ := hI
  obtain ⟨d, rfl, hd1⟩ := d_pos (k := 89) hd
  have tw := hA.1.1
  have t7 := tw.1.2.2.2.2.2.2
  have kp : KP (i 101) := hA.1.2.1
  have h309 := kp.1.1.2.2.1
  have h310 := kp.1.1.2.2.2.1
  have hc := chg_rg hA hk
  have e10 : i 7 10 = i 101 309 := t7.2.2.1
  have e11 : i 7 11 = i 101 310 := t7.2.2.2.1
  refine e_X11_walk (s_X11_walk _ _ _ (by omega) ⟨h1, fun _ => h2, fun z => ?_, fun z => ?_⟩)
  · refine s_X11_walk_29 _ _ _ (by omega) ⟨h0, fun y => ?_, fun y => ?_, fun y => ?_⟩
    · rw [e10, e11] at y
      refine sp_X9_addWalk (by omega) h0 h1 h2 (by omega) ?_
      have ev : cWk i p0 p1 p2 7 11 = i 7 11 + 1 := by unfold cWk; exact u2_self ..
      rw [ev]
      refine sp_X11_changed (by omega) ⟨by omega, by omega⟩ (by show rg (i 7 15 + 1); exact hc.1) ?_
      have hj : cChg (cWk i p0 p1 p2) 101 = i 101 := rfl
      have h99 : cChg (cWk i p0 p1 p2) 99 = i 99 := rfl
      refine e_X12_walk (s_X12_walk _ _ _ (by omega) ⟨h1, fun _ => h2, fun _ => s_X12_walk_25 _ _ _ (by omega) ⟨h0, by rw [hj]; exact ⟨by omega, by omega⟩, fun _ => ?_, fun u => by rw [hj] at u; omega, fun u => by rw [hj] at u; omega⟩, fun u => by omega⟩)
      refine sp_X12_walks (by omega) h0 h1 h2 (by rw [hj]; omega) ?_
      have e3 : mWk (cChg (cWk i p0 p1 p2)) p0 p1 p2 101 = wkK (i 101) p0 p1 p2 := mWk_101 ..
      have ew : mWk (cChg (cWk i p0 p1 p2)) p0 p1 p2 101 310 = i 101 310 + 1 := by rw [e3]; unfold wkK; exact upK_self ..
      rw [ew]
      refine sp_X12_good (by omega) ⟨by omega, by omega⟩ (by show rg (i 99 1 + 1); exact hc.2) ⟨by omega, ?_⟩
      refine chg_end2 (i1 := cWk i p0 p1 p2) hA (fun a ha => by unfold cWk; rw [u2_other _ _ _ (by omega), u2_other _ _ _ (by omega), u2_other _ _ _ (by omega), u2_other _ _ _ (by omega)]) rfl rfl (fun a ha => by unfold mWk; rw [u2_other _ _ _ ha, u2_other _ _ _ ha, u2_other _ _ _ ha, u2_other _ _ _ ha]) ?_ ?_ ?_ ?_
      · rw [e3]; exact wk_TW tw (by omega)
      · rw [e3]; exact wk_KP kp (by omega) (by omega) (by omega) (by omega)
      · rw [e3]; exact wkK_hi (by omega) (by omega)
      · intro p hp; rw [e3]; exact wkK_hi (by omega) (by omega)
    · rw [e10, e11] at y
      refine sp_X11_refuse (by omega) r5 (ref_rg hA hk r5) ?_
      have hf := ref2 (d := d) hA hk (by omega) r5
      have hj : cRef i (-5) 3 101 = i 101 := rfl
      generalize cRef i (-5) 3 = J at hf hj ⊢
      exact e_X12_walk (s_X12_walk _ _ _ (by omega) ⟨h1, fun _ => h2, fun _ => s_X12_walk_25 _ _ _ (by omega) ⟨h0, by rw [hj]; exact ⟨by omega, by omega⟩, fun u => by rw [hj] at u; omega, fun _ => hf, fun u => by rw [hj] at u; omega⟩, fun u => by omega⟩)
    · rw [e10] at y
      refine sp_X11_refuse (by omega) r2 (ref_rg hA hk r2) ?_
      have hf := ref2 (d := d) hA hk (by omega) r2
      have hj : cRef i (-2) 1 101 = i 101 := rfl
      generalize cRef i (-2) 1 = J at hf hj ⊢
      exact e_X12_walk (s_X12_walk _ _ _ (by omega) ⟨h1, fun _ => h2, fun _ => s_X12_walk_25 _ _ _ (by omega) ⟨h0, by rw [hj]; exact ⟨by omega, by omega⟩, fun u => by rw [hj] at u; omega, fun u => by rw [hj] at u; omega, fun _ => hf⟩, fun u => by omega⟩)
  · refine sp_X11_refuse (by omega) r1 (ref_rg hA hk r1) ?_
    have hf := ref2 (d := d) hA hk (by omega) r1
    generalize cRef i (-1) 0 = J at hf ⊢
    exact e_X12_walk (s_X12_walk _ _ _ (by omega) ⟨h1, fun _ => h2, fun u => by omega, fun _ => hf⟩)
end
