/-! ONE CALL on both sides: those that only ask -/
section
variable {w : Wd} {d k : Nat} {i : IM} {l : LM}
abbrev BoC (w : Wd) (k d : Nat) (X Y : MI) (vs : List MV) (i : IM) (l : LM) : Prop := cI w d X (vR (some 6) :: vs) i l (fun v i1 l1 => cI w d Y (vR (some 99) :: vs) i1 l1 (fun v' i2 l2 => v' = v ∧ Inv w (k + 1) i2 l2))
theorem mSees_K {i i' : IM} (e : i' 101 = i 101) : mSees i' = mSees i := by funext cs v mi x; unfold mSees; rw [e, mSeen_K e, hB_K e]
theorem fmGo_K {i i' : IM} (e : i' 101 = i 101) (cs : List Cla) (W : Nat) : ∀ n m, fmGo i' cs W n m = fmGo i cs W n m
  | 0, _ => rfl
  | n + 1, m => by unfold fmGo; rw [fwGo_K e, fmGo_K e cs W n (m + 1)]
theorem mJudge_K {i i' : IM} (e : i' 101 = i 101) : mJudge i' = mJudge i := by funext cs x; unfold mJudge; rw [e, mTotal_K e, fmGo_K e]
theorem nStep_K {i i' : IM} (e : i' 101 = i 101) : nStep i' = nStep i := by funext cs a b s; unfold nStep nLo nHi; rw [mLow_K e, nCnt_K e, e]
theorem nIn_K {i i' : IM} (e : i' 101 = i 101) (cs : List Cla) (a : Nat) : ∀ r b s, nIn i' cs a r b s = nIn i cs a r b s
  | 0, _, _ => rfl
  | r + 1, b, s => by unfold nIn; rw [nStep_K e, nIn_K e cs a r]
theorem nOut_K {i i' : IM} (e : i' 101 = i 101) (cs : List Cla) : ∀ r a s, nOut i' cs r a s = nOut i cs r a s
  | 0, _, _ => rfl
  | r + 1, a, s => by unfold nOut; rw [nIn_K e, nOut_K e cs r]
theorem mNear_K {i i' : IM} (e : i' 101 = i 101) : mNear i' = mNear i := by funext cs x; unfold mNear nAll; rw [nOut_K e]
theorem mSoon_K {i i' : IM} (e : i' 101 = i 101) : mSoon i' = mSoon i := by funext cs p m f t; unfold mSoon snI isW mbK; simp only [e, sS_K e, mbF_K e]
theorem mWay_K {i i' : IM} (e : i' 101 = i 101) : mWay i' = mWay i := by funext cs p m f t a; unfold mWay snI isW mbK; simp only [e, sS_K e, mbF_K e]
theorem mFile_K {i i' : IM} (e : i' 101 = i 101) : mFile i' = mFile i := by funext k L x; unfold mFile; rw [e, clP_K e]
theorem dSum_K {i i' : IM} (e : i' 101 = i 101) : dSum i' = dSum i := by funext cs s M; unfold dSum dFail; rw [e, oB_K e]
theorem mBest_K {i i' : IM} (e : i' 101 = i 101) : mBest i' = mBest i := by funext cs p q; unfold mBest; rw [enX_K e]
theorem mPaint_K {i i' : IM} (e : i' 101 = i 101) : mPaint i' = mPaint i := by funext cs p q; unfold mPaint; rw [enX_K e, e, mColour_K e]
theorem mFewest_K {i i' : IM} (e : i' 101 = i 101) : mFewest i' = mFewest i := by funext cs p q; unfold mFewest; rw [enX_K e]
theorem mMend_K {i i' : IM} (e : i' 101 = i 101) : mMend i' = mMend i := by funext cs p q; unfold mMend; rw [enX_K e, e, mColour_K e]
theorem mShut_K {i i' : IM} (e : i' 101 = i 101) : mShut i' = mShut i := by funext cs p; unfold mShut; rw [enX_K e]
theorem mBars_K {i i' : IM} (e : i' 101 = i 101) : mBars i' = mBars i := by funext cs p; unfold mBars; rw [enX_K e, e]
theorem mThird_K {i i' : IM} (e : i' 101 = i 101) : mThird i' = mThird i := by funext cs p q; unfold mThird; rw [enX_K e, e]
/-- the end of a call that only asks -/
def cro (i i1 : IM) : Prop := ∀ a, (a < 41 ∨ a = 94 ∨ a = 95 ∨ 99 ≤ a) → i1 a = i a
theorem ro_end {A : Nat → List Cla} {i1 i2 : IM} {l1 : LM} (hI : InA w k i l A) (hc : cro i i1) (hcc : CHs i1 l1 (inForce (i 101) A)) (hm : ∀ a, (a < 99 ∨ (100 ≤ a ∧ a ≤ 105) ∨ 124 ≤ a) → i2 a = i1 a) (h99 : ∀ x : Int, (x = 0 ∨ x = 1 ∨ x = 6 ∨ x = 10 ∨ x = 11 ∨ x = 50) → i2 99 x = i1 99 x) (hp : PnC i2 (inForce (i 101) A)) (hB : limB i2 (8 + 2 * ((k : Int) + 1))) : Inv w (k + 1) i2 l1 :=
  ⟨A, InA_ro hI (fun a x => by rw [hm a (by omega), hc a (by omega)]) (fun x hx => by rw [h99 x hx, hc 99 (by omega)]) (CHs_eq (fun a x => hm a (by omega)) (fun _ _ => rfl) hcc) hp hB⟩
theorem InA_lim {A : Nat → List Cla} (hI : InA w k i l A) : limB i (8 + 2 * (k : Int)) := hI.2.2.2.2.1.2.2.2
/-- the model only asked its LAWS -/
theorem ro_scr {A : Nat → List Cla} {i1 i2 : IM} {l1 : LM} (hI : InA w k i l A) (hc : cro i i1) (hcc : CHs i1 l1 (inForce (i 101) A)) (hm : ∀ (a : Nat) (x : Int), (a < 99 ∨ (100 ≤ a ∧ a ≤ 105) ∨ 124 ≤ a ∨ a = 112 ∨ (117 ≤ a ∧ a ≤ 119) ∨ (a = 99 ∧ (x = 0 ∨ x = 1 ∨ x = 6 ∨ x = 10 ∨ x = 11 ∨ x = 50 ∨ (32 ≤ x ∧ x ≤ 42)))) → i2 a x = i1 a x) : Inv w (k + 1) i2 l1 := by
  have hm' : ∀ a, (a < 99 ∨ (100 ≤ a ∧ a ≤ 105) ∨ 124 ≤ a ∨ a = 112 ∨ (117 ≤ a ∧ a ≤ 119)) → i2 a = i1 a := fun a h => funext fun x => hm a x (by omega)
  refine ro_end hI hc hcc (fun a h => hm' a (by omega)) (fun x hx => hm 99 x (by omega)) ?_ ?_
  · exact PnC_eq (fun x hx => by rw [hm 99 x (by omega), hc 99 (by omega)]) (fun a h => by rw [hm' a (by omega), hc a (by omega)]) hI.2.1.2
  · exact limB_up (limB_eq (by rw [hm' 112 (by omega), hc 112 (by omega)]) (InA_lim hI)) (by omega)
theorem scrM_ro {i1 i2 : IM} (h : scrM i1 i2) : ∀ (a : Nat) (x : Int), (a < 99 ∨ (100 ≤ a ∧ a ≤ 105) ∨ 124 ≤ a ∨ a = 112 ∨ (117 ≤ a ∧ a ≤ 119) ∨ (a = 99 ∧ (x = 0 ∨ x = 1 ∨ x = 6 ∨ x = 10 ∨ x = 11 ∨ x = 50 ∨ (32 ≤ x ∧ x ≤ 42)))) → i2 a x = i1 a x := fun a x hx => h a x (by omega) (by omega)
theorem cro_v {i i1 : IM} (h : vfr i i1) : cro i i1 := fun a x => h a (by omega)
theorem CHs_v {cs : List Cla} {i1 : IM} {l1 : LM} (h : CHs i l cs) (hv : vfr i i1) (hp : psc l l1) (hs : SgC i1 cs) : CHs i1 l1 cs := by
  obtain ⟨-, h2, h3, h4, h5⟩ := h
  have e7 := hv 7 (by omega)
  have e101 := hv 101 (by omega)
  exact ⟨hs, WkC_eq (by rw [e7]) (hv 90 (by omega)) (hv 93 (by omega)) e101 h2, CvC_eq (fun a x => hv a (by omega)) (fun a x => hp a (by omega)) h3, PtC_eq e7 (hv 63 (by omega)) (hv 72 (by omega)) e101 h4, MdC_eq e7 (hv 83 (by omega)) (hv 89 (by omega)) e101 (hp 83 (by omega)) h5⟩
theorem CHs_k {cs : List Cla} {i1 : IM} {l1 : LM} (h : CHs i l cs) (hv : kfr i i1) (hp : psc l l1) (hs : SgC i1 cs) (hw : WkC i1 cs) : CHs i1 l1 cs := by
  obtain ⟨-, -, h3, h4, h5⟩ := h
  have e7 := hv 7 (by omega) (by omega)
  have e101 := hv 101 (by omega) (by omega)
  exact ⟨hs, hw, CvC_eq (fun a x => hv a (by omega) (by omega)) (fun a x => hp a (by omega)) h3, PtC_eq e7 (hv 63 (by omega) (by omega)) (hv 72 (by omega) (by omega)) e101 h4, MdC_eq e7 (hv 83 (by omega) (by omega)) (hv 89 (by omega) (by omega)) e101 (hp 83 (by omega)) h5⟩
theorem CHs_p {cs : List Cla} {i1 : IM} {l1 : LM} (h : CHs i l cs) (hv : pgf i i1) (h3 : CvC i1 l1 cs) (h4 : PtC i1 cs) (h5 : MdC i1 l1 cs) : CHs i1 l1 cs := by
  obtain ⟨h1, h2, -, -, -⟩ := h
  have e7 := hv 7 (by omega)
  have e101 := hv 101 (by omega)
  exact ⟨SgC_eq (by rw [e7]) (fun a x y => hv a (by omega)) e101 h1, WkC_eq (by rw [e7]) (hv 90 (by omega)) (hv 93 (by omega)) e101 h2, h3, h4, h5⟩
theorem st_sees (hd : 90 ≤ d) (hI : Inv w k i l) {p0 p1 p2 : Int} (h0 : rg p0) (h1 : rg p1) (h2 : rg p2) : BoC w k d X_X11_sees X_X12_sees [vI p0, vI p1, vI p2] i l := by
  obtain ⟨A, hA⟩ := hI
  refine sp_X11_sees (by omega) (TK_Cx hA.1) hA.2.1.1.1 h0 h1 h2 (fun i1 l1 v1 g1 s1 => ?_)
  have e101 := v1 101 (by omega)
  refine sp_X12_sees (A := A) (by omega) (by rw [e101]; exact hA.1.2.1.1) (by rw [e101]; exact TK_fM hA.1) (by rw [e101]; exact forceM_dep (TK_fM hA.1)) h0 h1 h2 (fun i2 s2 => ⟨by rw [e101, mSees_K e101], ?_⟩)
  exact ro_scr hA (cro_v v1) (CHs_v hA.2.1.1 v1 g1 s1) (scrM_ro s2)
theorem st_judge (hd : 90 ≤ d) (hI : Inv w k i l) {p0 : Int} (h0 : rg p0) : BoC w k d X_X11_judge X_X12_judge [vI p0] i l := by
  obtain ⟨A, hA⟩ := hI
  refine sp_X11_judge (by omega) (TK_Cx hA.1) hA.2.1.1.1 h0 (fun i1 l1 v1 g1 s1 => ?_)
  have e101 := v1 101 (by omega)
  refine sp_X12_judge (A := A) (by omega) (by rw [e101]; exact hA.1.2.1.1) (by rw [e101]; exact TK_fM hA.1) (by rw [e101]; exact forceM_dep (TK_fM hA.1)) h0 (fun i2 s2 => ⟨by rw [e101, mJudge_K e101], ?_⟩)
  exact ro_scr hA (cro_v v1) (CHs_v hA.2.1.1 v1 g1 s1) (scrM_ro s2)
theorem st_bad (hd : 90 ≤ d) (hI : Inv w k i l) {p0 : Int} (h0 : rg p0) : BoC w k d X_X11_bad X_X12_bad [vI p0] i l := by
  obtain ⟨A, hA⟩ := hI
  refine sp_X11_bad (by omega) (TK_Cx hA.1) hA.2.1.1.1 h0 (fun i1 l1 v1 g1 s1 => ?_)
  have e101 := v1 101 (by omega)
  refine sp_X12_bad (A := A) (by omega) (by rw [e101]; exact hA.1.2.1.1) (by rw [e101]; exact TK_fM hA.1) (by rw [e101]; exact forceM_dep (TK_fM hA.1)) h0 (fun i2 s2 => ⟨by rw [e101, mBad_K e101], ?_⟩)
  exact ro_scr hA (cro_v v1) (CHs_v hA.2.1.1 v1 g1 s1) (scrM_ro s2)
theorem st_near (hd : 90 ≤ d) (hI : Inv w k i l) {p0 : Int} (h0 : rg p0) : BoC w k d X_X11_near X_X12_near [vI p0] i l := by
  obtain ⟨A, hA⟩ := hI
  refine sp_X11_near (by omega) (TK_Cx hA.1) hA.2.1.1.1 h0 (fun i1 l1 v1 g1 s1 => ?_)
  have e101 := v1 101 (by omega)
  refine sp_X12_near (A := A) (by omega) (by rw [e101]; exact hA.1.2.1.1) (by rw [e101]; exact TK_fM hA.1) (by rw [e101]; exact forceM_dep (TK_fM hA.1)) h0 (fun i2 s2 => ⟨by rw [e101, mNear_K e101], ?_⟩)
  exact ro_scr hA (cro_v v1) (CHs_v hA.2.1.1 v1 g1 s1) (scrM_ro s2)
theorem st_soon (hd : 90 ≤ d) (hI : Inv w k i l) {p0 p1 p2 p3 : Int} (h0 : rg p0) (h1 : rg p1) (h2 : rg p2) (h3 : rg p3) : BoC w k d X_X11_soon X_X12_soon [vI p0, vI p1, vI p2, vI p3] i l := by
  obtain ⟨A, hA⟩ := hI
  refine sp_X11_soon (by omega) (TK_Cx hA.1) hA.2.1.1.1 hA.2.1.1.2.1 (TK_sym hA.1) h0 h1 h2 h3 (fun i1 l1 v1 g1 s1 w1 => ?_)
  have e101 := v1 101 (by omega) (by omega)
  refine sp_X12_soon (A := A) (by omega) (by rw [e101]; exact hA.1.2.1.1) (by rw [e101]; exact TK_fM hA.1) (by rw [e101]; exact forceM_dep (TK_fM hA.1)) h0 h1 h2 h3 (fun i2 s2 => ⟨by rw [e101, mSoon_K e101], ?_⟩)
  exact ro_scr hA (fun a x => v1 a (by omega) (by omega)) (CHs_k hA.2.1.1 v1 g1 s1 w1) (fun a x hx => s2 a x (by omega) (by omega) (by omega) (by omega))
theorem st_way (hd : 90 ≤ d) (hI : Inv w k i l) {p0 p1 p2 p3 p4 : Int} (h0 : rg p0) (h1 : rg p1) (h2 : rg p2) (h3 : rg p3) (h4 : rg p4) : BoC w k d X_X11_way X_X12_way [vI p0, vI p1, vI p2, vI p3, vI p4] i l := by
  obtain ⟨A, hA⟩ := hI
  refine sp_X11_way (by omega) (TK_Cx hA.1) hA.2.1.1.1 hA.2.1.1.2.1 (TK_sym hA.1) h0 h1 h2 h3 h4 (fun i1 l1 v1 g1 s1 w1 => ?_)
  have e101 := v1 101 (by omega) (by omega)
  refine sp_X12_way (A := A) (by omega) (by rw [e101]; exact hA.1.2.1.1) (by rw [sS_K e101]; exact TK_sym hA.1) (by rw [e101]; exact TK_fM hA.1) (by rw [e101]; exact forceM_dep (TK_fM hA.1)) h0 h1 h2 h3 h4 (fun i2 s2 => ⟨by rw [e101, mWay_K e101], ?_⟩)
  exact ro_scr hA (fun a x => v1 a (by omega) (by omega)) (CHs_k hA.2.1.1 v1 g1 s1 w1) (fun a x hx => s2 a x (by omega) (by omega) (by omega) (by omega))
theorem st_file (hd : 90 ≤ d) (hI : Inv w k i l) {p0 p1 p2 : Int} (h0 : rg p0) (h1 : rg p1) (h2 : rg p2) : BoC w k d X_X11_file X_X12_file [vI p0, vI p1, vI p2] i l := by
  obtain ⟨A, hA⟩ := hI
  refine sp_X11_file (by omega) (TK_Cx hA.1) h0 h1 h2 (fun i1 v1 => ?_)
  have e101 := v1 101 (by omega) (by omega) (by omega)
  refine sp_X12_file (by omega) (by rw [e101]; exact hA.1.2.1.1) h0 h1 h2 (fun i2 s2 => ⟨by rw [mFile_K e101], ?_⟩)
  exact ro_scr hA (fun a x => v1 a (by omega) (by omega) (by omega)) (CHs_eq (fun a x => v1 a (by omega) (by omega) (by omega)) (fun _ _ => rfl) hA.2.1.1) (fun a x hx => s2 a x (by omega) (by omega) (by omega))
/-! those that ask for PAINTINGS -/
theorem ro_pt {A : Nat → List Cla} {i1 i2 : IM} {l1 : LM} (hI : InA w k i l A) (hc : pgf i i1) (hcv : CvC i1 l1 (inForce (i 101) A)) (hpt : PtC i1 (inForce (i 101) A)) (hmd : MdC i1 l1 (inForce (i 101) A)) (hm : ptf i1 i2) (hp : PnC i2 (inForce (i 101) A)) (hB : limB i2 (8 + 2 * ((k : Int) + 1))) : Inv w (k + 1) i2 l1 :=
  ro_end hI (fun a x => hc a (by omega)) (CHs_p hI.2.1.1 hc hcv hpt hmd) (fun a x => ptf_c hm (by omega) (by omega)) (fun x hx => hm 99 x (by omega) (by omega)) hp hB
theorem PnC_pg {i i1 : IM} {cs : List Cla} (hc : pgf i i1) (h : PnC i cs) : PnC i1 cs := PnC_eq (fun x _ => by rw [hc 99 (by omega)]) (fun a x => hc a (by omega)) h
theorem limB_pg {i i1 : IM} {B : Int} (hc : pgf i i1) (h : limB i B) : limB i1 B := limB_eq (hc 112 (by omega)) h
theorem st_best (hd : 90 ≤ d) (hk : k ≤ 100000) (hI : Inv w k i l) {p0 p1 : Int} (h0 : rg p0) (h1 : rg p1) : BoC w k d X_X11_best X_X12_best [vI p0, vI p1] i l := by
  obtain ⟨A, hA⟩ := hI
  obtain ⟨c1, c2, c3, c4, c5⟩ := hA.2.1.1
  refine sp_X11_best (by omega) (TK_Cx hA.1) c3 c4 c5 h0 h1 (fun i1 l1 f g3 g4 g5 => ?_)
  have e101 := f 101 (by omega)
  refine sp_X12_best (A := A) (by omega) (by rw [e101]; exact hA.1.2.1.1) (by rw [e101]; exact TK_fM hA.1) (B := 8 + 2 * (k : Int)) (by omega) (by omega) (limB_pg f (InA_lim hA)) (by rw [e101]; exact PnC_pg f hA.2.1.2) h0 h1 (fun i2 s2 b2 p2 => ⟨by rw [e101, mBest_K e101], ?_⟩)
  rw [e101] at p2
  exact ro_pt hA f g3 g4 g5 s2 p2 (limB_up b2 (by omega))
theorem st_paint (hd : 90 ≤ d) (hk : k ≤ 100000) (hI : Inv w k i l) {p0 p1 : Int} (h0 : rg p0) (h1 : rg p1) : BoC w k d X_X11_paint X_X12_paint [vI p0, vI p1] i l := by
  obtain ⟨A, hA⟩ := hI
  obtain ⟨c1, c2, c3, c4, c5⟩ := hA.2.1.1
  refine sp_X11_paint (by omega) (TK_Cx hA.1) c3 c4 c5 h0 h1 (fun i1 l1 f g3 g4 g5 => ?_)
  have e101 := f 101 (by omega)
  refine sp_X12_paint (A := A) (by omega) (by rw [e101]; exact hA.1.2.1.1) (by rw [e101]; exact TK_fM hA.1) (B := 8 + 2 * (k : Int)) (by omega) (by omega) (limB_pg f (InA_lim hA)) (by rw [e101]; exact PnC_pg f hA.2.1.2) h0 h1 (fun i2 s2 b2 p2 => ⟨by rw [e101, mPaint_K e101], ?_⟩)
  rw [e101] at p2
  exact ro_pt hA f g3 g4 g5 s2 p2 (limB_up b2 (by omega))
theorem st_fewest (hd : 90 ≤ d) (hk : k ≤ 100000) (hI : Inv w k i l) {p0 p1 : Int} (h0 : rg p0) (h1 : rg p1) : BoC w k d X_X11_fewest X_X12_fewest [vI p0, vI p1] i l := by
  obtain ⟨A, hA⟩ := hI
  obtain ⟨c1, c2, c3, c4, c5⟩ := hA.2.1.1
  refine sp_X11_fewest (by omega) (TK_Cx hA.1) c3 c4 c5 h0 h1 (fun i1 l1 f g3 g4 g5 => ?_)
  have e101 := f 101 (by omega)
  refine sp_X12_fewest (A := A) (by omega) (by rw [e101]; exact hA.1.2.1.1) (by rw [e101]; exact TK_fM hA.1) (B := 8 + 2 * (k : Int)) (by omega) (by omega) (limB_pg f (InA_lim hA)) (by rw [e101]; exact PnC_pg f hA.2.1.2) h0 h1 (fun i2 s2 b2 p2 => ⟨by rw [e101, mFewest_K e101], ?_⟩)
  rw [e101] at p2
  exact ro_pt hA f g3 g4 g5 s2 p2 (limB_up b2 (by omega))
theorem st_mend (hd : 90 ≤ d) (hk : k ≤ 100000) (hI : Inv w k i l) {p0 p1 : Int} (h0 : rg p0) (h1 : rg p1) : BoC w k d X_X11_mend X_X12_mend [vI p0, vI p1] i l := by
  obtain ⟨A, hA⟩ := hI
  obtain ⟨c1, c2, c3, c4, c5⟩ := hA.2.1.1
  refine sp_X11_mend (by omega) (TK_Cx hA.1) c3 c4 c5 h0 h1 (fun i1 l1 f g3 g4 g5 => ?_)
  have e101 := f 101 (by omega)
  refine sp_X12_mend (A := A) (by omega) (by rw [e101]; exact hA.1.2.1.1) (by rw [e101]; exact TK_fM hA.1) (B := 8 + 2 * (k : Int)) (by omega) (by omega) (limB_pg f (InA_lim hA)) (by rw [e101]; exact PnC_pg f hA.2.1.2) h0 h1 (fun i2 s2 b2 p2 => ⟨by rw [e101, mMend_K e101], ?_⟩)
  rw [e101] at p2
  exact ro_pt hA f g3 g4 g5 s2 p2 (limB_up b2 (by omega))
theorem st_third (hd : 90 ≤ d) (hk : k ≤ 100000) (hI : Inv w k i l) {p0 p1 : Int} (h0 : rg p0) (h1 : rg p1) : BoC w k d X_X11_third X_X12_third [vI p0, vI p1] i l := by
  obtain ⟨A, hA⟩ := hI
  obtain ⟨c1, c2, c3, c4, c5⟩ := hA.2.1.1
  refine sp_X11_third (by omega) (TK_Cx hA.1) c3 c4 c5 h0 h1 (fun i1 l1 f g3 g4 g5 => ?_)
  have e101 := f 101 (by omega)
  refine sp_X12_third (A := A) (by omega) (by rw [e101]; exact hA.1.2.1.1) (by rw [e101]; exact TK_fM hA.1) (B := 8 + 2 * (k : Int)) (by omega) (by omega) (limB_pg f (InA_lim hA)) (by rw [e101]; exact PnC_pg f hA.2.1.2) h0 h1 (fun i2 s2 b2 p2 => ⟨by rw [e101, mThird_K e101], ?_⟩)
  rw [e101] at p2
  exact ro_pt hA f g3 g4 g5 s2 p2 (limB_up b2 (by omega))
theorem st_shut (hd : 90 ≤ d) (hk : k ≤ 100000) (hI : Inv w k i l) {p0 : Int} (h0 : rg p0) : BoC w k d X_X11_shut X_X12_shut [vI p0] i l := by
  obtain ⟨A, hA⟩ := hI
  obtain ⟨c1, c2, c3, c4, c5⟩ := hA.2.1.1
  refine sp_X11_shut (by omega) (TK_Cx hA.1) c3 c4 c5 h0 (fun i1 l1 f g3 g4 g5 => ?_)
  have e101 := f 101 (by omega)
  refine sp_X12_shut (A := A) (by omega) (by rw [e101]; exact hA.1.2.1.1) (by rw [e101]; exact TK_fM hA.1) (B := 8 + 2 * (k : Int)) (by omega) (by omega) (limB_pg f (InA_lim hA)) (by rw [e101]; exact PnC_pg f hA.2.1.2) h0 (fun i2 s2 b2 p2 => ⟨by rw [e101, mShut_K e101], ?_⟩)
  rw [e101] at p2
  exact ro_pt hA f g3 g4 g5 s2 p2 (limB_up b2 (by omega))
theorem st_bars (hd : 90 ≤ d) (hk : k ≤ 100000) (hI : Inv w k i l) {p0 : Int} (h0 : rg p0) : BoC w k d X_X11_bars X_X12_bars [vI p0] i l := by
  obtain ⟨A, hA⟩ := hI
  obtain ⟨c1, c2, c3, c4, c5⟩ := hA.2.1.1
  refine sp_X11_bars (by omega) (TK_Cx hA.1) c3 c4 c5 h0 (fun i1 l1 f g3 g4 g5 => ?_)
  have e101 := f 101 (by omega)
  refine sp_X12_bars (A := A) (by omega) (by rw [e101]; exact hA.1.2.1.1) (by rw [e101]; exact TK_fM hA.1) (B := 8 + 2 * (k : Int)) (by omega) (by omega) (limB_pg f (InA_lim hA)) (by rw [e101]; exact PnC_pg f hA.2.1.2) h0 (fun i2 s2 b2 p2 => ⟨by rw [e101, mBars_K e101], ?_⟩)
  rw [e101] at p2
  exact ro_pt hA f g3 g4 g5 s2 p2 (limB_up b2 (by omega))
end
