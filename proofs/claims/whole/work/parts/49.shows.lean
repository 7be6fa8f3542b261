section
variable {w : Wd} {d : Nat} {i : IM} {l : LM}
theorem fCount_eq9 {e e' : LEnv} (h : eq9 e e') {cs : List Cla} (hc : hasDep cs) : fCount cs e ↔ fCount cs e' := by
  unfold fCount
  rw [lawTells_eq9 h hc, lawTells_eq9 h hc]
/-- two questions, one after the other -/
theorem two_tells (hd : 2 ≤ d) {P : Int → IM → LM → Prop} {cs : List Cla} (hf : forceC w i cs) (he : envOK i) (hP1 : ∀ i' l', cscr i i' → psc l l' → fCount cs (envOf i) → P 1 i' l') (hP0 : ∀ i' l', cscr i i' → psc l l' → ¬ fCount cs (envOf i) → P 0 i' l') : cI w d X_X0_tells [vR (some 41), vI 3] i l (fun r6 i6 l6 => (((r6 = 0) → cI w d X_X0_tells [vR (some 41), vI 2] i6 l6 (fun r9 i9 l9 => P (bI (r9 = 0)) i9 l9)) ∧ ((¬ (r6 = 0)) → P 0 i6 l6))) := by
  refine sp_X0_tells hd (h := 3) (by omega) hf he (fun v i' l' hv ht hp h3 => ⟨fun z => absurd z (by decide), fun _ => hP0 i' l' (cscr_of ht) hp (fun q => by rw [q.1] at hv; cases hv)⟩) (fun i' l' hv ht hp => ⟨fun _ => ?_, fun z => absurd rfl z⟩)
  have hE : envOf i' = envOf i := by
    unfold envOf
    rw [tsc_c ht (by decide)]
  have heO : envOK i' := fun x hx => by rw [tsc_c ht (by decide)]; exact he x hx
  refine sp_X0_tells hd (h := 2) (by omega) (forceC_kept (cscr_of ht) hf) heO (fun v i2 l2 hv2 ht2 hp2 h3 => ?_) (fun i2 l2 hv2 ht2 hp2 => ?_)
  · rw [hE] at hv2
    exact hP0 i2 l2 (cscr_tr (cscr_of ht) (cscr_of ht2)) (psc_tr hp hp2) (fun q => by rw [q.2] at hv2; cases hv2)
  · rw [hE] at hv2
    exact hP1 i2 l2 (cscr_tr (cscr_of ht) (cscr_of ht2)) (psc_tr hp hp2) ⟨hv, hv2⟩
theorem askT_env (i : IM) (p0 p1 p2 s p3 p4 : Int) : eq9 (envOf (u2 (u2 (u2 (askC i p0 p3 p4) 42 1 p1) 42 4 s) 42 3 p2)) (mkEnv p0 p1 0 p2 s p3 p4 0 0) := by
  intro x hx
  rcases lt9 hx with h | h | h | h | h | h | h | h | h <;> subst h <;> simp [envOf, u2, fillA, mkEnv]
theorem askO_env (i : IM) (p0 p1 p2 c p3 p4 : Int) : eq9 (envOf (u2 (u2 (u2 (u2 (askC i p0 p3 p4) 42 2 p2) 42 3 c) 42 7 1) 42 8 p1)) (mkEnv p0 0 p2 c 0 p3 p4 1 p1) := by
  intro x hx
  rcases lt9 hx with h | h | h | h | h | h | h | h | h <;> subst h <;> simp [envOf, u2, fillA, mkEnv]
theorem sp_X0_showsThing (hd : 4 ≤ d) {P : Int → IM → LM → Prop} {cs : List Cla} (hf : forceC w i cs) (hc : hasDep cs) {p0 p1 p2 p3 p4 : Int} (h0 : bd p0) (h1 : 0 ≤ p1 ∧ p1 < 10) (h2 : bd p2) (h3 : bd p3) (h4 : bd p4) (hs1 : bd (i 8 (p1 * 8 + 0))) (hP1 : ∀ i' l', cscr i i' → psc l l' → fCount cs (mkEnv p0 p1 0 p2 (i 8 (p1 * 8 + 0)) p3 p4 0 0) → P 1 i' l') (hP0 : ∀ i' l', cscr i i' → psc l l' → ¬ fCount cs (mkEnv p0 p1 0 p2 (i 8 (p1 * 8 + 0)) p3 p4 0 0) → P 0 i' l') : cI w d X_X0_showsThing [vR (some 41), vI p0, vI p1, vI p2, vI p3, vI p4] i l P := by
  obtain ⟨d, rfl, hd1⟩ := d_pos hd
  have b1 : bd p1 := ⟨by omega, by omega⟩
  have hs := askC_scr i p0 p3 p4
  refine e_X0_showsThing (s_X0_showsThing _ _ _ _ _ (by omega) (sp_X0_ask (by omega) (bd_rg h0) (bd_rg h3) (bd_rg h4) ⟨bd_rg b1, ⟨by omega, by omega⟩, bd_rg h2, ?_⟩))
  have e8 : u2 (askC i p0 p3 p4) 42 1 p1 8 (p1 * 8 + 0) = i 8 (p1 * 8 + 0) := by
    rw [u2_other _ _ _ (by decide), cscr_c hs (by decide) (by decide)]
  rw [e8]
  have hs2 : cscr i (u2 (u2 (u2 (askC i p0 p3 p4) 42 1 p1) 42 4 (i 8 (p1 * 8 + 0))) 42 3 p2) := cscr_tr (cscr_tr (cscr_tr hs cscr_u) cscr_u) cscr_u
  have he := askT_env i p0 p1 p2 (i 8 (p1 * 8 + 0)) p3 p4
  have hq := fCount_eq9 he hc
  exact two_tells (by omega) (forceC_kept hs2 hf) (envOK_of he (mkEnv_bd h0 b1 bd0 h2 hs1 h3 h4 bd0 bd0)) (fun i' l' a b c => hP1 i' l' (cscr_tr hs2 a) b (hq.mp c)) (fun i' l' a b c => hP0 i' l' (cscr_tr hs2 a) b (fun z => c (hq.mpr z)))
theorem sp_X0_showsOne (hd : 4 ≤ d) {P : Int → IM → LM → Prop} {cs : List Cla} (hf : forceC w i cs) (hc : hasDep cs) {p0 p1 p2 p3 p4 : Int} (h0 : bd p0) (h1 : 0 ≤ p1 ∧ p1 < 5) (h2 : bd p2) (h3 : bd p3) (h4 : bd p4) (hs1 : bd (i 10 p1)) (hP1 : ∀ i' l', cscr i i' → psc l l' → fCount cs (mkEnv p0 0 p2 (i 10 p1) 0 p3 p4 1 p1) → P 1 i' l') (hP0 : ∀ i' l', cscr i i' → psc l l' → ¬ fCount cs (mkEnv p0 0 p2 (i 10 p1) 0 p3 p4 1 p1) → P 0 i' l') : cI w d X_X0_showsOne [vR (some 41), vI p0, vI p1, vI p2, vI p3, vI p4] i l P := by
  obtain ⟨d, rfl, hd1⟩ := d_pos hd
  have b1 : bd p1 := ⟨by omega, by omega⟩
  have hs := askC_scr i p0 p3 p4
  refine e_X0_showsOne (s_X0_showsOne _ _ _ _ _ (sp_X0_ask (by omega) (bd_rg h0) (bd_rg h3) (bd_rg h4) ⟨bd_rg h2, ⟨by omega, by omega⟩, bd_rg b1, ?_⟩))
  have e8 : u2 (askC i p0 p3 p4) 42 2 p2 10 p1 = i 10 p1 := by
    rw [u2_other _ _ _ (by decide), cscr_c hs (by decide) (by decide)]
  rw [e8]
  have hs2 : cscr i (u2 (u2 (u2 (u2 (askC i p0 p3 p4) 42 2 p2) 42 3 (i 10 p1)) 42 7 1) 42 8 p1) := cscr_tr (cscr_tr (cscr_tr (cscr_tr hs cscr_u) cscr_u) cscr_u) cscr_u
  have he := askO_env i p0 p1 p2 (i 10 p1) p3 p4
  have hq := fCount_eq9 he hc
  exact two_tells (by omega) (forceC_kept hs2 hf) (envOK_of he (mkEnv_bd h0 bd0 h2 hs1 bd0 h3 h4 bd1 b1)) (fun i' l' a b c => hP1 i' l' (cscr_tr hs2 a) b (hq.mp c)) (fun i' l' a b c => hP0 i' l' (cscr_tr hs2 a) b (fun z => c (hq.mpr z)))
/-! whether it counts, as a number -/
def cntN (cs : List Cla) (e : LEnv) : Int := match lawTells e 3 cs, lawTells e 2 cs with
  | none, none => 1
  | _, _ => 0
theorem cntN_1 {cs : List Cla} {e : LEnv} (h : fCount cs e) : cntN cs e = 1 := by
  unfold cntN
  rw [h.1, h.2]
theorem cntN_0 {cs : List Cla} {e : LEnv} (h : ¬ fCount cs e) : cntN cs e = 0 := by
  unfold cntN
  split
  · rename_i h1 h2
    exact absurd ⟨h1, h2⟩ h
  · rfl
/-- the bit that a colour with that lowest gives, if it counts -/
def fBit (cs : List Cla) (e : LEnv) (lw : Int) : Int := if cntN cs e = 0 then 0 else ishl 1 lw
theorem mShows_lt {i : IM} {t c m : Int} (h1 : 0 ≤ c ∧ c < 8) (h2 : 0 ≤ i 101 (8 * t + 7) ∧ i 101 (8 * t + 7) < 8) : 0 ≤ mShows i t c m ∧ mShows i t c m < 8 := by
  unfold mShows
  split
  · exact h2
  · exact h1
theorem scrM_same {i i' : IM} (h : scrM i i') (hs : sameOK i) : sameOK i' := by
  intro c h1 h2
  rw [scrM_c h (by decide) (by decide)]
  exact hs c h1 h2
theorem scrM_low {i i' : IM} (h : scrM i i') (c : Int) : mLow i' c = mLow i c := by
  unfold mLow
  have : mSame i' = mSame i := by
    funext k
    unfold mSame
    rw [scrM_c h (by decide) (by decide)]
  rw [this]
theorem sp_X12_bitOf (hd : 75 ≤ d) {P : Int → IM → LM → Prop} {A : Nat → List Cla} (hf : forceM (i 101) A) (hc : hasDep (inForce (i 101) A)) (hsm : sameOK i) {p0 p1 p2 p3 p4 : Int} (h0 : 0 ≤ p0 ∧ p0 < 8) (h1 : 0 ≤ p1 ∧ p1 < 10) (h2 : 0 ≤ p2 ∧ p2 < 8) (h3 : bd p3) (h4 : bd p4) (hs1 : bd (i 101 (8 * p1 + 0))) (hb : 0 ≤ i 101 (8 * p1 + 7) ∧ i 101 (8 * p1 + 7) < 8) (hP : ∀ i', scrM i i' → P (if iand (ishr (i 101 (80 + 3 * p0 + 0)) p1) 1 = 1 then fBit (inForce (i 101) A) (mkEnv p0 p1 0 (mShows i p1 p2 p3) (i 101 (8 * p1 + 0)) p3 p4 0 0) (mLow i (mShows i p1 p2 p3)) else 0) i' l) : cI w d X_X12_bitOf [vR (some 99), vI p0, vI p1, vI p2, vI p3, vI p4] i l P := by
  obtain ⟨d, rfl, hd1⟩ := d_pos hd
  have hsh := mShows_lt (m := p3) h2 hb
  have b0 : bd p0 := ⟨by omega, by omega⟩
  have b1 : bd p1 := ⟨by omega, by omega⟩
  have bs : bd (mShows i p1 p2 p3) := ⟨by omega, by omega⟩
  refine e_X12_bitOf (s_X12_bitOf _ _ _ _ _ (by omega) ⟨⟨by omega, by omega⟩, fun q => ⟨⟨by omega, by omega⟩, h1, ⟨by omega, by omega⟩, ?_⟩, fun q => ?_⟩)
  · rw [if_pos q] at hP
    refine sp_X12_asksOf (by omega) b0 b1 bd0 bs hs1 h3 h4 bd0 bd0 ?_
    have e1 := askM_101 i p0 p1 0 (mShows i p1 p2 p3) (i 101 (8 * p1 + 0)) p3 p4 0 0
    have hsc := askM_scr i p0 p1 0 (mShows i p1 p2 p3) (i 101 (8 * p1 + 0)) p3 p4 0 0
    have he := askM_env i p0 p1 0 (mShows i p1 p2 p3) (i 101 (8 * p1 + 0)) p3 p4 0 0
    have hq := fCount_eq9 he hc
    refine sp_X12_doesCount (by omega) (A := A) (by rw [e1]; exact hf) (by rw [e1]; exact hc) (askM_ok b0 b1 bd0 bs hs1 h3 h4 bd0 bd0) (fun i' hi z => ?_) (fun i' hi z => ?_)
    · rw [e1] at z
      have hi' := scrM_tr hsc (scrM_of hi)
      have := hP i' hi'
      unfold fBit at this
      rw [cntN_1 (hq.mp z), if_neg (by decide)] at this
      rw [if_neg (by decide), scrM_low hi']
      exact ⟨fun _ => hsh, fun _ => scrM_same hi' hsm, this⟩
    · rw [e1] at z
      have hi' := scrM_tr hsc (scrM_of hi)
      have := hP i' hi'
      unfold fBit at this
      rw [cntN_0 (fun y => z (hq.mpr y)), if_pos rfl] at this
      rw [if_pos rfl]
      exact ⟨fun y => absurd rfl y, fun y => absurd rfl y, this⟩
  · have := hP i (scrM_rf i)
    rw [if_neg q] at this
    exact this
theorem sp_X12_coatBit (hd : 75 ≤ d) {P : Int → IM → LM → Prop} {A : Nat → List Cla} (hf : forceM (i 101) A) (hc : hasDep (inForce (i 101) A)) (hsm : sameOK i) {p0 p1 p2 p3 p4 : Int} (h0 : 0 ≤ p0 ∧ p0 < 8) (h1 : 0 ≤ p1 ∧ p1 < 5) (h2 : bd p2) (h3 : bd p3) (h4 : bd p4) (hb : 0 ≤ i 101 (114 + p1) ∧ i 101 (114 + p1) < 8) (hP : ∀ i', scrM i i' → P (if p2 = -1 ∨ ¬ iand (ishr (i 101 (80 + 3 * p0 + 1)) p2) 1 = 1 then 0 else fBit (inForce (i 101) A) (mkEnv p0 0 p2 (i 101 (114 + p1)) 0 p3 p4 1 p1) (mLow i (i 101 (114 + p1)))) i' l) : cI w d X_X12_coatBit [vR (some 99), vI p0, vI p1, vI p2, vI p3, vI p4] i l P := by
  obtain ⟨d, rfl, hd1⟩ := d_pos hd
  have b0 : bd p0 := ⟨by omega, by omega⟩
  have b1 : bd p1 := ⟨by omega, by omega⟩
  have bs : bd (i 101 (114 + p1)) := ⟨by omega, by omega⟩
  refine e_X12_coatBit (s_X12_coatBit _ _ _ _ _ (by omega) ⟨bd_rg h2, fun _ => ⟨by omega, by omega⟩, fun q => ?_, fun q => ⟨⟨by omega, by omega⟩, ?_⟩⟩)
  · have := hP i (scrM_rf i)
    rw [if_pos q] at this
    exact this
  · rw [if_neg q] at hP
    refine sp_X12_asksOf (by omega) b0 bd0 h2 bs bd0 h3 h4 bd1 b1 ?_
    have e1 := askM_101 i p0 0 p2 (i 101 (114 + p1)) 0 p3 p4 1 p1
    have hsc := askM_scr i p0 0 p2 (i 101 (114 + p1)) 0 p3 p4 1 p1
    have he := askM_env i p0 0 p2 (i 101 (114 + p1)) 0 p3 p4 1 p1
    have hq := fCount_eq9 he hc
    refine sp_X12_doesCount (by omega) (A := A) (by rw [e1]; exact hf) (by rw [e1]; exact hc) (askM_ok b0 bd0 h2 bs bd0 h3 h4 bd1 b1) (fun i' hi z => ?_) (fun i' hi z => ?_)
    · rw [e1] at z
      have hi' := scrM_tr hsc (scrM_of hi)
      have := hP i' hi'
      unfold fBit at this
      rw [cntN_1 (hq.mp z), if_neg (by decide)] at this
      rw [if_neg (by decide), scrM_low hi']
      exact ⟨fun _ => hb, fun _ => scrM_same hi' hsm, this⟩
    · rw [e1] at z
      have hi' := scrM_tr hsc (scrM_of hi)
      have := hP i' hi'
      unfold fBit at this
      rw [cntN_0 (fun y => z (hq.mpr y)), if_pos rfl] at this
      rw [if_pos rfl]
      exact ⟨fun y => absurd rfl y, fun y => absurd rfl y, this⟩
end
