/-! the TOWN in the program against what the model keeps; what SIGHT has asked already -/
section
variable {w : Wd} {d : Nat} {i : IM} {l : LM}
def TW (i : IM) : Prop := (∀ j : Int, 0 ≤ j → j < 80 → i 8 j = i 101 j) ∧ (∀ j : Int, 0 ≤ j → j < 24 → i 9 j = i 101 (80 + j)) ∧ (∀ j : Int, 0 ≤ j → j < 5 → i 10 j = i 101 (114 + j)) ∧ (∀ j : Int, 0 ≤ j → j < 10 → i 11 j = i 101 (104 + j)) ∧ (∀ c : Int, 0 ≤ c → c < 8 → i 13 c = mLow i c) ∧ (∀ j : Int, 0 ≤ j → j < 180 → i 14 j = i 101 (127 + j)) ∧ (i 7 8 = i 101 307 ∧ i 7 9 = i 101 308 ∧ i 7 10 = i 101 309 ∧ i 7 11 = i 101 310 ∧ i 7 12 = i 101 311 ∧ i 7 13 = i 101 313 ∧ i 7 14 = i 101 312)
/-- a CLAUSE's telling hangs on another word -/
def noW (x h : Nat) (cs : List Cla) : Prop := ∀ e e' : LEnv, (∀ y, y < 9 → y ≠ x → e y = e' y) → lawTells e h cs = lawTells e' h cs
theorem lawTells_dep {e e' : LEnv} {h m : Nat} (he : ∀ x, x < 9 → m.testBit x = true → e x = e' x) : ∀ {cs : List Cla}, (∀ c ∈ cs, c.1 = h → dep m c.2.2.2.2.1 ∧ dep m c.2.2.2.2.2) → lawTells e h cs = lawTells e' h cs
  | [], _ => rfl
  | c :: cs, hc => by
    have ih := lawTells_dep he (cs := cs) (fun c' h' => hc c' (List.mem_cons_of_mem _ h'))
    unfold lawTells
    rw [ih]
    by_cases q : c.1 = h
    · have := hc c (List.mem_cons_self ..) q
      have e1 : claTells e c = claTells e' c := by
        unfold claTells
        rw [this.1 e e' he, this.2 e e' he]
      rw [e1]
    · simp only [q, if_false]
theorem mkEnv_ne6 {a b c d e f x x' g h : Int} : ∀ y, y < 9 → y ≠ 6 → mkEnv a b c d e f x g h y = mkEnv a b c d e f x' g h y := by
  intro y hy hn
  rcases lt9 hy with q | q | q | q | q | q | q | q | q <;> subst q <;> first | rfl | exact absurd rfl hn
theorem mkEnv_ne5 {a b c d e x x' f g h : Int} : ∀ y, y < 9 → y ≠ 5 → mkEnv a b c d e x f g h y = mkEnv a b c d e x' f g h y := by
  intro y hy hn
  rcases lt9 hy with q | q | q | q | q | q | q | q | q <;> subst q <;> first | rfl | exact absurd rfl hn
theorem fLimit_min {cs : List Cla} (h : noW 6 0 cs) (v mo m m' : Int) : fLimit cs v mo m = fLimit cs v mo m' := by
  unfold fLimit
  rw [h _ (mkEnv v 0 0 0 0 mo m' 0 0) mkEnv_ne6]
theorem cntN_noW {x : Nat} {cs : List Cla} (h2 : noW x 2 cs) (h3 : noW x 3 cs) {e e' : LEnv} (he : ∀ y, y < 9 → y ≠ x → e y = e' y) : cntN cs e = cntN cs e' := by
  unfold cntN
  rw [h2 e e' he, h3 e e' he]
theorem fBit_noW {x : Nat} {cs : List Cla} (h2 : noW x 2 cs) (h3 : noW x 3 cs) {e e' : LEnv} (he : ∀ y, y < 9 → y ≠ x → e y = e' y) (lw : Int) : fBit cs e lw = fBit cs e' lw := by
  unfold fBit
  rw [cntN_noW h2 h3 he]
theorem orGo_cg {g g' : Nat → Int} {x : Int} : ∀ {n : Nat}, (∀ k, k < n → g k = g' k) → orGo g x n = orGo g' x n
  | 0, _ => rfl
  | n + 1, h => by
    show ior (orGo g x n) (g n) = ior (orGo g' x n) (g' n)
    rw [orGo_cg (fun k hk => h k (by omega)), h n (by omega)]
theorem mBit_min {cs : List Cla} (h2 : noW 6 2 cs) (h3 : noW 6 3 cs) (v t c mo m m' : Int) : mBit i cs v t c mo m = mBit i cs v t c mo m' := by
  unfold mBit
  rw [fBit_noW h2 h3 mkEnv_ne6]
theorem mCoat_min {cs : List Cla} (h2 : noW 6 2 cs) (h3 : noW 6 3 cs) (v p pl mo m m' : Int) : mCoat i cs v p pl mo m = mCoat i cs v p pl mo m' := by
  unfold mCoat
  rw [fBit_noW h2 h3 mkEnv_ne6]
theorem mThings_min {cs : List Cla} (h2 : noW 6 2 cs) (h3 : noW 6 3 cs) (v mo m m' : Int) : mThings i cs v mo m = mThings i cs v mo m' := by
  unfold mThings
  exact orGo_cg (fun k _ => mBit_min h2 h3 ..)
/-! all hangs on what is kept -/
theorem mLow_K {i i' : IM} (e : i' 101 = i 101) : mLow i' = mLow i := by
  funext c; unfold mLow; have : mSame i' = mSame i := by funext k; unfold mSame; rw [e]
  rw [this]
theorem mShows_K {i i' : IM} (e : i' 101 = i 101) : mShows i' = mShows i := by
  funext t c m; unfold mShows; rw [e]
theorem mWhere_K {i i' : IM} (e : i' 101 = i 101) : mWhere i' = mWhere i := by
  funext p m; unfold mWhere; rw [e]
theorem mBit_K {i i' : IM} (e : i' 101 = i 101) : mBit i' = mBit i := by
  funext cs v t c mo mi; unfold mBit; rw [e, mShows_K e, mLow_K e]
theorem mCoat_K {i i' : IM} (e : i' 101 = i 101) : mCoat i' = mCoat i := by
  funext cs v p pl mo mi; unfold mCoat; rw [e, mLow_K e]
theorem mThings_K {i i' : IM} (e : i' 101 = i 101) : mThings i' = mThings i := by
  funext cs v mo mi; unfold mThings; rw [e, mBit_K e]
theorem mSeen_K {i i' : IM} (e : i' 101 = i 101) : mSeen i' = mSeen i := by
  funext cs v mi but pl; unfold mSeen; rw [e, mThings_K e, mCoat_K e, mWhere_K e]
theorem hB_K {i i' : IM} (e : i' 101 = i 101) : hB i' = hB i := by
  funext cs v mi; unfold hB; rw [e, mSeen_K e]
theorem mBad_K {i i' : IM} (e : i' 101 = i 101) : mBad i' = mBad i := by
  funext cs v; unfold mBad; rw [e, hB_K e]
/-- the slot of a MINUTE, if MINUTES matter -/
def sl (f v m : Int) : Int := v * 120 + (if f = 0 then 0 else m)
theorem sl_rg {f v m : Int} (hv : 0 ≤ v ∧ v < 8) (hm : 0 ≤ m ∧ m < 120) : 0 ≤ sl f v m ∧ sl f v m < 960 := by
  unfold sl; split <;> omega
theorem sl_inj {f v m v' m' : Int} (hm : 0 ≤ m ∧ m < 120) (hm' : 0 ≤ m' ∧ m' < 120) (h : sl f v m = sl f v' m') : v = v' ∧ (f = 0 ∨ m = m') := by
  unfold sl at h; split at h <;> omega
/-- what SIGHT keeps is as the TOWN stands -/
def SgF (i : IM) (cs : List Cla) : Prop := (i 44 12 = 0 → noW 6 2 cs ∧ noW 6 3 cs) ∧ (i 44 13 = 0 → noW 6 0 cs)
  ∧ (∀ v m : Int, 0 ≤ v ∧ v < 8 → 0 ≤ m ∧ m < 120 → i 47 (sl (i 44 13) v m) = -1 ∨ i 47 (sl (i 44 13) v m) = fLimit cs v (i 101 313) m)
  ∧ (∀ v m : Int, 0 ≤ v ∧ v < 8 → 0 ≤ m ∧ m < 120 → i 46 (sl (i 44 12) v m) = -1 ∨ i 46 (sl (i 44 12) v m) = mThings i cs v (i 101 313) m)
  ∧ (i 44 12 = 0 → ∀ v p pl m : Int, 0 ≤ v ∧ v < 8 → 0 ≤ p ∧ p < 5 → 0 ≤ pl ∧ pl < 10 → i 48 (((v * 5) + p) * 10 + pl) = -1 ∨ i 48 (((v * 5) + p) * 10 + pl) = mCoat i cs v p pl (i 101 313) m)
  ∧ (∀ p m : Int, 0 ≤ p ∧ p < 5 → 0 ≤ m ∧ m < 120 → i 45 (p * 120 + m) = mWhere i p m)
/-- SIGHT changes but what it keeps -/
def sfr (i i' : IM) : Prop := ∀ a : Nat, a ≠ 41 → a ≠ 42 → a ≠ 46 → a ≠ 47 → a ≠ 48 → i' a = i a
theorem sfr_rf (i : IM) : sfr i i := fun _ _ _ _ _ _ => rfl
theorem sfr_tr {i j k : IM} (h1 : sfr i j) (h2 : sfr j k) : sfr i k := fun a x1 x2 x3 x4 x5 => (h2 a x1 x2 x3 x4 x5).trans (h1 a x1 x2 x3 x4 x5)
theorem sfr_cs {i i' : IM} (h : cscr i i') : sfr i i' := fun a h1 h2 _ _ _ => cscr_c h h2 h1
theorem sfr_u {i : IM} {a : Nat} {k x : Int} (ha : a = 46 ∨ a = 47 ∨ a = 48) : sfr i (u2 i a k x) := by
  intro b h1 h2 h3 h4 h5
  exact u2_other _ _ _ (by omega)
theorem TW_sfr {i i' : IM} (h : sfr i i') (ht : TW i) : TW i' := by
  have e101 := h 101 (by decide) (by decide) (by decide) (by decide) (by decide)
  unfold TW
  rw [h 7 (by decide) (by decide) (by decide) (by decide) (by decide), h 8 (by decide) (by decide) (by decide) (by decide) (by decide), h 9 (by decide) (by decide) (by decide) (by decide) (by decide), h 10 (by decide) (by decide) (by decide) (by decide) (by decide), h 11 (by decide) (by decide) (by decide) (by decide) (by decide), h 13 (by decide) (by decide) (by decide) (by decide) (by decide), h 14 (by decide) (by decide) (by decide) (by decide) (by decide), e101, mLow_K e101]
  exact ht
theorem lawC_K {w : Wd} {i i' : IM} {a : Nat} {cs : List Cla} (h : ∀ b, 125 ≤ b → i' b = i b) (hL : lawC w i a cs) : lawC w i' a cs := by
  have ha : 125 ≤ a := hL.1.1
  have h1 : cscr i (fun b k => if 125 ≤ b then i' b k else i b k) := by
    intro b k _ _
    show (if 125 ≤ b then i' b k else i b k) = i b k
    split
    · next q => rw [h b q]
    · rfl
  obtain ⟨q1, q2, q3, q4⟩ := lawC_kept h1 hL
  have e : ∀ b, 125 ≤ b → (fun b k => if 125 ≤ b then i' b k else i b k : IM) b = i' b := by
    intro b hb
    funext k
    show (if 125 ≤ b then i' b k else i b k) = i' b k
    rw [if_pos hb]
  refine ⟨q1, q2, ?_, fun n hn => ?_⟩
  · have key : ∀ (cl : List Cla) (x u : Nat), lawCs w (fun b k => if 125 ≤ b then i' b k else i b k) a x u cl → lawCs w i' a x u cl := by
      intro cl
      induction cl with
      | nil => intro x u _; trivial
      | cons c cl ih =>
        intro x u hl
        refine ⟨?_, ih _ _ hl.2⟩
        have := hl.1
        unfold claC atC at this ⊢
        rw [e (a + 2) (by omega), e (a + 1) (by omega)] at this
        exact this
    exact key _ _ _ q3
  · have := q4 n hn
    rw [e (a + 3) (by omega)] at this
    exact this
theorem forceC_K {w : Wd} {i i' : IM} {cs : List Cla} (h7 : i' 7 = i 7) (h : ∀ b, 125 ≤ b → i' b = i b) (hf : forceC w i cs) : forceC w i' cs := by
  have er : rul w i' = rul w i := by unfold rul; rw [h7]
  refine ⟨by rw [h7]; exact hf.1, ?_⟩
  rw [er]
  rcases hf.2 with h1 | ⟨lw, h1, h2⟩
  · exact Or.inl h1
  · exact Or.inr ⟨lw, h1, lawC_K h h2⟩
theorem forceC_sfr {w : Wd} {i i' : IM} {cs : List Cla} (h : sfr i i') (hf : forceC w i cs) : forceC w i' cs :=
  forceC_K (h 7 (by decide) (by decide) (by decide) (by decide) (by decide)) (fun b hb => h b (by omega) (by omega) (by omega) (by omega) (by omega)) hf
theorem SgF_eq {i i' : IM} {cs : List Cla} (e44 : i' 44 = i 44) (e45 : i' 45 = i 45) (e46 : i' 46 = i 46) (e47 : i' 47 = i 47) (e48 : i' 48 = i 48) (e101 : i' 101 = i 101) (h : SgF i cs) : SgF i' cs := by
  unfold SgF
  rw [e44, e45, e46, e47, e48, e101, mThings_K e101, mCoat_K e101, mWhere_K e101]
  exact h
theorem SgF_cs {i i' : IM} {cs : List Cla} (h : cscr i i') (hs : SgF i cs) : SgF i' cs :=
  SgF_eq (cscr_c h (by decide) (by decide)) (cscr_c h (by decide) (by decide)) (cscr_c h (by decide) (by decide)) (cscr_c h (by decide) (by decide)) (cscr_c h (by decide) (by decide)) (cscr_c h (by decide) (by decide)) hs
theorem SgF_47 {cs : List Cla} (hs : SgF i cs) {v m : Int} (hm : 0 ≤ m ∧ m < 120) : SgF (u2 i 47 (sl (i 44 13) v m) (fLimit cs v (i 101 313) m)) cs := by
  obtain ⟨h1, h2, h3, h4, h5, h6⟩ := hs
  have e101 : u2 i 47 (sl (i 44 13) v m) (fLimit cs v (i 101 313) m) 101 = i 101 := rfl
  unfold SgF
  rw [mThings_K e101, mCoat_K e101, mWhere_K e101]
  refine ⟨h1, h2, fun v' m' hv' hm' => ?_, h4, h5, h6⟩
  show (if (47 : Nat) = 47 ∧ sl (i 44 13) v' m' = sl (i 44 13) v m then fLimit cs v (i 101 313) m else i 47 (sl (i 44 13) v' m')) = -1 ∨ (if (47 : Nat) = 47 ∧ sl (i 44 13) v' m' = sl (i 44 13) v m then fLimit cs v (i 101 313) m else i 47 (sl (i 44 13) v' m')) = fLimit cs v' (i 101 313) m'
  by_cases q : sl (i 44 13) v' m' = sl (i 44 13) v m
  · rw [if_pos ⟨rfl, q⟩]
    obtain ⟨a, b⟩ := sl_inj hm' hm q
    subst a
    rcases b with b | b
    · exact Or.inr (fLimit_min (h2 b) ..)
    · exact Or.inr (by rw [b])
  · rw [if_neg (fun z => q z.2)]
    exact h3 v' m' hv' hm'
theorem SgF_46 {cs : List Cla} (hs : SgF i cs) {v m : Int} (hm : 0 ≤ m ∧ m < 120) : SgF (u2 i 46 (sl (i 44 12) v m) (mThings i cs v (i 101 313) m)) cs := by
  obtain ⟨h1, h2, h3, h4, h5, h6⟩ := hs
  have e101 : u2 i 46 (sl (i 44 12) v m) (mThings i cs v (i 101 313) m) 101 = i 101 := rfl
  unfold SgF
  rw [mThings_K e101, mCoat_K e101, mWhere_K e101]
  refine ⟨h1, h2, h3, fun v' m' hv' hm' => ?_, h5, h6⟩
  show (if (46 : Nat) = 46 ∧ sl (i 44 12) v' m' = sl (i 44 12) v m then mThings i cs v (i 101 313) m else i 46 (sl (i 44 12) v' m')) = -1 ∨ (if (46 : Nat) = 46 ∧ sl (i 44 12) v' m' = sl (i 44 12) v m then mThings i cs v (i 101 313) m else i 46 (sl (i 44 12) v' m')) = mThings i cs v' (i 101 313) m'
  by_cases q : sl (i 44 12) v' m' = sl (i 44 12) v m
  · rw [if_pos ⟨rfl, q⟩]
    obtain ⟨a, b⟩ := sl_inj hm' hm q
    subst a
    rcases b with b | b
    · exact Or.inr (mThings_min (h1 b).1 (h1 b).2 ..)
    · exact Or.inr (by rw [b])
  · rw [if_neg (fun z => q z.2)]
    exact h4 v' m' hv' hm'
theorem SgF_48 {cs : List Cla} (hs : SgF i cs) {v p pl m : Int} (hp : 0 ≤ p ∧ p < 5) (hpl : 0 ≤ pl ∧ pl < 10) : SgF (u2 i 48 (((v * 5) + p) * 10 + pl) (mCoat i cs v p pl (i 101 313) m)) cs := by
  obtain ⟨h1, h2, h3, h4, h5, h6⟩ := hs
  have e101 : u2 i 48 (((v * 5) + p) * 10 + pl) (mCoat i cs v p pl (i 101 313) m) 101 = i 101 := rfl
  unfold SgF
  rw [mThings_K e101, mCoat_K e101, mWhere_K e101]
  refine ⟨h1, h2, h3, h4, fun q0 v' p' pl' m' hv' hp' hpl' => ?_, h6⟩
  show (if (48 : Nat) = 48 ∧ ((v' * 5) + p') * 10 + pl' = ((v * 5) + p) * 10 + pl then mCoat i cs v p pl (i 101 313) m else i 48 (((v' * 5) + p') * 10 + pl')) = -1 ∨ (if (48 : Nat) = 48 ∧ ((v' * 5) + p') * 10 + pl' = ((v * 5) + p) * 10 + pl then mCoat i cs v p pl (i 101 313) m else i 48 (((v' * 5) + p') * 10 + pl')) = mCoat i cs v' p' pl' (i 101 313) m'
  by_cases q : ((v' * 5) + p') * 10 + pl' = ((v * 5) + p) * 10 + pl
  · rw [if_pos ⟨rfl, q⟩]
    have a : v' = v := by omega
    have b : p' = p := by omega
    have c : pl' = pl := by omega
    subst a b c
    exact Or.inr (mCoat_min (h1 q0).1 (h1 q0).2 ..)
  · rw [if_neg (fun z => q z.2)]
    exact h5 q0 v' p' pl' m' hv' hp' hpl'
theorem fLimit_rg (cs : List Cla) (v mo m : Int) : 0 ≤ fLimit cs v mo m ∧ fLimit cs v mo m ≤ 8 := by
  unfold fLimit
  split
  · next x _ => unfold clampI; split <;> (try split) <;> omega
  · omega
end
