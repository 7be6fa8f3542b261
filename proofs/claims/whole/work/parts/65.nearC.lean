/-! near, in the program -/
section
variable {w : Wd} {d : Nat} {i : IM} {l : LM}
theorem lp_failW (hd : 6 ≤ d) {P : Int → IM → LM → Prop} {cs : List Cla} {i : IM} (hx : Cx w i cs) {lo hi : Nat} (h1 : lo < hi) (h2 : hi < 8) (hP : ∀ i' l', sfr i i' → psc l l' → SgF i' cs → P (nCnt i cs lo hi (i 101 308).toNat) i' l') : ∀ (r v : Nat), v + r = (i 101 308).toNat → ∀ i' l', sfr i i' → psc l l' → SgF i' cs → gI w d X_X8_failingWith P i' l' 5 [(0, vR (some 44)), (1, vI (lo : Int)), (2, vI (hi : Int)), (3, vI (nCnt i cs lo hi v)), (4, vI (v : Int))] [] := by
  have h7 := Cx_7 hx
  have h308 := hx.2.1.1.2.1
  intro r
  induction r with
  | zero =>
    intro v hv i' l' hi1 hl hs
    have hv2 : v = (i 101 308).toNat := by omega
    have hle := nCnt_le i cs lo hi v
    refine s_X8_failingWith_5 _ _ _ _ (by omega) ⟨⟨by omega, by omega⟩, fun q => ⟨⟨by omega, by omega⟩, ?_⟩, fun q => ?_⟩
    · rw [hv2]; exact hP i' l' hi1 hl hs
    · rw [sfr_7 hi1, h7.2.1] at q; omega
  | succ r ih =>
    intro v hv i' l' hi1 hl hs
    have e101 := sfr_101 hi1
    have hle := nCnt_le i cs lo hi v
    have hv8 : 0 ≤ (v : Int) ∧ (v : Int) < 8 := by omega
    refine s_X8_failingWith_5 _ _ _ _ (by omega) ⟨⟨by omega, by omega⟩, fun q => ?_, fun q => ?_⟩
    · rw [sfr_7 hi1, h7.2.1] at q; omega
    · refine sp_X8_thingsFrom hd (Cx_sfr hi1 hx) hs hv8 ⟨by omega, by omega⟩ (fun i2 l2 hi2 hl2 hs2 => ?_)
      have e101b := sfr_101 (sfr_tr hi1 hi2)
      obtain ⟨t, ht, ht2⟩ := mThings_nat hx.2.1 cs (v : Int) (i 101 313) 0
      rw [mThings_K e101, e101, ht]
      have b1 := ibit_lt t lo
      have b2 := ibit_lt t hi
      have hmg := mg_ok ht2 h1 h2
      have hpl : 0 ≤ popI (t : Int) ∧ popI (t : Int) ≤ 16 := by
        have := cntB_le t 16
        show 0 ≤ ((cntB t 16 : Nat) : Int) ∧ ((cntB t 16 : Nat) : Int) ≤ 16
        omega
      rw [ibit_nat (a := t) (k := lo) (by omega) (by omega), ibit_nat (a := t) (k := hi) (by omega) (by omega)]
      have hbi := bI_le ((((t / 2 ^ lo % 2 : Nat) : Int) + ((t / 2 ^ hi % 2 : Nat) : Int)) = 2)
      have hpop : popI (t : Int) - bI ((((t / 2 ^ lo % 2 : Nat) : Int) + ((t / 2 ^ hi % 2 : Nat) : Int)) = 2) = popI ((mg t lo hi : Nat) : Int) := by
        show ((cntB t 16 : Nat) : Int) - _ = ((cntB (mg t lo hi) 16 : Nat) : Int)
        rw [← hmg.1]
        by_cases q2 : t / 2 ^ lo % 2 + t / 2 ^ hi % 2 = 2
        · rw [if_pos q2, bI_t (by omega)]; omega
        · rw [if_neg q2, bI_f (by omega)]; omega
      refine ⟨⟨by omega, by omega⟩, ⟨by omega, by omega⟩, ?_⟩
      refine sp_X8_limitAt (by omega) (Cx_sfr (sfr_tr hi1 hi2) hx) hs2 hv8 ⟨by omega, by omega⟩ (fun i3 l3 hi3 hl3 hs3 => ?_)
      rw [e101b]
      have hn := ih (v + 1) (by omega) i3 l3 (sfr_tr (sfr_tr hi1 hi2) hi3) (psc_tr (psc_tr hl hl2) hl3) hs3
      have e3 : nCnt i cs lo hi (v + 1) = nCnt i cs lo hi v + bI (fLimit cs (v : Int) (i 101 313) 0 < popI (mg t lo hi : Nat)) := by
        show nCnt i cs lo hi v + bI (fLimit cs (v : Int) (i 101 313) 0 < popI (mg (mThings i cs (v : Int) (i 101 313) 0).toNat lo hi : Nat)) = _
        rw [ht]; rfl
      rw [e3] at hn
      refine ⟨⟨by omega, by omega⟩, ?_⟩
      rw [hpop]
      refine ⟨fun q2 => ?_, fun q2 => ?_⟩
      · rw [bI_f (by omega), Int.add_zero] at hn; exact hn
      · rw [bI_t (by omega)] at hn; exact hn
theorem sp_X8_failingWith (hd : 7 ≤ d) {P : Int → IM → LM → Prop} {cs : List Cla} (hx : Cx w i cs) (hs : SgF i cs) {lo hi : Nat} (h1 : lo < hi) (h2 : hi < 8) (hP : ∀ i' l', sfr i i' → psc l l' → SgF i' cs → P (nCnt i cs lo hi (i 101 308).toNat) i' l') : cI w d X_X8_failingWith [vR (some 44), vI (lo : Int), vI (hi : Int)] i l P := by
  obtain ⟨d, rfl, hd1⟩ := d_pos hd
  exact e_X8_failingWith (s_X8_failingWith _ _ (lp_failW hd1 hx h1 h2 hP _ 0 (Nat.zero_add _) i l (sfr_rf i) (psc_rf l) hs))
/-- as the program keeps it -/
def nEnc (s : Int × Int × Int) : Int := if s.1 = -1 then -1 else ((s.2.2 * 8) + s.1) * 8 + s.2.1
theorem nEnc_rg {s : Int × Int × Int} (h : nOK s) : rg (nEnc s) := by
  unfold nEnc
  split
  · exact rg_lit rfl
  · rcases h with ⟨a, b, c⟩ | ⟨a, b, c⟩
    · omega
    · exact ⟨by omega, by omega⟩
theorem tdiv_n {x : Int} (h : 0 ≤ x) (k : Int) : Int.tdiv x k = x / k := Int.tdiv_eq_ediv_of_nonneg h
theorem tmod_n {x : Int} (h : 0 ≤ x) (k : Int) : Int.tmod x k = x % k := Int.tmod_eq_emod_of_nonneg h
theorem lp_nearC2 (hd : 8 ≤ d) {P : Int → IM → LM → Prop} {cs : List Cla} {i : IM} (hx : Cx w i cs) {l0 : LM} {a : Nat} (ha : a < 8) {S : Int × Int × Int} (hnext : ∀ i' l', sfr i i' → psc l0 l' → SgF i' cs → gI w d X_X8_nearest P i' l' 4 [(0, vR (some 44)), (1, vI (nEnc S)), (2, vI ((a : Int) + 1))] []) : ∀ (r b : Nat) (s : Int × Int × Int), b + r = 8 → nOK s → nIn i cs a r b s = S → ∀ i' l', sfr i i' → psc l0 l' → SgF i' cs → gI w d X_X8_nearest P i' l' 14 [(0, vR (some 44)), (1, vI (nEnc s)), (2, vI (a : Int)), (3, vI (b : Int))] [] := by
  intro r
  induction r with
  | zero =>
    intro b s hb hs hS i' l' hi hl hsg
    have hn := hnext i' l' hi hl hsg
    rw [← hS] at hn
    exact s_X8_nearest_14 _ _ _ (by omega) ⟨⟨by omega, by omega⟩, fun q => hn, fun q => by omega⟩
  | succ r ih =>
    intro b s hb hs hS i' l' hi hl hsg
    have e13 : i' 13 = i 13 := hi 13 (by decide) (by decide) (by decide) (by decide) (by decide)
    have ea : i' 13 (a : Int) = mLow i (a : Int) := by rw [e13, hx.1.2.2.2.2.1 _ (by omega) (by omega)]
    have eb : i' 13 (b : Int) = mLow i (b : Int) := by rw [e13, hx.1.2.2.2.2.1 _ (by omega) (by omega)]
    have ih2 := ih (b + 1) (nStep i cs a b s) (by omega) (nStep_ok hx.2.1 ha (by omega) hs) hS
    refine s_X8_nearest_14 _ _ _ (by omega) ⟨⟨by omega, by omega⟩, fun q => by omega, fun q => ⟨⟨by omega, by omega⟩, ⟨by omega, by omega⟩, fun q2 => ?_, fun q2 => ?_⟩⟩
    · rw [ea, eb] at q2
      have he : mLow i (a : Int) = mLow i (b : Int) := by omega
      have hn := ih2 i' l' hi hl hsg
      unfold nStep at hn
      rw [if_pos he] at hn
      exact hn
    · rw [ea, eb] at q2 ⊢
      have hne : ¬ mLow i (a : Int) = mLow i (b : Int) := by omega
      have hlp := low_pair ha (show b < 8 by omega) hne
      rw [hlp.1, hlp.2.1]
      have e101 := sfr_101 hi
      refine sp_X8_failingWith (by omega) (Cx_sfr hi hx) hsg hlp.2.2.1 hlp.2.2.2.1 (fun i2 l2 hi2 hl2 hs2 => ?_)
      rw [nCnt_K e101, e101]
      have hle := nCnt_le i cs (nLo i a b) (nHi i a b) (i 101 308).toNat
      have h308 := hx.2.1.1.2.1
      have hn := ih2 i2 l2 (sfr_tr hi hi2) (psc_tr hl hl2) hs2
      unfold nStep at hn
      rw [if_neg hne] at hn
      have hq : ∀ c : Int, c = nCnt i cs (nLo i a b) (nHi i a b) (i 101 308).toNat → (c < s.2.2 ↔ ((nEnc s = -1) ∨ (¬ (Int.tdiv (nEnc s) 64 ≤ c)))) := by
        intro c hc
        rcases hs with ⟨z1, z2, z3⟩ | ⟨z1, z2, z3⟩
        · have : nEnc s = -1 := if_pos z1
          rw [z3]
          constructor
          · intro _; exact Or.inl this
          · intro _; omega
        · have e : nEnc s = ((s.2.2 * 8) + s.1) * 8 + s.2.1 := if_neg (by omega)
          rw [tdiv_n (by omega), e]
          omega
      refine ⟨nEnc_rg hs, fun q3 => ?_, fun q3 => ?_, fun q3 => ?_⟩
      · have := nEnc_rg hs
        rcases hs with ⟨z1, z2, z3⟩ | ⟨z1, z2, z3⟩
        · exact absurd (if_pos z1) q3
        · have e : nEnc s = ((s.2.2 * 8) + s.1) * 8 + s.2.1 := if_neg (by omega)
          rw [tdiv_n (by omega), e]
          exact ⟨by omega, by omega⟩
      · rw [if_pos ((hq _ rfl).mpr q3)] at hn
        have e : nEnc ((a : Int), (b : Int), nCnt i cs (nLo i a b) (nHi i a b) (i 101 308).toNat) = (nCnt i cs (nLo i a b) (nHi i a b) (i 101 308).toNat * 8 + (a : Int)) * 8 + (b : Int) := if_neg (by show ¬ (a : Int) = -1; omega)
        rw [e] at hn
        exact hn
      · rw [if_neg (fun z => q3 ((hq _ rfl).mp z))] at hn
        exact hn
theorem nOut_ok {cs : List Cla} (hk : kOK (i 101)) : ∀ (r a : Nat) (s : Int × Int × Int), a + r = 8 → nOK s → nOK (nOut i cs r a s)
  | 0, _, _, _, h => h
  | r + 1, a, s, ha, h => nOut_ok hk r (a + 1) _ (by omega) (nIn_ok hk (by omega) _ _ _ (by omega) h)
theorem lp_nearC1 (hd : 8 ≤ d) {P : Int → IM → LM → Prop} {cs : List Cla} {i : IM} (hx : Cx w i cs) {l0 : LM} {S : Int × Int × Int} (hP : ∀ i' l', sfr i i' → psc l0 l' → SgF i' cs → P (nEnc S) i' l') : ∀ (r a : Nat) (s : Int × Int × Int), a + r = 8 → nOK s → nOut i cs r a s = S → ∀ i' l', sfr i i' → psc l0 l' → SgF i' cs → gI w d X_X8_nearest P i' l' 4 [(0, vR (some 44)), (1, vI (nEnc s)), (2, vI (a : Int))] [] := by
  intro r
  induction r with
  | zero =>
    intro a s ha hs hS i' l' hi hl hsg
    have hn := hP i' l' hi hl hsg
    rw [← hS] at hn
    exact s_X8_nearest_4 _ _ ⟨⟨by omega, by omega⟩, fun q => ⟨nEnc_rg hs, hn⟩, fun q => by omega⟩
  | succ r ih =>
    intro a s ha hs hS i' l' hi hl hsg
    refine s_X8_nearest_4 _ _ ⟨⟨by omega, by omega⟩, fun q => by omega, fun q => ?_⟩
    have hio : nOK (nIn i cs a (7 - a) (a + 1) s) := nIn_ok hx.2.1 (by omega) _ _ _ (by omega) hs
    exact lp_nearC2 hd hx (by omega) (fun i2 l2 hi2 hl2 hs2 => ih (a + 1) _ (by omega) hio hS i2 l2 hi2 hl2 hs2) (7 - a) (a + 1) s (by omega) hs rfl i' l' hi hl hsg
theorem sp_X8_nearest (hd : 9 ≤ d) {P : Int → IM → LM → Prop} {cs : List Cla} (hx : Cx w i cs) (hs : SgF i cs) (hP : ∀ i' l', sfr i i' → psc l l' → SgF i' cs → P (nEnc (nAll i cs)) i' l') : cI w d X_X8_nearest [vR (some 44)] i l P := by
  obtain ⟨d, rfl, hd1⟩ := d_pos hd
  exact e_X8_nearest (s_X8_nearest (lp_nearC1 hd1 hx hP 8 0 (-1, -1, 1000000) rfl (Or.inl ⟨rfl, rfl, rfl⟩) rfl i l (sfr_rf i) (psc_rf l) hs))
theorem sp_X11_near (hd : 11 ≤ d) {P : Int → IM → LM → Prop} {cs : List Cla} (hx : Cx w i cs) (hs : SgC i cs) {p0 : Int} (h0 : rg p0) (hP : ∀ i' l', vfr i i' → psc l l' → SgC i' cs → P (mNear i cs p0) i' l') : cI w d X_X11_near [vR (some 6), vI p0] i l P := by
  obtain ⟨d, rfl, hd1⟩ := d_pos hd
  unfold mNear at hP
  refine e_X11_near (s_X11_near _ (by omega) ⟨h0, fun q => ?_, fun q => ?_⟩)
  · rw [if_pos q] at hP
    refine sp_X8_refresh (by omega) hx hs (fun i1 v1 h14 s1 w1 => ?_)
    refine sp_X8_nearest (by omega) (Cx_v v1 hx) s1 (fun i2 l2 f2 g2 s2 => ?_)
    have e101 := v1 101 (by decide)
    have h14b : i2 44 14 = i2 7 15 := by rw [sfr_44 f2, sfr_7 f2, h14]
    have hp := hP i2 l2 (vfr_tr v1 (vfr_s f2)) g2 (SgC_s h14b s2 (Sw_s f2 w1))
    have eA : nAll i1 cs = nAll i cs := by
      have eS : ∀ a b s, nStep i1 cs a b s = nStep i cs a b s := by
        intro a b s; unfold nStep nLo nHi; rw [mLow_K e101, nCnt_K e101, e101]
      have eI : ∀ a r b s, nIn i1 cs a r b s = nIn i cs a r b s := by
        intro a r
        induction r with
        | zero => intro b s; rfl
        | succ r ih => intro b s; unfold nIn; rw [eS, ih]
      have eO : ∀ r a s, nOut i1 cs r a s = nOut i cs r a s := by
        intro r
        induction r with
        | zero => intro a s; rfl
        | succ r ih => intro a s; unfold nOut; rw [eI, ih]
      exact eO _ _ _
    rw [eA]
    have hok : nOK (nAll i cs) := nOut_ok hx.2.1 8 0 _ rfl (Or.inl ⟨rfl, rfl, rfl⟩)
    have hrg := nEnc_rg hok
    unfold nAns at hp
    rcases hok with ⟨z1, z2, z3⟩ | ⟨z1, z2, z3⟩
    · rw [if_pos z1] at hp
      have e : nEnc (nAll i cs) = -1 := if_pos z1
      rw [e]
      exact ⟨fun y => absurd y.1 (by decide), fun y => absurd y.1 (by decide), fun _ => hp⟩
    · rw [if_neg (by omega)] at hp
      have e : nEnc (nAll i cs) = (((nAll i cs).2.2 * 8) + (nAll i cs).1) * 8 + (nAll i cs).2.1 := if_neg (by omega)
      rw [e] at hrg ⊢
      have hrg2 := hrg.2
      refine ⟨fun y => ?_, fun y => ?_, fun y => by omega⟩
      · rw [if_neg y.2] at hp
        rw [tmod_n (by omega), tdiv_n (by omega)]
        by_cases c : p0 = 1
        · rw [if_pos c] at hp ⊢
          have e2 : ((((nAll i cs).2.2 * 8) + (nAll i cs).1) * 8 + (nAll i cs).2.1) % 8 = (nAll i cs).2.1 := by omega
          rw [e2]
          exact ⟨⟨by omega, by omega⟩, hp⟩
        · rw [if_neg c] at hp ⊢
          have e2 : ((((nAll i cs).2.2 * 8) + (nAll i cs).1) * 8 + (nAll i cs).2.1) / 64 = (nAll i cs).2.2 := by omega
          rw [e2]
          exact ⟨⟨by omega, by omega⟩, hp⟩
      · rw [if_pos y.2] at hp
        rw [tdiv_n (by omega), tmod_n (by omega)]
        have e2 : ((((nAll i cs).2.2 * 8) + (nAll i cs).1) * 8 + (nAll i cs).2.1) / 8 % 8 = (nAll i cs).1 := by omega
        rw [e2]
        exact ⟨⟨by omega, by omega⟩, ⟨by omega, by omega⟩, hp⟩
  · rw [if_neg q] at hP
    exact hP i l (vfr_rf i) (psc_rf l) hs
end
