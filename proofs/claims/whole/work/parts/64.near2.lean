/-! near, in the model and in the program -/
section
variable {w : Wd} {d : Nat} {i : IM} {l : LM}
theorem inot_lit : ∀ k : Nat, k < 16 → Int32.ofInt (ixor (ishl 1 (k : Int)) (-1)) = Int32.ofInt ((4294967295 - 2 ^ k : Nat) : Int) := by decide +kernel
theorem inot_lit2 : ∀ k : Nat, k < 16 → (4294967295 - 2 ^ k) % 65536 = 65535 - 2 ^ k := by decide
theorem iand_not {a k : Nat} (ha : a < 65536) (hk : k < 16) : iand (a : Int) (ixor (ishl 1 (k : Int)) (-1)) = ((a &&& (65535 - 2 ^ k) : Nat) : Int) := by
  have e : iand (a : Int) (ixor (ishl 1 (k : Int)) (-1)) = iand (a : Int) ((4294967295 - 2 ^ k : Nat) : Int) := by
    unfold iand
    rw [inot_lit k hk]
  rw [e, iand_nat (by omega)]
  congr 1
  have h1 : (a &&& (4294967295 - 2 ^ k)) % 2 ^ 16 = a % 2 ^ 16 &&& (4294967295 - 2 ^ k) % 2 ^ 16 := Nat.and_mod_two_pow ..
  have h2 : a &&& (4294967295 - 2 ^ k) ≤ a := Nat.and_le_left
  have e16 : (2 : Nat) ^ 16 = 65536 := rfl
  rw [e16, inot_lit2 k hk, Nat.mod_eq_of_lt (by omega), Nat.mod_eq_of_lt ha] at h1
  exact h1
/-- how many WINDOWS would fail -/
def nCnt (i : IM) (cs : List Cla) (lo hi : Nat) (n : Nat) : Int := sumGo (fun v => bI (fLimit cs (v : Int) (i 101 313) 0 < popI (mg (mThings i cs (v : Int) (i 101 313) 0).toNat lo hi : Nat))) n
theorem nCnt_le (i : IM) (cs : List Cla) (lo hi n : Nat) : 0 ≤ nCnt i cs lo hi n ∧ nCnt i cs lo hi n ≤ 1 * n := sumGo_le (b := 1) n (fun _ _ => bI_le _)
theorem nCnt_K {i i' : IM} (e : i' 101 = i 101) : nCnt i' = nCnt i := by
  funext cs lo hi n; unfold nCnt; rw [e, mThings_K e]
abbrev nLo (i : IM) (a b : Int) : Nat := (min (mLow i a) (mLow i b)).toNat
abbrev nHi (i : IM) (a b : Int) : Nat := (max (mLow i a) (mLow i b)).toNat
def nStep (i : IM) (cs : List Cla) (a b : Nat) (s : Int × Int × Int) : Int × Int × Int := if mLow i (a : Int) = mLow i (b : Int) then s else if nCnt i cs (nLo i a b) (nHi i a b) (i 101 308).toNat < s.2.2 then ((a : Int), (b : Int), nCnt i cs (nLo i a b) (nHi i a b) (i 101 308).toNat) else s
def nIn (i : IM) (cs : List Cla) (a : Nat) : Nat → Nat → Int × Int × Int → Int × Int × Int
  | 0, _, s => s
  | r + 1, b, s => nIn i cs a r (b + 1) (nStep i cs a b s)
def nOut (i : IM) (cs : List Cla) : Nat → Nat → Int × Int × Int → Int × Int × Int
  | 0, _, s => s
  | r + 1, a, s => nOut i cs r (a + 1) (nIn i cs a (7 - a) (a + 1) s)
def nAll (i : IM) (cs : List Cla) : Int × Int × Int := nOut i cs 8 0 (-1, -1, 1000000)
def nAns (what : Int) (s : Int × Int × Int) : Int := if s.1 = -1 then -1 else if what = 0 then s.1 else if what = 1 then s.2.1 else s.2.2
def mNear (i : IM) (cs : List Cla) (what : Int) : Int := if 0 ≤ what ∧ what ≤ 2 then nAns what (nAll i cs) else -1
def nOK (s : Int × Int × Int) : Prop := (s.1 = -1 ∧ s.2.1 = -1 ∧ s.2.2 = 1000000) ∨ ((0 ≤ s.1 ∧ s.1 < 8) ∧ (0 ≤ s.2.1 ∧ s.2.1 < 8) ∧ (0 ≤ s.2.2 ∧ s.2.2 ≤ 8))
theorem nStep_ok {cs : List Cla} (hk : kOK (i 101)) {a b : Nat} (ha : a < 8) (hb : b < 8) {s : Int × Int × Int} (h : nOK s) : nOK (nStep i cs a b s) := by
  have h308 := hk.1.2.1
  have := nCnt_le i cs (nLo i a b) (nHi i a b) (i 101 308).toNat
  unfold nStep
  split
  · exact h
  · split
    · exact Or.inr ⟨⟨by show 0 ≤ (a : Int); omega, by show (a : Int) < 8; omega⟩, ⟨by show 0 ≤ (b : Int); omega, by show (b : Int) < 8; omega⟩, ⟨by show 0 ≤ nCnt i cs (nLo i a b) (nHi i a b) (i 101 308).toNat; omega, by show nCnt i cs (nLo i a b) (nHi i a b) (i 101 308).toNat ≤ 8; omega⟩⟩
    · exact h
theorem low_pair {a b : Nat} (ha : a < 8) (hb : b < 8) (hne : ¬ mLow i (a : Int) = mLow i (b : Int)) : min (mLow i a) (mLow i b) = (nLo i a b : Int) ∧ max (mLow i a) (mLow i b) = (nHi i a b : Int) ∧ nLo i a b < nHi i a b ∧ nHi i a b < 8 ∧ mLow i a + mLow i b - min (mLow i a) (mLow i b) = (nHi i a b : Int) := by
  obtain ⟨x, hx, hx8⟩ := mLow_nat (i := i) (a : Int) ⟨by omega, by omega⟩
  obtain ⟨y, hy, hy8⟩ := mLow_nat (i := i) (b : Int) ⟨by omega, by omega⟩
  unfold nLo nHi
  rw [hx, hy] at hne ⊢
  omega
theorem nOK_rg {s : Int × Int × Int} (h : nOK s) : rg s.1 ∧ rg s.2.1 ∧ rg s.2.2 := by
  rcases h with ⟨a, b, c⟩ | ⟨a, b, c⟩
  · rw [a, b, c]; exact ⟨rg_lit rfl, rg_lit rfl, rg_lit rfl⟩
  · exact ⟨⟨by omega, by omega⟩, ⟨by omega, by omega⟩, ⟨by omega, by omega⟩⟩
/-- WINDOWS, in the model -/
theorem lp_near3 {P : Int → IM → LM → Prop} {i : IM} {A : Nat → List Cla} (hd : 78 ≤ d) (hk : kOK (i 101)) (hf : forceM (i 101) A) (hc : hasDep (inForce (i 101) A)) {what : Int} {s : Int × Int × Int} (hs : nOK s) {a b : Nat} (ha : a < 8) (hb : b < 8) (hne : ¬ mLow i (a : Int) = mLow i (b : Int)) (hnext : ∀ i', scrM i i' → gI w d X_X12_near P i' l 35 [(0, vR (some 99)), (1, vI what), (2, vI (nStep i (inForce (i 101) A) a b s).1), (3, vI (nStep i (inForce (i 101) A) a b s).2.1), (4, vI (nStep i (inForce (i 101) A) a b s).2.2), (5, vI (a : Int)), (6, vI ((b : Int) + 1))] []) : ∀ r v : Nat, v + r = (i 101 308).toNat → ∀ i', scrM i i' → gI w d X_X12_near P i' l 101 [(0, vR (some 99)), (1, vI what), (2, vI s.1), (3, vI s.2.1), (4, vI s.2.2), (5, vI (a : Int)), (6, vI (b : Int)), (7, vI (nLo i a b : Int)), (8, vI (nHi i a b : Int)), (9, vI (nCnt i (inForce (i 101) A) (nLo i a b) (nHi i a b) v)), (10, vI (v : Int))] [] := by
  have h308 := hk.1.2.1
  have h313 := hk.1.2.2.2.2.2
  have hlp := low_pair ha hb hne
  have hr := nOK_rg hs
  intro r
  induction r with
  | zero =>
    intro v hv i' hi
    have e1 : i' 101 = i 101 := scrM_c hi (by decide) (by decide)
    have hv2 : v = (i 101 308).toNat := by omega
    have hle := nCnt_le i (inForce (i 101) A) (nLo i a b) (nHi i a b) v
    have hn := hnext i' hi
    unfold nStep at hn
    rw [if_neg hne, ← hv2] at hn
    refine s_X12_near_101 _ _ _ _ _ _ _ _ _ _ (by omega) ⟨⟨by omega, by omega⟩, fun _ => ⟨by omega, by omega⟩, fun _ => hr.2.2, fun q => ?_, fun q => ?_, fun q => ?_⟩
    · rw [if_pos q.2] at hn; exact hn
    · rw [if_neg q.2] at hn; exact hn
    · rw [e1] at q; omega
  | succ r ih =>
    intro v hv i' hi
    have e1 : i' 101 = i 101 := scrM_c hi (by decide) (by decide)
    have hle := nCnt_le i (inForce (i 101) A) (nLo i a b) (nHi i a b) v
    refine s_X12_near_101 _ _ _ _ _ _ _ _ _ _ (by omega) ⟨⟨by omega, by omega⟩, fun q => ?_, fun q => ?_, fun q => ?_, fun q => ?_, fun q => ?_⟩
    · rw [e1] at q; omega
    · rw [e1] at q; omega
    · rw [e1] at q; omega
    · rw [e1] at q; omega
    · rw [e1]
      refine sp_X12_thingsSeen (by omega) (A := A) (by rw [e1]; exact hk) (by rw [e1]; exact hf) (by rw [e1]; exact hc) (mo := i 101 313) ⟨by omega, by omega⟩ ⟨by omega, by omega⟩ bd0 (fun i2 hi2 => ?_)
      obtain ⟨t, ht, ht2⟩ := mThings_nat hk (inForce (i 101) A) (v : Int) (i 101 313) 0
      rw [mThings_K e1, e1, ht]
      have hmg := mg_ok ht2 hlp.2.2.1 hlp.2.2.2.1
      have e2 : i2 101 = i 101 := (scrM_c hi2 (by decide) (by decide)).trans e1
      have go : gI w d X_X12_near P i2 l 153 [(0, vR (some 99)), (1, vI what), (2, vI s.1), (3, vI s.2.1), (4, vI s.2.2), (5, vI (a : Int)), (6, vI (b : Int)), (7, vI (nLo i a b : Int)), (8, vI (nHi i a b : Int)), (9, vI (nCnt i (inForce (i 101) A) (nLo i a b) (nHi i a b) v)), (10, vI (v : Int)), (11, vI ((mg t (nLo i a b) (nHi i a b) : Nat) : Int))] [] := by
        refine s_X12_near_153 _ _ _ _ _ _ _ _ _ _ _ (by omega) ⟨⟨by omega, by omega⟩, ?_⟩
        refine sp_X12_limitOf (by omega) (A := A) (by rw [e2]; exact hf) (by rw [e2]; exact hc) ⟨by omega, by omega⟩ (by rw [e2]; exact ⟨by omega, by omega⟩) bd0 (fun i3 hi3 => ?_)
        rw [e2]
        have := ih (v + 1) (by omega) i3 (scrM_tr (scrM_tr hi hi2) hi3)
        have e3 : nCnt i (inForce (i 101) A) (nLo i a b) (nHi i a b) (v + 1) = nCnt i (inForce (i 101) A) (nLo i a b) (nHi i a b) v + bI (fLimit (inForce (i 101) A) (v : Int) (i 101 313) 0 < popI (mg t (nLo i a b) (nHi i a b) : Nat)) := by
          show nCnt i (inForce (i 101) A) (nLo i a b) (nHi i a b) v + bI (fLimit (inForce (i 101) A) (v : Int) (i 101 313) 0 < popI (mg (mThings i (inForce (i 101) A) (v : Int) (i 101 313) 0).toNat (nLo i a b) (nHi i a b) : Nat)) = _
          rw [ht]; rfl
        rw [e3] at this
        exact this
      rw [ibit_nat (by omega) (by omega)]
      refine ⟨fun q => ?_, fun q => ?_⟩
      · have e4 : ior (iand (t : Int) (ixor (ishl 1 (nHi i a b : Int)) (-1))) (ishl 1 (nLo i a b : Int)) = ((mg t (nLo i a b) (nHi i a b) : Nat) : Int) := by
          have hand : t &&& (65535 - 2 ^ nHi i a b) ≤ t := Nat.and_le_left
          have hp : 2 ^ nLo i a b < 2 ^ 8 := Nat.pow_lt_pow_right (by omega) (by omega)
          rw [iand_not (by omega) (by omega), ishl_one (by omega), ior_nat (by omega) (by omega)]
          unfold mg
          rw [if_pos (by omega)]
        rw [e4]
        exact go
      · have e4 : ((mg t (nLo i a b) (nHi i a b) : Nat) : Int) = (t : Int) := by
          unfold mg
          rw [if_neg (by omega)]
        rw [e4] at go
        exact go
theorem lp_near2 {P : Int → IM → LM → Prop} {i : IM} {A : Nat → List Cla} (hd : 78 ≤ d) (hk : kOK (i 101)) (hf : forceM (i 101) A) (hc : hasDep (inForce (i 101) A)) {what : Int} {a : Nat} (ha : a < 8) {S : Int × Int × Int} (hnext : ∀ i', scrM i i' → gI w d X_X12_near P i' l 22 [(0, vR (some 99)), (1, vI what), (2, vI S.1), (3, vI S.2.1), (4, vI S.2.2), (5, vI ((a : Int) + 1))] []) : ∀ (r b : Nat) (s : Int × Int × Int), b + r = 8 → nOK s → nIn i (inForce (i 101) A) a r b s = S → ∀ i', scrM i i' → gI w d X_X12_near P i' l 35 [(0, vR (some 99)), (1, vI what), (2, vI s.1), (3, vI s.2.1), (4, vI s.2.2), (5, vI (a : Int)), (6, vI (b : Int))] [] := by
  intro r
  induction r with
  | zero =>
    intro b s hb hs hS i' hi
    have hn := hnext i' hi
    rw [← hS] at hn
    refine s_X12_near_35 _ _ _ _ _ _ (by omega) ⟨⟨by omega, by omega⟩, fun q => by omega, fun q => by omega, fun q => by omega, fun q => hn, fun q => by omega, fun q => by omega⟩
  | succ r ih =>
    intro b s hb hs hS i' hi
    have hso := kOK_same hk
    have hso2 := scrM_same hi hso
    have hl := scrM_low hi
    have ih2 := ih (b + 1) (nStep i (inForce (i 101) A) a b s) (by omega) (nStep_ok hk ha (by omega) hs) hS
    refine s_X12_near_35 _ _ _ _ _ _ (by omega) ⟨⟨by omega, by omega⟩, fun q => ⟨by omega, by omega⟩, fun q => hso2, fun q => ⟨by omega, by omega⟩, fun q => by omega, fun q => ⟨⟨by omega, by omega⟩, hso2, ⟨by omega, by omega⟩, ?_⟩, fun q => ?_⟩
    · have hne := q.2
      rw [hl, hl] at hne ⊢
      have hlp := low_pair ha (show b < 8 by omega) hne
      rw [hlp.2.2.2.2, hlp.1]
      exact lp_near3 hd hk hf hc hs ha (by omega) hne ih2 _ 0 (Nat.zero_add _) i' hi
    · have he := q.2
      rw [hl, hl] at he
      have := ih2 i' hi
      unfold nStep at this
      rw [if_pos he] at this
      exact this
theorem nIn_ok {cs : List Cla} (hk : kOK (i 101)) {a : Nat} (ha : a < 8) : ∀ (r b : Nat) (s : Int × Int × Int), b + r = 8 → nOK s → nOK (nIn i cs a r b s)
  | 0, _, _, _, h => h
  | r + 1, b, s, hb, h => nIn_ok hk ha r (b + 1) _ (by omega) (nStep_ok hk ha (by omega) h)
theorem lp_near1 {P : Int → IM → LM → Prop} {i : IM} {A : Nat → List Cla} (hd : 78 ≤ d) (hk : kOK (i 101)) (hf : forceM (i 101) A) (hc : hasDep (inForce (i 101) A)) {what : Int} (hw : 0 ≤ what ∧ what ≤ 2) {S : Int × Int × Int} (hP : ∀ i', scrM i i' → P (nAns what S) i' l) : ∀ (r a : Nat) (s : Int × Int × Int), a + r = 8 → nOK s → nOut i (inForce (i 101) A) r a s = S → ∀ i', scrM i i' → gI w d X_X12_near P i' l 22 [(0, vR (some 99)), (1, vI what), (2, vI s.1), (3, vI s.2.1), (4, vI s.2.2), (5, vI (a : Int))] [] := by
  intro r
  induction r with
  | zero =>
    intro a s ha hs hS i' hi
    have hp := hP i' hi
    rw [← hS] at hp
    have hr := nOK_rg hs
    have hp2 : P (nAns what s) i' l := hp
    unfold nAns at hp2
    refine s_X12_near_22 _ _ _ _ _ ⟨⟨by omega, by omega⟩, fun _ => hr.1, fun q => ⟨⟨by omega, by omega⟩, ?_, ?_⟩, fun q => ?_, fun q => by omega⟩
    · split
      · exact hr.1
      · split
        · exact hr.2.1
        · exact hr.2.2
    · rw [if_neg q.2] at hp2; exact hp2
    · rw [if_pos q.2] at hp2; exact hp2
  | succ r ih =>
    intro a s ha hs hS i' hi
    refine s_X12_near_22 _ _ _ _ _ ⟨⟨by omega, by omega⟩, fun q => by omega, fun q => by omega, fun q => by omega, fun q => ?_⟩
    have hio : nOK (nIn i (inForce (i 101) A) a (7 - a) (a + 1) s) := nIn_ok hk (by omega) _ _ _ (by omega) hs
    exact lp_near2 hd hk hf hc (by omega) (fun i2 hi2 => ih (a + 1) _ (by omega) hio hS i2 hi2) (7 - a) (a + 1) s (by omega) hs rfl i' hi
theorem sp_X12_near {P : Int → IM → LM → Prop} {i : IM} {A : Nat → List Cla} (hd : 79 ≤ d) (hk : kOK (i 101)) (hf : forceM (i 101) A) (hc : hasDep (inForce (i 101) A)) {what : Int} (h0 : rg what) (hP : ∀ i', scrM i i' → P (mNear i (inForce (i 101) A) what) i' l) : cI w d X_X12_near [vR (some 99), vI what] i l P := by
  obtain ⟨d, rfl, hd1⟩ := d_pos hd
  unfold mNear at hP
  refine e_X12_near (s_X12_near _ (by omega) ⟨h0, fun q => ?_, fun q => ?_⟩)
  · rw [if_pos q] at hP
    exact lp_near1 hd1 hk hf hc q hP 8 0 (-1, -1, 1000000) rfl (Or.inl ⟨rfl, rfl, rfl⟩) rfl i (scrM_rf i)
  · rw [if_neg q] at hP
    exact hP i (scrM_rf i)
end
