/-! what a WINDOW sees, in the model -/
/-- all that the model keeps is in its range -/
def kOK (K : Int → Int) : Prop := ((0 ≤ K 307 ∧ K 307 ≤ 10) ∧ (0 ≤ K 308 ∧ K 308 ≤ 8) ∧ (0 ≤ K 309 ∧ K 309 ≤ 5) ∧ (0 ≤ K 310 ∧ K 310 ≤ 60) ∧ (0 ≤ K 311 ∧ K 311 ≤ 6) ∧ (0 ≤ K 313 ∧ K 313 < 12))
  ∧ (∀ t : Int, 0 ≤ t → t < 10 → (0 ≤ K (8 * t + 0) ∧ K (8 * t + 0) ≤ 3) ∧ (0 ≤ K (8 * t + 1) ∧ K (8 * t + 1) < 8) ∧ (0 ≤ K (8 * t + 2) ∧ K (8 * t + 2) < 8) ∧ (0 ≤ K (8 * t + 3) ∧ K (8 * t + 3) ≤ 99) ∧ (0 ≤ K (8 * t + 4) ∧ K (8 * t + 4) ≤ 99) ∧ (0 ≤ K (8 * t + 5) ∧ K (8 * t + 5) ≤ 1) ∧ (0 ≤ K (8 * t + 6) ∧ K (8 * t + 6) ≤ 4095) ∧ (0 ≤ K (8 * t + 7) ∧ K (8 * t + 7) < 8))
  ∧ (∀ v : Int, 0 ≤ v → v < 8 → (0 ≤ K (80 + 3 * v + 0) ∧ K (80 + 3 * v + 0) ≤ 1023) ∧ (0 ≤ K (80 + 3 * v + 1) ∧ K (80 + 3 * v + 1) ≤ 1023) ∧ (0 ≤ K (80 + 3 * v + 2) ∧ K (80 + 3 * v + 2) ≤ 99))
  ∧ (∀ a : Int, 0 ≤ a → a < 10 → 0 ≤ K (104 + a) ∧ K (104 + a) ≤ 1023)
  ∧ (∀ p : Int, 0 ≤ p → p < 5 → 0 ≤ K (114 + p) ∧ K (114 + p) < 8)
  ∧ (∀ c : Int, 0 ≤ c → c < 8 → 0 ≤ K (119 + c) ∧ K (119 + c) < 256)
  ∧ (∀ j : Int, 0 ≤ j → j < 60 → (0 ≤ K (127 + 3 * j) ∧ K (127 + 3 * j) < 5) ∧ (0 ≤ K (127 + (3 * j + 1)) ∧ K (127 + (3 * j + 1)) < 120) ∧ (-1 ≤ K (127 + (3 * j + 2)) ∧ K (127 + (3 * j + 2)) < 10))
theorem kOK_same {i : IM} (h : kOK (i 101)) : sameOK i := h.2.2.2.2.2.1
theorem mWhere_lt {i : IM} (h : kOK (i 101)) (p m : Int) : -1 ≤ mWhere i p m ∧ mWhere i p m < 10 := by
  have key : ∀ n : Nat, n ≤ 60 → -1 ≤ (whGo (fun j => i 101 (127 + j)) p m n).1 ∧ (whGo (fun j => i 101 (127 + j)) p m n).1 < 10 := by
    intro n
    induction n with
    | zero => intro _; exact ⟨by show (-1 : Int) ≤ -1; omega, by show (-1 : Int) < 10; omega⟩
    | succ n ih =>
      intro hn
      unfold whGo
      split
      · exact (h.2.2.2.2.2.2 n (by omega) (by omega)).2.2
      · exact ih (by omega)
  exact key _ (by have := h.1.2.2.2.1; omega)
def mBit (i : IM) (cs : List Cla) (v t c mo mi : Int) : Int := if iand (ishr (i 101 (80 + 3 * v + 0)) t) 1 = 1 then fBit cs (mkEnv v t 0 (mShows i t c mo) (i 101 (8 * t + 0)) mo mi 0 0) (mLow i (mShows i t c mo)) else 0
def mCoat (i : IM) (cs : List Cla) (v p pl mo mi : Int) : Int := if pl = -1 ∨ ¬ iand (ishr (i 101 (80 + 3 * v + 1)) pl) 1 = 1 then 0 else fBit cs (mkEnv v 0 pl (i 101 (114 + p)) 0 mo mi 1 p) (mLow i (i 101 (114 + p)))
theorem mBit_scr {i i' : IM} (h : scrM i i') (cs : List Cla) (v t c mo mi : Int) : mBit i' cs v t c mo mi = mBit i cs v t c mo mi := by
  have e : i' 101 = i 101 := scrM_c h (by decide) (by decide)
  have e2 : mShows i' t c mo = mShows i t c mo := by unfold mShows; rw [e]
  unfold mBit
  rw [e, e2, scrM_low h]
theorem mCoat_scr {i i' : IM} (h : scrM i i') (cs : List Cla) (v p pl mo mi : Int) : mCoat i' cs v p pl mo mi = mCoat i cs v p pl mo mi := by
  have e : i' 101 = i 101 := scrM_c h (by decide) (by decide)
  unfold mCoat
  rw [e, scrM_low h]
theorem mLow_nat {i : IM} (c : Int) (hc : 0 ≤ c ∧ c < 8) : ∃ n : Nat, mLow i c = (n : Int) ∧ n < 8 := by
  refine ⟨lowFrom (clSet (mSame i) c.toNat) 8 0, rfl, ?_⟩
  have := (lowFrom_hit (a := clSet (mSame i) c.toNat) 8 0 c.toNat (by omega) (by omega) (clIter_up _ _ _ ((bit_pow _ _).mpr rfl) 256)).2.2
  omega
theorem fBit_nat (cs : List Cla) (e : LEnv) {n : Nat} (hn : n < 8) : ∃ b : Nat, fBit cs e (n : Int) = (b : Int) ∧ b < 256 := by
  unfold fBit
  split
  · exact ⟨0, rfl, by omega⟩
  · rw [ishl_one (by omega)]
    have : 2 ^ n < 2 ^ 8 := Nat.pow_lt_pow_right (by omega) hn
    exact ⟨2 ^ n, rfl, this⟩
/-- bits joined -/
def orGo (g : Nat → Int) (x : Int) : Nat → Int
  | 0 => x
  | n + 1 => ior (orGo g x n) (g n)
theorem orGo_nat {g : Nat → Int} {x : Int} (hx : ∃ b : Nat, x = (b : Int) ∧ b < 256) : ∀ n, (∀ k, k < n → ∃ b : Nat, g k = (b : Int) ∧ b < 256) → ∃ b : Nat, orGo g x n = (b : Int) ∧ b < 256
  | 0, _ => hx
  | n + 1, h => by
    obtain ⟨a, ha, ha2⟩ := orGo_nat hx n (fun k hk => h k (by omega))
    obtain ⟨b, hb, hb2⟩ := h n (by omega)
    refine ⟨a ||| b, ?_, Nat.or_lt_two_pow (n := 8) ha2 hb2⟩
    show ior (orGo g x n) (g n) = _
    rw [ha, hb, ior_nat (by omega) (by omega)]
theorem mBit_nat {i : IM} (hk : kOK (i 101)) (cs : List Cla) {v t c mo mi : Int} (ht : 0 ≤ t ∧ t < 10) (hc : 0 ≤ c ∧ c < 8) : ∃ b : Nat, mBit i cs v t c mo mi = (b : Int) ∧ b < 256 := by
  unfold mBit
  split
  · have h7 := (hk.2.1 t ht.1 ht.2).2.2.2.2.2.2.2
    obtain ⟨n, hn, hn8⟩ := mLow_nat (i := i) (mShows i t c mo) (mShows_lt hc h7)
    rw [hn]
    exact fBit_nat _ _ hn8
  · exact ⟨0, rfl, by omega⟩
theorem mCoat_nat {i : IM} (hk : kOK (i 101)) (cs : List Cla) {v p pl mo mi : Int} (hp : 0 ≤ p ∧ p < 5) : ∃ b : Nat, mCoat i cs v p pl mo mi = (b : Int) ∧ b < 256 := by
  unfold mCoat
  split
  · exact ⟨0, rfl, by omega⟩
  · obtain ⟨n, hn, hn8⟩ := mLow_nat (i := i) (i 101 (114 + p)) (hk.2.2.2.2.1 p hp.1 hp.2)
    rw [hn]
    exact fBit_nat _ _ hn8
def mThings (i : IM) (cs : List Cla) (v mo mi : Int) : Int := orGo (fun t => mBit i cs v (t : Int) (i 101 (8 * (t : Int) + 1)) mo mi) 0 (i 101 307).toNat
def mSeen (i : IM) (cs : List Cla) (v mi but pl : Int) : Int := orGo (fun p => mCoat i cs v (p : Int) (if (p : Int) = but then pl else mWhere i (p : Int) mi) (i 101 313) mi) (mThings i cs v (i 101 313) mi) (i 101 309).toNat
theorem mThings_nat {i : IM} (hk : kOK (i 101)) (cs : List Cla) (v mo mi : Int) : ∃ b : Nat, mThings i cs v mo mi = (b : Int) ∧ b < 256 := by
  have h307 := hk.1.1
  exact orGo_nat ⟨0, rfl, by omega⟩ _ (fun k hk2 => mBit_nat hk cs ⟨by omega, by omega⟩ (hk.2.1 k (by omega) (by omega)).2.1)
theorem mSeen_nat {i : IM} (hk : kOK (i 101)) (cs : List Cla) (v mi but pl : Int) : ∃ b : Nat, mSeen i cs v mi but pl = (b : Int) ∧ b < 256 := by
  have h309 := hk.1.2.2.1
  exact orGo_nat (mThings_nat hk cs v _ mi) _ (fun k hk2 => mCoat_nat hk cs ⟨by omega, by omega⟩)
section
variable {w : Wd} {d : Nat} {l : LM}
theorem lp_thingsSeen {P : Int → IM → LM → Prop} {i : IM} {A : Nat → List Cla} (hd : 76 ≤ d) (hk : kOK (i 101)) (hf : forceM (i 101) A) (hc : hasDep (inForce (i 101) A)) {v mo mi : Int} (h0 : 0 ≤ v ∧ v < 8) (h1 : bd mo) (h2 : bd mi) (hP : ∀ i', scrM i i' → P (mThings i (inForce (i 101) A) v mo mi) i' l) : ∀ m n : Nat, n + m = (i 101 307).toNat → ∀ i', scrM i i' → gI w d X_X12_thingsSeen P i' l 6 [(0, vR (some 99)), (1, vI v), (2, vI mo), (3, vI mi), (4, vI (orGo (fun t => mBit i (inForce (i 101) A) v (t : Int) (i 101 (8 * (t : Int) + 1)) mo mi) 0 n)), (5, vI (n : Int))] [] := by
  have h307 := hk.1.1
  have hnat := fun n (hn : n ≤ (i 101 307).toNat) => orGo_nat (g := fun t => mBit i (inForce (i 101) A) v (t : Int) (i 101 (8 * (t : Int) + 1)) mo mi) (x := 0) ⟨0, rfl, by omega⟩ n (fun k hk2 => mBit_nat hk _ ⟨by omega, by omega⟩ (hk.2.1 k (by omega) (by omega)).2.1)
  intro m
  induction m with
  | zero =>
    intro n hn i' hi
    have e : n = (i 101 307).toNat := by omega
    obtain ⟨b, hb, hb2⟩ := hnat n (by omega)
    have e1 : i' 101 = i 101 := scrM_c hi (by decide) (by decide)
    refine s_X12_thingsSeen_6 _ _ _ _ _ (by omega) ⟨⟨by omega, by omega⟩, fun _ => ⟨by rw [hb]; exact ⟨by omega, by omega⟩, ?_⟩, fun q => absurd (by rw [e1]; omega) q⟩
    rw [e]
    exact hP i' hi
  | succ m ih =>
    intro n hn i' hi
    have e1 : i' 101 = i 101 := scrM_c hi (by decide) (by decide)
    have hkt := hk.2.1 n (by omega) (by omega)
    refine s_X12_thingsSeen_6 _ _ _ _ _ (by omega) ⟨⟨by omega, by omega⟩, fun q => absurd q (by rw [e1]; omega), fun _ => ⟨⟨by omega, by omega⟩, ?_⟩⟩
    refine sp_X12_bitOf (by omega) (A := A) (by rw [e1]; exact hf) (by rw [e1]; exact hc) (scrM_same hi (kOK_same hk)) h0 ⟨by omega, by omega⟩ (by rw [e1]; exact hkt.2.1) h1 h2 (by rw [e1]; exact ⟨by omega, by omega⟩) (by rw [e1]; exact hkt.2.2.2.2.2.2.2) (fun i2 hi2 => ?_)
    have e2 := mBit_scr hi (inForce (i 101) A) v (n : Int) (i 101 (8 * (n : Int) + 1)) mo mi
    have hz : (if iand (ishr (i' 101 (80 + 3 * v + 0)) (n : Int)) 1 = 1 then fBit (inForce (i' 101) A) (mkEnv v (n : Int) 0 (mShows i' (n : Int) (i' 101 (8 * (n : Int) + 1)) mo) (i' 101 (8 * (n : Int) + 0)) mo mi 0 0) (mLow i' (mShows i' (n : Int) (i' 101 (8 * (n : Int) + 1)) mo)) else 0) = mBit i (inForce (i 101) A) v (n : Int) (i 101 (8 * (n : Int) + 1)) mo mi := by
      rw [← e2]
      unfold mBit
      rw [e1]
    rw [hz]
    exact ih (n + 1) (by omega) i2 (scrM_tr hi hi2)
theorem sp_X12_thingsSeen {P : Int → IM → LM → Prop} {i : IM} {A : Nat → List Cla} (hd : 77 ≤ d) (hk : kOK (i 101)) (hf : forceM (i 101) A) (hc : hasDep (inForce (i 101) A)) {v mo mi : Int} (h0 : 0 ≤ v ∧ v < 8) (h1 : bd mo) (h2 : bd mi) (hP : ∀ i', scrM i i' → P (mThings i (inForce (i 101) A) v mo mi) i' l) : cI w d X_X12_thingsSeen [vR (some 99), vI v, vI mo, vI mi] i l P := by
  obtain ⟨d, rfl, hd1⟩ := d_pos hd
  exact e_X12_thingsSeen (s_X12_thingsSeen _ _ _ (lp_thingsSeen hd1 hk hf hc h0 h1 h2 hP _ 0 (Nat.zero_add _) i (scrM_rf i)))
end
