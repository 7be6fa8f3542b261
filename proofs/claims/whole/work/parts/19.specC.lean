/-! the lowest colour that counts as one, and where one of the PEOPLE is, in the model -/
def sameOK (i : IM) : Prop := ∀ c : Int, 0 ≤ c → c < 8 → 0 ≤ i 101 (119 + c) ∧ i 101 (119 + c) < 256
def mSame (i : IM) (k : Nat) : Nat := (i 101 (119 + (k : Int))).toNat
def mLow (i : IM) (c : Int) : Int := (lowFrom (clSet (mSame i) c.toNat) 8 0 : Nat)
/-- the place that WALKS tell (in threes), and since when -/
def whGo (W : Int → Int) (p m : Int) : Nat → Int × Int
  | 0 => (-1, -1)
  | n + 1 => if W (3 * (n : Int)) = p ∧ W (3 * (n : Int) + 1) ≤ m ∧ (whGo W p m n).2 ≤ W (3 * (n : Int) + 1) then (W (3 * (n : Int) + 2), W (3 * (n : Int) + 1)) else whGo W p m n
def mWhere (i : IM) (p m : Int) : Int := (whGo (fun j => i 101 (127 + j)) p m (i 101 310).toNat).1
theorem whGo_rg {W : Int → Int} (h : ∀ j, rg (W j)) (p m : Int) : ∀ n, rg (whGo W p m n).1 ∧ rg (whGo W p m n).2
  | 0 => ⟨rg_lit rfl, rg_lit rfl⟩
  | n + 1 => by
    have ih := whGo_rg h p m n
    unfold whGo
    split
    · exact ⟨h _, h _⟩
    · exact ih
section
variable {w : Wd} {d : Nat} {i : IM} {l : LM}
theorem mSame_lt (hs : sameOK i) : ∀ k, k < 8 → mSame i k < 256 ∧ i 101 (119 + (k : Int)) = (mSame i k : Nat) := by
  intro k hk
  obtain ⟨h1, h2⟩ := hs k (by omega) (by omega)
  unfold mSame
  omega
theorem lpL57 (hd : 1 ≤ d) {P : Int → IM → LM → Prop} {F c : Nat} (hF : F < 256) (hc : F.testBit c = true) : ∀ m k, k + m = 8 → k ≤ c → c < 8 → P (lowFrom F m k : Nat) i l → gI w d X_X12_lowestOf P i l 57 [(2, vI F), (4, vI k)] [] := by
  intro m
  induction m with
  | zero => intro k h1 h2 h3; omega
  | succ m ih =>
    intro k h1 h2 h3 hP
    unfold lowFrom at hP
    have hb := ib1 (a := F) (k := k) (by omega) (by omega)
    refine s_X12_lowestOf_57 _ _ hd ⟨fun h => ⟨⟨by omega, by omega⟩, ?_⟩, fun h => ?_⟩
    · rw [if_pos ((tb F k).mp (hb.mp h))] at hP
      exact hP
    · rw [if_neg (fun z => h (hb.mpr ((tb F k).mpr z)))] at hP
      have e : k ≠ c := fun e => h (hb.mpr (by rw [e]; exact hc))
      exact ih (k + 1) (by omega) (by omega) h3 hP
theorem lpL16 (hd : 1 ≤ d) (hs : sameOK i) {P : Int → IM → LM → Prop} {b : Nat} (hb : b < 256) (hk : gI w d X_X12_lowestOf P i l 6 [(0, vR (some 99)), (2, vI (clRound (mSame i) b 8 : Nat)), (3, vI b)] []) : ∀ m k, k + m = 8 → gI w d X_X12_lowestOf P i l 16 [(0, vR (some 99)), (2, vI (clRound (mSame i) b k : Nat)), (3, vI b), (4, vI k)] [] := by
  intro m
  induction m with
  | zero =>
    intro k h1
    have e : k = 8 := by omega
    subst e
    exact s_X12_lowestOf_16 _ _ _ hd ⟨rg_lit rfl, fun _ => hk, fun h => absurd (by decide) h.1, fun h => absurd (by decide) h.1⟩
  | succ m ih =>
    intro k h1
    have hbit := ib1 (a := b) (k := k) (by omega) (by omega)
    obtain ⟨hm1, hm2⟩ := mSame_lt hs k (by omega)
    have hr := clRound_lt (S := mSame i) hb k (fun j hj => (mSame_lt hs j (by omega)).1)
    have h := ih (k + 1) (by omega)
    refine s_X12_lowestOf_16 _ _ _ hd ⟨⟨by omega, by omega⟩, fun h => absurd h (by omega), fun h2 => ?_, fun h2 => ⟨⟨by omega, by omega⟩, ?_⟩⟩
    · have e : clRound (mSame i) b (k + 1) = clRound (mSame i) b k := by
        show (if _ then _ else _) = _
        rw [if_neg (fun z => h2.2 (hbit.mpr z))]
      rw [e] at h
      exact h
    · have e : clRound (mSame i) b (k + 1) = clRound (mSame i) b k ||| mSame i k := by
        show (if _ then _ else _) = _
        rw [if_pos (hbit.mp h2.2)]
      rw [e] at h
      rw [hm2, ior_nat (by omega) (by omega)]
      exact h
theorem lpL6 (hd : 1 ≤ d) (hs : sameOK i) {P : Int → IM → LM → Prop} {c : Nat} (hc : c < 8) (hP : P (lowFrom (clSet (mSame i) c) 8 0 : Nat) i l) : ∀ m n, n + m = 255 → n + 1 ≤ clIter (mSame i) (2 ^ c) n → gI w d X_X12_lowestOf P i l 6 [(0, vR (some 99)), (2, vI (clIter (mSame i) (2 ^ c) (n + 1) : Nat)), (3, vI (clIter (mSame i) (2 ^ c) n : Nat))] [] := by
  have hp : 2 ^ c < 2 ^ 8 := Nat.pow_lt_pow_right (by omega) hc
  have hlt := fun n => clIter_lt (S := mSame i) (b := 2 ^ c) hp (fun k hk => (mSame_lt hs k hk).1) n
  intro m
  induction m with
  | zero =>
    intro n h1 h2
    have := hlt n
    omega
  | succ m ih =>
    intro n h1 h2
    have l1 := hlt n
    have l2 := hlt (n + 1)
    refine s_X12_lowestOf_6 _ _ ⟨⟨by omega, by omega⟩, ⟨by omega, by omega⟩, fun h => ?_, fun h => ?_⟩
    · have e : clIter (mSame i) (2 ^ c) (n + 1) = clIter (mSame i) (2 ^ c) n := by omega
      have e2 := clIter_fix e (256 - n)
      rw [show n + (256 - n) = 256 by omega] at e2
      have e3 : clIter (mSame i) (2 ^ c) (n + 1) = clSet (mSame i) c := by rw [e]; exact e2.symm
      rw [e3]
      have hb : (clSet (mSame i) c).testBit c = true := clIter_up _ _ _ ((bit_pow c c).mpr rfl) 256
      exact lpL57 hd (hlt 256) hb 8 0 rfl (by omega) hc hP
    · have hle := le_of_bits (clIter_mono (mSame i) (2 ^ c) n)
      have hne : clIter (mSame i) (2 ^ c) (n + 1) ≠ clIter (mSame i) (2 ^ c) n := fun e => h (by rw [e])
      refine lpL16 hd hs (b := clIter (mSame i) (2 ^ c) (n + 1)) l2 ?_ 8 0 rfl
      exact ih (n + 1) (by omega) (by omega)
theorem sp_X12_lowestOf (hd : 2 ≤ d) {c : Int} (h : 0 ≤ c ∧ c < 8) (hs : sameOK i) : cI w d X_X12_lowestOf [vR (some 99), vI c] i l (fun x i' l' => x = mLow i c ∧ i' = i ∧ l' = l) := by
  obtain ⟨d, rfl, hd1⟩ := d_pos hd
  obtain ⟨n, rfl⟩ := Int.eq_ofNat_of_zero_le h.1
  have hn : n < 8 := by omega
  have hp : 2 ^ n < 2 ^ 8 := Nat.pow_lt_pow_right (by omega) hn
  have h0 : 0 < 2 ^ n := Nat.two_pow_pos n
  refine e_X12_lowestOf (s_X12_lowestOf _ ?_)
  rw [ishl_one (by omega)]
  refine s_X12_lowestOf_6 _ _ ⟨⟨by omega, by omega⟩, rg_lit rfl, fun h => by omega, fun _ => ?_⟩
  refine lpL16 hd1 hs (b := 2 ^ n) hp ?_ 8 0 rfl
  exact lpL6 hd1 hs hn ⟨rfl, rfl, rfl⟩ 255 0 rfl h0
theorem lp_whereOf (hr : ∀ a j, rg (i a j)) {P : Int → IM → LM → Prop} {p m : Int} (hp : rg p) (hm : rg m) {N : Nat} (hN : i 101 310 = N) (h60 : N ≤ 60) (hP : P (whGo (fun j => i 101 (127 + j)) p m N).1 i l) : ∀ r n : Nat, n + r = N → gI w d X_X12_whereOf P i l 8 [(0, vR (some 99)), (1, vI p), (2, vI m), (3, vI (whGo (fun j => i 101 (127 + j)) p m n).1), (4, vI (whGo (fun j => i 101 (127 + j)) p m n).2), (5, vI n)] [] := by
  intro r
  induction r with
  | zero =>
    intro n h1
    have e : n = N := by omega
    subst e
    have hg := whGo_rg (W := fun j => i 101 (127 + j)) (fun j => hr _ _) p m n
    exact s_X12_whereOf_8 _ _ _ _ _ ⟨⟨by omega, by omega⟩, fun _ => ⟨hg.1, hP⟩, fun h => absurd (by omega) h⟩
  | succ r ih =>
    intro n h1
    have hg := whGo_rg (W := fun j => i 101 (127 + j)) (fun j => hr _ _) p m n
    have h := ih (n + 1) (by omega)
    have e0 : (127 + 3 * (n : Int)) + 1 = 127 + (3 * (n : Int) + 1) := by omega
    have e9 : (127 + 3 * (n : Int)) + 2 = 127 + (3 * (n : Int) + 2) := by omega
    refine s_X12_whereOf_8 _ _ _ _ _ ⟨⟨by omega, by omega⟩, fun h => absurd h (by omega), fun _ => ⟨⟨by omega, by omega⟩, ⟨by omega, by omega⟩, hp, fun _ => hm, fun _ _ => hg.2, fun h2 => ⟨⟨by omega, by omega⟩, ?_⟩, fun h2 => ?_⟩⟩
    · rw [e0] at h2
      have e : whGo (fun j => i 101 (127 + j)) p m (n + 1) = (i 101 (127 + (3 * (n : Int) + 2)), i 101 (127 + (3 * (n : Int) + 1))) := by
        show (if _ then _ else _) = _
        rw [if_pos ⟨h2.1, Int.not_lt.mp h2.2.1, h2.2.2⟩]
      rw [e] at h
      rw [e0, e9]
      exact h
    · rw [e0] at h2
      have e : whGo (fun j => i 101 (127 + j)) p m (n + 1) = whGo (fun j => i 101 (127 + j)) p m n := by
        show (if _ then _ else _) = _
        rw [if_neg (fun z => h2 ⟨z.1, Int.not_lt.mpr z.2.1, z.2.2⟩)]
      rw [e] at h
      exact h
theorem sp_X12_whereOf (hd : 1 ≤ d) {p m : Int} (hp : rg p) (hm : rg m) (h : 0 ≤ i 101 310 ∧ i 101 310 ≤ 60) : cI w d X_X12_whereOf [vR (some 99), vI p, vI m] i l (fun x i' l' => x = mWhere i p m ∧ i' = i ∧ l' = l) := by
  obtain ⟨d, rfl, hd1⟩ := d_pos hd
  refine e_X12_whereOf (g_rg (fun hr => s_X12_whereOf _ _ ?_))
  exact lp_whereOf hr hp hm (N := (i 101 310).toNat) (by omega) (by omega) ⟨rfl, rfl, rfl⟩ _ 0 (Nat.zero_add _)
end
