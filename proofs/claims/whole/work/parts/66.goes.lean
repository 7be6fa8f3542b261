/-! a step by DRAWS -/
section
variable {w : Wd} {d : Nat} {i : IM} {l : LM}
/-- as the program goes -/
def nxGo (S : Nat) : Nat → Nat → Int → Int → Int
  | 0, _, _, b => b
  | n + 1, q, k, b => if k - ((S / 2 ^ q % 2 : Nat) : Int) = 0 then (q : Int) else nxGo S n (q + 1) (k - ((S / 2 ^ q % 2 : Nat) : Int)) b
def sufB (S : Nat) : Nat → Nat → Int
  | 0, _ => 0
  | n + 1, q => ((S / 2 ^ q % 2 : Nat) : Int) + sufB S n (q + 1)
theorem nxGo_str (S : Nat) : ∀ n q (k b b' : Int), 0 < k → k ≤ sufB S n q → strGo S n q k b = nxGo S n q k b'
  | 0, q, k, b, b', h1, h2 => by
    have h3 : k ≤ 0 := h2
    omega
  | n + 1, q, k, b, b', h1, h2 => by
    unfold sufB at h2
    unfold strGo nxGo
    rw [if_neg (by omega)]
    have hb := bit_div S q
    by_cases t : S.testBit q = true
    · rw [if_pos t] at hb ⊢
      rw [hb] at h2 ⊢
      by_cases z : k = 1
      · subst z
        rw [if_pos (by decide)]
        cases n with
        | zero => rfl
        | succ n => unfold strGo; rw [if_pos (by decide)]
      · rw [if_neg (by omega)]
        exact nxGo_str S n (q + 1) (k - 1) q b' (by omega) (by omega)
    · rw [if_neg t] at hb ⊢
      rw [hb] at h2 ⊢
      rw [if_neg (by omega)]
      have e : k - ((0 : Nat) : Int) = k := by omega
      rw [e]
      exact nxGo_str S n (q + 1) k b b' h1 (by omega)
theorem sufB_cnt (S : Nat) : ∀ n q, ((cntB S q : Nat) : Int) + sufB S n q = ((cntB S (q + n) : Nat) : Int)
  | 0, q => by show _ + (0 : Int) = _; rw [Nat.add_zero, Int.add_zero]
  | n + 1, q => by
    have ih := sufB_cnt S n (q + 1)
    have e : q + 1 + n = q + (n + 1) := by omega
    rw [e] at ih
    rw [← ih]
    show ((cntB S q : Nat) : Int) + (((S / 2 ^ q % 2 : Nat) : Int) + sufB S n (q + 1)) = ((cntB S q + S / 2 ^ q % 2 : Nat) : Int) + sufB S n (q + 1)
    omega
theorem cntB_hi {S : Nat} (h : S < 1024) : cntB S 16 = cntB S 10 := by
  have e : ∀ k, 10 ≤ k → S / 2 ^ k % 2 = 0 := by
    intro k hk
    have : 2 ^ 10 ≤ 2 ^ k := Nat.pow_le_pow_right (by omega) hk
    rw [Nat.div_eq_of_lt (by omega)]
  show cntB S 10 + S / 2 ^ 10 % 2 + S / 2 ^ 11 % 2 + S / 2 ^ 12 % 2 + S / 2 ^ 13 % 2 + S / 2 ^ 14 % 2 + S / 2 ^ 15 % 2 = _
  rw [e 10 (by omega), e 11 (by omega), e 12 (by omega), e 13 (by omega), e 14 (by omega), e 15 (by omega)]
  rfl
theorem pop_suf {S : Nat} (h : S < 1024) : popI (S : Int) = sufB S 10 0 := by
  have := sufB_cnt S 10 0
  have e0 : ((cntB S 0 : Nat) : Int) = 0 := rfl
  rw [e0, Nat.zero_add] at this
  show ((cntB S 16 : Nat) : Int) = _
  rw [cntB_hi h, ← this]
  omega
theorem strGo_rg (S : Nat) : ∀ n q (k b : Int), 0 ≤ b ∧ b < 10 → q + n ≤ 10 → 0 ≤ strGo S n q k b ∧ strGo S n q k b < 10
  | 0, _, _, _, hb, _ => hb
  | n + 1, q, k, b, hb, hq => by
    unfold strGo
    split
    · exact hb
    · split
      · exact strGo_rg S n (q + 1) _ _ ⟨by omega, by omega⟩ (by omega)
      · exact strGo_rg S n (q + 1) _ _ hb (by omega)
theorem strGo_0 (S : Nat) (b : Int) (n q : Nat) : strGo S n q 0 b = b := by
  cases n with
  | zero => rfl
  | succ n => unfold strGo; exact if_pos rfl
/-- the step from a PLACE, with the DRAW's state s -/
def dGo (K : Int → Int) (s pl : Int) : Int := strGo (K (104 + pl)).toNat 10 0 (drN s % (popI (K (104 + pl)) + 1)) pl
theorem pop_le (x : Int) : 0 ≤ popI x ∧ popI x ≤ 16 := by
  have := cntB_le x.toNat 16
  unfold popI
  omega
theorem lp_goes {P : Int → IM → LM → Prop} (hd : 1 ≤ d) {i0 : IM} (hk : kOK (i0 101)) {pl : Int} (hp : 0 ≤ pl ∧ pl < 10) {i : IM} (e : i 101 = i0 101) : ∀ (n q : Nat) (k b : Int), q + n = 10 → 0 ≤ k ∧ k < 100 → 0 ≤ b ∧ b < 10 → P (strGo (i0 101 (104 + pl)).toNat n q k b) i l → gI w d X_X12_goes P i l 24 [(0, vR (some 99)), (1, vI pl), (2, vI k), (3, vI b), (4, vI (q : Int))] [] := by
  have hS := hk.2.2.2.1 pl hp.1 hp.2
  have hbit : ∀ q : Nat, q < 10 → iand (ishr (i 101 (104 + pl)) (q : Int)) 1 = (((i0 101 (104 + pl)).toNat / 2 ^ q % 2 : Nat) : Int) := by
    intro q hq
    rw [e]
    have : i0 101 (104 + pl) = (((i0 101 (104 + pl)).toNat : Nat) : Int) := by omega
    rw [this, ibit_nat (by omega) (by omega)]
    rfl
  intro n
  induction n with
  | zero =>
    intro q k b hq hk2 hb hP
    exact s_X12_goes_24 _ _ _ _ hd ⟨⟨by omega, by omega⟩, fun z => by omega, fun z => by omega, fun _ => ⟨⟨by omega, by omega⟩, hP⟩, fun z => by omega, fun z => by omega⟩
  | succ n ih =>
    intro q k b hq hk2 hb hP
    unfold strGo at hP
    refine s_X12_goes_24 _ _ _ _ hd ⟨⟨by omega, by omega⟩, fun _ => ⟨by omega, by omega⟩, fun _ _ => ⟨by omega, by omega⟩, fun z => ⟨⟨by omega, by omega⟩, ?_⟩, fun z => ?_, fun z => ?_⟩
    · rw [if_pos (by omega)] at hP; exact hP
    · obtain ⟨-, z2, z3⟩ := z
      rw [hbit q (by omega), bit_div] at z3
      have ht : (i0 101 (104 + pl)).toNat.testBit q = true := by
        by_cases t : (i0 101 (104 + pl)).toNat.testBit q = true
        · exact t
        · rw [if_neg t] at z3; omega
      rw [if_neg (by omega), if_pos ht] at hP
      exact ih (q + 1) (k + -1) q (by omega) ⟨by omega, by omega⟩ ⟨by omega, by omega⟩ hP
    · obtain ⟨-, z2, z3⟩ := z
      rw [hbit q (by omega), bit_div] at z3
      have ht : ¬ (i0 101 (104 + pl)).toNat.testBit q = true := by
        intro t
        rw [if_pos t] at z3; omega
      rw [if_neg (by omega), if_neg ht] at hP
      exact ih (q + 1) k b (by omega) hk2 hb hP
theorem sp_X12_goes {P : Int → IM → LM → Prop} (hd : 3 ≤ d) (hk : kOK (i 101)) {pl : Int} (hp : 0 ≤ pl ∧ pl < 10) (hs : 0 ≤ i 99 51 ∧ i 99 51 < 1000003) (hP : P (dGo (i 101) (i 99 51) pl) (u2 i 99 51 (drN (i 99 51))) l) : cI w d X_X12_goes [vR (some 99), vI pl] i l P := by
  obtain ⟨d, rfl, hd1⟩ := d_pos hd
  have hS := hk.2.2.2.1 pl hp.1 hp.2
  have hpop := pop_le (i 101 (104 + pl))
  have hr := drN_lt (i 99 51)
  have hm := Int.emod_nonneg (drN (i 99 51)) (show popI (i 101 (104 + pl)) + 1 ≠ 0 by omega)
  have hm2 := Int.emod_lt_of_pos (drN (i 99 51)) (show 0 < popI (i 101 (104 + pl)) + 1 by omega)
  refine e_X12_goes (s_X12_goes _ (by omega) ⟨⟨by omega, by omega⟩, ⟨by omega, by omega⟩, sp_X12_draws (by omega) ⟨by omega, by omega⟩ hs ?_⟩)
  exact lp_goes (i := u2 i 99 51 (drN (i 99 51))) (i0 := i) (show 1 ≤ d by omega) hk hp (u2_other _ _ _ (by decide)) 10 0 _ pl rfl ⟨by omega, by omega⟩ hp hP
theorem lp_next {P : Int → IM → LM → Prop} {S : Nat} (hS : S < 1024) {pl : Int} (hp : 0 ≤ pl ∧ pl < 10) : ∀ (n q : Nat) (k : Int), q + n = 10 → 0 < k ∧ k < 100 → P (nxGo S n q k pl) i l → gI w d X_X4_next P i l 30 [(1, vI pl), (2, vI (S : Int)), (3, vI k), (4, vI (q : Int))] [] := by
  intro n
  induction n with
  | zero =>
    intro q k hq hk2 hP
    exact s_X4_next_30 _ _ _ _ ⟨⟨by omega, by omega⟩, fun _ => ⟨⟨by omega, by omega⟩, hP⟩, fun z => by omega⟩
  | succ n ih =>
    intro q k hq hk2 hP
    unfold nxGo at hP
    have hb := ibit_lt S q
    refine s_X4_next_30 _ _ _ _ ⟨⟨by omega, by omega⟩, fun z => by omega, fun z => ?_⟩
    rw [ibit_nat (a := S) (k := q) (by omega) (by omega)]
    refine ⟨⟨by omega, by omega⟩, fun z2 => ⟨⟨by omega, by omega⟩, ?_⟩, fun z2 => ?_⟩
    · rw [if_pos z2] at hP; exact hP
    · rw [if_neg z2] at hP
      exact ih (q + 1) _ (by omega) ⟨by omega, by omega⟩ hP
theorem sp_X4_next {P : Int → IM → LM → Prop} (hd : 3 ≤ d) (ht : TW i) (hk : kOK (i 101)) {pl : Int} (hp : 0 ≤ pl ∧ pl < 10) (hs : 0 ≤ i 94 4 ∧ i 94 4 < 1000003) (hP : P (dGo (i 101) (i 94 4) pl) (u2 i 94 4 (drN (i 94 4))) l) : cI w d X_X4_next [vR (some 94), vI pl] i l P := by
  obtain ⟨d, rfl, hd1⟩ := d_pos hd
  have hS := hk.2.2.2.1 pl hp.1 hp.2
  have e11 : i 11 pl = i 101 (104 + pl) := ht.2.2.2.1 pl hp.1 hp.2
  obtain ⟨S, eS⟩ := Int.eq_ofNat_of_zero_le hS.1
  have hpop := pop_le (S : Int)
  have hm := Int.emod_nonneg (drN (i 94 4)) (show popI (S : Int) + 1 ≠ 0 by omega)
  have hm2 := Int.emod_lt_of_pos (drN (i 94 4)) (show 0 < popI (S : Int) + 1 by omega)
  unfold dGo at hP
  rw [eS] at hP
  have hsf := pop_suf (S := S) (by omega)
  refine e_X4_next (s_X4_next _ (by omega) ⟨hp, by rw [e11]; exact ⟨by omega, by omega⟩, ?_⟩)
  rw [e11, eS, Int.add_comm 1]
  refine sp_X4_drawOf (by omega) ⟨by omega, by omega⟩ hs ⟨fun z => ⟨⟨by omega, by omega⟩, ?_⟩, fun z => ?_⟩
  · rw [z, strGo_0] at hP; exact hP
  · refine lp_next (by omega) hp 10 0 _ rfl ⟨by omega, by omega⟩ ?_
    rw [← nxGo_str S 10 0 _ pl pl (by omega) (by omega)]
    exact hP
end
