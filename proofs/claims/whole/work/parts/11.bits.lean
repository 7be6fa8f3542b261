/-! bits of small numbers -/
theorem oI (n : Nat) : Int32.ofInt (n : Int) = nI n := Int32.ofInt_eq_ofNat
theorem sh_l : ∀ n, n < 32 → ((nI n &&& 31).toBitVec.smod 32).toNat = n := by decide +kernel
theorem bb_and (a b : Nat) : nI a &&& nI b = nI (a &&& b) := by
  apply Int32.toBitVec_inj.1
  show BitVec.ofNat 32 a &&& BitVec.ofNat 32 b = BitVec.ofNat 32 (a &&& b)
  apply BitVec.eq_of_getLsbD_eq
  intro i hi
  simp [hi]
theorem bb_or (a b : Nat) : nI a ||| nI b = nI (a ||| b) := by
  apply Int32.toBitVec_inj.1
  show BitVec.ofNat 32 a ||| BitVec.ofNat 32 b = BitVec.ofNat 32 (a ||| b)
  apply BitVec.eq_of_getLsbD_eq
  intro i hi
  simp [hi]
theorem iand_nat {a b : Nat} (ha : a < 2147483648) : iand a b = ((a &&& b : Nat) : Int) := by
  unfold iand
  rw [oI, oI, bb_and, nI_toInt (Nat.lt_of_le_of_lt Nat.and_le_left ha)]
theorem ior_nat {a b : Nat} (ha : a < 2147483648) (hb : b < 2147483648) : ior a b = ((a ||| b : Nat) : Int) := by
  unfold ior
  rw [oI, oI, bb_or, nI_toInt (Nat.or_lt_two_pow (n := 31) (by omega) (by omega))]
theorem ishr_nat {a k : Nat} (ha : a < 2147483648) (hk : k < 32) : ishr a k = ((a / 2 ^ k : Nat) : Int) := by
  unfold ishr
  rw [oI, oI, pk_shrN (by omega) _ k (sh_l k hk), nI_toInt (Nat.lt_of_le_of_lt (Nat.div_le_self _ _) (by omega))]
theorem ishl_nat {a k : Nat} (hk : k < 32) (h : a * 2 ^ k < 2147483648) : ishl a k = ((a * 2 ^ k : Nat) : Int) := by
  unfold ishl
  rw [oI, oI, pk_shlN _ k (sh_l k hk) (by omega), nI_toInt (by omega)]
theorem ishl_one {k : Nat} (hk : k < 31) : ishl 1 k = ((2 ^ k : Nat) : Int) := by
  have h : 2 ^ k < 2 ^ 31 := Nat.pow_lt_pow_right (by omega) hk
  have := ishl_nat (a := 1) (k := k) (by omega) (by omega)
  rw [Nat.one_mul] at this
  exact this
theorem ibit_nat {a k : Nat} (ha : a < 2147483648) (hk : k < 32) : iand (ishr a k) 1 = ((a / 2 ^ k % 2 : Nat) : Int) := by
  rw [ishr_nat ha hk]
  have := iand_nat (a := a / 2 ^ k) (b := 1) (Nat.lt_of_le_of_lt (Nat.div_le_self _ _) ha)
  rw [Nat.and_one_is_mod] at this
  exact this
theorem ibit_lt (a k : Nat) : a / 2 ^ k % 2 < 2 := Nat.mod_lt _ (by omega)
/-- how many of the first k bits are set -/
def cntB (a : Nat) : Nat → Nat
  | 0 => 0
  | k + 1 => cntB a k + a / 2 ^ k % 2
theorem cntB_le (a : Nat) : ∀ k, cntB a k ≤ k
  | 0 => Nat.le_refl _
  | k + 1 => by
    have h1 := cntB_le a k
    have h2 := ibit_lt a k
    show cntB a k + a / 2 ^ k % 2 ≤ k + 1
    omega
def popI (x : Int) : Int := (cntB x.toNat 16 : Nat)
theorem bI_congr {p q : Prop} [Decidable p] [Decidable q] (h : p ↔ q) : bI p = bI q := by
  unfold bI
  by_cases hp : p
  · rw [if_pos hp, if_pos (h.mp hp)]
  · rw [if_neg hp, if_neg (fun z => hp (h.mpr z))]
theorem sw_cases (x lo hi : Int) : (x < lo ∨ hi < x) ∨ (lo ≤ x ∧ x ≤ hi) := by omega
theorem le_hd {a b d : Nat} (hd : b ≤ d) (h : Nat.ble a b = true) : a ≤ d := Nat.le_trans (Nat.le_of_ble_eq_true h) hd
theorem d_pos {d k : Nat} (h : k + 1 ≤ d) : ∃ e, d = e + 1 ∧ k ≤ e := ⟨d - 1, by omega, by omega⟩
/-- memory holds ints alone -/
theorem g_rg {E : GE} {R : Room} {X : MI} {Qf : QF} {c0 s0 : Nat} {δ : Dl} {i : IM} {l : LM} {pc : Nat} {L : List (Nat × MV)} {st : List MV} (k : (∀ a j, rg (i a j)) → G E R X Qf c0 s0 δ i l pc L st) : G E R X Qf c0 s0 δ i l pc L st :=
  fun p e s m args below meth cd H locs ls hk hl hR hS => k hR.2.2.2 p e s m args below meth cd H locs ls hk hl hR hS
