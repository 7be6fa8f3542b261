/-! PAINTER in memory: records -/
section
variable {w : Wd} {d : Nat} {i : IM} {l : LM}
/-- three bytes -/
abbrev pk3 (x y z : Int) : Int := x + 256 * y + 65536 * z
theorem and255i : ∀ k : Nat, k < 256 → k &&& 255 = k := and255
theorem and_lo (a b : Nat) (ha : a < 256) : (a + 256 * b) &&& 255 = a := by
  have h : (a + 256 * b) &&& 255 = (a + 256 * b) % 2 ^ 8 := Nat.and_two_pow_sub_one_eq_mod _ 8
  rw [h]; omega
theorem and_mid (x : Nat) : x &&& 65280 = x / 256 % 256 * 256 := by
  apply Nat.eq_of_testBit_eq
  intro j
  have e1 : (x / 256 % 256 * 256).testBit j = (decide (8 ≤ j) && (x / 256 % 256).testBit (j - 8)) := by
    rw [show (256 : Nat) = 2 ^ 8 from rfl, Nat.testBit_mul_two_pow]
  have e2 : (x / 256 % 256).testBit (j - 8) = (decide (j - 8 < 8) && x.testBit (8 + (j - 8))) := by
    rw [show (256 : Nat) = 2 ^ 8 from rfl, Nat.testBit_mod_two_pow, Nat.testBit_div_two_pow, Nat.add_comm]
  have e3 : (65280 : Nat).testBit j = (decide (8 ≤ j) && decide (j < 16)) := by
    have h : (65280 : Nat) = 255 * 2 ^ 8 := rfl
    rw [h, Nat.testBit_mul_two_pow]
    by_cases c : 8 ≤ j
    · rw [decide_eq_true c, Bool.true_and, Bool.true_and]
      have h2 : (255 : Nat) = 2 ^ 8 - 1 := rfl
      rw [h2, Nat.testBit_two_pow_sub_one]
      by_cases c2 : j < 16
      · rw [decide_eq_true c2, decide_eq_true (by omega)]
      · rw [decide_eq_false c2, decide_eq_false (by omega)]
    · rw [decide_eq_false c, Bool.false_and, Bool.false_and]
  rw [Nat.testBit_and, e1, e2, e3]
  by_cases c : 8 ≤ j
  · have e4 : 8 + (j - 8) = j := by omega
    rw [e4, decide_eq_true c, Bool.true_and, Bool.true_and]
    by_cases c2 : j < 16
    · rw [decide_eq_true c2, decide_eq_true (by omega)]; cases x.testBit j <;> rfl
    · rw [decide_eq_false c2, decide_eq_false (by omega)]; cases x.testBit j <;> rfl
  · rw [decide_eq_false c]; cases x.testBit j <;> rfl
theorem and_hi (x : Nat) : x &&& 16711680 = x / 65536 % 256 * 65536 := by
  apply Nat.eq_of_testBit_eq
  intro j
  have e1 : (x / 65536 % 256 * 65536).testBit j = (decide (16 ≤ j) && (x / 65536 % 256).testBit (j - 16)) := by
    rw [show (65536 : Nat) = 2 ^ 16 from rfl, Nat.testBit_mul_two_pow]
  have e2 : (x / 65536 % 256).testBit (j - 16) = (decide (j - 16 < 8) && x.testBit (16 + (j - 16))) := by
    rw [show (256 : Nat) = 2 ^ 8 from rfl, show (65536 : Nat) = 2 ^ 16 from rfl, Nat.testBit_mod_two_pow, Nat.testBit_div_two_pow, Nat.add_comm]
  have e3 : (16711680 : Nat).testBit j = (decide (16 ≤ j) && decide (j < 24)) := by
    have h : (16711680 : Nat) = 255 * 2 ^ 16 := rfl
    rw [h, Nat.testBit_mul_two_pow]
    by_cases c : 16 ≤ j
    · rw [decide_eq_true c, Bool.true_and, Bool.true_and]
      have h2 : (255 : Nat) = 2 ^ 8 - 1 := rfl
      rw [h2, Nat.testBit_two_pow_sub_one]
      by_cases c2 : j < 24
      · rw [decide_eq_true c2, decide_eq_true (by omega)]
      · rw [decide_eq_false c2, decide_eq_false (by omega)]
    · rw [decide_eq_false c, Bool.false_and, Bool.false_and]
  rw [Nat.testBit_and, e1, e2, e3]
  by_cases c : 16 ≤ j
  · have e4 : 16 + (j - 16) = j := by omega
    rw [e4, decide_eq_true c, Bool.true_and, Bool.true_and]
    by_cases c2 : j < 24
    · rw [decide_eq_true c2, decide_eq_true (by omega)]; cases x.testBit j <;> rfl
    · rw [decide_eq_false c2, decide_eq_false (by omega)]; cases x.testBit j <;> rfl
  · rw [decide_eq_false c]; cases x.testBit j <;> rfl
theorem min_mulk (x y k : Nat) : min ((x * k : Nat) : Int) ((y * k : Nat) : Int) = ((min x y * k : Nat) : Int) := by
  rcases Nat.le_total x y with h | h
  · rw [Nat.min_eq_left h]; exact Int.min_eq_left (Int.ofNat_le.mpr (Nat.mul_le_mul_right k h))
  · rw [Nat.min_eq_right h]; exact Int.min_eq_right (Int.ofNat_le.mpr (Nat.mul_le_mul_right k h))
/-- or of parts that lie apart -/
theorem or_apart {a b k : Nat} (h : a < 2 ^ k) : a ||| (b * 2 ^ k) = a + b * 2 ^ k := by
  rw [Nat.or_comm, ← Nat.shiftLeft_eq, ← Nat.shiftLeft_add_eq_or_of_lt h, Nat.shiftLeft_eq, Nat.add_comm]
theorem leastI_pk {x1 x2 x3 y1 y2 y3 : Nat} (h1 : x1 < 256) (h2 : x2 < 256) (h3 : x3 < 256) (g1 : y1 < 256) (g2 : y2 < 256) (g3 : y3 < 256) : leastI (pk3 x1 x2 x3) (pk3 y1 y2 y3) = pk3 (min x1 y1 : Nat) (min x2 y2 : Nat) (min x3 y3 : Nat) := by
  have ex : pk3 x1 x2 x3 = ((x1 + 256 * (x2 + 256 * x3) : Nat) : Int) := by unfold pk3; omega
  have ey : pk3 y1 y2 y3 = ((y1 + 256 * (y2 + 256 * y3) : Nat) : Int) := by unfold pk3; omega
  unfold leastI
  have c1 : (255 : Int) = ((255 : Nat) : Int) := rfl
  have c2 : (65280 : Int) = ((65280 : Nat) : Int) := rfl
  have c3 : (16711680 : Int) = ((16711680 : Nat) : Int) := rfl
  have hx : x1 + 256 * (x2 + 256 * x3) < 2147483648 := by omega
  have hy : y1 + 256 * (y2 + 256 * y3) < 2147483648 := by omega
  have dx2 : (x1 + 256 * (x2 + 256 * x3)) / 256 % 256 = x2 := by omega
  have dy2 : (y1 + 256 * (y2 + 256 * y3)) / 256 % 256 = y2 := by omega
  have dx3 : (x1 + 256 * (x2 + 256 * x3)) / 65536 % 256 = x3 := by omega
  have dy3 : (y1 + 256 * (y2 + 256 * y3)) / 65536 % 256 = y3 := by omega
  rw [ex, ey, c1, c2, c3, iand_nat hx, iand_nat hy, iand_nat hx, iand_nat hy, iand_nat hx, iand_nat hy, and_lo _ _ h1, and_lo _ _ g1, and_mid, and_mid, and_hi, and_hi, dx2, dy2, dx3, dy3]
  have m1 : min ((x1 : Nat) : Int) ((y1 : Nat) : Int) = ((min x1 y1 : Nat) : Int) := by omega
  have m2 : min ((x2 * 256 : Nat) : Int) ((y2 * 256 : Nat) : Int) = ((min x2 y2 * 256 : Nat) : Int) := min_mulk _ _ _
  have m3 : min ((x3 * 65536 : Nat) : Int) ((y3 * 65536 : Nat) : Int) = ((min x3 y3 * 65536 : Nat) : Int) := min_mulk _ _ _
  rw [m1, m2, m3, ior_nat (by omega) (by omega)]
  have o1 : min x1 y1 ||| (min x2 y2 * 256) = min x1 y1 + min x2 y2 * 256 := or_apart (k := 8) (by omega)
  rw [o1, ior_nat (by omega) (by omega)]
  have o2 : (min x1 y1 + min x2 y2 * 256) ||| (min x3 y3 * 65536) = (min x1 y1 + min x2 y2 * 256) + min x3 y3 * 65536 := or_apart (k := 16) (by omega)
  rw [o2]
  unfold pk3
  omega
/-- the CANVAS in memory -/
def pcM (i : IM) : PC := (fun t c => decide (iand (ishr (i 52 (t : Int)) (c : Int)) 1 = 1), fun t c => i 54 ((t : Int) * 3 + (c : Int)), fun t c => i 55 ((t : Int) * 3 + (c : Int)) % 256, fun t c => i 55 ((t : Int) * 3 + (c : Int)) / 256 % 256, fun t c => i 55 ((t : Int) * 3 + (c : Int)) / 65536 % 256)
def rwM (i : IM) (l : LM) (a : Nat) : RW := ((i 51 13).toNat, fun t c q => l 56 (((t : Int) * 3 + (c : Int)) * 12 + (q : Int)), fun q => l (a + 2) (q : Int), fun t q => l 57 ((t : Int) * 12 + (q : Int)), fun t q => l 58 ((t : Int) * 12 + (q : Int)))
/-- it is as it should be, for n THINGS -/
def cvOK (i : IM) (n : Nat) : Prop := n ≤ 10 ∧ i 7 8 = (n : Int) ∧ (0 ≤ i 51 13 ∧ i 51 13 ≤ 12) ∧ hasC (pcM i) n ∧ (∀ t : Nat, t < n → 0 ≤ i 52 (t : Int) ∧ i 52 (t : Int) < 8) ∧ ∀ (t c : Nat), t < n → c < 3 → (-99 ≤ i 54 ((t : Int) * 3 + (c : Int)) ∧ i 54 ((t : Int) * 3 + (c : Int)) ≤ 99) ∧ (0 ≤ i 53 ((t : Int) * 3 + (c : Int)) ∧ i 53 ((t : Int) * 3 + (c : Int)) ≤ 99) ∧ (0 ≤ i 55 ((t : Int) * 3 + (c : Int)) ∧ i 55 ((t : Int) * 3 + (c : Int)) ≤ 65793 ∧ i 55 ((t : Int) * 3 + (c : Int)) % 256 ≤ 1 ∧ i 55 ((t : Int) * 3 + (c : Int)) / 256 % 256 ≤ 1 ∧ i 55 ((t : Int) * 3 + (c : Int)) / 65536 % 256 ≤ 1)
/-- sums of what is at most b each -/
theorem vs_bd {g : Nat → Nat → Int} {o : Nat → Nat} {lo hi : Int} : ∀ t : Nat, (∀ j, j < t → lo ≤ g j (o j) ∧ g j (o j) ≤ hi) → lo * t ≤ vs g o t ∧ vs g o t ≤ hi * t
  | 0, _ => ⟨by show lo * 0 ≤ 0; omega, by show 0 ≤ hi * 0; omega⟩
  | t + 1, h => by
    have ih := vs_bd (g := g) (o := o) (lo := lo) (hi := hi) t (fun j hj => h j (by omega))
    have := h t (by omega)
    have e1 : lo * ((t + 1 : Nat) : Int) = lo * (t : Int) + lo := by rw [Int.natCast_add, Int.mul_add]; omega
    have e2 : hi * ((t + 1 : Nat) : Int) = hi * (t : Int) + hi := by rw [Int.natCast_add, Int.mul_add]; omega
    show lo * ((t + 1 : Nat) : Int) ≤ vs g o t + g t (o t) ∧ vs g o t + g t (o t) ≤ hi * ((t + 1 : Nat) : Int)
    omega
theorem pcM_may {n : Nat} (h : cvOK i n) {t c : Nat} (ht : t < n) (hc : c < 3) : iand (ishr (i 52 (t : Int)) (c : Int)) 1 = 1 ↔ (pcM i).1 t c = true := by
  show _ ↔ decide (iand (ishr (i 52 (t : Int)) (c : Int)) 1 = 1) = true
  rw [decide_eq_true_iff]
theorem pcM_no {n : Nat} (h : cvOK i n) {t c : Nat} (ht : t < n) (hc : c < 3) : iand (ishr (i 52 (t : Int)) (c : Int)) 1 = 0 ↔ (pcM i).1 t c = false := by
  have := h.2.2.2.2.1 t ht
  have hb := bit01 (a := i 52 (t : Int)) (k := (c : Int)) ⟨by omega, by omega⟩ ⟨by omega, by omega⟩
  show _ ↔ decide (iand (ishr (i 52 (t : Int)) (c : Int)) 1 = 1) = false
  rw [decide_eq_false_iff_not]
  omega
end
