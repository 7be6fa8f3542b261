/-! sets of small numbers as bits; what hangs together -/
theorem tb (a k : Nat) : a.testBit k = true ↔ a / 2 ^ k % 2 = 1 := by
  rw [Nat.testBit_eq_decide_div_mod_eq]
  exact decide_eq_true_iff
theorem ib1 {a k : Nat} (ha : a < 2147483648) (hk : k < 32) : iand (ishr a k) 1 = 1 ↔ a.testBit k = true := by
  rw [ibit_nat ha hk, tb]
  omega
/-- the lowest bit from k on; m more are looked at -/
def lowFrom (a : Nat) : Nat → Nat → Nat
  | 0, k => k
  | m + 1, k => if a / 2 ^ k % 2 = 1 then k else lowFrom a m (k + 1)
def clRound (S : Nat → Nat) (b : Nat) : Nat → Nat
  | 0 => b
  | k + 1 => if b.testBit k = true then clRound S b k ||| S k else clRound S b k
theorem clRound_bit (S : Nat → Nat) (b x : Nat) : ∀ n, (clRound S b n).testBit x = true ↔ b.testBit x = true ∨ ∃ k, k < n ∧ b.testBit k = true ∧ (S k).testBit x = true
  | 0 => by
    show b.testBit x = true ↔ _
    constructor
    · exact Or.inl
    · rintro (h | ⟨k, hk, -⟩)
      · exact h
      · omega
  | n + 1 => by
    have ih := clRound_bit S b x n
    unfold clRound
    by_cases hb : b.testBit n = true
    · rw [if_pos hb, Nat.testBit_or, Bool.or_eq_true, ih]
      constructor
      · rintro ((h | ⟨k, hk, h1, h2⟩) | h)
        · exact Or.inl h
        · exact Or.inr ⟨k, by omega, h1, h2⟩
        · exact Or.inr ⟨n, by omega, hb, h⟩
      · rintro (h | ⟨k, hk, h1, h2⟩)
        · exact Or.inl (Or.inl h)
        · by_cases e : k = n
          · subst e; exact Or.inr h2
          · exact Or.inl (Or.inr ⟨k, by omega, h1, h2⟩)
    · rw [if_neg hb, ih]
      constructor
      · rintro (h | ⟨k, hk, h1, h2⟩)
        · exact Or.inl h
        · exact Or.inr ⟨k, by omega, h1, h2⟩
      · rintro (h | ⟨k, hk, h1, h2⟩)
        · exact Or.inl h
        · by_cases e : k = n
          · subst e; exact absurd h1 hb
          · exact Or.inr ⟨k, by omega, h1, h2⟩
theorem clRound_lt {S : Nat → Nat} {b : Nat} (hb : b < 256) : ∀ n, (∀ k, k < n → S k < 256) → clRound S b n < 256
  | 0, _ => hb
  | n + 1, h => by
    have ih := clRound_lt (S := S) hb n (fun k hk => h k (by omega))
    unfold clRound
    split
    · exact Nat.or_lt_two_pow (n := 8) ih (h n (by omega))
    · exact ih
theorem le_of_bits {a b : Nat} (h : ∀ x, a.testBit x = true → b.testBit x = true) : a ≤ b := by
  have e : a ||| b = b := by
    apply Nat.eq_of_testBit_eq
    intro x
    rw [Nat.testBit_or]
    have hx := h x
    cases ha : a.testBit x
    · rfl
    · rw [hx ha]; rfl
  rw [← e]
  exact Nat.left_le_or
def clIter (S : Nat → Nat) (b : Nat) : Nat → Nat
  | 0 => b
  | n + 1 => clRound S (clIter S b n) 8
theorem clIter_lt {S : Nat → Nat} {b : Nat} (hb : b < 256) (hS : ∀ k, k < 8 → S k < 256) : ∀ n, clIter S b n < 256
  | 0 => hb
  | n + 1 => clRound_lt (clIter_lt hb hS n) 8 hS
theorem clIter_mono (S : Nat → Nat) (b n : Nat) : ∀ x, (clIter S b n).testBit x = true → (clIter S b (n + 1)).testBit x = true := fun x h => (clRound_bit S _ x 8).mpr (Or.inl h)
theorem clIter_up (S : Nat → Nat) (b x : Nat) (h : b.testBit x = true) : ∀ n, (clIter S b n).testBit x = true
  | 0 => h
  | n + 1 => clIter_mono S b n x (clIter_up S b x h n)
theorem clIter_fix {S : Nat → Nat} {b n : Nat} (h : clIter S b (n + 1) = clIter S b n) : ∀ m, clIter S b (n + m) = clIter S b n
  | 0 => rfl
  | m + 1 => by
    have ih := clIter_fix h m
    show clRound S (clIter S b (n + m)) 8 = _
    rw [ih]
    exact h
def clSet (S : Nat → Nat) (c : Nat) : Nat := clIter S (2 ^ c) 256
/-- whatever holds at c and goes on along S holds in all the set -/
theorem clIter_ind {S : Nat → Nat} {b : Nat} {Q : Nat → Prop} (h0 : ∀ x, b.testBit x = true → Q x) (h1 : ∀ x y, x < 8 → Q x → (S x).testBit y = true → Q y) : ∀ n x, (clIter S b n).testBit x = true → Q x
  | 0, x, h => h0 x h
  | n + 1, x, h => by
    rcases (clRound_bit S _ x 8).mp h with h2 | ⟨k, hk, h2, h3⟩
    · exact clIter_ind h0 h1 n x h2
    · exact h1 k x hk (clIter_ind h0 h1 n k h2) h3
theorem bit_pow (c x : Nat) : (2 ^ c).testBit x = true ↔ c = x := by
  rw [Nat.testBit_two_pow]
  exact decide_eq_true_iff
theorem lowFrom_hit {a : Nat} : ∀ m k c, k ≤ c → c < k + m → a.testBit c = true → a.testBit (lowFrom a m k) = true ∧ k ≤ lowFrom a m k ∧ lowFrom a m k ≤ c
  | 0, k, c, h1, h2, _ => by omega
  | m + 1, k, c, h1, h2, h3 => by
    unfold lowFrom
    by_cases h : a / 2 ^ k % 2 = 1
    · rw [if_pos h]
      exact ⟨(tb a k).mpr h, Nat.le_refl _, h1⟩
    · rw [if_neg h]
      have e : k ≠ c := fun e => h (by rw [e]; exact (tb a c).mp h3)
      obtain ⟨g1, g2, g3⟩ := lowFrom_hit m (k + 1) c (by omega) (by omega) h3
      exact ⟨g1, by omega, g3⟩
