/-! the class's gather(): the lowest colours of all that hang together -/
theorem clSet_fix {S : Nat → Nat} (hS : ∀ k, k < 8 → S k < 256) {c : Nat} (hc : c < 8) : clIter S (2 ^ c) 257 = clIter S (2 ^ c) 256 := by
  have hp : 2 ^ c < 2 ^ 8 := Nat.pow_lt_pow_right (by omega) hc
  have h0 : 0 < 2 ^ c := Nat.two_pow_pos c
  have key : ∀ n, n ≤ 256 → (∃ j, j ≤ n ∧ clIter S (2 ^ c) (j + 1) = clIter S (2 ^ c) j) ∨ n + 1 ≤ clIter S (2 ^ c) n := by
    intro n
    induction n with
    | zero => intro _; exact Or.inr h0
    | succ n ih =>
      intro hn
      rcases ih (by omega) with ⟨j, hj, e⟩ | h
      · exact Or.inl ⟨j, by omega, e⟩
      · by_cases e : clIter S (2 ^ c) (n + 1) = clIter S (2 ^ c) n
        · exact Or.inl ⟨n, by omega, e⟩
        · have := le_of_bits (clIter_mono S (2 ^ c) n)
          exact Or.inr (by omega)
  have hl := clIter_lt (S := S) (b := 2 ^ c) hp hS 256
  rcases key 256 (by omega) with ⟨j, hj, e⟩ | h
  · have e1 := clIter_fix e (256 - j)
    have e2 := clIter_fix e (257 - j)
    rw [show j + (256 - j) = 256 by omega] at e1
    rw [show j + (257 - j) = 257 by omega] at e2
    rw [e1, e2]
  · omega
theorem clSet_step {S : Nat → Nat} (hS : ∀ k, k < 8 → S k < 256) {c : Nat} (hc : c < 8) {x y : Nat} (hx : x < 8) (h : (clSet S c).testBit x = true) (h2 : (S x).testBit y = true) : (clSet S c).testBit y = true := by
  unfold clSet
  rw [← clSet_fix hS hc]
  exact (clRound_bit S _ y 8).mpr (Or.inr ⟨x, hx, h, h2⟩)
theorem clSet_self (S : Nat → Nat) (c : Nat) : (clSet S c).testBit c = true := clIter_up _ _ _ ((bit_pow c c).mpr rfl) 256
theorem clSet_ind {S : Nat → Nat} {c : Nat} {Q : Nat → Prop} (h0 : Q c) (h1 : ∀ x y, x < 8 → Q x → (S x).testBit y = true → Q y) {x : Nat} (h : (clSet S c).testBit x = true) : Q x :=
  clIter_ind (fun z hz => by rw [← (bit_pow c z).mp hz]; exact h0) h1 256 x h
theorem clSet_lt {S : Nat → Nat} (hS : ∀ k, k < 8 → S k < 256) {c : Nat} (hc : c < 8) : clSet S c < 256 := by
  have hp : 2 ^ c < 2 ^ 8 := Nat.pow_lt_pow_right (by omega) hc
  exact clIter_lt hp hS 256
theorem bit_lt8 {a x : Nat} (ha : a < 256) (h : a.testBit x = true) : x < 8 := by
  apply Nat.lt_of_not_le
  intro hx
  have : a.testBit x = false := Nat.testBit_lt_two_pow (Nat.lt_of_lt_of_le ha (Nat.pow_le_pow_right (n := 2) (by omega) hx))
  rw [this] at h
  cases h
/-- S goes both ways -/
def Symm (S : Nat → Nat) : Prop := ∀ x y, x < 8 → y < 8 → (S x).testBit y = true → (S y).testBit x = true
theorem clSet_trans {S : Nat → Nat} (hS : ∀ k, k < 8 → S k < 256) {a b x : Nat} (ha : a < 8) (h1 : (clSet S a).testBit b = true) (h2 : (clSet S b).testBit x = true) : (clSet S a).testBit x = true :=
  clSet_ind (Q := fun z => (clSet S a).testBit z = true) h1 (fun u v hu q1 q2 => clSet_step hS ha hu q1 q2) h2
theorem clSet_symm {S : Nat → Nat} (hS : ∀ k, k < 8 → S k < 256) (hy : Symm S) {a b : Nat} (ha : a < 8) (h : (clSet S a).testBit b = true) : (clSet S b).testBit a = true := by
  have hb := bit_lt8 (clSet_lt hS ha) h
  have key : b < 8 ∧ (clSet S b).testBit a = true := clSet_ind (S := S) (c := a) (Q := fun z => z < 8 ∧ (clSet S z).testBit a = true) ⟨ha, clSet_self S a⟩ (fun u v hu q1 q2 => by
    have hv := bit_lt8 (hS u hu) q2
    exact ⟨hv, clSet_trans hS hv (clSet_step hS hv hv (clSet_self S v) (hy u v hu hv q2)) q1.2⟩) h
  exact key.2
theorem clSet_same {S : Nat → Nat} (hS : ∀ k, k < 8 → S k < 256) (hy : Symm S) {a b : Nat} (ha : a < 8) (h : (clSet S a).testBit b = true) : clSet S b = clSet S a := by
  have hb := bit_lt8 (clSet_lt hS ha) h
  apply Nat.eq_of_testBit_eq
  intro x
  have h2 := clSet_symm hS hy ha h
  apply Bool.eq_iff_iff.mpr
  exact ⟨fun q => clSet_trans hS ha h q, fun q => clSet_trans hS hb h2 q⟩
def lwS (S : Nat → Nat) (o : Nat) : Nat := lowFrom (clSet S o) 8 0
theorem lwS_hit {S : Nat → Nat} {o : Nat} (ho : o < 8) : (clSet S o).testBit (lwS S o) = true ∧ lwS S o ≤ o := by
  obtain ⟨h1, -, h3⟩ := lowFrom_hit 8 0 o (by omega) (by omega) (clSet_self S o)
  exact ⟨h1, h3⟩
theorem lwS_same {S : Nat → Nat} (hS : ∀ k, k < 8 → S k < 256) (hy : Symm S) {a b : Nat} (ha : a < 8) (h : (clSet S a).testBit b = true) : lwS S b = lwS S a := by
  unfold lwS
  rw [clSet_same hS hy ha h]
/-! in place, round by round -/
def gsRound (S : Nat → Nat) (b : Nat) : Nat → Nat
  | 0 => b
  | k + 1 => if (gsRound S b k).testBit k = true then gsRound S b k ||| S k else gsRound S b k
def gsIter (S : Nat → Nat) (b : Nat) : Nat → Nat
  | 0 => b
  | n + 1 => gsRound S (gsIter S b n) 8
theorem gsRound_up (S : Nat → Nat) (b x : Nat) (h : b.testBit x = true) : ∀ n, (gsRound S b n).testBit x = true
  | 0 => h
  | n + 1 => by
    have ih := gsRound_up S b x h n
    unfold gsRound
    split
    · rw [Nat.testBit_or, ih]; rfl
    · exact ih
theorem gsRound_le (S : Nat → Nat) (b x n : Nat) : ∀ m, (gsRound S b n).testBit x = true → (gsRound S b (n + m)).testBit x = true
  | 0, h => h
  | m + 1, h => by
    have ih := gsRound_le S b x n m h
    show (gsRound S b ((n + m) + 1)).testBit x = true
    unfold gsRound
    split
    · rw [Nat.testBit_or, ih]; rfl
    · exact ih
theorem gsRound_lt {S : Nat → Nat} {b : Nat} (hb : b < 256) : ∀ n, (∀ k, k < n → S k < 256) → gsRound S b n < 256
  | 0, _ => hb
  | n + 1, h => by
    have ih := gsRound_lt (S := S) hb n (fun k hk => h k (by omega))
    unfold gsRound
    split
    · exact Nat.or_lt_two_pow (n := 8) ih (h n (by omega))
    · exact ih
theorem gsRound_ind {S : Nat → Nat} {b : Nat} {Q : Nat → Prop} (h0 : ∀ x, b.testBit x = true → Q x) : ∀ n, (∀ x y, x < n → Q x → (S x).testBit y = true → Q y) → ∀ x, (gsRound S b n).testBit x = true → Q x
  | 0, _, x, h => h0 x h
  | n + 1, h1, x, h => by
    have ih := gsRound_ind h0 n (fun u v hu => h1 u v (by omega))
    unfold gsRound at h
    by_cases e : (gsRound S b n).testBit n = true
    · rw [if_pos e, Nat.testBit_or, Bool.or_eq_true] at h
      rcases h with h | h
      · exact ih x h
      · exact h1 n x (by omega) (ih n e) h
    · rw [if_neg e] at h
      exact ih x h
theorem gsIter_lt {S : Nat → Nat} {b : Nat} (hb : b < 256) (hS : ∀ k, k < 8 → S k < 256) : ∀ n, gsIter S b n < 256
  | 0 => hb
  | n + 1 => gsRound_lt (gsIter_lt hb hS n) 8 hS
theorem gsIter_ind {S : Nat → Nat} {b : Nat} {Q : Nat → Prop} (h0 : ∀ x, b.testBit x = true → Q x) (h1 : ∀ x y, x < 8 → Q x → (S x).testBit y = true → Q y) : ∀ n x, (gsIter S b n).testBit x = true → Q x
  | 0, x, h => h0 x h
  | n + 1, x, h => gsRound_ind (gsIter_ind h0 h1 n) 8 h1 x h
theorem gsIter_up (S : Nat → Nat) (b x : Nat) (h : b.testBit x = true) : ∀ n, (gsIter S b n).testBit x = true
  | 0 => h
  | n + 1 => gsRound_up S _ x (gsIter_up S b x h n) 8
theorem gsIter_fix {S : Nat → Nat} {b n : Nat} (h : gsIter S b (n + 1) = gsIter S b n) : ∀ m, gsIter S b (n + m) = gsIter S b n
  | 0 => rfl
  | m + 1 => by
    have ih := gsIter_fix h m
    show gsRound S (gsIter S b (n + m)) 8 = _
    rw [ih]
    exact h
theorem cntB_mono {a b : Nat} (h : ∀ x, a.testBit x = true → b.testBit x = true) : ∀ k, cntB a k ≤ cntB b k ∧ (∀ x, x < k → b.testBit x = true → ¬ a.testBit x = true → cntB a k < cntB b k)
  | 0 => ⟨Nat.le_refl _, fun x hx => by omega⟩
  | k + 1 => by
    obtain ⟨i1, i2⟩ := cntB_mono h k
    have hk := h k
    rw [tb, tb] at hk
    have la := ibit_lt a k
    have lb := ibit_lt b k
    have hle : a / 2 ^ k % 2 ≤ b / 2 ^ k % 2 := by
      by_cases e : a / 2 ^ k % 2 = 1
      · rw [hk e, e]; exact Nat.le_refl _
      · omega
    refine ⟨?_, fun x hx hb ha => ?_⟩
    · show cntB a k + _ ≤ cntB b k + _
      omega
    · show cntB a k + a / 2 ^ k % 2 < cntB b k + b / 2 ^ k % 2
      by_cases e : x = k
      · subst e
        rw [tb] at ha hb
        omega
      · have := i2 x (by omega) hb ha
        omega
theorem gsIter_closed {S : Nat → Nat} (hS : ∀ k, k < 8 → S k < 256) {c : Nat} (hc : c < 8) : gsIter S (2 ^ c) 9 = gsIter S (2 ^ c) 8 := by
  have hp : 2 ^ c < 2 ^ 8 := Nat.pow_lt_pow_right (by omega) hc
  have key : ∀ n, n ≤ 8 → (∃ j, j ≤ n ∧ gsIter S (2 ^ c) (j + 1) = gsIter S (2 ^ c) j) ∨ n + 1 ≤ cntB (gsIter S (2 ^ c) n) 8 := by
    intro n
    induction n with
    | zero =>
      intro _
      refine Or.inr ?_
      have h := (cntB_mono (a := 0) (b := 2 ^ c) (fun x hx => by rw [Nat.zero_testBit] at hx; cases hx) 8).2 c hc ((bit_pow c c).mpr rfl) (by rw [Nat.zero_testBit]; decide)
      show 0 + 1 ≤ cntB (2 ^ c) 8
      omega
    | succ n ih =>
      intro hn
      rcases ih (by omega) with ⟨j, hj, e⟩ | h
      · exact Or.inl ⟨j, by omega, e⟩
      · by_cases e : gsIter S (2 ^ c) (n + 1) = gsIter S (2 ^ c) n
        · exact Or.inl ⟨n, by omega, e⟩
        · refine Or.inr ?_
          have hsub : ∀ x, (gsIter S (2 ^ c) n).testBit x = true → (gsIter S (2 ^ c) (n + 1)).testBit x = true := fun x hx => gsRound_up S _ x hx 8
          by_cases hx : ∃ x, (gsIter S (2 ^ c) (n + 1)).testBit x = true ∧ ¬ (gsIter S (2 ^ c) n).testBit x = true
          · obtain ⟨x, h1, h2⟩ := hx
            have := (cntB_mono hsub 8).2 x (bit_lt8 (gsIter_lt hp hS _) h1) h1 h2
            omega
          · exact absurd (Nat.eq_of_testBit_eq fun x => Bool.eq_iff_iff.mpr ⟨fun q => Decidable.of_not_not fun z => hx ⟨x, q, z⟩, hsub x⟩) e
  have hl := cntB_le (gsIter S (2 ^ c) 8) 8
  rcases key 8 (by omega) with ⟨j, hj, e⟩ | h
  · have e1 := gsIter_fix e (8 - j)
    have e2 := gsIter_fix e (9 - j)
    rw [show j + (8 - j) = 8 by omega] at e1
    rw [show j + (9 - j) = 9 by omega] at e2
    rw [e1, e2]
  · omega
/-- the pairs told, with or without each colour itself, hang together alike -/
theorem gs_cl {S T : Nat → Nat} (hS : ∀ k, k < 8 → S k < 256) (hST : ∀ k, k < 8 → S k = T k ||| 2 ^ k) {c : Nat} (hc : c < 8) : gsIter T (2 ^ c) 8 = clSet S c := by
  have hp : 2 ^ c < 2 ^ 8 := Nat.pow_lt_pow_right (by omega) hc
  have hT : ∀ k, k < 8 → T k < 256 := fun k hk => Nat.lt_of_le_of_lt (by rw [hST k hk]; exact Nat.left_le_or) (hS k hk)
  have hbit : ∀ k y, k < 8 → ((S k).testBit y = true ↔ (T k).testBit y = true ∨ k = y) := fun k y hk => by rw [hST k hk, Nat.testBit_or, Bool.or_eq_true, bit_pow]
  apply Nat.eq_of_testBit_eq
  intro x
  apply Bool.eq_iff_iff.mpr
  constructor
  · exact gsIter_ind (Q := fun z => (clSet S c).testBit z = true) (fun z hz => by rw [← (bit_pow c z).mp hz]; exact clSet_self S c) (fun u v hu q1 q2 => clSet_step hS hc hu q1 ((hbit u v hu).mpr (Or.inl q2))) 8 x
  · intro h
    refine clSet_ind (Q := fun z => (gsIter T (2 ^ c) 8).testBit z = true) (gsIter_up T _ c ((bit_pow c c).mpr rfl) 8) (fun u v hu q1 q2 => ?_) h
    rcases (hbit u v hu).mp q2 with q | rfl
    · rw [← gsIter_closed hT hc]
      have h1 : (gsRound T (gsIter T (2 ^ c) 8) u).testBit u = true := gsRound_up T _ u q1 u
      have h2 : (gsRound T (gsIter T (2 ^ c) 8) (u + 1)).testBit v = true := by
        unfold gsRound
        rw [if_pos h1, Nat.testBit_or, q]
        cases (gsRound T (gsIter T (2 ^ c) 8) u).testBit v <;> rfl
      have h3 := gsRound_le T (gsIter T (2 ^ c) 8) v (u + 1) (8 - (u + 1)) h2
      rw [show u + 1 + (8 - (u + 1)) = 8 by omega] at h3
      exact h3
    · exact q1
