/-! WAYS as sets of PLACES -/
section
/-- all PLACES that are there, or a STREET away -/
def wsGo (S : Nat → Nat) (x : Nat) : Nat → Nat
  | 0 => x
  | n + 1 => if x.testBit n = true then wsGo S x n ||| S n else wsGo S x n
def withS (S : Nat → Nat) (x : Nat) : Nat := wsGo S x 10
theorem wsGo_bit (S : Nat → Nat) (x b : Nat) : ∀ n, (wsGo S x n).testBit b = true ↔ (x.testBit b = true ∨ ∃ a, a < n ∧ x.testBit a = true ∧ (S a).testBit b = true)
  | 0 => ⟨fun h => Or.inl h, fun h => by rcases h with h | ⟨a, h, -⟩; exact h; omega⟩
  | n + 1 => by
    have ih := wsGo_bit S x b n
    unfold wsGo
    by_cases c : x.testBit n = true
    · rw [if_pos c, Nat.testBit_or, Bool.or_eq_true, ih]
      constructor
      · rintro ((h | ⟨a, h1, h2, h3⟩) | h)
        · exact Or.inl h
        · exact Or.inr ⟨a, by omega, h2, h3⟩
        · exact Or.inr ⟨n, by omega, c, h⟩
      · rintro (h | ⟨a, h1, h2, h3⟩)
        · exact Or.inl (Or.inl h)
        · by_cases e : a = n
          · subst e; exact Or.inr h3
          · exact Or.inl (Or.inr ⟨a, by omega, h2, h3⟩)
    · rw [if_neg c, ih]
      constructor
      · rintro (h | ⟨a, h1, h2, h3⟩)
        · exact Or.inl h
        · exact Or.inr ⟨a, by omega, h2, h3⟩
      · rintro (h | ⟨a, h1, h2, h3⟩)
        · exact Or.inl h
        · have : a ≠ n := by intro e; subst e; exact c h2
          exact Or.inr ⟨a, by omega, h2, h3⟩
theorem wsGo_lt {S : Nat → Nat} {x : Nat} (hx : x < 1024) (hS : ∀ a, a < 10 → S a < 1024) : ∀ n, n ≤ 10 → wsGo S x n < 1024
  | 0, _ => hx
  | n + 1, h => by
    have ih := wsGo_lt hx hS n (by omega)
    unfold wsGo
    split
    · exact Nat.or_lt_two_pow (n := 10) ih (hS n (by omega))
    · exact ih
/-- one step: to stay, or a STREET -/
def stp (S : Nat → Nat) (a b : Nat) : Bool := a == b || (S a).testBit b
theorem withS_bit {S : Nat → Nat} {x : Nat} (hx : x < 1024) (b : Nat) : (withS S x).testBit b = true ↔ ∃ a, a < 10 ∧ x.testBit a = true ∧ stp S a b = true := by
  unfold withS
  rw [wsGo_bit]
  unfold stp
  constructor
  · rintro (h | ⟨a, h1, h2, h3⟩)
    · refine ⟨b, ?_, h, by simp⟩
      by_cases c : b < 10
      · exact c
      · have : 2 ^ 10 ≤ 2 ^ b := Nat.pow_le_pow_right (by omega) (by omega)
        rw [Nat.testBit_lt_two_pow (by omega)] at h
        cases h
    · exact ⟨a, h1, h2, by simp [h3]⟩
  · rintro ⟨a, h1, h2, h3⟩
    rw [Bool.or_eq_true] at h3
    rcases h3 with h3 | h3
    · have e : a = b := by simpa using h3
      subst e; exact Or.inl h2
    · exact Or.inr ⟨a, h1, h2, h3⟩
/-- those at which it may be -/
def flt (x : Nat) (mb : Nat → Bool) : Nat := bfGo (fun b => if x.testBit b = true ∧ mb b = true then 0 else 1) 10
theorem flt_bit (x : Nat) (mb : Nat → Bool) (b : Nat) : (flt x mb).testBit b = true ↔ (b < 10 ∧ x.testBit b = true ∧ mb b = true) := by
  unfold flt
  rw [bfGo_bit]
  constructor
  · rintro ⟨h1, h2⟩
    by_cases c : x.testBit b = true ∧ mb b = true
    · exact ⟨h1, c⟩
    · rw [if_neg c] at h2; omega
  · rintro ⟨h1, h2⟩
    exact ⟨h1, if_pos h2⟩
theorem flt_lt (x : Nat) (mb : Nat → Bool) : flt x mb < 1024 := bfGo_lt _ 10
/-- reached after k MINUTES -/
def rk (S : Nat → Nat) (mb : Nat → Nat → Bool) (f : Nat) : Nat → Nat
  | 0 => flt (2 ^ f) (fun b => mb b 0)
  | k + 1 => flt (withS S (rk S mb f k)) (fun b => mb b (k + 1))
theorem rk_lt (S : Nat → Nat) (mb : Nat → Nat → Bool) (f : Nat) : ∀ k, rk S mb f k < 1024
  | 0 => flt_lt _ _
  | _ + 1 => flt_lt _ _
/-- where it can be, before it is asked whether it may -/
def cand (S : Nat → Nat) (mb : Nat → Nat → Bool) (f : Nat) : Nat → Nat
  | 0 => 2 ^ f
  | k + 1 => withS S (rk S mb f k)
theorem rk_cand (S : Nat → Nat) (mb : Nat → Nat → Bool) (f k : Nat) : rk S mb f k = flt (cand S mb f k) (fun b => mb b k) := by
  cases k <;> rfl
/-- the first of r MINUTES from k on -/
def sn (S : Nat → Nat) (mb : Nat → Nat → Bool) (f t : Nat) : Nat → Nat → Option Nat
  | 0, _ => none
  | r + 1, k => if (rk S mb f k).testBit t = true then some k else sn S mb f t r (k + 1)
theorem rk_zero {S : Nat → Nat} {mb : Nat → Nat → Bool} {f k : Nat} (h : cand S mb f k = 0) : rk S mb f k = 0 ∧ cand S mb f (k + 1) = 0 := by
  have h1 : rk S mb f k = 0 := by
    rw [rk_cand, h]
    apply Nat.eq_of_testBit_eq
    intro x
    rw [Nat.zero_testBit]
    cases c : (flt 0 (fun b => mb b k)).testBit x with
    | false => rfl
    | true => have := ((flt_bit _ _ _).mp c).2.1; rw [Nat.zero_testBit] at this; cases this
  refine ⟨h1, ?_⟩
  show withS S (rk S mb f k) = 0
  rw [h1]
  apply Nat.eq_of_testBit_eq
  intro x
  rw [Nat.zero_testBit]
  cases c : (withS S 0).testBit x with
  | false => rfl
  | true => obtain ⟨a, -, h2, -⟩ := (withS_bit (by omega) x).mp c; rw [Nat.zero_testBit] at h2; cases h2
theorem sn_zero {S : Nat → Nat} {mb : Nat → Nat → Bool} {f t : Nat} : ∀ r k, cand S mb f k = 0 → sn S mb f t r k = none
  | 0, _, _ => rfl
  | r + 1, k, h => by
    have h1 := rk_zero h
    unfold sn
    rw [h1.1, Nat.zero_testBit, if_neg (by decide), sn_zero r (k + 1) h1.2]
theorem sn_some {S : Nat → Nat} {mb : Nat → Nat → Bool} {f t e : Nat} : ∀ r k, sn S mb f t r k = some e → (rk S mb f e).testBit t = true ∧ k ≤ e ∧ e < k + r
  | 0, _, h => by cases h
  | r + 1, k, h => by
    unfold sn at h
    split at h
    · next c => cases h; exact ⟨c, by omega, by omega⟩
    · have := sn_some r (k + 1) h
      exact ⟨this.1, by omega, by omega⟩
/-- those from which the goal is reached in time, j MINUTES before -/
def ld (S : Nat → Nat) (mb : Nat → Nat → Bool) (f t e : Nat) : Nat → Nat
  | 0 => 2 ^ t
  | j + 1 => rk S mb f (e - (j + 1)) &&& withS S (ld S mb f t e j)
theorem ld_lt {S : Nat → Nat} {mb : Nat → Nat → Bool} {f t e : Nat} (ht : t < 10) : ∀ j, ld S mb f t e j < 1024
  | 0 => Nat.pow_lt_pow_right (by omega) ht
  | j + 1 => by
    have := rk_lt S mb f (e - (j + 1))
    have h : rk S mb f (e - (j + 1)) &&& withS S (ld S mb f t e j) ≤ rk S mb f (e - (j + 1)) := Nat.and_le_left
    unfold ld
    omega
def SymS (S : Nat → Nat) : Prop := ∀ a b, a < 10 → b < 10 → ((S a).testBit b = true ↔ (S b).testBit a = true)
theorem stp_sym {S : Nat → Nat} (h : SymS S) {a b : Nat} (ha : a < 10) (hb : b < 10) : stp S a b = true ↔ stp S b a = true := by
  unfold stp
  rw [Bool.or_eq_true, Bool.or_eq_true, h a b ha hb]
  constructor
  · rintro (h | h)
    · have : a = b := by simpa using h
      left; simp [this]
    · exact Or.inr h
  · rintro (h | h)
    · have : b = a := by simpa using h
      left; simp [this]
    · exact Or.inr h
theorem bit10 {x b : Nat} (hx : x < 1024) (h : x.testBit b = true) : b < 10 := by
  by_cases c : b < 10
  · exact c
  · have : 2 ^ 10 ≤ 2 ^ b := Nat.pow_le_pow_right (by omega) (by omega)
    rw [Nat.testBit_lt_two_pow (by omega)] at h
    cases h
theorem ld_bit {S : Nat → Nat} (hS : SymS S) {mb : Nat → Nat → Bool} {f t e : Nat} (ht : t < 10) (j a : Nat) : (ld S mb f t e (j + 1)).testBit a = true ↔ ((rk S mb f (e - (j + 1))).testBit a = true ∧ ∃ b, b < 10 ∧ (ld S mb f t e j).testBit b = true ∧ stp S a b = true) := by
  show (rk S mb f (e - (j + 1)) &&& withS S (ld S mb f t e j)).testBit a = true ↔ _
  rw [Nat.testBit_and, Bool.and_eq_true, withS_bit (ld_lt ht j)]
  constructor
  · rintro ⟨h1, b, h2, h3, h4⟩
    exact ⟨h1, b, h2, h3, (stp_sym hS h2 (bit10 (rk_lt S mb f _) h1)).mp h4⟩
  · rintro ⟨h1, b, h2, h3, h4⟩
    exact ⟨h1, b, h2, h3, (stp_sym hS (bit10 (rk_lt S mb f _) h1) h2).mp h4⟩
theorem ld_sub {S : Nat → Nat} {mb : Nat → Nat → Bool} {f t e : Nat} (he : (rk S mb f e).testBit t = true) (j a : Nat) (h : (ld S mb f t e j).testBit a = true) : (rk S mb f (e - j)).testBit a = true := by
  cases j with
  | zero =>
    have : t = a := (bit_pow t a).mp h
    subst this; exact he
  | succ j =>
    have h2 : (rk S mb f (e - (j + 1)) &&& withS S (ld S mb f t e j)).testBit a = true := h
    rw [Nat.testBit_and, Bool.and_eq_true] at h2
    exact h2.1
/-- from the goal one can go back -/
theorem ld_ex {S : Nat → Nat} (hS : SymS S) {mb : Nat → Nat → Bool} {f t e : Nat} (ht : t < 10) (he : (rk S mb f e).testBit t = true) : ∀ j, j ≤ e → ∃ a, a < 10 ∧ (ld S mb f t e j).testBit a = true
  | 0, _ => ⟨t, ht, (bit_pow t t).mpr rfl⟩
  | j + 1, h => by
    obtain ⟨b, hb, hb2⟩ := ld_ex hS ht he j (by omega)
    have h1 := ld_sub he j b hb2
    obtain ⟨k, hk⟩ : ∃ k, e - j = k + 1 := ⟨e - j - 1, by omega⟩
    rw [hk] at h1
    have h2 := ((flt_bit _ _ _).mp h1).2.1
    obtain ⟨a, ha, ha2, ha3⟩ := (withS_bit (rk_lt S mb f k) b).mp h2
    have hk2 : e - (j + 1) = k := by omega
    refine ⟨a, ha, (ld_bit hS ht j a).mpr ⟨by rw [hk2]; exact ha2, b, hb, hb2, ha3⟩⟩
theorem ld_from {S : Nat → Nat} (hS : SymS S) {mb : Nat → Nat → Bool} {f t e : Nat} (ht : t < 10) (he : (rk S mb f e).testBit t = true) : (ld S mb f t e e).testBit f = true := by
  obtain ⟨a, ha, ha2⟩ := ld_ex hS ht he e (Nat.le_refl _)
  have := ld_sub he e a ha2
  rw [Nat.sub_self] at this
  have h2 := ((flt_bit _ _ _).mp this).2.1
  have : f = a := (bit_pow f a).mp h2
  subst this; exact ha2
/-- the WAY: the lowest PLACES -/
def pt (S : Nat → Nat) (mb : Nat → Nat → Bool) (f t e : Nat) : Nat → Nat
  | 0 => f
  | k + 1 => lowFrom ((2 ^ pt S mb f t e k ||| S (pt S mb f t e k)) &&& ld S mb f t e (e - (k + 1))) 10 0
theorem st_bit (S : Nat → Nat) (p b x : Nat) : ((2 ^ p ||| S p) &&& x).testBit b = true ↔ (stp S p b = true ∧ x.testBit b = true) := by
  rw [Nat.testBit_and, Nat.testBit_or, Bool.and_eq_true, Bool.or_eq_true, bit_pow]
  unfold stp
  rw [Bool.or_eq_true]
  constructor
  · rintro ⟨h | h, h2⟩
    · subst h; exact ⟨Or.inl (by simp), h2⟩
    · exact ⟨Or.inr h, h2⟩
  · rintro ⟨h | h, h2⟩
    · have : p = b := by simpa using h
      exact ⟨Or.inl this, h2⟩
    · exact ⟨Or.inr h, h2⟩
theorem pt_ok {S : Nat → Nat} (hS : SymS S) {mb : Nat → Nat → Bool} {f t e : Nat} (ht : t < 10) (he : (rk S mb f e).testBit t = true) : ∀ k, k ≤ e → (ld S mb f t e (e - k)).testBit (pt S mb f t e k) = true ∧ pt S mb f t e k < 10
  | 0, _ => by
    have := ld_from hS ht he
    exact ⟨this, bit10 (ld_lt ht e) this⟩
  | k + 1, h => by
    have ih := pt_ok hS ht he k (by omega)
    have hj : e - k = (e - (k + 1)) + 1 := by omega
    rw [hj] at ih
    obtain ⟨-, b, hb, hb2, hb3⟩ := (ld_bit hS ht _ _).mp ih.1
    have h1 := lowFrom_hit (a := (2 ^ pt S mb f t e k ||| S (pt S mb f t e k)) &&& ld S mb f t e (e - (k + 1))) 10 0 b (by omega) (by omega) ((st_bit S _ b _).mpr ⟨hb3, hb2⟩)
    refine ⟨((st_bit S _ _ _).mp h1.1).2, ?_⟩
    show lowFrom _ 10 0 < 10
    omega
theorem pt_next {S : Nat → Nat} (hS : SymS S) {mb : Nat → Nat → Bool} {f t e k : Nat} (ht : t < 10) (he : (rk S mb f e).testBit t = true) (h : k + 1 ≤ e) : (stp S (pt S mb f t e k) (pt S mb f t e (k + 1)) = true ∧ (ld S mb f t e (e - (k + 1))).testBit (pt S mb f t e (k + 1)) = true) ∧ ∀ b, b < pt S mb f t e (k + 1) → ¬ (stp S (pt S mb f t e k) b = true ∧ (ld S mb f t e (e - (k + 1))).testBit b = true) := by
  have ih := pt_ok hS ht he k (by omega)
  have hj : e - k = (e - (k + 1)) + 1 := by omega
  rw [hj] at ih
  obtain ⟨-, b, hb, hb2, hb3⟩ := (ld_bit hS ht _ _).mp ih.1
  have h1 := lowFrom_hit (a := (2 ^ pt S mb f t e k ||| S (pt S mb f t e k)) &&& ld S mb f t e (e - (k + 1))) 10 0 b (by omega) (by omega) ((st_bit S _ b _).mpr ⟨hb3, hb2⟩)
  refine ⟨(st_bit S _ _ _).mp h1.1, fun b' h2 h3 => ?_⟩
  have h4 := lowFrom_hit (a := (2 ^ pt S mb f t e k ||| S (pt S mb f t e k)) &&& ld S mb f t e (e - (k + 1))) 10 0 b' (by omega) (by
    have : pt S mb f t e (k + 1) ≤ b := h1.2.2
    omega) ((st_bit S _ b' _).mpr h3)
  have h5 : pt S mb f t e (k + 1) ≤ b' := h4.2.2
  omega
end
