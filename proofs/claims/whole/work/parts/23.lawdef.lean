/-! LAWS in memory; painters; rows filled -/
def LawAt (w : Wd) (a : Nat) : Prop := 125 ≤ a ∧ a + 3 < w.2.1 ∧ (a - 125) % 4 = 0 ∧ w.2.2.1 (a + 1) ≤ 400 ∧ w.2.2.1 (a + 2) ≤ 48 ∧ w.2.2.1 (a + 3) = 4
theorem sh_law {w : Wd} {a : Nat} (h : LawAt w a) : (dw w).2.1 a = some (.inr 2) := by
  obtain ⟨h1, h2, h3, -⟩ := h
  show shW w.2.1 w.2.2.1 a = _
  unfold shW
  rw [if_neg (by omega), if_pos (by omega), if_pos h3]
theorem sh_lawrow {w : Wd} {a : Nat} (h : LawAt w a) {k : Nat} (hk : k = 1 ∨ k = 2 ∨ k = 3) : (dw w).2.1 (a + k) = some (.inl (0, w.2.2.1 (a + k))) := by
  obtain ⟨h1, h2, h3, -⟩ := h
  show shW w.2.1 w.2.2.1 (a + k) = _
  unfold shW
  rw [if_neg (by omega), if_pos (by omega), if_neg (by omega)]
theorem sh_code {w : Wd} {a : Nat} (h : LawAt w a) : (dw w).2.1 (a + 1) = some (.inl (0, w.2.2.1 (a + 1))) := sh_lawrow h (Or.inl rfl)
theorem sh_clauses {w : Wd} {a : Nat} (h : LawAt w a) : (dw w).2.1 (a + 2) = some (.inl (0, w.2.2.1 (a + 2))) := sh_lawrow h (Or.inr (Or.inl rfl))
theorem sh_words {w : Wd} {a : Nat} (h : LawAt w a) : (dw w).2.1 (a + 3) = some (.inl (0, 4)) := by rw [sh_lawrow h (Or.inr (Or.inr rfl)), h.2.2.2.2.2]
theorem sm_code {w : Wd} {a : Nat} (h : LawAt w a) : w.2.2.1 (a + 1) < 2147483648 := by have := h.2.2.2.1; omega
theorem sm_clauses {w : Wd} {a : Nat} (h : LawAt w a) : w.2.2.1 (a + 2) < 2147483648 := by have := h.2.2.2.2.1; omega
theorem rf_law {w : Wd} {a : Nat} (h : LawAt w a) (k : Nat) : (dw w).2.2 a (k : Nat) = some (a + (k + 1)) := by
  obtain ⟨h1, -⟩ := h
  show rfW w.2.2.2 a k = _
  unfold rfW
  rw [if_neg (by omega)]
  congr 1
  rw [Int.toNat_natCast]
  omega
def CodeAt (w : Wd) (a : Nat) : Prop := (dw w).2.1 a = some (.inl (0, w.2.2.1 a)) ∧ w.2.2.1 a < 2147483648
theorem codeAt {w : Wd} {a : Nat} (h : LawAt w a) : CodeAt w (a + 1) := ⟨sh_code h, sm_code h⟩
def rul (w : Wd) (i : IM) : Option Nat := if 0 ≤ i 7 14 ∧ i 7 14 < i 7 12 then w.2.2.2 15 (i 7 14) else none
theorem ac_rm {d : Nat} : 1 ≤ (rmD (d + 1) 0 0).frames ∧ 26 ≤ (rmD (d + 1) 0 0).locals := ⟨by show 1 ≤ d + 1; omega, by show 26 ≤ 64 * (d + 1); omega⟩
theorem shSn {w : Wd} {a : Nat} (h : a = 64 ∨ a = 74 ∨ a = 84) : (dw w).2.1 a = some (.inl (1, 132)) := by rcases h with h | h | h <;> subst h <;> rfl
theorem shP0 {w : Wd} {a : Nat} (h : a = 63 ∨ a = 73) : (dw w).2.1 a = some (.inr 5) := by rcases h with h | h <;> subst h <;> rfl
theorem shP1 {w : Wd} {a : Nat} (h : a = 63 ∨ a = 73) : (dw w).2.1 (a + 1) = some (.inl (1, 132)) := by rcases h with h | h <;> subst h <;> rfl
theorem shP2 {w : Wd} {a : Nat} (h : a = 63 ∨ a = 73) : (dw w).2.1 (a + 2) = some (.inl (1, 12)) := by rcases h with h | h <;> subst h <;> rfl
theorem shP3 {w : Wd} {a : Nat} (h : a = 63 ∨ a = 73) : (dw w).2.1 (a + 3) = some (.inl (0, 10)) := by rcases h with h | h <;> subst h <;> rfl
theorem shP4 {w : Wd} {a : Nat} (h : a = 63 ∨ a = 73) : (dw w).2.1 (a + 4) = some (.inl (0, 11)) := by rcases h with h | h <;> subst h <;> rfl
theorem shP5 {w : Wd} {a : Nat} (h : a = 63 ∨ a = 73) : (dw w).2.1 (a + 5) = some (.inl (0, 11)) := by rcases h with h | h <;> subst h <;> rfl
theorem shP6 {w : Wd} {a : Nat} (h : a = 63 ∨ a = 73) : (dw w).2.1 (a + 6) = some (.inl (0, 11)) := by rcases h with h | h <;> subst h <;> rfl
theorem shP7 {w : Wd} {a : Nat} (h : a = 63 ∨ a = 73) : (dw w).2.1 (a + 7) = some (.inl (0, 11)) := by rcases h with h | h <;> subst h <;> rfl
theorem shP8 {w : Wd} {a : Nat} (h : a = 63 ∨ a = 73) : (dw w).2.1 (a + 8) = some (.inl (0, 10)) := by rcases h with h | h <;> subst h <;> rfl
theorem shP9 {w : Wd} {a : Nat} (h : a = 63 ∨ a = 73) : (dw w).2.1 (a + 9) = some (.inl (0, 10)) := by rcases h with h | h <;> subst h <;> rfl
theorem rfP {w : Wd} {a : Nat} (h : a = 63 ∨ a = 73) {k : Nat} (hk : k < 9) : (dw w).2.2 a ((k + 2 : Nat) : Int) = some (a + (k + 1)) := by
  have hk' : k = 0 ∨ k = 1 ∨ k = 2 ∨ k = 3 ∨ k = 4 ∨ k = 5 ∨ k = 6 ∨ k = 7 ∨ k = 8 := by omega
  rcases h with h | h <;> subst h <;> rcases hk' with h | h | h | h | h | h | h | h | h <;> subst h <;> rfl
theorem rfPt {w : Wd} {a : Nat} (h : a = 63 ∨ a = 73) : (dw w).2.2 a (0 : Nat) = some 7 := by rcases h with h | h <;> subst h <;> rfl
theorem rfPc {w : Wd} {a : Nat} (h : a = 63 ∨ a = 73) : (dw w).2.2 a (1 : Nat) = some 51 := by rcases h with h | h <;> subst h <;> rfl
def fillA (i : IM) (a : Nat) (n v : Int) : IM := fun c k => if c = a ∧ 0 ≤ k ∧ k < n then v else i c k
