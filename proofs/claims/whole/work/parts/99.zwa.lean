/-! TOKENS of a TEXT, purely -/
section
def whl (p : Nat → Bool) : Nat → Nat → Nat
  | 0, k => k
  | r + 1, k => if p k = true then whl p r (k + 1) else k
theorem whl_le (p : Nat → Bool) : ∀ r k, k ≤ whl p r k ∧ whl p r k ≤ k + r
  | 0, k => ⟨Nat.le_refl _, Nat.le_refl _⟩
  | r + 1, k => by
    unfold whl
    have := whl_le p r (k + 1)
    split <;> omega
theorem whl_in {p : Nat → Bool} : ∀ r k j, k ≤ j → j < whl p r k → p j = true
  | 0, k, j, h1, h2 => by unfold whl at h2; omega
  | r + 1, k, j, h1, h2 => by
    unfold whl at h2
    split at h2
    · next hp =>
      by_cases e : j = k
      · rw [e]; exact hp
      · exact whl_in r (k + 1) j (by omega) h2
    · omega
theorem whl_stop {p : Nat → Bool} : ∀ r k, whl p r k < k + r → p (whl p r k) = false
  | 0, k, h => by unfold whl at h; omega
  | r + 1, k, h => by
    unfold whl at h ⊢
    split
    · next hp =>
      rw [if_pos hp] at h
      exact whl_stop r (k + 1) (by omega)
    · next hp => exact Bool.eq_false_iff.mpr hp
theorem whl_go {p : Nat → Bool} {n k : Nat} (hk : k < n) (hp : p k = true) : whl p (n - k) k = whl p (n - (k + 1)) (k + 1) := by
  rw [show n - k = (n - (k + 1)) + 1 by omega]
  show (if p k = true then whl p (n - (k + 1)) (k + 1) else k) = _
  rw [if_pos hp]
theorem whl_no {p : Nat → Bool} {n k : Nat} (hp : p k = false) : whl p (n - k) k = k := by
  cases n - k with
  | zero => rfl
  | succ r => show (if p k = true then _ else k) = k; rw [hp]; rfl
theorem whl_end {p : Nat → Bool} {n k : Nat} (hk : n ≤ k) : whl p (n - k) k = k := by rw [show n - k = 0 by omega]; rfl
def isSp (B : Nat → Int) (j : Nat) : Bool := decide (B j = 32)
def isLw (B : Nat → Int) (j : Nat) : Bool := decide (97 ≤ B j ∧ B j ≤ 122)
def isDg (B : Nat → Int) (j : Nat) : Bool := decide (48 ≤ B j ∧ B j ≤ 57)
def skT (B : Nat → Int) (n k : Nat) : Nat := whl (isSp B) (n - k) k
def enT (B : Nat → Int) (n k : Nat) : Nat := if isLw B k = true then whl (isLw B) (n - k) k else if isDg B k = true then whl (isDg B) (n - k) k else k + 1
def poT (B : Nat → Int) (n : Nat) : Nat → Nat
  | 0 => skT B n 0
  | j + 1 => if poT B n j < n then skT B n (enT B n (poT B n j)) else n
theorem skT_le {B : Nat → Int} {n k : Nat} (h : k ≤ n) : k ≤ skT B n k ∧ skT B n k ≤ n := by
  have := whl_le (isSp B) (n - k) k
  unfold skT; omega
theorem enT_le {B : Nat → Int} {n k : Nat} (h : k < n) : k < enT B n k ∧ enT B n k ≤ n := by
  unfold enT
  by_cases c : isLw B k = true
  · rw [if_pos c, whl_go h c]
    have := whl_le (isLw B) (n - (k + 1)) (k + 1)
    omega
  · rw [if_neg c]
    by_cases c2 : isDg B k = true
    · rw [if_pos c2, whl_go h c2]
      have := whl_le (isDg B) (n - (k + 1)) (k + 1)
      omega
    · rw [if_neg c2]; omega
theorem poT_le (B : Nat → Int) (n : Nat) : ∀ j, poT B n j ≤ n
  | 0 => (skT_le (Nat.zero_le n)).2
  | j + 1 => by
    unfold poT
    split
    · next h => exact (skT_le (enT_le h).2).2
    · exact Nat.le_refl n
theorem poT_lt {B : Nat → Int} {n j : Nat} (h : poT B n j < n) : poT B n j < poT B n (j + 1) := by
  show _ < (if poT B n j < n then skT B n (enT B n (poT B n j)) else n)
  rw [if_pos h]
  have h1 := enT_le (B := B) h
  have h2 := skT_le (B := B) h1.2
  omega
theorem poT_nsp {B : Nat → Int} {n : Nat} : ∀ j, poT B n j < n → isSp B (poT B n j) = false
  | 0, h => by
    have h' : whl (isSp B) (n - 0) 0 < n := h
    exact whl_stop (n - 0) 0 (by omega)
  | j + 1, h => by
    have h0 : poT B n j < n := by
      by_cases c : poT B n j < n
      · exact c
      · have e : poT B n (j + 1) = n := by show (if poT B n j < n then _ else n) = n; rw [if_neg c]
        omega
    have e : poT B n (j + 1) = whl (isSp B) (n - enT B n (poT B n j)) (enT B n (poT B n j)) := by show (if poT B n j < n then _ else n) = _; rw [if_pos h0]; rfl
    rw [e] at h ⊢
    have h1 := enT_le (B := B) h0
    exact whl_stop _ _ (by omega)
theorem poT_n {B : Nat → Int} {n : Nat} : ∀ j, (∀ q, q < j → poT B n q < n) → j ≤ poT B n j
  | 0, _ => Nat.zero_le _
  | j + 1, h => by
    have h1 := poT_n j (fun q hq => h q (by omega))
    have h2 := poT_lt (h j (by omega))
    omega
/-- how many TOKENS -/
def nT (B : Nat → Int) (n : Nat) : Nat := whl (fun j => decide (poT B n j < n)) n 0
theorem nT_lt {B : Nat → Int} {n j : Nat} (h : j < nT B n) : poT B n j < n := by
  have := whl_in (p := fun j => decide (poT B n j < n)) n 0 j (Nat.zero_le _) h
  exact of_decide_eq_true this
theorem nT_le (B : Nat → Int) (n : Nat) : nT B n ≤ n := by
  have := (whl_le (fun j => decide (poT B n j < n)) n 0).2
  unfold nT; omega
theorem nT_at (B : Nat → Int) (n : Nat) : poT B n (nT B n) = n := by
  have hle := poT_le B n (nT B n)
  by_cases c : nT B n < n
  · have := whl_stop (p := fun j => decide (poT B n j < n)) n 0 (by unfold nT at c; omega)
    have := of_decide_eq_false this
    unfold nT
    have h2 := poT_le B n (whl (fun j => decide (poT B n j < n)) n 0)
    omega
  · have h1 := poT_n (nT B n) (fun q hq => nT_lt hq)
    omega
theorem nT_eq {B : Nat → Int} {n T : Nat} (h1 : ∀ j, j < T → poT B n j < n) (h2 : poT B n T = n) : nT B n = T := by
  have a := nT_at B n
  rcases Nat.lt_trichotomy (nT B n) T with h | h | h
  · have := h1 _ h; omega
  · exact h
  · have := nT_lt h; omega
/-- WORDS -/
def cWs : List (List Int) := [[119, 105, 110, 100, 111, 119], [116, 104, 105, 110, 103], [112, 108, 97, 99, 101], [99, 111, 108, 111, 117, 114], [115, 111, 114, 116], [109, 111, 110, 116, 104], [109, 105, 110, 117, 116, 101], [99, 111, 97, 116], [112, 101, 114, 115, 111, 110], [108, 105, 109, 105, 116], [99, 111, 115, 116], [102, 114, 101, 101], [104, 105, 100, 100, 101, 110], [105, 102], [111, 114], [97, 110, 100], [110, 111, 116]]
def mWs : List (List Int) := [[108, 105, 109, 105, 116], [99, 111, 115, 116], [102, 114, 101, 101], [104, 105, 100, 100, 101, 110], [105, 102], [111, 114], [97, 110, 100], [110, 111, 116], [119, 105, 110, 100, 111, 119], [116, 104, 105, 110, 103], [112, 108, 97, 99, 101], [99, 111, 108, 111, 117, 114], [115, 111, 114, 116], [109, 111, 110, 116, 104], [109, 105, 110, 117, 116, 101], [99, 111, 97, 116], [112, 101, 114, 115, 111, 110]]
def sB (B : Nat → Int) (k e : Nat) : List Int := (List.range (e - k)).map (fun j => B (k + j))
def wcF (s : List Int) : List (List Int) → Int → Int
  | [], _ => 257
  | wd :: ws, x => if s = wd then 300 + x else wcF s ws (x + 1)
def wmF (s : List Int) : List (List Int) → Int → Int
  | [], _ => 0
  | wd :: ws, x => if s = wd then x else wmF s ws (x + 1)
/-- a TOKEN of the class as the model has it -/
def cm (c : Int) : Int := if c = -1 ∨ c = 257 then 0 else if c = 256 then 50 else if 300 ≤ c ∧ c < 309 then c - 291 else if 309 ≤ c then c - 308 else 100 + c
theorem wcmF_in : ∀ wd ∈ cWs, cm (wcF wd cWs 0) = wmF wd mWs 1 := by decide +kernel
theorem wcF_no {s : List Int} : ∀ (ws : List (List Int)) (x : Int), s ∉ ws → wcF s ws x = 257
  | [], _, _ => rfl
  | wd :: ws, x, h => by
    unfold wcF
    rw [if_neg (fun e => h (by rw [e]; exact List.mem_cons_self ..)), wcF_no ws (x + 1) (fun e => h (List.mem_cons_of_mem _ e))]
theorem wmF_no {s : List Int} : ∀ (ws : List (List Int)) (x : Int), s ∉ ws → wmF s ws x = 0
  | [], _, _ => rfl
  | wd :: ws, x, h => by
    unfold wmF
    rw [if_neg (fun e => h (by rw [e]; exact List.mem_cons_self ..)), wmF_no ws (x + 1) (fun e => h (List.mem_cons_of_mem _ e))]
theorem mWs_c : ∀ wd ∈ mWs, wd ∈ cWs := by decide +kernel
theorem wcmF (s : List Int) : cm (wcF s cWs 0) = wmF s mWs 1 := by
  by_cases h : s ∈ cWs
  · exact wcmF_in s h
  · rw [wcF_no cWs 0 h, wmF_no mWs 1 (fun q => h (mWs_c s q))]; rfl
theorem wcF_rg (s : List Int) : ∀ (ws : List (List Int)) (x : Int), (wcF s ws x = 257) ∨ (300 + x ≤ wcF s ws x ∧ wcF s ws x < 300 + x + (ws.length : Int))
  | [], _ => Or.inl rfl
  | wd :: ws, x => by
    unfold wcF
    split
    · right; simp only [List.length_cons]; omega
    · rcases wcF_rg s ws (x + 1) with h | h
      · exact Or.inl h
      · right; simp only [List.length_cons]; omega
def tcC (B : Nat → Int) (n k : Nat) : Int := if isLw B k = true then wcF (sB B k (enT B n k)) cWs 0 else if isDg B k = true then 256 else B k
def tcM (B : Nat → Int) (n k : Nat) : Int := if isLw B k = true then wmF (sB B k (enT B n k)) mWs 1 else if isDg B k = true then 50 else 100 + B k
theorem cm_tc {B : Nat → Int} {n k : Nat} (hB : 0 ≤ B k ∧ B k ≤ 255) : cm (tcC B n k) = tcM B n k := by
  unfold tcC tcM
  split
  · exact wcmF _
  · split
    · rfl
    · unfold cm
      rw [if_neg (by omega), if_neg (by omega), if_neg (by omega), if_neg (by omega)]
/-- NUMBERS, on the one side and on the other -/
def vM (B : Nat → Int) (k : Nat) : Nat → Int
  | 0 => 0
  | j + 1 => if vM B k j ≤ 1000000 then 10 * vM B k j + B (k + j) - 48 else vM B k j
def vC (B : Nat → Int) (k : Nat) : Nat → Int
  | 0 => 0
  | j + 1 => min (vC B k j * 10 + B (k + j) - 48) 1001
theorem v_ok {B : Nat → Int} {k : Nat} : ∀ j, (∀ q, q < j → 48 ≤ B (k + q) ∧ B (k + q) ≤ 57) → (0 ≤ vM B k j ∧ vM B k j ≤ 10000009) ∧ vC B k j = if vM B k j ≤ 1000 then vM B k j else 1001
  | 0, _ => ⟨⟨by show (0 : Int) ≤ 0; omega, by show (0 : Int) ≤ 10000009; omega⟩, rfl⟩
  | j + 1, h => by
    obtain ⟨h1, h2⟩ := v_ok j (fun q hq => h q (by omega))
    have hb := h j (by omega)
    have eM : vM B k (j + 1) = if vM B k j ≤ 1000000 then 10 * vM B k j + B (k + j) - 48 else vM B k j := rfl
    have eC : vC B k (j + 1) = min (vC B k j * 10 + B (k + j) - 48) 1001 := rfl
    rw [eC, h2, eM]
    by_cases c : vM B k j ≤ 1000
    · rw [if_pos c, if_pos (by omega)]
      refine ⟨by omega, ?_⟩
      by_cases c2 : 10 * vM B k j + B (k + j) - 48 ≤ 1000
      · rw [if_pos c2]; omega
      · rw [if_neg c2]; omega
    · rw [if_neg c]
      by_cases c3 : vM B k j ≤ 1000000
      · rw [if_pos c3, if_neg (by omega)]
        exact ⟨by omega, by omega⟩
      · rw [if_neg c3, if_neg c]
        exact ⟨by omega, by omega⟩
def vlT (B : Nat → Int) (n k : Nat) : Int := if isDg B k = true then vM B k (enT B n k - k) else 0
/-- the TEXT as a row of TOKENS -/
def tT (B : Nat → Int) (n : Nat) : Tk := (fun j => if j < nT B n then tcM B n (poT B n j) else 0, fun j => if j < nT B n then vlT B n (poT B n j) else 0, nT B n)
theorem enT_dg {B : Nat → Int} {n k q : Nat} (h : isDg B k = true) (hq : q < enT B n k - k) : 48 ≤ B (k + q) ∧ B (k + q) ≤ 57 := by
  have hl : ¬ isLw B k = true := by
    have := of_decide_eq_true h
    intro z
    have := of_decide_eq_true z
    omega
  unfold enT at hq
  rw [if_neg hl, if_pos h] at hq
  exact of_decide_eq_true (whl_in (p := isDg B) (n - k) k (k + q) (by omega) (by omega))
theorem tT_ok {B : Nat → Int} {n : Nat} (hn : n ≤ 400) : tkOK (tT B n) := by
  refine ⟨Nat.le_trans (nT_le B n) hn, ?_, fun k => ?_⟩
  · show (if nT B n < nT B n then _ else (0 : Int)) = 0
    rw [if_neg (Nat.lt_irrefl _)]
  · show 0 ≤ (if k < nT B n then vlT B n (poT B n k) else 0)
    split
    · unfold vlT
      split
      · next h => exact (v_ok _ (fun q hq => enT_dg h hq)).1.1
      · exact Int.le_refl 0
    · exact Int.le_refl 0
end
