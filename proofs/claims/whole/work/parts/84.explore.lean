/-! the search through PAINTINGS -/
section
def gdN (Z : RW) (n : Nat) (o : Nat → Nat) : Nat → Bool
  | 0 => true
  | q + 1 => gdN Z n o q && rOK Z n o q
abbrev gd (Z : RW) (n : Nat) (o : Nat → Nat) : Bool := gdN Z n o Z.1
theorem gdN_iff (Z : RW) (n : Nat) (o : Nat → Nat) : ∀ k, gdN Z n o k = true ↔ ∀ q, q < k → rOK Z n o q = true
  | 0 => ⟨fun _ q h => by omega, fun _ => rfl⟩
  | k + 1 => by
    unfold gdN
    rw [Bool.and_eq_true, gdN_iff Z n o k]
    constructor
    · rintro ⟨h1, h2⟩ q hq
      by_cases e : q = k
      · rw [e]; exact h2
      · exact h1 q (by omega)
    · intro h
      exact ⟨fun q hq => h q (by omega), h k (by omega)⟩
/-- the rows that are still open with a choice -/
def lkGo (Z : RW) (t c : Nat) (o : Nat → Nat) (op : Nat) : Nat → Option Nat
  | 0 => some 0
  | q + 1 => match lkGo Z t c o op q with
    | none => none
    | some l => if op.testBit q = true then (if ovr Z (vw Z o q t ||| Z.2.1 t c q) q = true then none else if mfL Z (t + 1) q (vw Z o q t ||| Z.2.1 t c q) (ldL Z (vw Z o q t ||| Z.2.1 t c q) q) (Z.2.2.1 q) = 0 then some l else some (l ||| 2 ^ q)) else some l
theorem lkGo_none {Z : RW} {t c : Nat} {o : Nat → Nat} {op : Nat} : ∀ k, lkGo Z t c o op k = none → ∃ q, q < k ∧ op.testBit q = true ∧ ovr Z (vw Z o q t ||| Z.2.1 t c q) q = true
  | 0, h => by cases h
  | k + 1, h => by
    unfold lkGo at h
    cases hl : lkGo Z t c o op k with
    | none =>
      obtain ⟨q, h1, h2⟩ := lkGo_none k hl
      exact ⟨q, by omega, h2⟩
    | some l =>
      rw [hl] at h
      have h3 : (if op.testBit k = true then (if ovr Z (vw Z o k t ||| Z.2.1 t c k) k = true then none else if mfL Z (t + 1) k (vw Z o k t ||| Z.2.1 t c k) (ldL Z (vw Z o k t ||| Z.2.1 t c k) k) (Z.2.2.1 k) = 0 then some l else some (l ||| 2 ^ k)) else some l) = none := h
      by_cases a : op.testBit k = true
      · by_cases b : ovr Z (vw Z o k t ||| Z.2.1 t c k) k = true
        · exact ⟨k, by omega, a, b⟩
        · rw [if_pos a, if_neg b] at h3
          by_cases m : mfL Z (t + 1) k (vw Z o k t ||| Z.2.1 t c k) (ldL Z (vw Z o k t ||| Z.2.1 t c k) k) (Z.2.2.1 k) = 0
          · rw [if_pos m] at h3; cases h3
          · rw [if_neg m] at h3; cases h3
      · rw [if_neg a] at h3; cases h3
theorem lkGo_some {Z : RW} {t c : Nat} {o : Nat → Nat} {op : Nat} : ∀ k l, lkGo Z t c o op k = some l → l < 2 ^ k ∧ ∀ q, q < k → (op.testBit q = true → ovr Z (vw Z o q t ||| Z.2.1 t c q) q = false) ∧ (l.testBit q = true ↔ op.testBit q = true ∧ ¬ mfL Z (t + 1) q (vw Z o q t ||| Z.2.1 t c q) (ldL Z (vw Z o q t ||| Z.2.1 t c q) q) (Z.2.2.1 q) = 0)
  | 0, l, h => by cases h; exact ⟨by decide, fun q hq => by omega⟩
  | k + 1, l, h => by
    have h2k : 2 ^ k < 2 ^ (k + 1) := Nat.pow_lt_pow_right (by omega) (by omega)
    unfold lkGo at h
    cases hl : lkGo Z t c o op k with
    | none => rw [hl] at h; cases h
    | some l0 =>
      have ih := lkGo_some k l0 hl
      have hk0 : l0.testBit k = false := Nat.testBit_lt_two_pow ih.1
      rw [hl] at h
      by_cases a : op.testBit k = true
      · by_cases b : ovr Z (vw Z o k t ||| Z.2.1 t c k) k = true
        · simp only [a, b, if_true] at h
          cases h
        · have b' : ovr Z (vw Z o k t ||| Z.2.1 t c k) k = false := by simpa using b
          by_cases m : mfL Z (t + 1) k (vw Z o k t ||| Z.2.1 t c k) (ldL Z (vw Z o k t ||| Z.2.1 t c k) k) (Z.2.2.1 k) = 0
          · have e : l0 = l := by
              have h3 : (if op.testBit k = true then (if ovr Z (vw Z o k t ||| Z.2.1 t c k) k = true then none else if mfL Z (t + 1) k (vw Z o k t ||| Z.2.1 t c k) (ldL Z (vw Z o k t ||| Z.2.1 t c k) k) (Z.2.2.1 k) = 0 then some l0 else some (l0 ||| 2 ^ k)) else some l0) = some l := h
              rw [if_pos a, if_neg b, if_pos m] at h3
              exact Option.some.inj h3
            subst e
            refine ⟨by omega, fun q hq => ?_⟩
            by_cases e : q = k
            · subst e; exact ⟨fun _ => b', by rw [hk0]; exact ⟨fun z => (by cases z), fun z => absurd m z.2⟩⟩
            · exact ih.2 q (by omega)
          · have e : l0 ||| 2 ^ k = l := by
              have h3 : (if op.testBit k = true then (if ovr Z (vw Z o k t ||| Z.2.1 t c k) k = true then none else if mfL Z (t + 1) k (vw Z o k t ||| Z.2.1 t c k) (ldL Z (vw Z o k t ||| Z.2.1 t c k) k) (Z.2.2.1 k) = 0 then some l0 else some (l0 ||| 2 ^ k)) else some l0) = some l := h
              rw [if_pos a, if_neg b, if_neg m] at h3
              exact Option.some.inj h3
            subst e
            refine ⟨Nat.or_lt_two_pow (Nat.lt_trans ih.1 h2k) h2k, fun q hq => ?_⟩
            rw [Nat.testBit_or]
            by_cases e : q = k
            · subst e
              refine ⟨fun _ => b', ?_⟩
              rw [(bit_pow q q).mpr rfl]
              simp only [Bool.or_true, true_iff]
              exact ⟨a, m⟩
            · have : (2 ^ k).testBit q = false := by
                have := mt (bit_pow k q).mp (fun z => e z.symm)
                simpa using this
              rw [this, Bool.or_false]
              exact ih.2 q (by omega)
      · have e : l0 = l := by
          have h3 : (if op.testBit k = true then (if ovr Z (vw Z o k t ||| Z.2.1 t c k) k = true then none else if mfL Z (t + 1) k (vw Z o k t ||| Z.2.1 t c k) (ldL Z (vw Z o k t ||| Z.2.1 t c k) k) (Z.2.2.1 k) = 0 then some l0 else some (l0 ||| 2 ^ k)) else some l0) = some l := h
          rw [if_neg a] at h3
          exact Option.some.inj h3
        subst e
        refine ⟨by omega, fun q hq => ?_⟩
        by_cases e : q = k
        · subst e
          exact ⟨fun z => absurd z a, by rw [hk0]; exact ⟨fun z => (by cases z), fun z => absurd z.1 a⟩⟩
        · exact ih.2 q (by omega)
abbrev lk (Z : RW) (t c : Nat) (o : Nat → Nat) (op : Nat) : Option Nat := lkGo Z t c o op Z.1
/-- one choice shows no more than another -/
def nmGo (Z : RW) (t a b : Nat) (o : Nat → Nat) (op : Nat) (M : Int64) : Nat → Bool
  | 0 => true
  | q + 1 => nmGo Z t a b o op M q && (!op.testBit q || decide ((Z.2.1 t a q &&& ((vw Z o q t ||| Z.2.1 t b q) ^^^ (-1))) &&& M = 0))
abbrev nm (Z : RW) (t a b : Nat) (o : Nat → Nat) (op : Nat) (M : Int64) : Bool := nmGo Z t a b o op M Z.1
/-- it is outdone by another -/
def odB (C : PC) (Z : RW) (aim : Int) (t c : Nat) (o : Nat → Nat) (op : Nat) (M : Int64) (x : Nat) : Bool := C.1 t x && (!(x == c) && (decide (0 ≤ (if aim = 2 then C.2.1 t x - C.2.1 t c else 0)) && (nm Z t x c o op M && (decide (x < c) || (decide (0 < (if aim = 2 then C.2.1 t x - C.2.1 t c else 0)) || !nm Z t c x o op M)))))
def od (C : PC) (Z : RW) (aim : Int) (t c : Nat) (o : Nat → Nat) (op : Nat) (M : Int64) : Bool := odB C Z aim t c o op M 0 || (odB C Z aim t c o op M 1 || odB C Z aim t c o op M 2)
/-- as the program searches -/
def exX (C : PC) (Z : RW) (aim : Int) (M : Int64) : Nat → Nat → (Nat → Nat) → Nat → SA → SA
  | 0, _, _, _, s => s
  | r + 1, t, o, op, s => (fun (f : Nat → SA → SA) => f 2 (f 1 (f 0 s))) (fun c s =>
      if C.1 t c = false ∨ (aim = 1 ∧ 0 < s.1) then s
      else if (aim = 2 ∧ vs C.2.1 o t + C.2.1 t c + (sx C r (t + 1)).2.2.1 ≤ s.2.1.2.1) ∨ (aim ≠ 0 ∧ od C Z aim t c o op M = true) then s
      else match lk Z t c o op with
        | none => s
        | some l => if l = 0 then addB (blk C r (t + 1) (upN o t c)) s else exX C Z aim M r (t + 1) (upN o t c) l s)
abbrev exC (C : PC) (Z : RW) (aim : Int) (M : Int64) (r t : Nat) (o : Nat → Nat) (op c : Nat) (s : SA) : SA :=
      if C.1 t c = false ∨ (aim = 1 ∧ 0 < s.1) then s
      else if (aim = 2 ∧ vs C.2.1 o t + C.2.1 t c + (sx C r (t + 1)).2.2.1 ≤ s.2.1.2.1) ∨ (aim ≠ 0 ∧ od C Z aim t c o op M = true) then s
      else match lk Z t c o op with
        | none => s
        | some l => if l = 0 then addB (blk C r (t + 1) (upN o t c)) s else exX C Z aim M r (t + 1) (upN o t c) l s
theorem exX_s (C : PC) (Z : RW) (aim : Int) (M : Int64) (r t : Nat) (o : Nat → Nat) (op : Nat) (s : SA) : exX C Z aim M (r + 1) t o op s = exC C Z aim M r t o op 2 (exC C Z aim M r t o op 1 (exC C Z aim M r t o op 0 s)) := rfl
/-- rows that are not open hold, whatever comes -/
def clo (C : PC) (Z : RW) (n t : Nat) (o : Nat → Nat) (op : Nat) : Prop := ∀ q, q < Z.1 → op.testBit q = false → ∀ o', ext C.1 n t o o' → rOK Z n o' q = true
theorem lk_dead {C : PC} {Z : RW} {n t c : Nat} (hZ : RWok C Z n) (ht : t < n) {o : Nat → Nat} {op : Nat} (h : lk Z t c o op = none) {o' : Nat → Nat} (he : ext C.1 n (t + 1) (upN o t c) o') : gd Z n o' = false := by
  obtain ⟨q, h1, h2, h3⟩ := lkGo_none _ h
  rw [← vw_up Z o q t c] at h3
  have := over_dead hZ (by omega) he h1 h3
  cases hg : gd Z n o' with
  | false => rfl
  | true =>
    have := (gdN_iff Z n o' Z.1).mp hg q h1
    rw [over_dead hZ (by omega) he h1 h3] at this
    cases this
theorem lk_clo {C : PC} {Z : RW} {n t c l : Nat} (hZ : RWok C Z n) (ht : t < n) {o : Nat → Nat} {op : Nat} (hm : C.1 t c = true) (hc : c < 3) (hcl : clo C Z n t o op) (h : lk Z t c o op = some l) : clo C Z n (t + 1) (upN o t c) l := by
  have hs := (lkGo_some _ _ h).2
  intro q hq hl o' he
  by_cases a : op.testBit q = true
  · have h1 : mfL Z (t + 1) q (vw Z o q t ||| Z.2.1 t c q) (ldL Z (vw Z o q t ||| Z.2.1 t c q) q) (Z.2.2.1 q) = 0 := by
      by_cases z : mfL Z (t + 1) q (vw Z o q t ||| Z.2.1 t c q) (ldL Z (vw Z o q t ||| Z.2.1 t c q) q) (Z.2.2.1 q) = 0
      · exact z
      · have := (hs q hq).2.mpr ⟨a, z⟩
        rw [hl] at this; cases this
    rw [← vw_up Z o q t c] at h1
    exact mf_ok hZ (by omega) he hq h1
  · exact hcl q hq (by simpa using a) o' (ext_up hm hc he)
theorem lk_last {C : PC} {Z : RW} {n t c l : Nat} (hZ : RWok C Z n) (ht : t + 1 = n) {o : Nat → Nat} {op : Nat} (h : lk Z t c o op = some l) : l = 0 := by
  have hs := lkGo_some _ _ h
  apply Nat.eq_of_testBit_eq
  intro q
  rw [Nat.zero_testBit]
  by_cases hq : q < Z.1
  · cases hb : l.testBit q with
    | false => rfl
    | true =>
      have h1 := (hs.2 q hq).2.mp hb
      have h2 := (hs.2 q hq).1 h1.1
      rw [ht] at h1
      exact absurd (mf_end hZ hq h2 _) h1.2
  · exact Nat.testBit_lt_two_pow (Nat.lt_of_lt_of_le hs.1 (Nat.pow_le_pow_right (by omega) (by omega)))
theorem clo_good {C : PC} {Z : RW} {n t : Nat} {o : Nat → Nat} (h : clo C Z n t o 0) {o' : Nat → Nat} (he : ext C.1 n t o o') : gd Z n o' = true :=
  (gdN_iff Z n o' Z.1).mpr (fun q hq => h q hq (Nat.zero_testBit q) o' he)
/-- counting all -/
theorem exX_all {C : PC} {Z : RW} {M : Int64} {n : Nat} (hC : hasC C n) (hZ : RWok C Z n) : ∀ (r t : Nat) (o : Nat → Nat) (op : Nat) (s : SA), t + (r + 1) = n → clo C Z n t o op → exX C Z 0 M (r + 1) t o op s = pG C.1 (fun o s => if gd Z n o = true then addB (one C n o) s else s) (r + 1) t o s := by
  intro r
  induction r with
  | zero =>
    intro t o op s ht hcl
    have key : ∀ c s, c < 3 → exC C Z 0 M 0 t o op c s = pGc C.1 (fun o s => if gd Z n o = true then addB (one C n o) s else s) 0 t o c s := by
      intro c s hc
      unfold exC pGc
      by_cases m : C.1 t c = true
      · rw [if_neg (by rw [m]; intro z; rcases z with z | z; cases z; exact absurd z.1 (by decide)), if_neg (by intro z; rcases z with z | z; exact absurd z.1 (by decide); exact absurd rfl z.1), if_pos m]
        cases hl : lk Z t c o op with
        | none => exact (pG_dead 0 (t + 1) _ s (by omega) (fun o' he => by rw [if_neg (by rw [lk_dead hZ (by omega) hl he]; decide)])).symm
        | some l =>
          have hl0 := lk_last hZ ht hl
          subst hl0
          show (if 0 = 0 then addB (blk C 0 (t + 1) (upN o t c)) s else _) = _
          rw [if_pos rfl, ← pG_blk hC 0 (t + 1) (upN o t c) s (by omega)]
          exact pG_cg 0 (t + 1) _ s (by omega) (fun o' s' he => by rw [if_pos (clo_good (lk_clo hZ (by omega) m hc hcl hl) he)])
      · rw [if_pos (Or.inl (by simpa using m)), if_neg m]
    rw [exX_s, pG_s, key 0 _ (by omega), key 1 _ (by omega), key 2 _ (by omega)]
  | succ r ih =>
    intro t o op s ht hcl
    have key : ∀ c s, c < 3 → exC C Z 0 M (r + 1) t o op c s = pGc C.1 (fun o s => if gd Z n o = true then addB (one C n o) s else s) (r + 1) t o c s := by
      intro c s hc
      unfold exC pGc
      by_cases m : C.1 t c = true
      · rw [if_neg (by rw [m]; intro z; rcases z with z | z; cases z; exact absurd z.1 (by decide)), if_neg (by intro z; rcases z with z | z; exact absurd z.1 (by decide); exact absurd rfl z.1), if_pos m]
        cases hl : lk Z t c o op with
        | none => exact (pG_dead (n := n) (r + 1) (t + 1) _ s (by omega) (fun o' he => by rw [if_neg (by rw [lk_dead hZ (by omega) hl he]; decide)])).symm
        | some l =>
          have hcl2 := lk_clo hZ (by omega) m hc hcl hl
          show (if l = 0 then addB (blk C (r + 1) (t + 1) (upN o t c)) s else exX C Z 0 M (r + 1) (t + 1) (upN o t c) l s) = _
          by_cases z : l = 0
          · subst z
            rw [if_pos rfl, ← pG_blk hC (r + 1) (t + 1) (upN o t c) s (by omega)]
            exact pG_cg (n := n) (r + 1) (t + 1) _ s (by omega) (fun o' s' he => by rw [if_pos (clo_good hcl2 he)])
          · rw [if_neg z]
            exact ih (t + 1) _ l s (by omega) hcl2
      · rw [if_pos (Or.inl (by simpa using m)), if_neg m]
    rw [exX_s, pG_s, key 0 _ (by omega), key 1 _ (by omega), key 2 _ (by omega)]
end
