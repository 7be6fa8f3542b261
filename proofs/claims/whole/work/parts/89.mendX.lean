/-! the search for the cheapest -/
section
/-- the cheapest choice of a THING -/
def cpG (may : Nat → Nat → Bool) (pr : Nat → Nat → Int) (t : Nat) : Nat → Int × Nat
  | 0 => (1000000, 0)
  | c + 1 => if may t c = true ∧ pr t c < (cpG may pr t c).1 then (pr t c, c) else cpG may pr t c
def ch (may : Nat → Nat → Bool) (pr : Nat → Nat → Int) : Nat → Nat → Int
  | 0, _ => 0
  | r + 1, t => ch may pr r (t + 1) + (cpG may pr t 3).1
abbrev prOK (pr : Nat → Nat → Int) : Prop := ∀ t c, 0 ≤ pr t c ∧ pr t c ≤ 1000
theorem cpG_ok {may : Nat → Nat → Bool} {pr : Nat → Nat → Int} (hp : prOK pr) (t : Nat) : ∀ k, ((∀ c, c < k → may t c = false) ∧ (cpG may pr t k).1 = 1000000) ∨ (may t (cpG may pr t k).2 = true ∧ (cpG may pr t k).2 < k ∧ pr t (cpG may pr t k).2 = (cpG may pr t k).1 ∧ (∀ c, c < k → may t c = true → (cpG may pr t k).1 ≤ pr t c) ∧ ∀ c, c < (cpG may pr t k).2 → may t c = true → (cpG may pr t k).1 < pr t c)
  | 0 => Or.inl ⟨fun c h => by omega, rfl⟩
  | k + 1 => by
    have ih := cpG_ok (may := may) hp t k
    have hpk := hp t k
    unfold cpG
    by_cases z : may t k = true ∧ pr t k < (cpG may pr t k).1
    · rw [if_pos z]
      right
      refine ⟨z.1, by show k < k + 1; omega, rfl, fun c hc hm => ?_, fun c hc hm => ?_⟩
      · show pr t k ≤ pr t c
        by_cases e : c = k
        · subst e; exact Int.le_refl _
        · rcases ih with ih | ih
          · rw [ih.1 c (by omega)] at hm; cases hm
          · have := ih.2.2.2.1 c (by omega) hm
            have := z.2; omega
      · show pr t k < pr t c
        have hc' : c < k := hc
        rcases ih with ih | ih
        · rw [ih.1 c hc'] at hm; cases hm
        · have := ih.2.2.2.1 c hc' hm
          have := z.2; omega
    · rw [if_neg z]
      rcases ih with ih | ih
      · left
        refine ⟨fun c hc => ?_, ih.2⟩
        by_cases e : c = k
        · subst e
          cases h : may t c with
          | false => rfl
          | true => exact absurd ⟨h, by rw [ih.2]; omega⟩ z
        · exact ih.1 c (by omega)
      · right
        refine ⟨ih.1, by have := ih.2.1; omega, ih.2.2.1, fun c hc hm => ?_, ih.2.2.2.2⟩
        by_cases e : c = k
        · subst e
          have : ¬ pr t c < (cpG may pr t c).1 := fun y => z ⟨hm, y⟩
          omega
        · exact ih.2.2.2.1 c (by omega) hm
abbrev hasM (may : Nat → Nat → Bool) (n : Nat) : Prop := ∀ t, t < n → ∃ c, c < 3 ∧ may t c = true
theorem cp_ok {may : Nat → Nat → Bool} {pr : Nat → Nat → Int} (hp : prOK pr) {n t : Nat} (hC : hasM may n) (ht : t < n) : may t (cpG may pr t 3).2 = true ∧ (cpG may pr t 3).2 < 3 ∧ pr t (cpG may pr t 3).2 = (cpG may pr t 3).1 ∧ (∀ c, c < 3 → may t c = true → (cpG may pr t 3).1 ≤ pr t c) ∧ ∀ c, c < (cpG may pr t 3).2 → may t c = true → (cpG may pr t 3).1 < pr t c := by
  rcases cpG_ok (may := may) hp t 3 with h | h
  · obtain ⟨c, hc, hm⟩ := hC t ht
    rw [h.1 c hc] at hm; cases hm
  · exact h
theorem ch_le {may : Nat → Nat → Bool} {pr : Nat → Nat → Int} (hp : prOK pr) {n : Nat} (hC : hasM may n) {o' : Nat → Nat} : ∀ r t, t + r = n → (∀ j, t ≤ j → j < n → may j (o' j) = true ∧ o' j < 3) → vs pr o' t + ch may pr r t ≤ vs pr o' n ∧ ((∃ j, t ≤ j ∧ j < n ∧ (cpG may pr j 3).1 < pr j (o' j)) → vs pr o' t + ch may pr r t < vs pr o' n)
  | 0, t, ht, _ => by
    have e : t = n := by omega
    subst e
    refine ⟨by show vs pr o' t + 0 ≤ vs pr o' t; omega, fun ⟨j, h1, h2, _⟩ => by omega⟩
  | r + 1, t, ht, h => by
    have ih := ch_le hp hC (o' := o') r (t + 1) (by omega) (fun j h1 h2 => h j (by omega) h2)
    have hm := h t (by omega) (by omega)
    have hl := (cp_ok hp hC (show t < n by omega)).2.2.2.1 (o' t) hm.2 hm.1
    have e1 : vs pr o' (t + 1) = vs pr o' t + pr t (o' t) := rfl
    have e2 : ch may pr (r + 1) t = ch may pr r (t + 1) + (cpG may pr t 3).1 := rfl
    refine ⟨by omega, fun ⟨j, h1, h2, h3⟩ => ?_⟩
    by_cases e : j = t
    · subst e; omega
    · have := ih.2 ⟨j, by omega, h2, h3⟩
      omega
theorem ch_arg {may : Nat → Nat → Bool} {pr : Nat → Nat → Int} (hp : prOK pr) {n : Nat} (hC : hasM may n) {o' : Nat → Nat} : ∀ r t, t + r = n → (∀ j, t ≤ j → j < n → o' j = (cpG may pr j 3).2) → vs pr o' n = vs pr o' t + ch may pr r t
  | 0, t, ht, _ => by
    have e : t = n := by omega
    subst e
    show vs pr o' t = vs pr o' t + 0
    omega
  | r + 1, t, ht, h => by
    have ih := ch_arg hp hC (o' := o') r (t + 1) (by omega) (fun j h1 h2 => h j (by omega) h2)
    have hl := (cp_ok hp hC (show t < n by omega)).2.2.1
    rw [← h t (by omega) (by omega)] at hl
    have e1 : vs pr o' (t + 1) = vs pr o' t + pr t (o' t) := rfl
    have e2 : ch may pr (r + 1) t = ch may pr r (t + 1) + (cpG may pr t 3).1 := rfl
    omega
/-- all that fail, as highest bits -/
def flGo (Z : RW) (n : Nat) (o : Nat → Nat) : Nat → Int64
  | 0 => 0
  | q + 1 => flGo Z n o q ||| (ldL Z (vw Z o q n) q &&& OV)
abbrev FLs (Z : RW) (n : Nat) (o : Nat → Nat) : Int64 := flGo Z n o Z.1
def b128 (F : Int64) : Prop := ∀ v, v < 8 → Bt F v = 0 ∨ Bt F v = 128
theorem b128_or {F G : Int64} (h1 : b128 F) (h2 : b128 G) : b128 (F ||| G) := by
  intro v hv
  rw [Bt_or]
  rcases h1 v hv with a | a <;> rcases h2 v hv with b | b <;> rw [a, b]
  · exact Or.inl rfl
  · exact Or.inr rfl
  · exact Or.inr rfl
  · exact Or.inr rfl
theorem b128_ov (x : Int64) : b128 (x &&& OV) := by
  intro v hv
  rw [Bt_over x hv]
  split
  · exact Or.inl rfl
  · exact Or.inr rfl
theorem b128_0 : b128 0 := fun v hv => Or.inl (Bt_lit v hv).2.2.2.2.2.2.1
theorem or128 {F G : Int64} (h1 : b128 F) (h2 : b128 G) {v : Nat} (hv : v < 8) : Bt (F ||| G) v = 128 ↔ Bt F v = 128 ∨ Bt G v = 128 := by
  rw [Bt_or]
  rcases h1 v hv with a | a <;> rcases h2 v hv with b | b <;> rw [a, b] <;> decide
theorem ov128 (x : Int64) {v : Nat} (hv : v < 8) : Bt (x &&& OV) v = 128 ↔ 128 ≤ Bt x v := by
  rw [Bt_over x hv]
  split <;> omega
theorem b128_ext {F G : Int64} (h1 : b128 F) (h2 : b128 G) (h : ∀ v, v < 8 → (Bt F v = 128 ↔ Bt G v = 128)) : F = G := by
  refine Bt_ext (fun v hv => ?_)
  have := h v hv
  rcases h1 v hv with a | a
  · rcases h2 v hv with b | b
    · rw [a, b]
    · have := this.mpr b; omega
  · rcases h2 v hv with b | b
    · have := this.mp a; omega
    · rw [a, b]
theorem flGo_b (Z : RW) (n : Nat) (o : Nat → Nat) : ∀ k, b128 (flGo Z n o k)
  | 0 => b128_0
  | k + 1 => b128_or (flGo_b Z n o k) (b128_ov _)
theorem flGo_iff {C : PC} {Z : RW} {n : Nat} (hZ : RWok C Z n) (o : Nat → Nat) {v : Nat} (hv : v < 8) : ∀ k, k ≤ Z.1 → (Bt (flGo Z n o k) v = 128 ↔ ∃ q, q < k ∧ 128 ≤ cntB (Bt (vw Z o q n) v) 8 + Bt (Z.2.2.1 q) v)
  | 0, _ => by
    constructor
    · intro h
      have := (Bt_lit v hv).2.2.2.2.2.2.1
      have h' : Bt 0 v = 128 := h
      omega
    · rintro ⟨q, h, _⟩; omega
  | k + 1, hk => by
    have ih := flGo_iff hZ o hv k (by omega)
    show Bt (flGo Z n o k ||| (ldL Z (vw Z o k n) k &&& OV)) v = 128 ↔ _
    rw [or128 (flGo_b Z n o k) (b128_ov _) hv, ih, ov128 _ hv, ldL_B hZ _ (by omega) hv]
    constructor
    · rintro (⟨q, h1, h2⟩ | h)
      · exact ⟨q, by omega, h2⟩
      · exact ⟨k, by omega, h⟩
    · rintro ⟨q, h1, h2⟩
      by_cases e : q = k
      · subst e; exact Or.inr h2
      · exact Or.inl ⟨q, by omega, h2⟩
theorem FLs_cg {Z : RW} {n : Nat} {a b : Nat → Nat} (h : ∀ j, j < n → a j = b j) : FLs Z n a = FLs Z n b := by
  have : ∀ k, flGo Z n a k = flGo Z n b k := by
    intro k
    induction k with
    | zero => rfl
    | succ k ih => unfold flGo; rw [ih, vw_cg h]
  exact this _
/-- what fails now, in open rows -/
def lkM (Z : RW) (t c : Nat) (o : Nat → Nat) (op : Nat) : Nat → Int64
  | 0 => 0
  | q + 1 => if op.testBit q = true then lkM Z t c o op q ||| (ldL Z (vw Z o q t ||| Z.2.1 t c q) q &&& OV) else lkM Z t c o op q
theorem lkM_b (Z : RW) (t c : Nat) (o : Nat → Nat) (op : Nat) : ∀ k, b128 (lkM Z t c o op k)
  | 0 => b128_0
  | k + 1 => by
    unfold lkM
    split
    · exact b128_or (lkM_b Z t c o op k) (b128_ov _)
    · exact lkM_b Z t c o op k
theorem lkM_iff {C : PC} {Z : RW} {n : Nat} (hZ : RWok C Z n) (t c : Nat) (o : Nat → Nat) (op : Nat) {v : Nat} (hv : v < 8) : ∀ k, k ≤ Z.1 → (Bt (lkM Z t c o op k) v = 128 ↔ ∃ q, q < k ∧ op.testBit q = true ∧ 128 ≤ cntB (Bt (vw Z o q t ||| Z.2.1 t c q) v) 8 + Bt (Z.2.2.1 q) v)
  | 0, _ => by
    constructor
    · intro h
      have := (Bt_lit v hv).2.2.2.2.2.2.1
      have h' : Bt 0 v = 128 := h
      omega
    · rintro ⟨q, h, _⟩; omega
  | k + 1, hk => by
    have ih := lkM_iff hZ t c o op hv k (by omega)
    unfold lkM
    by_cases a : op.testBit k = true
    · rw [if_pos a, or128 (lkM_b Z t c o op k) (b128_ov _) hv, ih, ov128 _ hv, ldL_B hZ _ (by omega) hv]
      constructor
      · rintro (⟨q, h1, h2⟩ | h)
        · exact ⟨q, by omega, h2⟩
        · exact ⟨k, by omega, a, h⟩
      · rintro ⟨q, h1, h2, h3⟩
        by_cases e : q = k
        · subst e; exact Or.inr h3
        · exact Or.inl ⟨q, by omega, h2, h3⟩
    · rw [if_neg a, ih]
      constructor
      · rintro ⟨q, h1, h2⟩; exact ⟨q, by omega, h2⟩
      · rintro ⟨q, h1, h2, h3⟩
        by_cases e : q = k
        · subst e; exact absurd h2 a
        · exact ⟨q, by omega, h2, h3⟩
/-- rows in which one more may fail -/
def soM (Z : RW) (t : Nat) (o : Nat → Nat) (F : Int64) (op : Nat) : Nat → Nat
  | 0 => 0
  | q + 1 => if op.testBit q = true then (if mfL Z t q (vw Z o q t) (ldL Z (vw Z o q t) q) (Z.2.2.1 q) &&& (F ^^^ (-1)) = 0 then soM Z t o F op q else soM Z t o F op q ||| 2 ^ q) else soM Z t o F op q
theorem soM_lt (Z : RW) (t : Nat) (o : Nat → Nat) (F : Int64) (op : Nat) : ∀ k, soM Z t o F op k < 2 ^ k
  | 0 => by show 0 < 1; omega
  | k + 1 => by
    have ih := soM_lt Z t o F op k
    have h2k : 2 ^ k < 2 ^ (k + 1) := Nat.pow_lt_pow_right (by omega) (by omega)
    unfold soM
    split
    · split
      · omega
      · exact Nat.or_lt_two_pow (Nat.lt_trans ih h2k) h2k
    · omega
theorem soM_bit (Z : RW) (t : Nat) (o : Nat → Nat) (F : Int64) (op : Nat) : ∀ k q, q < k → ((soM Z t o F op k).testBit q = true ↔ op.testBit q = true ∧ ¬ mfL Z t q (vw Z o q t) (ldL Z (vw Z o q t) q) (Z.2.2.1 q) &&& (F ^^^ (-1)) = 0)
  | 0, q, h => by omega
  | k + 1, q, h => by
    have ih := soM_bit Z t o F op k
    have hk0 : (soM Z t o F op k).testBit k = false := Nat.testBit_lt_two_pow (soM_lt Z t o F op k)
    unfold soM
    by_cases a : op.testBit k = true
    · rw [if_pos a]
      by_cases b : mfL Z t k (vw Z o k t) (ldL Z (vw Z o k t) k) (Z.2.2.1 k) &&& (F ^^^ (-1)) = 0
      · rw [if_pos b]
        by_cases e : q = k
        · subst e; rw [hk0]; exact ⟨fun z => (by cases z), fun z => absurd b z.2⟩
        · exact ih q (by omega)
      · rw [if_neg b, Nat.testBit_or, Bool.or_eq_true, bit_pow]
        by_cases e : q = k
        · subst e; exact ⟨fun _ => ⟨a, b⟩, fun _ => Or.inr rfl⟩
        · rw [ih q (by omega)]
          exact ⟨fun z => z.elim id (fun y => absurd y.symm e), Or.inl⟩
    · rw [if_neg a]
      by_cases e : q = k
      · subst e; rw [hk0]; exact ⟨fun z => (by cases z), fun z => absurd z.1 a⟩
      · exact ih q (by omega)
/-- one WINDOW: it can't fail in the row, whatever comes -/
theorem mf_okv {C : PC} {Z : RW} {n t : Nat} (hZ : RWok C Z n) (ht : t ≤ n) {o o' : Nat → Nat} (he : ext C.1 n t o o') {q v : Nat} (hq : q < Z.1) (hv : v < 8) (h : Bt (mfL Z t q (vw Z o q t) (ldL Z (vw Z o q t) q) (Z.2.2.1 q)) v = 0) : cntB (Bt (vw Z o' q n) v) 8 + Bt (Z.2.2.1 q) v < 128 := by
  have hle := hZ.2.2.1
  have htop := vw_top hZ he hq hv (n - t) (by omega)
  rw [show t + (n - t) = n by omega] at htop
  have hadd : ∀ u, u < 8 → Bt (ldL Z (vw Z o q t) q + Z.2.2.2.2 t q) u = cntB (Bt (vw Z o q t) u) 8 + Bt (Z.2.2.1 q) u + Bt (Z.2.2.2.2 t q) u := by
    intro u hu
    rw [Bt_add (fun y hy => by
      have a1 := cntB8_le (Bt (vw Z o q t) y)
      have a2 := hZ.2.1 q y hq hy
      have a3 := hle t q y ht hq hy
      have a4 := hZ.1
      rw [ldL_B hZ _ hq hy]; omega) u hu, ldL_B hZ _ hq hu]
  have hA : cntB (Bt (vw Z o q t) v) 8 + Bt (Z.2.2.1 q) v + Bt (Z.2.2.2.2 t q) v < 128 → cntB (Bt (vw Z o' q n) v) 8 + Bt (Z.2.2.1 q) v < 128 := by
    intro z
    have := htop.2.1
    omega
  unfold mfL at h
  by_cases c : (ldL Z (vw Z o q t) q + Z.2.2.2.2 t q) &&& OV = 0
  · have := (over_0 _).mp c v hv
    rw [hadd v hv] at this
    exact hA this
  · rw [if_neg c, Bt_and, Bt_over _ hv, hadd v hv] at h
    by_cases c2 : cntB (Bt (vw Z o q t) v) 8 + Bt (Z.2.2.1 q) v + Bt (Z.2.2.2.2 t q) v < 128
    · exact hA c2
    · rw [if_neg c2] at h
      have hsum : Bt (cntL (vw Z o q t ||| Z.2.2.2.1 t q) + Z.2.2.1 q) v = cntB (Bt (vw Z o q t) v ||| Bt (Z.2.2.2.1 t q) v) 8 + Bt (Z.2.2.1 q) v := by
        have := ldL_B hZ (vw Z o q t ||| Z.2.2.2.1 t q) hq hv
        rw [Bt_or] at this
        exact this
      have hlt : Bt (cntL (vw Z o q t ||| Z.2.2.2.1 t q) + Z.2.2.1 q) v < 128 := by
        have h3 := and128 _ (Bt_lt (cntL (vw Z o q t ||| Z.2.2.2.1 t q) + Z.2.2.1 q) v)
        rw [Nat.and_comm] at h3
        rw [h3] at h
        split at h
        · assumption
        · omega
      rw [hsum] at hlt
      have := sub_cnt htop.1 8
      omega
theorem not_F {F : Int64} {v : Nat} (hv : v < 8) : (Bt F v = 0 → Bt (F ^^^ (-1)) v = 255) ∧ (Bt F v = 255 → Bt (F ^^^ (-1)) v = 0) := by
  have h255 : ∀ j, j < 8 → (255 : Nat).testBit j = true := by decide
  have hi : ∀ (x j : Nat), x < 256 → ¬ j < 8 → x.testBit j = false := by
    intro x j hx hj
    cases c : x.testBit j with
    | false => rfl
    | true => exact absurd (bit8 hx c) hj
  constructor
  · intro h
    apply Nat.eq_of_testBit_eq
    intro j
    by_cases hj : j < 8
    · rw [Bt_not F hv hj, h, Nat.zero_testBit, h255 j hj]; rfl
    · rw [hi _ j (Bt_lt _ _) hj, hi 255 j (by omega) hj]
  · intro h
    apply Nat.eq_of_testBit_eq
    intro j
    by_cases hj : j < 8
    · rw [Bt_not F hv hj, h, Nat.zero_testBit, h255 j hj]; rfl
    · rw [hi _ j (Bt_lt _ _) hj, Nat.zero_testBit]
theorem and255 : ∀ b, b < 256 → b &&& 255 = b := by decide +kernel
/-- the WINDOWS that have not failed -/
abbrev matM (F : Int64) : Int64 := ((lushr F 7) * 255) ^^^ (-1)
theorem matM_B {F : Int64} (h : b128 F) : ∀ v, v < 8 → (Bt F v = 0 → Bt (matM F) v = 255) ∧ (Bt F v = 128 → Bt (matM F) v = 0) := by
  have h9 : ∀ v, v < 9 → Bt F v % 128 = 0 := by
    intro v hv
    by_cases c : v < 8
    · rcases h v c with e | e <;> rw [e]
    · have e : v = 8 := by omega
      subst e
      have h2 : nL F / 2 ^ (8 * 8) = 0 := Nat.div_eq_of_lt (nL_lt F)
      unfold Bt
      rw [h2]
  have h7 : ∀ v, v < 8 → Bt (lushr F 7) v = Bt F v / 128 := by
    intro v hv
    rw [Bt_shr7, h9 (v + 1) (by omega)]
    have := Bt_lt F v
    omega
  have hb : ∀ v, v < 8 → Bt ((lushr F 7) * 255) v = Bt F v / 128 * 255 := by
    refine Bt_is (b := fun v => Bt F v / 128 * 255) (fun v hv => by have := Bt_lt F v; show Bt F v / 128 * 255 < 256; omega) ?_
    have hl255 : nL 255 = 255 := by decide +kernel
    rw [nL_mul, hl255, Bt_all (lushr F 7), h7 0 (by omega), h7 1 (by omega), h7 2 (by omega), h7 3 (by omega), h7 4 (by omega), h7 5 (by omega), h7 6 (by omega), h7 7 (by omega)]
    have hd : ∀ v, v < 8 → Bt F v / 128 ≤ 1 := fun v _ => by have := Bt_lt F v; omega
    have d0 := hd 0 (by omega)
    have d1 := hd 1 (by omega)
    have d2 := hd 2 (by omega)
    have d3 := hd 3 (by omega)
    have d4 := hd 4 (by omega)
    have d5 := hd 5 (by omega)
    have d6 := hd 6 (by omega)
    have d7 := hd 7 (by omega)
    show _ = Bt F 0 / 128 * 255 + 256 * (Bt F 1 / 128 * 255) + 65536 * (Bt F 2 / 128 * 255) + 16777216 * (Bt F 3 / 128 * 255) + 4294967296 * (Bt F 4 / 128 * 255) + 1099511627776 * (Bt F 5 / 128 * 255) + 281474976710656 * (Bt F 6 / 128 * 255) + 72057594037927936 * (Bt F 7 / 128 * 255)
    revert d0 d1 d2 d3 d4 d5 d6 d7
    generalize Bt F 0 / 128 = a0
    generalize Bt F 1 / 128 = a1
    generalize Bt F 2 / 128 = a2
    generalize Bt F 3 / 128 = a3
    generalize Bt F 4 / 128 = a4
    generalize Bt F 5 / 128 = a5
    generalize Bt F 6 / 128 = a6
    generalize Bt F 7 / 128 = a7
    intro d0 d1 d2 d3 d4 d5 d6 d7
    rw [Nat.mod_eq_of_lt (by omega)]
    omega
  intro v hv
  have hbv := hb v hv
  refine ⟨fun e => (not_F hv).1 (by rw [hbv, e]), fun e => (not_F hv).2 (by rw [hbv, e])⟩
end
