/-! choices that another one outdoes need not be tried -/
section
theorem nmGo_iff (Z : RW) (t a b : Nat) (o : Nat → Nat) (op : Nat) (M : Int64) : ∀ k, nmGo Z t a b o op M k = true ↔ ∀ q, q < k → op.testBit q = true → (Z.2.1 t a q &&& ((vw Z o q t ||| Z.2.1 t b q) ^^^ (-1))) &&& M = 0
  | 0 => ⟨fun _ q h => by omega, fun _ => rfl⟩
  | k + 1 => by
    unfold nmGo
    rw [Bool.and_eq_true, nmGo_iff Z t a b o op M k, Bool.or_eq_true, decide_eq_true_iff]
    constructor
    · rintro ⟨h1, h2⟩ q hq ho
      by_cases e : q = k
      · subst e
        rcases h2 with h2 | h2
        · rw [ho] at h2; cases h2
        · exact h2
      · exact h1 q (by omega) ho
    · intro h
      refine ⟨fun q hq ho => h q (by omega) ho, ?_⟩
      cases c : op.testBit k with
      | false => exact Or.inl rfl
      | true => exact Or.inr (h k (by omega) c)
theorem Bt_not (x : Int64) {v j : Nat} (hv : v < 8) (hj : j < 8) : (Bt (x ^^^ (-1)) v).testBit j = !(Bt x v).testBit j := by
  have h1 := (Bt_lit v hv).2.2.2.2.2.2.2
  have h2 : (Bt (-1) v).testBit j = true := by
    rw [h1]
    have : ∀ j, j < 8 → (255 : Nat).testBit j = true := by decide
    exact this j hj
  rw [Bt_bit] at h2
  rw [Bt_bit, Bt_bit, nL_xor, Nat.testBit_xor]
  have h3 : decide (j < 8) = true := decide_eq_true hj
  rw [h3, Bool.true_and] at h2
  rw [h3, h2, Bool.true_and, Bool.true_and, Bool.xor_true]
/-- windows that matter -/
def Mok (Z : RW) (M : Int64) : Prop := ∀ v, v < 8 → Bt M v = 255 ∨ ∀ q, q < Z.1 → Bt (Z.2.2.1 q) v = 0
theorem bit8 {x j : Nat} (hx : x < 256) (h : x.testBit j = true) : j < 8 := bit_lt8 hx h
theorem nm_sub {Z : RW} {t a b : Nat} {o : Nat → Nat} {op : Nat} {M : Int64} (h : nm Z t a b o op M = true) {q : Nat} (hq : q < Z.1) (ho : op.testBit q = true) {v : Nat} (hv : v < 8) (hM : Bt M v = 255) : sub (Bt (Z.2.1 t a q) v) (Bt (vw Z o q t ||| Z.2.1 t b q) v) := by
  have h1 := (nmGo_iff Z t a b o op M Z.1).mp h q hq ho
  have h2 := (Bt_0.mp h1) v hv
  intro j hj
  have hj8 := bit8 (Bt_lt _ _) hj
  rw [Bt_and, Bt_and, hM] at h2
  cases c : (Bt (vw Z o q t ||| Z.2.1 t b q) v).testBit j with
  | true => rfl
  | false =>
    have h3 : (Bt (Z.2.1 t a q) v &&& Bt ((vw Z o q t ||| Z.2.1 t b q) ^^^ (-1)) v &&& 255).testBit j = true := by
      rw [Nat.testBit_and, Nat.testBit_and, hj, Bt_not _ hv hj8, c]
      have : ∀ j, j < 8 → (255 : Nat).testBit j = true := by decide
      rw [this j hj8]; rfl
    rw [h2, Nat.zero_testBit] at h3
    cases h3
theorem nm_tr {Z : RW} {t a b c : Nat} {o : Nat → Nat} {op : Nat} {M : Int64} (hM : ∀ v, v < 8 → Bt M v = 255 ∨ Bt M v = 0) (h1 : nm Z t a b o op M = true) (h2 : nm Z t b c o op M = true) : nm Z t a c o op M = true := by
  refine (nmGo_iff Z t a c o op M Z.1).mpr (fun q hq ho => Bt_0.mpr (fun v hv => ?_))
  rw [Bt_and, Bt_and]
  rcases hM v hv with m | m
  · have s1 := nm_sub h1 hq ho hv m
    have s2 := nm_sub h2 hq ho hv m
    apply Nat.eq_of_testBit_eq
    intro j
    rw [Nat.zero_testBit, Nat.testBit_and, Nat.testBit_and]
    cases ca : (Bt (Z.2.1 t a q) v).testBit j with
    | false => rfl
    | true =>
      have hj8 := bit8 (Bt_lt _ _) ca
      have b1 := s1 j ca
      rw [Bt_or, Nat.testBit_or, Bool.or_eq_true] at b1
      have b2 : (Bt (vw Z o q t ||| Z.2.1 t c q) v).testBit j = true := by
        rcases b1 with b1 | b1
        · rw [Bt_or, Nat.testBit_or, b1]; rfl
        · exact s2 j b1
      rw [Bt_not _ hv hj8, b2]
      rfl
  · rw [m, Nat.and_zero]
/-- what is GOOD with one choice is GOOD with another that shows no more -/
theorem vw_swap {Z : RW} {t a b q v : Nat} {o' : Nat → Nat} (hb : o' t = b) (hs : sub (Bt (Z.2.1 t a q) v) (Bt (vw Z o' q t ||| Z.2.1 t b q) v)) : ∀ k, sub (Bt (vw Z (upN o' t a) q (t + 1 + k)) v) (Bt (vw Z o' q (t + 1 + k)) v)
  | 0 => by
    rw [Nat.add_zero, vw_up, Bt_or]
    show sub _ (Bt (vw Z o' q t ||| Z.2.1 t (o' t) q) v)
    rw [hb]
    exact sub_orr (by rw [Bt_or]; exact sub_l _ _) hs
  | k + 1 => by
    have ih := vw_swap hb hs k
    show sub (Bt (vw Z (upN o' t a) q (t + 1 + k) ||| Z.2.1 (t + 1 + k) (upN o' t a (t + 1 + k)) q) v) (Bt (vw Z o' q (t + 1 + k) ||| Z.2.1 (t + 1 + k) (o' (t + 1 + k)) q) v)
    have e : upN o' t a (t + 1 + k) = o' (t + 1 + k) := if_neg (by omega)
    rw [e, Bt_or, Bt_or]
    exact sub_orr (sub_tr ih (sub_l _ _)) (fun j h => by rw [Nat.testBit_or, h]; simp)
theorem good_swap {C : PC} {Z : RW} {M : Int64} {n t a : Nat} (hZ : RWok C Z n) (hM : Mok Z M) (ht : t < n) {o o' : Nat → Nat} {op : Nat} (hcl : clo C Z n t o op) (he : ext C.1 n t o o') (hma : C.1 t a = true) (ha : a < 3) (hn : nm Z t a (o' t) o op M = true) (hg : gd Z n o' = true) : ext C.1 n t o (upN o' t a) ∧ gd Z n (upN o' t a) = true := by
  have hx : ext C.1 n t o (upN o' t a) := by
    refine ⟨fun j hj => by rw [upN_lt hj]; exact he.1 j hj, fun j h1 h2 => ?_⟩
    by_cases e : j = t
    · subst e; rw [upN_at]; exact ⟨hma, ha⟩
    · have : upN o' t a j = o' j := if_neg e
      rw [this]; exact he.2 j h1 h2
  refine ⟨hx, (gdN_iff _ _ _ _).mpr (fun q hq => ?_)⟩
  cases c : op.testBit q with
  | false => exact hcl q hq c _ hx
  | true =>
    have h1 := (gdN_iff _ _ _ _).mp hg q hq
    unfold rOK at h1 ⊢
    have h2 : ovr Z (vw Z o' q n) q = false := by simpa using h1
    have : ovr Z (vw Z (upN o' t a) q n) q = false := by
      rw [ovr_iff hZ _ hq] at h2 ⊢
      intro v hv
      rcases hM v hv with m | m
      · have s1 := nm_sub hn hq c hv m
        rw [vw_cg (o := o) (o' := o') (fun j hj => (he.1 j hj).symm)] at s1
        have := sub_cnt (vw_swap rfl s1 (n - (t + 1))) 8
        rw [show t + 1 + (n - (t + 1)) = n by omega] at this
        have := h2 v hv
        omega
      · rw [m q hq]
        have := cntB8_le (Bt (vw Z (upN o' t a) q n) v)
        omega
    rw [this]; rfl
/-- the gain that is sought -/
abbrev gnA (C : PC) (aim : Int) (t c : Nat) : Int := if aim = 2 then C.2.1 t c else 0
theorem odB_iff {C : PC} {Z : RW} {aim : Int} {t c : Nat} {o : Nat → Nat} {op : Nat} {M : Int64} {x : Nat} : odB C Z aim t c o op M x = true ↔ C.1 t x = true ∧ x ≠ c ∧ gnA C aim t c ≤ gnA C aim t x ∧ nm Z t x c o op M = true ∧ (x < c ∨ gnA C aim t c < gnA C aim t x ∨ nm Z t c x o op M = false) := by
  unfold odB gnA
  by_cases h : aim = 2
  · simp only [h, if_true, Bool.and_eq_true, Bool.or_eq_true, decide_eq_true_iff, Bool.not_eq_true', beq_eq_false_iff_ne]
    constructor
    · rintro ⟨h1, h2, h3, h4, h5⟩
      refine ⟨h1, h2, by omega, h4, ?_⟩
      rcases h5 with h5 | h5 | h5
      · exact Or.inl h5
      · exact Or.inr (Or.inl (by omega))
      · exact Or.inr (Or.inr h5)
    · rintro ⟨h1, h2, h3, h4, h5⟩
      refine ⟨h1, h2, by omega, h4, ?_⟩
      rcases h5 with h5 | h5 | h5
      · exact Or.inl h5
      · exact Or.inr (Or.inl (by omega))
      · exact Or.inr (Or.inr h5)
  · simp only [h, if_false, Bool.and_eq_true, Bool.or_eq_true, decide_eq_true_iff, Bool.not_eq_true', beq_eq_false_iff_ne]
theorem od_tr {C : PC} {Z : RW} {aim : Int} {t a b c : Nat} {o : Nat → Nat} {op : Nat} {M : Int64} (hM : ∀ v, v < 8 → Bt M v = 255 ∨ Bt M v = 0) (h1 : odB C Z aim t b o op M a = true) (h2 : odB C Z aim t c o op M b = true) : odB C Z aim t c o op M a = true := by
  rw [odB_iff] at h1 h2 ⊢
  obtain ⟨m1, n1, g1, s1, d1⟩ := h1
  obtain ⟨m2, n2, g2, s2, d2⟩ := h2
  have hN := nm_tr hM s1 s2
  have key : a < c ∨ gnA C aim t c < gnA C aim t a ∨ nm Z t c a o op M = false := by
    by_cases z : gnA C aim t c < gnA C aim t a
    · exact Or.inr (Or.inl z)
    · cases z2 : nm Z t c a o op M with
      | false => exact Or.inr (Or.inr rfl)
      | true =>
        left
        have e1 : nm Z t b a o op M = true := nm_tr hM s2 z2
        have e2 : nm Z t c b o op M = true := nm_tr hM z2 s1
        rw [e1] at d1
        rw [e2] at d2
        have a1 : a < b := by rcases d1 with d1 | d1 | d1; exact d1; omega; cases d1
        have a2 : b < c := by rcases d2 with d2 | d2 | d2; exact d2; omega; cases d2
        omega
  refine ⟨m1, ?_, by omega, hN, key⟩
  intro e
  subst e
  rcases key with k | k | k
  · omega
  · omega
  · rw [hN] at k; cases k
theorem od_iff {C : PC} {Z : RW} {aim : Int} {t c : Nat} {o : Nat → Nat} {op : Nat} {M : Int64} : od C Z aim t c o op M = true ↔ ∃ x, x < 3 ∧ odB C Z aim t c o op M x = true := by
  unfold od
  rw [Bool.or_eq_true, Bool.or_eq_true]
  constructor
  · rintro (h | h | h)
    · exact ⟨0, by omega, h⟩
    · exact ⟨1, by omega, h⟩
    · exact ⟨2, by omega, h⟩
  · rintro ⟨x, hx, h⟩
    have : x = 0 ∨ x = 1 ∨ x = 2 := by omega
    rcases this with e | e | e <;> subst e
    · exact Or.inl h
    · exact Or.inr (Or.inl h)
    · exact Or.inr (Or.inr h)
/-- there is one that is not outdone, and as good -/
theorem od_ex {C : PC} {Z : RW} {aim : Int} {t c : Nat} {o : Nat → Nat} {op : Nat} {M : Int64} (hM : ∀ v, v < 8 → Bt M v = 255 ∨ Bt M v = 0) (hc : c < 3) (hm : C.1 t c = true) : ∃ x, x < 3 ∧ C.1 t x = true ∧ od C Z aim t x o op M = false ∧ (x = c ∨ (gnA C aim t c ≤ gnA C aim t x ∧ nm Z t x c o op M = true)) := by
  have hne : ∀ {x y}, odB C Z aim t y o op M x = true → x ≠ y := fun h => (odB_iff.mp h).2.1
  have hm2 : ∀ {x y}, odB C Z aim t y o op M x = true → C.1 t x = true := fun h => (odB_iff.mp h).1
  have hgo : ∀ {x y}, odB C Z aim t y o op M x = true → gnA C aim t y ≤ gnA C aim t x ∧ nm Z t x y o op M = true := fun h => ⟨(odB_iff.mp h).2.2.1, (odB_iff.mp h).2.2.2.1⟩
  cases h0 : od C Z aim t c o op M with
  | false => exact ⟨c, hc, hm, h0, Or.inl rfl⟩
  | true =>
    obtain ⟨x1, hx1, d1⟩ := od_iff.mp h0
    cases h1 : od C Z aim t x1 o op M with
    | false => exact ⟨x1, hx1, hm2 d1, h1, Or.inr (hgo d1)⟩
    | true =>
      obtain ⟨x2, hx2, d2⟩ := od_iff.mp h1
      have d20 := od_tr hM d2 d1
      cases h2 : od C Z aim t x2 o op M with
      | false => exact ⟨x2, hx2, hm2 d2, h2, Or.inr (hgo d20)⟩
      | true =>
        obtain ⟨x3, hx3, d3⟩ := od_iff.mp h2
        have d31 := od_tr hM d3 d2
        have d30 := od_tr hM d3 d20
        have a1 := hne d1
        have a2 := hne d2
        have a3 := hne d3
        have a4 := hne d20
        have a5 := hne d31
        have a6 := hne d30
        omega
end
