/-! FILES: all orders against those that fit from the front -/
section
/-- the colours at m places from a on -/
def wset (C : Int → Nat) (a : Nat) : Nat → Nat
  | 0 => 0
  | m + 1 => wset C a m ||| 2 ^ C ((a + m : Nat) : Int)
theorem wset_cg {C C' : Int → Nat} {a : Nat} : ∀ {m : Nat}, (∀ j : Nat, a ≤ j → j < a + m → C (j : Int) = C' (j : Int)) → wset C a m = wset C' a m
  | 0, _ => rfl
  | m + 1, h => by
    unfold wset
    rw [wset_cg (fun j h1 h2 => h j h1 (by omega)), h (a + m) (by omega) (by omega)]
theorem wset_lt {C : Int → Nat} (hC : ∀ j, C j < 8) (a : Nat) : ∀ m, wset C a m < 256
  | 0 => by show 0 < 256; omega
  | m + 1 => by
    have h2 : 2 ^ C ((a + m : Nat) : Int) < 2 ^ 8 := Nat.pow_lt_pow_right (by omega) (hC _)
    exact Nat.or_lt_two_pow (n := 8) (wset_lt hC a m) h2
theorem cntB_or (x y : Nat) : ∀ k, cntB x k ≤ cntB (x ||| y) k
  | 0 => Nat.le_refl _
  | k + 1 => by
    have ih := cntB_or x y k
    show cntB x k + x / 2 ^ k % 2 ≤ cntB (x ||| y) k + (x ||| y) / 2 ^ k % 2
    have : x / 2 ^ k % 2 ≤ (x ||| y) / 2 ^ k % 2 := by
      rw [bit_div, bit_div, Nat.testBit_or]
      by_cases h : x.testBit k = true
      · rw [h]; simp
      · rw [if_neg h]; omega
    omega
theorem wset_mono (C : Int → Nat) (a : Nat) : ∀ m x, cntB (wset C a m) 16 ≤ cntB (wset C a (m + x)) 16
  | m, 0 => Nat.le_refl _
  | m, x + 1 => Nat.le_trans (wset_mono C a m x) (by
      show _ ≤ cntB (wset C a (m + x) ||| 2 ^ C ((a + (m + x) : Nat) : Int)) 16
      exact cntB_or _ _ _)
/-- the window that ends at a place fits -/
def ft (C : Int → Nat) (k l t : Nat) : Bool := decide (cntB (wset C (t + 1 - k) (t + 1 - (t + 1 - k))) 16 ≤ l)
/-- all windows of so many from the first x places fit -/
def gB (C : Int → Nat) (l many : Nat) : Nat → Bool
  | 0 => true
  | x + 1 => gB C l many x && decide (cntB (wset C x many) 16 ≤ l)
theorem gB_iff (C : Int → Nat) (l many : Nat) : ∀ x, gB C l many x = true ↔ ∀ f, f < x → cntB (wset C f many) 16 ≤ l
  | 0 => ⟨fun _ f h => by omega, fun _ => rfl⟩
  | x + 1 => by
    unfold gB
    rw [Bool.and_eq_true, gB_iff C l many x, decide_eq_true_iff]
    constructor
    · rintro ⟨h1, h2⟩ f hf
      by_cases e : f = x
      · rw [e]; exact h2
      · exact h1 f (by omega)
    · intro h
      exact ⟨fun f hf => h f (by omega), h x (by omega)⟩
def gF (C : Int → Nat) (n k l : Nat) : Bool := gB C l (min k n) (n + 1 - min k n)
theorem gF_ft {C : Int → Nat} {n k l : Nat} (hk : 1 ≤ k) : gF C n k l = true ↔ ∀ t, t < n → ft C k l t = true := by
  unfold gF
  rw [gB_iff]
  constructor
  · intro h t ht
    unfold ft
    rw [decide_eq_true_iff]
    by_cases c : k ≤ t + 1
    · have := h (t + 1 - k) (by omega)
      have e : min k n = t + 1 - (t + 1 - k) := by omega
      rw [e] at this
      exact this
    · have := h 0 (by omega)
      have e1 : t + 1 - k = 0 := by omega
      rw [e1]
      have e2 : min k n = (t + 1 - 0) + (min k n - (t + 1)) := by omega
      rw [e2] at this
      exact Nat.le_trans (wset_mono C 0 (t + 1 - 0) _) this
  · intro h f hf
    by_cases c : n = 0
    · have : min k n = 0 := by omega
      rw [this]
      show cntB 0 16 ≤ l
      have e : cntB 0 16 = 0 := by decide
      omega
    · have := h (f + min k n - 1) (by omega)
      unfold ft at this
      rw [decide_eq_true_iff] at this
      by_cases c2 : k ≤ n
      · have e1 : f + min k n - 1 + 1 - k = f := by omega
        have e2 : f + min k n - 1 + 1 - (f + min k n - 1 + 1 - k) = min k n := by omega
        rw [e1] at this
        have e3 : f + min k n - 1 + 1 - f = min k n := by omega
        rw [e3] at this
        exact this
      · have e1 : f + min k n - 1 + 1 - k = f := by omega
        rw [e1] at this
        have e3 : f + min k n - 1 + 1 - f = min k n := by omega
        rw [e3] at this
        exact this
abbrev FSt := Int × (Int → Int)
def updF (o : Int → Int) (t : Nat) (p : Int) : Int → Int := fun j => if j = (t : Int) then p else o j
def lpF (f : Nat → FSt → FSt) : Nat → FSt → FSt
  | 0, st => st
  | n + 1, st => f n (lpF f n st)
theorem lpF_cg {f g : Nat → FSt → FSt} : ∀ {n : Nat} {st : FSt}, (∀ p s, p < n → f p s = g p s) → lpF f n st = lpF g n st
  | 0, _, _ => rfl
  | n + 1, st, h => by
    show f n (lpF f n st) = g n (lpF g n st)
    rw [lpF_cg (fun p s hp => h p s (by omega)), h n _ (by omega)]
theorem lpF_id : ∀ {n : Nat} {st : FSt} {f : Nat → FSt → FSt}, (∀ p s, p < n → f p s = s) → lpF f n st = st
  | 0, _, _, _ => rfl
  | n + 1, st, f, h => by
    show f n (lpF f n st) = st
    rw [lpF_id (fun p s hp => h p s (by omega)), h n _ (by omega)]
def recF (o : Int → Int) (st : FSt) : FSt := (st.1 + 1, if st.1 = 0 then o else st.2)
/-- all orders; cl is the colour of one of the PEOPLE -/
def mF (cl : Int → Nat) (n k l : Nat) : Nat → Nat → Nat → (Int → Int) → FSt → FSt
  | 0, _, _, o, st => if gF (fun j => cl (o j)) n k l = true then recF o st else st
  | r + 1, t, used, o, st => lpF (fun p s => if used.testBit p = true then s else mF cl n k l r (t + 1) (used ||| 2 ^ p) (updF o t (p : Int)) s) n st
/-- those that fit from the front -/
def cF (cl : Int → Nat) (n k l : Nat) : Nat → Nat → Nat → (Int → Int) → FSt → FSt
  | 0, _, _, o, st => recF o st
  | r + 1, t, used, o, st => lpF (fun p s => if used.testBit p = true then s else if ft (fun j => cl (updF o t (p : Int) j)) k l t = true then cF cl n k l r (t + 1) (used ||| 2 ^ p) (updF o t (p : Int)) s else s) n st
theorem ft_cg {C C' : Int → Nat} {k l t : Nat} (h : ∀ j : Nat, j ≤ t → C (j : Int) = C' (j : Int)) : ft C k l t = ft C' k l t := by
  unfold ft
  rw [wset_cg (fun j h1 h2 => h j (by omega))]
theorem ft_upd {cl : Int → Nat} {o : Int → Int} {k l t j : Nat} {p : Int} (h : j < t) : ft (fun x => cl (updF o t p x)) k l j = ft (fun x => cl (o x)) k l j := by
  refine ft_cg (fun y hy => ?_)
  show cl (updF o t p (y : Int)) = cl (o (y : Int))
  unfold updF
  rw [if_neg (by omega)]
theorem mF_dead {cl : Int → Nat} {n k l : Nat} (hk : 1 ≤ k) : ∀ (r t used : Nat) (o : Int → Int) (st : FSt) (j : Nat), t + r = n → j < t → ft (fun x => cl (o x)) k l j = false → mF cl n k l r t used o st = st
  | 0, t, used, o, st, j, ht, hj, hf => by
    unfold mF
    rw [if_neg]
    intro h
    rw [gF_ft hk] at h
    have := h j (by omega)
    rw [hf] at this
    cases this
  | r + 1, t, used, o, st, j, ht, hj, hf => by
    unfold mF
    refine lpF_id (fun p s _ => ?_)
    split
    · rfl
    · exact mF_dead hk r (t + 1) _ _ s j (by omega) (by omega) (by rw [ft_upd hj]; exact hf)
theorem cF_mF {cl : Int → Nat} {n k l : Nat} (hk : 1 ≤ k) : ∀ (r t used : Nat) (o : Int → Int) (st : FSt), t + r = n → (∀ j, j < t → ft (fun x => cl (o x)) k l j = true) → cF cl n k l r t used o st = mF cl n k l r t used o st
  | 0, t, used, o, st, ht, hf => by
    unfold cF mF
    rw [if_pos ((gF_ft hk).mpr (fun j hj => hf j (by omega)))]
  | r + 1, t, used, o, st, ht, hf => by
    unfold cF mF
    refine lpF_cg (fun p s _ => ?_)
    by_cases c : used.testBit p = true
    · rw [if_pos c, if_pos c]
    · rw [if_neg c, if_neg c]
      by_cases c2 : ft (fun j => cl (updF o t (p : Int) j)) k l t = true
      · rw [if_pos c2]
        refine cF_mF hk r (t + 1) _ _ s (by omega) (fun j hj => ?_)
        by_cases e : j = t
        · rw [e]; exact c2
        · rw [ft_upd (by omega)]; exact hf j (by omega)
      · rw [if_neg c2]
        have c3 : ft (fun j => cl (updF o t (p : Int) j)) k l t = false := by
          cases h : ft (fun j => cl (updF o t (p : Int) j)) k l t with
          | true => exact absurd h c2
          | false => rfl
        exact (mF_dead hk r (t + 1) _ _ s t (by omega) (by omega) c3).symm
theorem lpF_bd {f : Nat → FSt → FSt} {b : Int} (hb : 0 ≤ b) : ∀ (n : Nat) (st : FSt), (∀ p s, p < n → s.1 ≤ (f p s).1 ∧ (f p s).1 ≤ s.1 + b) → st.1 ≤ (lpF f n st).1 ∧ (lpF f n st).1 ≤ st.1 + n * b
  | 0, st, _ => ⟨Int.le_refl _, by show st.1 ≤ st.1 + 0 * b; omega⟩
  | n + 1, st, h => by
    have ih := lpF_bd hb n st (fun p s hp => h p s (by omega))
    have := h n (lpF f n st) (by omega)
    have e : ((n + 1 : Nat) : Int) * b = n * b + b := by
      rw [Int.natCast_add, Int.add_mul]
      omega
    show st.1 ≤ (f n (lpF f n st)).1 ∧ (f n (lpF f n st)).1 ≤ st.1 + ((n + 1 : Nat) : Int) * b
    omega
theorem mF_bd {cl : Int → Nat} {n k l : Nat} (hn : n ≤ 5) : ∀ (r t used : Nat) (o : Int → Int) (st : FSt), st.1 ≤ (mF cl n k l r t used o st).1 ∧ (mF cl n k l r t used o st).1 ≤ st.1 + (5 : Int) ^ r
  | 0, t, used, o, st => by
    unfold mF
    split
    · show st.1 ≤ st.1 + 1 ∧ st.1 + 1 ≤ st.1 + 1; omega
    · show st.1 ≤ st.1 ∧ st.1 ≤ st.1 + 1; omega
  | r + 1, t, used, o, st => by
    have hp : (0 : Int) ≤ 5 ^ r := Int.pow_nonneg (by omega)
    unfold mF
    have := lpF_bd (f := fun p s => if used.testBit p = true then s else mF cl n k l r (t + 1) (used ||| 2 ^ p) (updF o t (p : Int)) s) hp n st (fun p s _ => by
      show s.1 ≤ (if used.testBit p = true then s else mF cl n k l r (t + 1) (used ||| 2 ^ p) (updF o t (p : Int)) s).1 ∧ (if used.testBit p = true then s else mF cl n k l r (t + 1) (used ||| 2 ^ p) (updF o t (p : Int)) s).1 ≤ s.1 + 5 ^ r
      split
      · omega
      · exact mF_bd hn r _ _ _ s)
    have h5 : (n : Int) * 5 ^ r ≤ 5 * 5 ^ r := Int.mul_le_mul_of_nonneg_right (by omega) hp
    have e : (5 : Int) ^ (r + 1) = 5 * 5 ^ r := by rw [Int.pow_succ]; omega
    omega
theorem cF_bd {cl : Int → Nat} {n k l : Nat} (hn : n ≤ 5) : ∀ (r t used : Nat) (o : Int → Int) (st : FSt), st.1 ≤ (cF cl n k l r t used o st).1 ∧ (cF cl n k l r t used o st).1 ≤ st.1 + (5 : Int) ^ r
  | 0, t, used, o, st => by
    unfold cF
    show st.1 ≤ st.1 + 1 ∧ st.1 + 1 ≤ st.1 + 1; omega
  | r + 1, t, used, o, st => by
    have hp : (0 : Int) ≤ 5 ^ r := Int.pow_nonneg (by omega)
    unfold cF
    have := lpF_bd (f := fun p s => if used.testBit p = true then s else if ft (fun j => cl (updF o t (p : Int) j)) k l t = true then cF cl n k l r (t + 1) (used ||| 2 ^ p) (updF o t (p : Int)) s else s) hp n st (fun p s _ => by
      show s.1 ≤ (if used.testBit p = true then s else if ft (fun j => cl (updF o t (p : Int) j)) k l t = true then cF cl n k l r (t + 1) (used ||| 2 ^ p) (updF o t (p : Int)) s else s).1 ∧ (if used.testBit p = true then s else if ft (fun j => cl (updF o t (p : Int) j)) k l t = true then cF cl n k l r (t + 1) (used ||| 2 ^ p) (updF o t (p : Int)) s else s).1 ≤ s.1 + 5 ^ r
      split
      · omega
      · split
        · exact cF_bd hn r _ _ _ s
        · omega)
    have h5 : (n : Int) * 5 ^ r ≤ 5 * 5 ^ r := Int.mul_le_mul_of_nonneg_right (by omega) hp
    have e : (5 : Int) ^ (r + 1) = 5 * 5 ^ r := by rw [Int.pow_succ]; omega
    omega
end
