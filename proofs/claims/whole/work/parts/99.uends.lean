/-! the model at the end of a PAINTING -/
section
variable {w : Wd} {d : Nat} {l : LM}
/-- WINDOW v holds in the first MONTHS of the set -/
def vhGo (i : IM) (cs : List Cla) (n : Nat) (months eased : Int) (o : Nat → Nat) (v : Nat) : Nat → Bool
  | 0 => true
  | m + 1 => vhGo i cs n months eased o v m && (!decide (inMo months m) || decide ((cntB (mvw i cs o v (m : Int) n) 8 : Int) ≤ fLimit cs (v : Int) (m : Int) 0 + (if eased = (v : Int) then 1 else 0)))
abbrev vh (i : IM) (cs : List Cla) (n : Nat) (months eased : Int) (o : Nat → Nat) (v : Nat) : Bool := vhGo i cs n months eased o v 12
theorem vhGo_iff (i : IM) (cs : List Cla) (n : Nat) (months eased : Int) (o : Nat → Nat) (v : Nat) : ∀ k, vhGo i cs n months eased o v k = true ↔ ∀ m : Nat, m < k → inMo months m → (cntB (mvw i cs o v (m : Int) n) 8 : Int) ≤ fLimit cs (v : Int) (m : Int) 0 + (if eased = (v : Int) then 1 else 0)
  | 0 => ⟨fun _ m hm => by omega, fun _ => rfl⟩
  | k + 1 => by
    unfold vhGo
    rw [Bool.and_eq_true, vhGo_iff i cs n months eased o v k, Bool.or_eq_true, Bool.not_eq_true', decide_eq_false_iff_not, decide_eq_true_eq]
    constructor
    · rintro ⟨h1, h2⟩ m hm hin
      by_cases e : m = k
      · subst e
        rcases h2 with h2 | h2
        · exact absurd hin h2
        · exact h2
      · exact h1 m (by omega) hin
    · intro h
      refine ⟨fun m hm => h m (by omega), ?_⟩
      by_cases c : inMo months k
      · exact Or.inr (h k (by omega) c)
      · exact Or.inl c
/-- the set of WINDOWS that fail, and what it costs to wall them up -/
def flN (i : IM) (cs : List Cla) (n : Nat) (months eased : Int) (o : Nat → Nat) (k : Nat) : Nat := bfGo (fun v => if vh i cs n months eased o v = true then 1 else 0) k
def shN (i : IM) (cs : List Cla) (n : Nat) (months eased : Int) (o : Nat → Nat) (k : Nat) : Int := sumGo (fun v => if vh i cs n months eased o v = true then 0 else i 101 (80 + 3 * (v : Int) + 2)) k
theorem flN_bit (i : IM) (cs : List Cla) (n : Nat) (months eased : Int) (o : Nat → Nat) (k v : Nat) : (flN i cs n months eased o k).testBit v = true ↔ v < k ∧ ¬ vh i cs n months eased o v = true := by
  unfold flN
  rw [bfGo_bit]
  constructor
  · rintro ⟨h1, h2⟩
    exact ⟨h1, fun z => by rw [if_pos z] at h2; omega⟩
  · rintro ⟨h1, h2⟩
    exact ⟨h1, if_neg h2⟩
theorem flN_s (i : IM) (cs : List Cla) (n : Nat) (months eased : Int) (o : Nat → Nat) (k : Nat) : flN i cs n months eased o (k + 1) = if vh i cs n months eased o k = true then flN i cs n months eased o k else flN i cs n months eased o k ||| 2 ^ k := by
  show (if (if vh i cs n months eased o k = true then (1 : Int) else 0) = 0 then _ else _) = _
  by_cases c : vh i cs n months eased o k = true
  · rw [if_pos c, if_pos c, if_neg (by decide)]; rfl
  · rw [if_neg c, if_neg c, if_pos rfl]; rfl
theorem shN_s (i : IM) (cs : List Cla) (n : Nat) (months eased : Int) (o : Nat → Nat) (k : Nat) : shN i cs n months eased o (k + 1) = shN i cs n months eased o k + if vh i cs n months eased o k = true then 0 else i 101 (80 + 3 * (k : Int) + 2) := rfl
theorem shN_rg {i : IM} (hk : kOK (i 101)) (cs : List Cla) (n : Nat) (months eased : Int) (o : Nat → Nat) {k : Nat} (h8 : k ≤ 8) : 0 ≤ shN i cs n months eased o k ∧ shN i cs n months eased o k ≤ 792 := by
  have := sumGo_le (g := fun v => if vh i cs n months eased o v = true then 0 else i 101 (80 + 3 * (v : Int) + 2)) (b := 99) k (fun v hv => by
    have := (hk.2.2.1 (v : Int) (by omega) (by omega)).2.2
    by_cases c : vh i cs n months eased o v = true
    · simp only [if_pos c]; omega
    · simp only [if_neg c]; exact this)
  have h2 : shN i cs n months eased o k ≤ 99 * (k : Int) := this.2
  exact ⟨this.1, by omega⟩
/-- all that is found -/
abbrev ES := SA × (Int × Nat × (Nat → Nat)) × (Nat → Bool)
def upE (val g p f tot : Int) (fl : Nat) (o : Nat → Nat) (s : ES) : ES := (if fl = 0 then addB (1, 1, val, o, g, p, f) s.1 else s.1, if tot < s.2.1.1 then (tot, fl, o) else s.2.1, fun k => s.2.2 k || decide (k = fl))
def eA (i : IM) (n : Nat) (s : SA) : Prop := i 99 35 = s.1 ∧ i 99 36 = s.2.1.1 ∧ (0 < s.1 → i 99 37 = s.2.1.2.1 ∧ ∀ j : Nat, j < n → i 117 (j : Int) = ((s.2.1.2.2 j : Nat) : Int)) ∧ i 99 40 = s.2.2.1 ∧ i 99 41 = s.2.2.2.1 ∧ i 99 42 = s.2.2.2.2 ∧ (0 ≤ s.2.1.1 ∧ s.2.1.1 ≤ s.1 ∧ (0 < s.1 → 0 < s.2.1.1))
def eM (i : IM) (n : Nat) (s : Int × Nat × (Nat → Nat)) : Prop := s.1 ≤ 2147483647 ∧ (s.1 = 2147483647 → i 99 38 = -1) ∧ (s.1 < 2147483647 → 0 ≤ s.1 ∧ i 99 38 = s.1 ∧ i 99 39 = (s.2.1 : Int) ∧ ∀ j : Nat, j < n → i 118 (j : Int) = ((s.2.2 j : Nat) : Int))
def eF (i : IM) (s : Nat → Bool) : Prop := ∀ k : Nat, k < 256 → i 119 (k : Int) = if s k = true then 1 else 0
def eS (i : IM) (n : Nat) (s : ES) : Prop := eA i n s.1 ∧ eM i n s.2.1 ∧ eF i s.2.2
theorem eA_cg {i i' : IM} {n : Nat} {s : SA} (h : ∀ k : Int, k ≠ 38 → k ≠ 39 → i' 99 k = i 99 k) (h7 : i' 117 = i 117) (ha : eA i n s) : eA i' n s := by
  obtain ⟨a1, a2, a3, a4, a5, a6, a7⟩ := ha
  exact ⟨by rw [h _ (by decide) (by decide)]; exact a1, by rw [h _ (by decide) (by decide)]; exact a2, fun z => by rw [h _ (by decide) (by decide), h7]; exact a3 z, by rw [h _ (by decide) (by decide)]; exact a4, by rw [h _ (by decide) (by decide)]; exact a5, by rw [h _ (by decide) (by decide)]; exact a6, a7⟩
theorem eM_cg {i i' : IM} {n : Nat} {s : Int × Nat × (Nat → Nat)} (h8 : i' 99 38 = i 99 38) (h9 : i' 99 39 = i 99 39) (h : i' 118 = i 118) (ha : eM i n s) : eM i' n s := by
  unfold eM; rw [h8, h9, h]; exact ha
/-- what the end of a PAINTING changes -/
def enf (i i' : IM) : Prop := ∀ (a : Nat) (k : Int), a ≠ 117 → a ≠ 118 → a ≠ 119 → (a ≠ 99 ∨ k < 35 ∨ 42 < k) → i' a k = i a k
theorem enf_rf (i : IM) : enf i i := fun _ _ _ _ _ _ => rfl
theorem enf_tr {i j k : IM} (h1 : enf i j) (h2 : enf j k) : enf i k := fun a x p1 p2 p3 p4 => (h2 a x p1 p2 p3 p4).trans (h1 a x p1 p2 p3 p4)
theorem enf_u {i : IM} {a : Nat} {k v : Int} (h : a = 117 ∨ a = 118 ∨ a = 119 ∨ (a = 99 ∧ 35 ≤ k ∧ k ≤ 42)) : enf i (u2 i a k v) := fun b x p1 p2 p3 p4 => if_neg (fun z => by omega)
theorem enf_c {i i' : IM} (h : enf i i') {a : Nat} (h1 : a ≠ 117) (h2 : a ≠ 118) (h3 : a ≠ 119) (h4 : a ≠ 99) : i' a = i a := funext fun k => h a k h1 h2 h3 (Or.inl h4)
theorem cnt16 {S : Nat} (h : S < 256) : cntB S 16 = cntB S 8 := by
  have key : ∀ k, cntB S (8 + k) = cntB S 8 := by
    intro k
    induction k with
    | zero => rfl
    | succ k ih =>
      show cntB S (8 + k) + S / 2 ^ (8 + k) % 2 = _
      have : S / 2 ^ (8 + k) = 0 := Nat.div_eq_of_lt (Nat.lt_of_lt_of_le h (by show 2 ^ 8 ≤ _; exact Nat.pow_le_pow_right (by omega) (by omega)))
      rw [this, ih]; rfl
  exact key 8
theorem mvw_lt {i : IM} (hk : kOK (i 101)) (cs : List Cla) (o : Nat → Nat) (v : Nat) (mo : Int) : ∀ t, t ≤ 10 → mvw i cs o v mo t < 256
  | 0, _ => by show 0 < 256; omega
  | t + 1, ht => by
    have h1 := mvw_lt hk cs o v mo t (by omega)
    have hc := mColour_lt (i := i) hk (t := (t : Int)) (c := ((o t : Nat) : Int)) ⟨by omega, by omega⟩
    obtain ⟨b, e, hb⟩ := mBit_nat hk cs (v := (v : Int)) (t := (t : Int)) (c := mColour i (t : Int) ((o t : Nat) : Int)) (mo := mo) (mi := 0) ⟨by omega, by omega⟩ hc
    show mvw i cs o v mo t ||| (mBit i cs (v : Int) (t : Int) (mColour i (t : Int) ((o t : Nat) : Int)) mo 0).toNat < 256
    rw [e]
    exact Nat.or_lt_two_pow (n := 8) h1 hb

/-- the three tallies, told apart -/
theorem marks3 {g p f : Int} (hg : 0 ≤ g ∧ g ≤ 10) (hp : 0 ≤ p ∧ p ≤ 10) (hf : 0 ≤ f ∧ f ≤ 10) : Int.tmod (g + 16 * p + 256 * f) 16 = g ∧ Int.tdiv (g + 16 * p + 256 * f) 16 = p + 16 * f ∧ Int.tmod (p + 16 * f) 16 = p ∧ Int.tdiv (g + 16 * p + 256 * f) 256 = f := by
  rw [Int.tmod_eq_emod_of_nonneg (by omega), Int.tdiv_eq_ediv_of_nonneg (by omega), Int.tmod_eq_emod_of_nonneg (by omega), Int.tdiv_eq_ediv_of_nonneg (by omega)]
  omega
/-- the best choice is kept -/
theorem lp_ends336 {P : IM → LM → Prop} (hd : 1 ≤ d) {n : Nat} (hn : n ≤ 10) {i : IM} (h7 : i 101 307 = (n : Int)) {o : Nat → Nat} (ho : ∀ j : Nat, j < n → i 116 (j : Int) = ((o j : Nat) : Int)) (hr : rg (i 99 36 + 1)) (hP : ∀ i', (∀ a, a ≠ 117 → i' a = i a) → (∀ j : Nat, j < n → i' 117 (j : Int) = ((o j : Nat) : Int)) → P (u2 i' 99 36 (i 99 36 + 1)) l) : ∀ r k : Nat, k + r = n → ∀ i', (∀ a, a ≠ 117 → i' a = i a) → (∀ j : Nat, j < k → i' 117 (j : Int) = ((o j : Nat) : Int)) → gV w d X_X12_ends P i' l 336 [(0, vR (some 99)), (6, vI (k : Int))] [] := by
  intro r
  induction r with
  | zero =>
    intro k hk i' hi hj
    have e : k = n := by omega
    subst e
    refine s_X12_ends_336 _ (by omega) ⟨⟨by omega, by omega⟩, fun _ => ?_, fun z => by rw [hi 101 (by decide), h7] at z; omega⟩
    rw [hi 99 (by decide)]
    exact ⟨hr, hP i' hi hj⟩
  | succ r ih =>
    intro k hk i' hi hj
    refine s_X12_ends_336 _ (by omega) ⟨⟨by omega, by omega⟩, fun z => by rw [hi 101 (by decide), h7] at z; omega, fun _ => ⟨⟨by omega, by omega⟩, ?_⟩⟩
    rw [hi 116 (by decide), ho k (by omega)]
    refine ih (k + 1) (by omega) _ (fun a ha => by rw [u2_other _ _ _ ha]; exact hi a ha) (fun j hj2 => ?_)
    by_cases e : j = k
    · subst e; exact u2_self ..
    · have : u2 i' 117 (k : Int) ((o k : Nat) : Int) 117 (j : Int) = i' 117 (j : Int) := if_neg (fun z => by omega)
      rw [this]; exact hj j (by omega)
/-- the mend's choice is kept -/
theorem lp_ends190 {P : IM → LM → Prop} (hd : 1 ≤ d) {n : Nat} (hn : n ≤ 10) {i : IM} (h7 : i 101 307 = (n : Int)) {o : Nat → Nat} (ho : ∀ j : Nat, j < n → i 116 (j : Int) = ((o j : Nat) : Int)) {x1 x2 x3 x4 : Int} (hnext : ∀ i', (∀ a, a ≠ 118 → i' a = i a) → (∀ j : Nat, j < n → i' 118 (j : Int) = ((o j : Nat) : Int)) → gV w d X_X12_ends P i' l 219 [(0, vR (some 99)), (1, vI x1), (2, vI x2), (3, vI x3), (4, vI x4)] []) : ∀ r k : Nat, k + r = n → ∀ i', (∀ a, a ≠ 118 → i' a = i a) → (∀ j : Nat, j < k → i' 118 (j : Int) = ((o j : Nat) : Int)) → gV w d X_X12_ends P i' l 190 [(0, vR (some 99)), (1, vI x1), (2, vI x2), (3, vI x3), (4, vI x4), (6, vI (k : Int))] [] := by
  intro r
  induction r with
  | zero =>
    intro k hk i' hi hj
    have e : k = n := by omega
    subst e
    exact s_X12_ends_190 _ _ _ _ _ (by omega) ⟨⟨by omega, by omega⟩, fun _ => hnext i' hi hj, fun z => by rw [hi 101 (by decide), h7] at z; omega⟩
  | succ r ih =>
    intro k hk i' hi hj
    refine s_X12_ends_190 _ _ _ _ _ (by omega) ⟨⟨by omega, by omega⟩, fun z => by rw [hi 101 (by decide), h7] at z; omega, fun _ => ⟨⟨by omega, by omega⟩, ?_⟩⟩
    rw [hi 116 (by decide), ho k (by omega)]
    refine ih (k + 1) (by omega) _ (fun a ha => by rw [u2_other _ _ _ ha]; exact hi a ha) (fun j hj2 => ?_)
    by_cases e : j = k
    · subst e; exact u2_self ..
    · have : u2 i' 118 (k : Int) ((o k : Nat) : Int) 118 (j : Int) = i' 118 (j : Int) := if_neg (fun z => by omega)
      rw [this]; exact hj j (by omega)
end
