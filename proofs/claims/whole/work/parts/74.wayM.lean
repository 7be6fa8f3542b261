/-! soon and way, in the model -/
section
variable {w : Wd} {d : Nat} {i : IM} {l : LM}
abbrev isW (i : IM) (p m f t : Int) : Prop := (0 ≤ p ∧ p < i 101 309) ∧ ((0 ≤ m ∧ m ≤ 119) ∧ ((0 ≤ f ∧ f ≤ 9) ∧ (0 ≤ t ∧ t ≤ 9)))
def snI (i : IM) (cs : List Cla) (p m f t : Int) : Option Nat := sn (sS i) (mbK i cs p m.toNat) f.toNat t.toNat (120 - m.toNat) 0
def mSoon (i : IM) (cs : List Cla) (p m f t : Int) : Int := if isW i p m f t then (match snI i cs p m f t with
    | some e => m + (e : Int)
    | none => -1) else -1
def mWay (i : IM) (cs : List Cla) (p m f t a : Int) : Int := if isW i p m f t then (match snI i cs p m f t with
    | some e => if m ≤ a ∧ a ≤ m + (e : Int) then (pt (sS i) (mbK i cs p m.toNat) f.toNat t.toNat e (a - m).toNat : Int) else -1
    | none => -1) else -1
theorem sp_X12_isWay (hd : 4 ≤ d) {P : Int → IM → LM → Prop} (hk : kOK (i 101)) {p m f t : Int} (h0 : rg p) (h1 : rg m) (h2 : rg f) (h3 : rg t) (hP : P (bI (isW i p m f t)) i l) : cI w d X_X12_isWay [vR (some 99), vI p, vI m, vI f, vI t] i l P := by
  obtain ⟨d, rfl, hd1⟩ := d_pos hd
  have h309 := hk.1.2.2.1
  exact e_X12_isWay (s_X12_isWay _ _ _ _ (by omega) ⟨h0, ⟨by omega, by omega⟩, fun _ => h1, fun _ _ => h2, fun _ _ _ => h3, hP⟩)
theorem sp_X12_soon {P : Int → IM → LM → Prop} {i : IM} {A : Nat → List Cla} (hd : 83 ≤ d) (hk : kOK (i 101)) (hf : forceM (i 101) A) (hc : hasDep (inForce (i 101) A)) {p m f t : Int} (h0 : rg p) (h1 : rg m) (h2 : rg f) (h3 : rg t) (hP : ∀ i', wfr i i' → P (mSoon i (inForce (i 101) A) p m f t) i' l) : cI w d X_X12_soon [vR (some 99), vI p, vI m, vI f, vI t] i l P := by
  obtain ⟨d, rfl, hd1⟩ := d_pos hd
  have h309 := hk.1.2.2.1
  unfold mSoon at hP
  refine e_X12_soon (s_X12_soon _ _ _ _ (sp_X12_isWay (by omega) hk h0 h1 h2 h3 ⟨fun q => ?_, fun q => ?_⟩))
  · rw [bI_eq] at q
    rw [if_neg q] at hP
    exact hP i (wfr_rf i)
  · rw [bI_eq] at q
    have q2 : isW i p m f t := by
      by_cases z : isW i p m f t
      · exact z
      · exact absurd z q
    rw [if_pos q2] at hP
    obtain ⟨m, rfl⟩ := Int.eq_ofNat_of_zero_le q2.2.1.1
    obtain ⟨f, rfl⟩ := Int.eq_ofNat_of_zero_le q2.2.2.1.1
    obtain ⟨t, rfl⟩ := Int.eq_ofNat_of_zero_le q2.2.2.2.1
    have hm := q2.2.1.2
    have hff := q2.2.2.1.2
    have htt := q2.2.2.2.2
    have hp := q2.1
    refine sp_X12_soonOf (by omega) hk hf hc ⟨by omega, by omega⟩ (by omega) (by omega) (by omega) (fun e he i' hi _ => ?_) (fun he i' hi => ?_)
    · have := hP i' hi
      have e2 : snI i (inForce (i 101) A) p (m : Int) (f : Int) (t : Int) = some e := he
      rw [e2] at this
      exact this
    · have := hP i' hi
      have e2 : snI i (inForce (i 101) A) p (m : Int) (f : Int) (t : Int) = none := he
      rw [e2] at this
      exact this
/-- which lead to the goal, from the end back to j MINUTES before, and a PLACES more -/
def ldI (i' : IM) (S : Nat → Nat) (mb : Nat → Nat → Bool) (f t e m0 j a : Nat) : Prop := (∀ x y : Nat, x < j → y < 10 → i' 121 (10 * ((m0 : Int) + ((e - x : Nat) : Int)) + (y : Int)) = bI ((ld S mb f t e x).testBit y = true)) ∧ (∀ y : Nat, y < a → i' 121 (10 * ((m0 : Int) + ((e - j : Nat) : Int)) + (y : Int)) = bI ((ld S mb f t e j).testBit y = true))
theorem ldI_u {i' : IM} {S : Nat → Nat} {mb : Nat → Nat → Bool} {f t e m0 j a : Nat} (hj : j ≤ e) (ha : a < 10) (h : ldI i' S mb f t e m0 j a) {x : Int} (hx : x = bI ((ld S mb f t e j).testBit a = true)) : ldI (u2 i' 121 (10 * ((m0 : Int) + ((e - j : Nat) : Int)) + (a : Int)) x) S mb f t e m0 j (a + 1) := by
  refine ⟨fun y z hy hz => ?_, fun z hz => ?_⟩
  · show (if (121 : Nat) = 121 ∧ 10 * ((m0 : Int) + ((e - y : Nat) : Int)) + (z : Int) = 10 * ((m0 : Int) + ((e - j : Nat) : Int)) + (a : Int) then x else i' 121 (10 * ((m0 : Int) + ((e - y : Nat) : Int)) + (z : Int))) = _
    rw [if_neg (fun c => by have := c.2; omega)]
    exact h.1 y z hy hz
  · show (if (121 : Nat) = 121 ∧ 10 * ((m0 : Int) + ((e - j : Nat) : Int)) + (z : Int) = 10 * ((m0 : Int) + ((e - j : Nat) : Int)) + (a : Int) then x else i' 121 (10 * ((m0 : Int) + ((e - j : Nat) : Int)) + (z : Int))) = _
    by_cases c : z = a
    · subst c; rw [if_pos ⟨rfl, rfl⟩]; exact hx
    · rw [if_neg (fun c2 => by have := c2.2; omega)]
      exact h.2 z (by omega)
theorem ldI_up {i' : IM} {S : Nat → Nat} {mb : Nat → Nat → Bool} {f t e m0 j : Nat} (h : ldI i' S mb f t e m0 j 10) : ldI i' S mb f t e m0 (j + 1) 0 := by
  refine ⟨fun y z hy hz => ?_, fun z hz => by omega⟩
  by_cases c : y = j
  · subst c; exact h.2 z hz
  · exact h.1 y z (by omega) hz
/-- the search for the lowest PLACE -/
theorem lp_way6 {P : Int → IM → LM → Prop} (hd : 2 ≤ d) (hk : kOK (i 101)) {m0 f t e : Nat} {mb : Nat → Nat → Bool} (hS : SymS (sS i)) (ht : t < 10) (he : (rk (sS i) mb f e).testBit t = true) (hm : m0 + e < 120) {A : Int} (hA : rg A) {k : Nat} (hke : k + 1 ≤ e) {i' : IM} (e1 : i' 101 = i 101) (hl : ldI i' (sS i) mb f t e m0 (e + 1) 0) (hnext : gI w d X_X12_way P i' l 220 [(0, vR (some 99)), (5, vI A), (7, vI ((pt (sS i) mb f t e (k + 1) : Nat) : Int)), (8, vI ((m0 : Int) + (k : Int) + 1 + 1))] []) : ∀ r b : Nat, b + r = pt (sS i) mb f t e (k + 1) → gI w d X_X12_way P i' l 230 [(0, vR (some 99)), (5, vI A), (7, vI ((pt (sS i) mb f t e k : Nat) : Int)), (8, vI ((m0 : Int) + (k : Int) + 1)), (9, vI (b : Int))] [] := by
  have hk0 := pt_ok hS ht he k (by omega)
  have hk1 := pt_ok hS ht he (k + 1) hke
  have hn := pt_next hS ht he hke
  have eS : mStep i' = mStep i := by funext x y; unfold mStep; rw [e1]
  have hix : ∀ b : Nat, 10 * ((m0 : Int) + (k : Int) + 1) + (b : Int) = 10 * ((m0 : Int) + ((e - (e - (k + 1)) : Nat) : Int)) + (b : Int) := by intro b; omega
  intro r
  induction r with
  | zero =>
    intro b hb
    have eb : b = pt (sS i) mb f t e (k + 1) := by omega
    subst eb
    refine s_X12_way_230 _ _ _ _ hd ⟨⟨by omega, by omega⟩, ⟨by omega, by omega⟩, ⟨by omega, by omega⟩, fun _ => ⟨by omega, by omega⟩, fun _ => hnext, fun q => absurd ?_ q⟩
    rw [eS, mStep_eq hk hk0.2 hk1.2, hix, hl.1 (e - (k + 1)) _ (by omega) hk1.2]
    exact ⟨hn.1.1, by rw [bI_t hn.1.2]; decide⟩
  | succ r ih =>
    intro b hb
    have hno := hn.2 b (by omega)
    refine s_X12_way_230 _ _ _ _ hd ⟨⟨by omega, by omega⟩, ⟨by omega, by omega⟩, ⟨by omega, by omega⟩, fun _ => ⟨by omega, by omega⟩, fun q => absurd ?_ hno, fun _ => ih (b + 1) (by omega)⟩
    rw [eS, mStep_eq hk hk0.2 (by omega), hix, hl.1 (e - (k + 1)) b (by omega) (by omega)] at q
    exact ⟨q.1, by have := q.2; rw [bI_eq] at this; simpa using this⟩
theorem lp_way5 {P : Int → IM → LM → Prop} (hd : 2 ≤ d) (hk : kOK (i 101)) {m0 f t e : Nat} {mb : Nat → Nat → Bool} (hS : SymS (sS i)) (ht : t < 10) (he : (rk (sS i) mb f e).testBit t = true) (hm : m0 + e < 120) {x : Nat} (hx : x ≤ e) {i' : IM} (e1 : i' 101 = i 101) (hl : ldI i' (sS i) mb f t e m0 (e + 1) 0) (hP : P ((pt (sS i) mb f t e x : Nat) : Int) i' l) : ∀ r k : Nat, k + r = x → gI w d X_X12_way P i' l 220 [(0, vR (some 99)), (5, vI ((m0 : Int) + (x : Int))), (7, vI ((pt (sS i) mb f t e k : Nat) : Int)), (8, vI ((m0 : Int) + (k : Int) + 1))] [] := by
  intro r
  induction r with
  | zero =>
    intro k hk2
    have ek : k = x := by omega
    subst ek
    have := (pt_ok hS ht he k hx).2
    exact s_X12_way_220 _ _ _ ⟨⟨by omega, by omega⟩, ⟨by omega, by omega⟩, fun _ => ⟨⟨by omega, by omega⟩, hP⟩, fun q => by omega⟩
  | succ r ih =>
    intro k hk2
    have hnx := ih (k + 1) (by omega)
    have e2 : (m0 : Int) + ((k + 1 : Nat) : Int) + 1 = (m0 : Int) + (k : Int) + 1 + 1 := by omega
    rw [e2] at hnx
    exact s_X12_way_220 _ _ _ ⟨⟨by omega, by omega⟩, ⟨by omega, by omega⟩, fun q => by omega, fun q => lp_way6 hd hk hS ht he hm ⟨by omega, by omega⟩ (by omega) e1 hl hnx _ 0 (Nat.zero_add _)⟩
theorem exB_sym {S : Nat → Nat} {x a : Nat} : ∀ n, (exB (fun b => S b) x a n = exB S x a n) := fun _ => rfl
/-- a step to one of the first n PLACES of a set -/
def toB (S : Nat → Nat) (x a : Nat) : Nat → Bool
  | 0 => false
  | n + 1 => toB S x a n || (x.testBit n && stp S a n)
theorem toB_iff (S : Nat → Nat) (x a : Nat) : ∀ n, toB S x a n = true ↔ ∃ b, b < n ∧ x.testBit b = true ∧ stp S a b = true
  | 0 => ⟨fun h => (by cases h), fun ⟨a, h, _⟩ => (by omega)⟩
  | n + 1 => by
    unfold toB
    rw [Bool.or_eq_true, Bool.and_eq_true, toB_iff S x a n]
    constructor
    · rintro (⟨b, h1, h2⟩ | h)
      · exact ⟨b, by omega, h2⟩
      · exact ⟨n, by omega, h⟩
    · rintro ⟨b, h1, h2⟩
      by_cases e : b = n
      · subst e; exact Or.inr h2
      · exact Or.inl ⟨b, by omega, h2⟩
theorem lp_way4 {P : Int → IM → LM → Prop} {m0 f t e : Nat} {mb : Nat → Nat → Bool} (hS : SymS (sS i)) (ht : t < 10) (he : (rk (sS i) mb f e).testBit t = true) (hm : m0 + e < 120) {A : Int} {j a : Nat} (hj : j ≤ e) (ha : a < 10) {i' : IM} (hi : wfr i i') (hcm : cmI i' (sS i) mb f m0 (e + 1) 0) (hl : ldI i' (sS i) mb f t e m0 j a) {q : Prop} [Decidable q] (hq : q ↔ (j = 0 ∧ a = t) ∨ (j ≠ 0 ∧ toB (sS i) (ld (sS i) mb f t e (j - 1)) a 10 = true)) (hnext : ∀ i', wfr i i' → cmI i' (sS i) mb f m0 (e + 1) 0 → ldI i' (sS i) mb f t e m0 j (a + 1) → gI w d X_X12_way P i' l 65 [(0, vR (some 99)), (2, vI (m0 : Int)), (3, vI (f : Int)), (4, vI (t : Int)), (5, vI A), (6, vI ((m0 : Int) + (e : Int))), (7, vI ((m0 : Int) + ((e - j : Nat) : Int))), (8, vI ((a : Int) + 1))] []) : gI w d X_X12_way P i' l 161 [(0, vR (some 99)), (2, vI (m0 : Int)), (3, vI (f : Int)), (4, vI (t : Int)), (5, vI A), (6, vI ((m0 : Int) + (e : Int))), (7, vI ((m0 : Int) + ((e - j : Nat) : Int))), (8, vI (a : Int)), (9, vI (bI q))] [] := by
  have h120 := hcm.1 (e - j) a (by omega) ha
  refine s_X12_way_161 _ _ _ _ _ _ _ _ ⟨bI_rg _, fun _ => ⟨by omega, by omega⟩, ⟨by omega, by omega⟩, ?_⟩
  refine hnext _ (wfr_tr hi (wfr_u (Or.inr rfl))) (cmI_s (u2_other _ _ _ (by decide)) hcm) (ldI_u hj ha hl ?_)
  rw [h120]
  refine bI_congr ?_
  rw [bI_eq, bI_eq]
  have hr : (¬ ¬ q ∧ ¬ ¬ (rk (sS i) mb f (e - j)).testBit a = true) ↔ (q ∧ (rk (sS i) mb f (e - j)).testBit a = true) := by
    constructor
    · rintro ⟨h1, h2⟩
      refine ⟨?_, by simpa using h2⟩
      by_cases z : q
      · exact z
      · exact absurd z h1
    · rintro ⟨h1, h2⟩; exact ⟨fun z => z h1, fun z => z h2⟩
  rw [hr, hq]
  cases j with
  | zero =>
    show _ ↔ (2 ^ t).testBit a = true
    rw [bit_pow, Nat.sub_zero]
    constructor
    · rintro ⟨h | h, -⟩
      · exact h.2.symm
      · exact absurd rfl h.1
    · intro h; subst h; exact ⟨Or.inl ⟨rfl, rfl⟩, he⟩
  | succ j =>
    rw [ld_bit hS ht, toB_iff]
    constructor
    · rintro ⟨h | h, h2⟩
      · omega
      · exact ⟨h2, h.2⟩
    · rintro ⟨h1, h2⟩
      exact ⟨Or.inr ⟨by omega, h2⟩, h1⟩
theorem lp_way3 {P : Int → IM → LM → Prop} (hd : 2 ≤ d) (hk : kOK (i 101)) {m0 f t e : Nat} {mb : Nat → Nat → Bool} (hS : SymS (sS i)) (ht : t < 10) (he : (rk (sS i) mb f e).testBit t = true) (hm : m0 + e < 120) {A : Int} {j a : Nat} (hj : j + 1 ≤ e) (ha : a < 10) {i' : IM} (hi : wfr i i') (hcm : cmI i' (sS i) mb f m0 (e + 1) 0) (hl : ldI i' (sS i) mb f t e m0 (j + 1) a) (hnext : ∀ i', wfr i i' → cmI i' (sS i) mb f m0 (e + 1) 0 → ldI i' (sS i) mb f t e m0 (j + 1) (a + 1) → gI w d X_X12_way P i' l 65 [(0, vR (some 99)), (2, vI (m0 : Int)), (3, vI (f : Int)), (4, vI (t : Int)), (5, vI A), (6, vI ((m0 : Int) + (e : Int))), (7, vI ((m0 : Int) + ((e - (j + 1) : Nat) : Int))), (8, vI ((a : Int) + 1))] []) : ∀ r b : Nat, b + r = 10 → gI w d X_X12_way P i' l 100 [(0, vR (some 99)), (2, vI (m0 : Int)), (3, vI (f : Int)), (4, vI (t : Int)), (5, vI A), (6, vI ((m0 : Int) + (e : Int))), (7, vI ((m0 : Int) + ((e - (j + 1) : Nat) : Int))), (8, vI (a : Int)), (9, vI (bI (toB (sS i) (ld (sS i) mb f t e j) a b = true))), (10, vI (b : Int))] [] := by
  have e1 : i' 101 = i 101 := wfr_c hi (by decide) (by decide) (by decide) (by decide)
  have eS : mStep i' = mStep i := by funext x y; unfold mStep; rw [e1]
  intro r
  induction r with
  | zero =>
    intro b hb
    have eb : b = 10 := by omega
    subst eb
    have hl4 := lp_way4 (A := A) hS ht he hm hj ha hi hcm hl (q := toB (sS i) (ld (sS i) mb f t e j) a 10 = true) ⟨fun z => Or.inr ⟨by omega, z⟩, fun z => by rcases z with z | z; omega; exact z.2⟩ hnext
    exact s_X12_way_100 _ _ _ _ _ _ _ _ _ hd ⟨⟨by omega, by omega⟩, fun q => by omega, fun q => by omega, fun q => by omega, fun _ => hl4, fun q => by omega, fun q => by omega⟩
  | succ r ih =>
    intro b hb
    have hnx := ih (b + 1) (by omega)
    have e2 : 10 * ((m0 : Int) + ((e - (j + 1) : Nat) : Int) + 1) + (b : Int) = 10 * ((m0 : Int) + ((e - j : Nat) : Int)) + (b : Int) := by omega
    have h121 := hl.1 j b (by omega) (by omega)
    refine s_X12_way_100 _ _ _ _ _ _ _ _ _ hd ⟨⟨by omega, by omega⟩, fun _ => ⟨by omega, by omega⟩, fun _ => ⟨by omega, by omega⟩, fun _ _ => bI_rg _, fun q => by omega, fun q => ?_, fun q => ?_⟩
    · have q2 := q.2.2
      rw [bI_eq] at q2
      have hex : toB (sS i) (ld (sS i) mb f t e j) a b = true := by
        by_cases z : toB (sS i) (ld (sS i) mb f t e j) a b = true
        · exact z
        · exact absurd z q2
      rw [bI_t (show toB (sS i) (ld (sS i) mb f t e j) a (b + 1) = true by unfold toB; rw [hex, Bool.true_or])] at hnx
      exact hnx
    · have q2 := q.2.2
      rw [bI_eq] at q2
      have hex : toB (sS i) (ld (sS i) mb f t e j) a b = false := by simpa using q2
      refine ⟨⟨by omega, by omega⟩, fun _ => ⟨by omega, by omega⟩, fun _ => ⟨by omega, by omega⟩, fun _ => ⟨by omega, by omega⟩, ?_⟩
      rw [e2, h121, eS, mStep_eq hk ha (by omega)]
      rw [bI_congr (p := ¬ bI ((ld (sS i) mb f t e j).testBit b = true) = 0 ∧ stp (sS i) a b = true) (q := toB (sS i) (ld (sS i) mb f t e j) a (b + 1) = true) (by
        rw [bI_eq]
        unfold toB
        rw [hex, Bool.false_or, Bool.and_eq_true]
        constructor
        · rintro ⟨z1, z2⟩; exact ⟨by simpa using z1, z2⟩
        · rintro ⟨z1, z2⟩; exact ⟨fun y => y z1, z2⟩)]
      exact hnx
theorem lp_way2 {P : Int → IM → LM → Prop} (hd : 2 ≤ d) (hk : kOK (i 101)) {m0 f t e : Nat} {mb : Nat → Nat → Bool} (hS : SymS (sS i)) (ht : t < 10) (he : (rk (sS i) mb f e).testBit t = true) (hm : m0 + e < 120) {A : Int} {j : Nat} (hj : j ≤ e) (hnext : ∀ i', wfr i i' → cmI i' (sS i) mb f m0 (e + 1) 0 → ldI i' (sS i) mb f t e m0 (j + 1) 0 → gI w d X_X12_way P i' l 56 [(0, vR (some 99)), (2, vI (m0 : Int)), (3, vI (f : Int)), (4, vI (t : Int)), (5, vI A), (6, vI ((m0 : Int) + (e : Int))), (7, vI ((m0 : Int) + ((e - j : Nat) : Int) + (-1)))] []) : ∀ r a : Nat, a + r = 10 → ∀ i', wfr i i' → cmI i' (sS i) mb f m0 (e + 1) 0 → ldI i' (sS i) mb f t e m0 j a → gI w d X_X12_way P i' l 65 [(0, vR (some 99)), (2, vI (m0 : Int)), (3, vI (f : Int)), (4, vI (t : Int)), (5, vI A), (6, vI ((m0 : Int) + (e : Int))), (7, vI ((m0 : Int) + ((e - j : Nat) : Int))), (8, vI (a : Int))] [] := by
  intro r
  induction r with
  | zero =>
    intro a ha i' hi hcm hl
    have ea : a = 10 := by omega
    subst ea
    exact s_X12_way_65 _ _ _ _ _ _ _ ⟨⟨by omega, by omega⟩, fun q => by omega, fun q => by omega, fun _ => hnext i' hi hcm (ldI_up hl), fun q => by omega, fun q => by omega⟩
  | succ r ih =>
    intro a ha i' hi hcm hl
    have hnx := fun i2 h2 h3 h4 => ih (a + 1) (by omega) i2 h2 h3 h4
    refine s_X12_way_65 _ _ _ _ _ _ _ ⟨⟨by omega, by omega⟩, fun _ => ⟨by omega, by omega⟩, fun _ => ⟨by omega, by omega⟩, fun q => by omega, fun q => ?_, fun q => ⟨⟨by omega, by omega⟩, ⟨by omega, by omega⟩, ?_⟩⟩
    · cases j with
      | zero => exact absurd (by omega) q.2
      | succ j => exact lp_way3 hd hk hS ht he hm hj (by omega) hi hcm hl hnx 10 0 rfl
    · have hj0 : j = 0 := by omega
      have hl4 := lp_way4 (A := A) hS ht he hm hj (show a < 10 by omega) hi hcm hl (q := (a : Int) = (t : Int)) ⟨fun z => Or.inl ⟨hj0, by omega⟩, fun z => by rcases z with z | z; omega; exact absurd hj0 z.1⟩ hnx
      exact s_X12_way_100 _ _ _ _ _ _ _ _ _ hd ⟨⟨by omega, by omega⟩, fun _ => ⟨by omega, by omega⟩, fun _ => ⟨by omega, by omega⟩, fun _ _ => bI_rg _, fun _ => hl4, fun q => by omega, fun q => by omega⟩
theorem lp_way1 {P : Int → IM → LM → Prop} (hd : 2 ≤ d) (hk : kOK (i 101)) {m0 f t e : Nat} {mb : Nat → Nat → Bool} (hS : SymS (sS i)) (ht : t < 10) (hf : f < 10) (he : (rk (sS i) mb f e).testBit t = true) (hm : m0 + e < 120) {x : Nat} (hx : x ≤ e) (hP : ∀ i', wfr i i' → P ((pt (sS i) mb f t e x : Nat) : Int) i' l) : ∀ r j : Nat, j + r = e + 1 → ∀ i', wfr i i' → cmI i' (sS i) mb f m0 (e + 1) 0 → ldI i' (sS i) mb f t e m0 j 0 → gI w d X_X12_way P i' l 56 [(0, vR (some 99)), (2, vI (m0 : Int)), (3, vI (f : Int)), (4, vI (t : Int)), (5, vI ((m0 : Int) + (x : Int))), (6, vI ((m0 : Int) + (e : Int))), (7, vI ((m0 : Int) + (e : Int) - (j : Int)))] [] := by
  intro r
  induction r with
  | zero =>
    intro j hj i' hi hcm hl
    have ej : j = e + 1 := by omega
    subst ej
    have e1 : i' 101 = i 101 := wfr_c hi (by decide) (by decide) (by decide) (by decide)
    have h5 := lp_way5 (w := w) (P := P) hd hk hS ht he hm hx e1 hl (hP i' hi) x 0 (Nat.zero_add _)
    have e2 : (m0 : Int) + ((0 : Nat) : Int) + 1 = (m0 : Int) + 1 := by omega
    rw [e2] at h5
    exact s_X12_way_56 _ _ _ _ _ _ ⟨⟨by omega, by omega⟩, ⟨by omega, by omega⟩, fun _ => h5, fun q => by omega⟩
  | succ r ih =>
    intro j hj i' hi hcm hl
    have e2 : (m0 : Int) + (e : Int) - (j : Int) = (m0 : Int) + ((e - j : Nat) : Int) := by omega
    have e3 : (m0 : Int) + (e : Int) - ((j + 1 : Nat) : Int) = (m0 : Int) + ((e - j : Nat) : Int) + (-1) := by omega
    refine s_X12_way_56 _ _ _ _ _ _ ⟨⟨by omega, by omega⟩, ⟨by omega, by omega⟩, fun q => by omega, fun q => ?_⟩
    rw [e2]
    refine lp_way2 hd hk hS ht he hm (by omega) (fun i2 h2 h3 h4 => ?_) 10 0 rfl i' hi hcm hl
    have := ih (j + 1) (by omega) i2 h2 h3 h4
    rw [e3] at this
    exact this
theorem sp_X12_way {P : Int → IM → LM → Prop} {i : IM} {A : Nat → List Cla} (hd : 84 ≤ d) (hk : kOK (i 101)) (hS : SymS (sS i)) (hf : forceM (i 101) A) (hc : hasDep (inForce (i 101) A)) {p m f t a : Int} (h0 : rg p) (h1 : rg m) (h2 : rg f) (h3 : rg t) (h4 : rg a) (hP : ∀ i', wfr i i' → P (mWay i (inForce (i 101) A) p m f t a) i' l) : cI w d X_X12_way [vR (some 99), vI p, vI m, vI f, vI t, vI a] i l P := by
  obtain ⟨d, rfl, hd1⟩ := d_pos hd
  have h309 := hk.1.2.2.1
  unfold mWay at hP
  refine e_X12_way (s_X12_way _ _ _ _ _ (by omega) (sp_X12_isWay (by omega) hk h0 h1 h2 h3 ⟨fun _ => h4, fun q => ?_, fun q => ?_⟩))
  · by_cases q2 : isW i p m f t
    · rw [if_pos q2] at hP
      have ha : ¬ (0 ≤ a ∧ a ≤ 119) := by
        rcases q with q | q
        · rw [bI_eq] at q; exact absurd q2 q
        · exact q
      have hp := hP i (wfr_rf i)
      cases hs : snI i (inForce (i 101) A) p m f t with
      | none => rw [hs] at hp; exact hp
      | some e =>
        rw [hs] at hp
        have hb := (sn_some _ _ hs).2
        have hm := q2.2.1
        have hp2 : P (if m ≤ a ∧ a ≤ m + (e : Int) then (pt (sS i) (mbK i (inForce (i 101) A) p m.toNat) f.toNat t.toNat e (a - m).toNat : Int) else -1) i l := hp
        rw [if_neg (by omega)] at hp2
        exact hp2
    · rw [if_neg q2] at hP
      exact hP i (wfr_rf i)
  · have q2 : isW i p m f t := by
      by_cases z : isW i p m f t
      · exact z
      · exact absurd (Or.inl ((bI_eq _).mpr z)) q
    rw [if_pos q2] at hP
    obtain ⟨m, rfl⟩ := Int.eq_ofNat_of_zero_le q2.2.1.1
    obtain ⟨f, rfl⟩ := Int.eq_ofNat_of_zero_le q2.2.2.1.1
    obtain ⟨t, rfl⟩ := Int.eq_ofNat_of_zero_le q2.2.2.2.1
    have hm := q2.2.1.2
    have hff := q2.2.2.1.2
    have htt := q2.2.2.2.2
    have hp := q2.1
    refine sp_X12_soonOf (by omega) hk hf hc ⟨by omega, by omega⟩ (by omega) (by omega) (by omega) (fun e he i' hi hcm => ?_) (fun he i' hi => ?_)
    · have e2 : snI i (inForce (i 101) A) p (m : Int) (f : Int) (t : Int) = some e := he
      rw [e2] at hP
      have hP2 : ∀ i', wfr i i' → P (if (m : Int) ≤ a ∧ a ≤ (m : Int) + (e : Int) then ((pt (sS i) (mbK i (inForce (i 101) A) p m) f t e (a - (m : Int)).toNat : Nat) : Int) else -1) i' l := hP
      have hb := sn_some _ _ he
      refine ⟨fun _ => h4, fun _ => h1, fun z => ?_, fun z => ?_⟩
      · have hp3 := hP2 i' hi
        rw [if_neg (by rcases z with z | z; omega; exact z)] at hp3
        exact hp3
      · have hr : (m : Int) ≤ a ∧ a ≤ (m : Int) + (e : Int) := by
          by_cases y : (m : Int) ≤ a ∧ a ≤ (m : Int) + (e : Int)
          · exact y
          · exact absurd (Or.inr y) z
        rw [if_pos hr] at hP2
        have ea : a = (m : Int) + (((a - (m : Int)).toNat : Nat) : Int) := by omega
        have h1' := lp_way1 (w := w) (l := l) (P := P) (d := d) (by omega) hk hS (show t < 10 by omega) (show f < 10 by omega) hb.1 (show m + e < 120 by omega) (x := (a - (m : Int)).toNat) (by omega) hP2 (e + 1) 0 (Nat.zero_add _) i' hi hcm ⟨fun x y h => by omega, fun y h => by omega⟩
        rw [← ea] at h1'
        have e5 : (m : Int) + (e : Int) - ((0 : Nat) : Int) = (m : Int) + (e : Int) := by omega
        rw [e5] at h1'
        exact h1'
    · have e2 : snI i (inForce (i 101) A) p (m : Int) (f : Int) (t : Int) = none := he
      rw [e2] at hP
      exact ⟨fun z => absurd rfl z, fun z => absurd rfl z, fun _ => hP i' hi, fun z => absurd (Or.inl rfl) z⟩
end
