/-! WAYS in the model -/
section
variable {w : Wd} {d : Nat} {i : IM} {l : LM}
def mbC (i : IM) (cs : List Cla) (p pl m : Int) (v : Nat) : Bool := decide (¬ iand (ishr (i 101 (80 + 3 * (v : Int) + 1)) pl) 1 = 1) || decide (popI (mSeen i cs (v : Int) m p pl) ≤ fLimit cs (v : Int) (i 101 313) m)
def mbG (i : IM) (cs : List Cla) (p pl m : Int) : Nat → Bool
  | 0 => true
  | n + 1 => mbG i cs p pl m n && mbC i cs p pl m n
def mbF (i : IM) (cs : List Cla) (p pl m : Int) : Bool := mbG i cs p pl m (i 101 308).toNat
theorem mbG_iff (i : IM) (cs : List Cla) (p pl m : Int) : ∀ n, mbG i cs p pl m n = true ↔ ∀ v, v < n → mbC i cs p pl m v = true
  | 0 => ⟨fun _ v h => by omega, fun _ => rfl⟩
  | n + 1 => by
    unfold mbG
    rw [Bool.and_eq_true, mbG_iff i cs p pl m n]
    constructor
    · rintro ⟨h1, h2⟩ v hv
      by_cases e : v = n
      · rw [e]; exact h2
      · exact h1 v (by omega)
    · intro h
      exact ⟨fun v hv => h v (by omega), h n (by omega)⟩
theorem lp_mayBe {P : Int → IM → LM → Prop} {i : IM} {A : Nat → List Cla} (hd : 79 ≤ d) (hk : kOK (i 101)) (hf : forceM (i 101) A) (hc : hasDep (inForce (i 101) A)) {p pl m : Int} (hp : 0 ≤ p ∧ p < 5) (hpl : 0 ≤ pl ∧ pl < 10) (hm : 0 ≤ m ∧ m < 120) (hP1 : mbF i (inForce (i 101) A) p pl m = true → ∀ i', scrM i i' → P 1 i' l) (hP0 : ¬ mbF i (inForce (i 101) A) p pl m = true → ∀ i', scrM i i' → P 0 i' l) : ∀ r v : Nat, v + r = (i 101 308).toNat → mbG i (inForce (i 101) A) p pl m v = true → ∀ i', scrM i i' → gI w d X_X12_mayBe P i' l 3 [(0, vR (some 99)), (1, vI p), (2, vI pl), (3, vI m), (4, vI (v : Int))] [] := by
  have h308 := hk.1.2.1
  have h313 := hk.1.2.2.2.2.2
  intro r
  induction r with
  | zero =>
    intro v hv hg i' hi
    have e1 : i' 101 = i 101 := scrM_c hi (by decide) (by decide)
    have e : v = (i 101 308).toNat := by omega
    rw [e] at hg
    exact s_X12_mayBe_3 _ _ _ _ (by omega) ⟨⟨by omega, by omega⟩, fun q => by rw [e1] at q; omega, fun _ => hP1 hg i' hi, fun q => by rw [e1] at q; omega, fun q => by rw [e1] at q; omega⟩
  | succ r ih =>
    intro v hv hg i' hi
    have e1 : i' 101 = i 101 := scrM_c hi (by decide) (by decide)
    have hnx := ih (v + 1) (by omega)
    have hgs : mbG i (inForce (i 101) A) p pl m (v + 1) = mbC i (inForce (i 101) A) p pl m v := by
      unfold mbG
      rw [hg, Bool.true_and]
    refine s_X12_mayBe_3 _ _ _ _ (by omega) ⟨⟨by omega, by omega⟩, fun q => ⟨by omega, by omega⟩, fun q => by rw [e1] at q; omega, fun q => ?_, fun q => ?_⟩
    · have q2 := q.2
      rw [e1] at q2
      refine hnx ?_ i' hi
      rw [hgs]
      unfold mbC
      rw [decide_eq_true q2, Bool.true_or]
    · have q2 := q.2
      rw [e1] at q2
      refine sp_X12_seen (by omega) (A := A) (by rw [e1]; exact hk) (by rw [e1]; exact hf) (by rw [e1]; exact hc) ⟨by omega, by omega⟩ ⟨by omega, by omega⟩ ⟨by omega, by omega⟩ ⟨by omega, by omega⟩ (fun i2 hi2 => ?_)
      have e2 : i2 101 = i 101 := (scrM_c hi2 (by decide) (by decide)).trans e1
      rw [e1, mSeen_K e1]
      obtain ⟨b, hb, hb2⟩ := mSeen_nat hk (inForce (i 101) A) (v : Int) m p pl
      refine ⟨by rw [hb]; exact ⟨by omega, by omega⟩, ?_⟩
      refine sp_X12_limitOf (by omega) (A := A) (by rw [e2]; exact hf) (by rw [e2]; exact hc) ⟨by omega, by omega⟩ (by rw [e2]; exact ⟨by omega, by omega⟩) ⟨by omega, by omega⟩ (fun i3 hi3 => ?_)
      rw [e2]
      have hi4 := scrM_tr (scrM_tr hi hi2) hi3
      refine ⟨fun q3 => hnx ?_ i3 hi4, fun q3 => hP0 ?_ i3 hi4⟩
      · rw [hgs]
        unfold mbC
        rw [decide_eq_true q3, Bool.or_true]
      · intro z
        have := (mbG_iff _ _ _ _ _ _).mp z v (by omega)
        unfold mbC at this
        rw [decide_eq_false (fun y => y q2), decide_eq_false q3] at this
        cases this
theorem sp_X12_mayBe {P : Int → IM → LM → Prop} {i : IM} {A : Nat → List Cla} (hd : 80 ≤ d) (hk : kOK (i 101)) (hf : forceM (i 101) A) (hc : hasDep (inForce (i 101) A)) {p pl m : Int} (hp : 0 ≤ p ∧ p < 5) (hpl : 0 ≤ pl ∧ pl < 10) (hm : 0 ≤ m ∧ m < 120) (hP1 : mbF i (inForce (i 101) A) p pl m = true → ∀ i', scrM i i' → P 1 i' l) (hP0 : ¬ mbF i (inForce (i 101) A) p pl m = true → ∀ i', scrM i i' → P 0 i' l) : cI w d X_X12_mayBe [vR (some 99), vI p, vI pl, vI m] i l P := by
  obtain ⟨d, rfl, hd1⟩ := d_pos hd
  exact e_X12_mayBe (s_X12_mayBe _ _ _ (lp_mayBe hd1 hk hf hc hp hpl hm hP1 hP0 _ 0 (Nat.zero_add _) rfl i (scrM_rf i)))
/-- STREETS as sets -/
def sS (i : IM) (a : Nat) : Nat := (i 101 (104 + (a : Int))).toNat
theorem sS_lt (hk : kOK (i 101)) {a : Nat} (ha : a < 10) : sS i a < 1024 := by
  have := hk.2.2.2.1 a (by omega) (by omega)
  unfold sS; omega
theorem mStep_eq (hk : kOK (i 101)) {a b : Nat} (ha : a < 10) (hb : b < 10) : mStep i (a : Int) (b : Int) = stp (sS i) a b := by
  have h := hk.2.2.2.1 a (by omega) (by omega)
  have e : i 101 (104 + (a : Int)) = ((sS i a : Nat) : Int) := by unfold sS; omega
  have hl := sS_lt hk ha
  unfold mStep stp
  rw [e, ibit_nat (by omega) (by omega), bit_div]
  congr 1
  · by_cases c : a = b
    · subst c; simp
    · rw [decide_eq_false (by omega)]; simp [c]
  · by_cases c : (sS i a).testBit b = true
    · rw [if_pos c, c]; rfl
    · rw [if_neg c]
      have : (sS i a).testBit b = false := by simpa using c
      rw [this]; rfl
/-- WAYS change but the model's marks -/
def wfr (i i' : IM) : Prop := ∀ (a : Nat) (k : Int), a ≠ 110 → a ≠ 120 → a ≠ 121 → (a ≠ 99 ∨ (k ≠ 19 ∧ k ≠ 20 ∧ k ≠ 21)) → i' a k = i a k
theorem wfr_rf (i : IM) : wfr i i := fun _ _ _ _ _ _ => rfl
theorem wfr_tr {i j k : IM} (h1 : wfr i j) (h2 : wfr j k) : wfr i k := fun a x p1 p2 p3 p4 => (h2 a x p1 p2 p3 p4).trans (h1 a x p1 p2 p3 p4)
theorem wfr_s {i i' : IM} (h : scrM i i') : wfr i i' := fun a x p1 _ _ p4 => h a x p1 p4
theorem wfr_u {i : IM} {a : Nat} {k v : Int} (h : a = 120 ∨ a = 121) : wfr i (u2 i a k v) := fun b x _ p2 p3 _ => if_neg (fun z => by omega)
theorem wfr_c {i i' : IM} (h : wfr i i') {a : Nat} (h1 : a ≠ 110) (h2 : a ≠ 120) (h3 : a ≠ 121) (h4 : a ≠ 99) : i' a = i a := funext fun k => h a k h1 h2 h3 (Or.inl h4)
abbrev mbK (i : IM) (cs : List Cla) (p : Int) (m0 : Nat) : Nat → Nat → Bool := fun b k => mbF i cs p (b : Int) ((m0 + k : Nat) : Int)
/-- reached, for k MINUTES and b PLACES more -/
def cmI (i' : IM) (S : Nat → Nat) (mb : Nat → Nat → Bool) (f m0 k b : Nat) : Prop := (∀ x y : Nat, x < k → y < 10 → i' 120 (10 * ((m0 : Int) + (x : Int)) + (y : Int)) = bI ((rk S mb f x).testBit y = true)) ∧ (∀ y : Nat, y < b → i' 120 (10 * ((m0 : Int) + (k : Int)) + (y : Int)) = bI ((rk S mb f k).testBit y = true))
theorem cmI_s {i' i2 : IM} {S : Nat → Nat} {mb : Nat → Nat → Bool} {f m0 k b : Nat} (e : i2 120 = i' 120) (h : cmI i' S mb f m0 k b) : cmI i2 S mb f m0 k b := by
  unfold cmI; rw [e]; exact h
theorem cmI_u {i' : IM} {S : Nat → Nat} {mb : Nat → Nat → Bool} {f m0 k b : Nat} (hb : b < 10) (h : cmI i' S mb f m0 k b) {x : Int} (hx : x = bI ((rk S mb f k).testBit b = true)) : cmI (u2 i' 120 (10 * ((m0 : Int) + (k : Int)) + (b : Int)) x) S mb f m0 k (b + 1) := by
  refine ⟨fun y z hy hz => ?_, fun z hz => ?_⟩
  · show (if (120 : Nat) = 120 ∧ 10 * ((m0 : Int) + (y : Int)) + (z : Int) = 10 * ((m0 : Int) + (k : Int)) + (b : Int) then x else i' 120 (10 * ((m0 : Int) + (y : Int)) + (z : Int))) = _
    rw [if_neg (fun c => by have := c.2; omega)]
    exact h.1 y z hy hz
  · show (if (120 : Nat) = 120 ∧ 10 * ((m0 : Int) + (k : Int)) + (z : Int) = 10 * ((m0 : Int) + (k : Int)) + (b : Int) then x else i' 120 (10 * ((m0 : Int) + (k : Int)) + (z : Int))) = _
    by_cases c : z = b
    · subst c; rw [if_pos ⟨rfl, rfl⟩]; exact hx
    · rw [if_neg (fun c2 => by have := c2.2; omega)]
      exact h.2 z (by omega)
theorem cmI_up {i' : IM} {S : Nat → Nat} {mb : Nat → Nat → Bool} {f m0 k : Nat} (h : cmI i' S mb f m0 k 10) : cmI i' S mb f m0 (k + 1) 0 := by
  refine ⟨fun y z hy hz => ?_, fun z hz => by omega⟩
  by_cases c : y = k
  · subst c; exact h.2 z hz
  · exact h.1 y z (by omega) hz
/-- a step from one of the first n PLACES of a set -/
def exB (S : Nat → Nat) (x b : Nat) : Nat → Bool
  | 0 => false
  | n + 1 => exB S x b n || (x.testBit n && stp S n b)
theorem exB_iff (S : Nat → Nat) (x b : Nat) : ∀ n, exB S x b n = true ↔ ∃ a, a < n ∧ x.testBit a = true ∧ stp S a b = true
  | 0 => ⟨fun h => (by cases h), fun ⟨a, h, _⟩ => (by omega)⟩
  | n + 1 => by
    unfold exB
    rw [Bool.or_eq_true, Bool.and_eq_true, exB_iff S x b n]
    constructor
    · rintro (⟨a, h1, h2⟩ | h)
      · exact ⟨a, by omega, h2⟩
      · exact ⟨n, by omega, h⟩
    · rintro ⟨a, h1, h2⟩
      by_cases e : a = n
      · subst e; exact Or.inr h2
      · exact Or.inl ⟨a, by omega, h2⟩
theorem bI_rg (q : Prop) [Decidable q] : rg (bI q) := by have := bI_le q; exact ⟨by omega, by omega⟩
theorem lp_soon4 {P : Int → IM → LM → Prop} {i : IM} {A : Nat → List Cla} (hd : 81 ≤ d) (hk : kOK (i 101)) (hf : forceM (i 101) A) (hc : hasDep (inForce (i 101) A)) {p : Int} (hp : 0 ≤ p ∧ p < 5) {m0 f t k b : Nat} (hm : m0 + k < 120) (hb : b < 10) (ht : t < 10) (hf2 : f < 10) (hnext : ∀ i', wfr i i' → cmI i' (sS i) (mbK i (inForce (i 101) A) p m0) f m0 k (b + 1) → gI w d X_X12_soonOf P i' l 13 [(0, vR (some 99)), (1, vI p), (2, vI (m0 : Int)), (3, vI (f : Int)), (4, vI (t : Int)), (5, vI ((m0 : Int) + (k : Int))), (6, vI ((b : Int) + 1))] []) {i' : IM} (hi : wfr i i') (hcm : cmI i' (sS i) (mbK i (inForce (i 101) A) p m0) f m0 k b) : gI w d X_X12_soonOf P i' l 106 [(0, vR (some 99)), (1, vI p), (2, vI (m0 : Int)), (3, vI (f : Int)), (4, vI (t : Int)), (5, vI ((m0 : Int) + (k : Int))), (6, vI (b : Int)), (7, vI (bI ((cand (sS i) (mbK i (inForce (i 101) A) p m0) f k).testBit b = true)))] [] := by
  have e1 : i' 101 = i 101 := wfr_c hi (by decide) (by decide) (by decide) (by decide)
  have hrk : (rk (sS i) (mbK i (inForce (i 101) A) p m0) f k).testBit b = true ↔ ((cand (sS i) (mbK i (inForce (i 101) A) p m0) f k).testBit b = true ∧ mbF i (inForce (i 101) A) p (b : Int) ((m0 : Int) + (k : Int)) = true) := by
    rw [rk_cand, flt_bit]
    show b < 10 ∧ _ ∧ mbF i (inForce (i 101) A) p (b : Int) ((m0 + k : Nat) : Int) = true ↔ _
    rw [Int.natCast_add]
    exact ⟨fun h => h.2, fun h => ⟨hb, h⟩⟩
  refine s_X12_soonOf_106 _ _ _ _ _ _ _ ⟨bI_rg _, fun q => ⟨⟨by omega, by omega⟩, ?_⟩, fun q => ?_⟩
  · rw [bI_eq] at q
    exact hnext _ (wfr_tr hi (wfr_u (Or.inl rfl))) (cmI_u hb hcm (by rw [bI_f (fun z => q (hrk.mp z).1)]))
  · rw [bI_eq] at q
    have hcd : (cand (sS i) (mbK i (inForce (i 101) A) p m0) f k).testBit b = true := by
      by_cases z : (cand (sS i) (mbK i (inForce (i 101) A) p m0) f k).testBit b = true
      · exact z
      · exact absurd z q
    have emb : mbF i' = mbF i := by
      funext cs p pl m
      have eC : mbC i' = mbC i := by funext cs p pl m v; unfold mbC; rw [e1, mSeen_K e1]
      have eG : ∀ n, mbG i' cs p pl m n = mbG i cs p pl m n := by
        intro n
        induction n with
        | zero => rfl
        | succ n ih => unfold mbG; rw [ih, eC]
      unfold mbF
      rw [eG, e1]
    refine sp_X12_mayBe (by omega) (A := A) (by rw [e1]; exact hk) (by rw [e1]; exact hf) (by rw [e1]; exact hc) hp ⟨by omega, by omega⟩ ⟨by omega, by omega⟩ (fun q2 i2 hi2 => ⟨⟨by omega, by omega⟩, ?_⟩) (fun q2 i2 hi2 => ⟨⟨by omega, by omega⟩, ?_⟩)
    · rw [e1, emb] at q2
      refine hnext _ (wfr_tr (wfr_tr hi (wfr_s hi2)) (wfr_u (Or.inl rfl))) (cmI_u hb (cmI_s (scrM_c hi2 (by decide) (by decide)) hcm) ?_)
      rw [bI_t (show ¬ (1 : Int) = 0 by decide), bI_t (hrk.mpr ⟨hcd, q2⟩)]
    · rw [e1, emb] at q2
      refine hnext _ (wfr_tr (wfr_tr hi (wfr_s hi2)) (wfr_u (Or.inl rfl))) (cmI_u hb (cmI_s (scrM_c hi2 (by decide) (by decide)) hcm) ?_)
      rw [bI_f (show ¬ ¬ (0 : Int) = 0 by decide), bI_f (fun z => q2 (hrk.mp z).2)]
theorem lp_soon3 {P : Int → IM → LM → Prop} {i : IM} {A : Nat → List Cla} (hd : 81 ≤ d) (hk : kOK (i 101)) (hf : forceM (i 101) A) (hc : hasDep (inForce (i 101) A)) {p : Int} (hp : 0 ≤ p ∧ p < 5) {m0 f t k b : Nat} (hm : m0 + (k + 1) < 120) (hb : b < 10) (ht : t < 10) (hf2 : f < 10) (hnext : ∀ i', wfr i i' → cmI i' (sS i) (mbK i (inForce (i 101) A) p m0) f m0 (k + 1) (b + 1) → gI w d X_X12_soonOf P i' l 13 [(0, vR (some 99)), (1, vI p), (2, vI (m0 : Int)), (3, vI (f : Int)), (4, vI (t : Int)), (5, vI ((m0 : Int) + ((k + 1 : Nat) : Int))), (6, vI ((b : Int) + 1))] []) {i' : IM} (hi : wfr i i') (hcm : cmI i' (sS i) (mbK i (inForce (i 101) A) p m0) f m0 (k + 1) b) : ∀ r a : Nat, a + r = 10 → gI w d X_X12_soonOf P i' l 46 [(0, vR (some 99)), (1, vI p), (2, vI (m0 : Int)), (3, vI (f : Int)), (4, vI (t : Int)), (5, vI ((m0 : Int) + ((k + 1 : Nat) : Int))), (6, vI (b : Int)), (7, vI (bI (exB (sS i) (rk (sS i) (mbK i (inForce (i 101) A) p m0) f k) b a = true))), (8, vI (a : Int))] [] := by
  have e1 : i' 101 = i 101 := wfr_c hi (by decide) (by decide) (by decide) (by decide)
  have eS : mStep i' = mStep i := by funext x y; unfold mStep; rw [e1]
  intro r
  induction r with
  | zero =>
    intro a ha
    have e : a = 10 := by omega
    subst e
    have hl := lp_soon4 hd hk hf hc hp hm hb ht hf2 hnext hi hcm
    have ec : (cand (sS i) (mbK i (inForce (i 101) A) p m0) f (k + 1)).testBit b = true ↔ exB (sS i) (rk (sS i) (mbK i (inForce (i 101) A) p m0) f k) b 10 = true := by
      rw [exB_iff]
      exact withS_bit (rk_lt _ _ _ _) b
    rw [bI_congr ec] at hl
    refine s_X12_soonOf_46 _ _ _ _ _ _ _ _ (by omega) ⟨⟨by omega, by omega⟩, fun q => by omega, fun q => by omega, fun q => by omega, fun _ => hl, fun q => by omega, fun q => by omega⟩
  | succ r ih =>
    intro a ha
    have hnx := ih (a + 1) (by omega)
    have e2 : (10 * (((m0 : Int) + ((k + 1 : Nat) : Int)) - 1)) + (a : Int) = 10 * ((m0 : Int) + (k : Int)) + (a : Int) := by omega
    have h120 := hcm.1 k a (by omega) (by omega)
    refine s_X12_soonOf_46 _ _ _ _ _ _ _ _ (by omega) ⟨⟨by omega, by omega⟩, fun q => ⟨by omega, by omega⟩, fun q => ⟨by omega, by omega⟩, fun _ _ => bI_rg _, fun q => by omega, fun q => ?_, fun q => ?_⟩
    · have q2 := q.2.2
      rw [bI_eq] at q2
      have hex : exB (sS i) (rk (sS i) (mbK i (inForce (i 101) A) p m0) f k) b a = true := by
        by_cases z : exB (sS i) (rk (sS i) (mbK i (inForce (i 101) A) p m0) f k) b a = true
        · exact z
        · exact absurd z q2
      rw [bI_t (show exB (sS i) (rk (sS i) (mbK i (inForce (i 101) A) p m0) f k) b (a + 1) = true by unfold exB; rw [hex, Bool.true_or])] at hnx
      exact hnx
    · have q2 := q.2.2
      rw [bI_eq] at q2
      have hex : exB (sS i) (rk (sS i) (mbK i (inForce (i 101) A) p m0) f k) b a = false := by simpa using q2
      refine ⟨⟨by omega, by omega⟩, fun _ => ⟨by omega, by omega⟩, fun _ => ⟨by omega, by omega⟩, fun _ => ⟨by omega, by omega⟩, ?_⟩
      rw [e2, h120, eS, mStep_eq hk (by omega) hb]
      rw [bI_congr (p := ¬ bI ((rk (sS i) (mbK i (inForce (i 101) A) p m0) f k).testBit a = true) = 0 ∧ stp (sS i) a b = true) (q := exB (sS i) (rk (sS i) (mbK i (inForce (i 101) A) p m0) f k) b (a + 1) = true) (by
        rw [bI_eq]
        unfold exB
        rw [hex, Bool.false_or, Bool.and_eq_true]
        constructor
        · rintro ⟨z1, z2⟩; exact ⟨by simpa using z1, z2⟩
        · rintro ⟨z1, z2⟩; exact ⟨fun y => y z1, z2⟩)]
      exact hnx
theorem lp_soon2 {P : Int → IM → LM → Prop} {i : IM} {A : Nat → List Cla} (hd : 81 ≤ d) (hk : kOK (i 101)) (hf : forceM (i 101) A) (hc : hasDep (inForce (i 101) A)) {p : Int} (hp : 0 ≤ p ∧ p < 5) {m0 f t k : Nat} (hm : m0 + k < 120) (ht : t < 10) (hf2 : f < 10) (hyes : (rk (sS i) (mbK i (inForce (i 101) A) p m0) f k).testBit t = true → ∀ i', wfr i i' → cmI i' (sS i) (mbK i (inForce (i 101) A) p m0) f m0 (k + 1) 0 → P ((m0 : Int) + (k : Int)) i' l) (hno : ¬ (rk (sS i) (mbK i (inForce (i 101) A) p m0) f k).testBit t = true → ∀ i', wfr i i' → cmI i' (sS i) (mbK i (inForce (i 101) A) p m0) f m0 (k + 1) 0 → gI w d X_X12_soonOf P i' l 3 [(0, vR (some 99)), (1, vI p), (2, vI (m0 : Int)), (3, vI (f : Int)), (4, vI (t : Int)), (5, vI ((m0 : Int) + ((k + 1 : Nat) : Int)))] []) : ∀ r b : Nat, b + r = 10 → ∀ i', wfr i i' → cmI i' (sS i) (mbK i (inForce (i 101) A) p m0) f m0 k b → gI w d X_X12_soonOf P i' l 13 [(0, vR (some 99)), (1, vI p), (2, vI (m0 : Int)), (3, vI (f : Int)), (4, vI (t : Int)), (5, vI ((m0 : Int) + (k : Int))), (6, vI (b : Int))] [] := by
  intro r
  induction r with
  | zero =>
    intro b hb i' hi hcm
    have e : b = 10 := by omega
    subst e
    have h120 := hcm.2 t ht
    have e3 : (m0 : Int) + (k : Int) + 1 = (m0 : Int) + ((k + 1 : Nat) : Int) := by omega
    refine s_X12_soonOf_13 _ _ _ _ _ _ ⟨⟨by omega, by omega⟩, fun _ => ⟨by omega, by omega⟩, fun q => by omega, fun q => by omega, fun q => ?_, fun q => ⟨⟨by omega, by omega⟩, ?_⟩, fun q => by omega, fun q => by omega⟩
    · have q2 := q.2
      rw [h120, bI_eq] at q2
      rw [e3]
      exact hno q2 i' hi (cmI_up hcm)
    · have q2 := q.2
      rw [h120, bI_eq] at q2
      exact hyes (by simpa using q2) i' hi (cmI_up hcm)
  | succ r ih =>
    intro b hb i' hi hcm
    have hnx := fun i2 h2 h3 => ih (b + 1) (by omega) i2 h2 h3
    refine s_X12_soonOf_13 _ _ _ _ _ _ ⟨⟨by omega, by omega⟩, fun q => by omega, fun _ => ⟨by omega, by omega⟩, fun _ => ⟨by omega, by omega⟩, fun q => by omega, fun q => by omega, fun q => ?_, fun q => ⟨⟨by omega, by omega⟩, ⟨by omega, by omega⟩, ?_⟩⟩
    · cases k with
      | zero => exact absurd (by omega) q.2
      | succ k =>
        have := lp_soon3 hd hk hf hc hp hm (by omega) ht hf2 hnx hi hcm 10 0 rfl
        exact this
    · cases k with
      | zero =>
        have hl := lp_soon4 hd hk hf hc hp hm (show b < 10 by omega) ht hf2 hnx hi hcm
        have ec : (cand (sS i) (mbK i (inForce (i 101) A) p m0) f 0).testBit b = true ↔ (b : Int) = (f : Int) := by
          show (2 ^ f).testBit b = true ↔ _
          rw [bit_pow]
          omega
        rw [bI_congr ec] at hl
        exact s_X12_soonOf_46 _ _ _ _ _ _ _ _ (by omega) ⟨⟨by omega, by omega⟩, fun _ => ⟨by omega, by omega⟩, fun _ => ⟨by omega, by omega⟩, fun _ _ => bI_rg _, fun _ => hl, fun q => by omega, fun q => by omega⟩
      | succ k => have := q.2; omega
theorem lp_soon1 {P : Int → IM → LM → Prop} {i : IM} {A : Nat → List Cla} (hd : 81 ≤ d) (hk : kOK (i 101)) (hf : forceM (i 101) A) (hc : hasDep (inForce (i 101) A)) {p : Int} (hp : 0 ≤ p ∧ p < 5) {m0 f t : Nat} (hm : m0 < 120) (ht : t < 10) (hf2 : f < 10) (hyes : ∀ e, sn (sS i) (mbK i (inForce (i 101) A) p m0) f t (120 - m0) 0 = some e → ∀ i', wfr i i' → cmI i' (sS i) (mbK i (inForce (i 101) A) p m0) f m0 (e + 1) 0 → P ((m0 : Int) + (e : Int)) i' l) (hno : sn (sS i) (mbK i (inForce (i 101) A) p m0) f t (120 - m0) 0 = none → ∀ i', wfr i i' → P (-1) i' l) : ∀ r k : Nat, k + r = 120 - m0 → sn (sS i) (mbK i (inForce (i 101) A) p m0) f t (120 - m0) 0 = sn (sS i) (mbK i (inForce (i 101) A) p m0) f t r k → ∀ i', wfr i i' → cmI i' (sS i) (mbK i (inForce (i 101) A) p m0) f m0 k 0 → gI w d X_X12_soonOf P i' l 3 [(0, vR (some 99)), (1, vI p), (2, vI (m0 : Int)), (3, vI (f : Int)), (4, vI (t : Int)), (5, vI ((m0 : Int) + (k : Int)))] [] := by
  intro r
  induction r with
  | zero =>
    intro k hk2 hsn i' hi hcm
    exact s_X12_soonOf_3 _ _ _ _ _ ⟨⟨by omega, by omega⟩, fun _ => hno hsn i' hi, fun q => by omega⟩
  | succ r ih =>
    intro k hk2 hsn i' hi hcm
    refine s_X12_soonOf_3 _ _ _ _ _ ⟨⟨by omega, by omega⟩, fun q => by omega, fun q => ?_⟩
    unfold sn at hsn
    rw [show sn (sS i) (mbK i (inForce (i 101) A) p m0) f t (120 - m0) 0 = (match (120 - m0), (0 : Nat) with
      | 0, _ => none
      | r + 1, k => if (rk (sS i) (mbK i (inForce (i 101) A) p m0) f k).testBit t = true then some k else sn (sS i) (mbK i (inForce (i 101) A) p m0) f t r (k + 1)) from by cases (120 - m0) <;> rfl] at hyes hno ih
    refine lp_soon2 hd hk hf hc hp (by omega) ht hf2 (fun z i2 h2 h3 => ?_) (fun z i2 h2 h3 => ?_) 10 0 rfl i' hi hcm
    · rw [if_pos z] at hsn
      exact hyes k hsn i2 h2 h3
    · rw [if_neg z] at hsn
      exact ih (k + 1) (by omega) hsn i2 h2 h3
theorem sp_X12_soonOf {P : Int → IM → LM → Prop} {i : IM} {A : Nat → List Cla} (hd : 82 ≤ d) (hk : kOK (i 101)) (hf : forceM (i 101) A) (hc : hasDep (inForce (i 101) A)) {p : Int} (hp : 0 ≤ p ∧ p < 5) {m0 f t : Nat} (hm : m0 < 120) (ht : t < 10) (hf2 : f < 10) (hyes : ∀ e, sn (sS i) (mbK i (inForce (i 101) A) p m0) f t (120 - m0) 0 = some e → ∀ i', wfr i i' → cmI i' (sS i) (mbK i (inForce (i 101) A) p m0) f m0 (e + 1) 0 → P ((m0 : Int) + (e : Int)) i' l) (hno : sn (sS i) (mbK i (inForce (i 101) A) p m0) f t (120 - m0) 0 = none → ∀ i', wfr i i' → P (-1) i' l) : cI w d X_X12_soonOf [vR (some 99), vI p, vI (m0 : Int), vI (f : Int), vI (t : Int)] i l P := by
  obtain ⟨d, rfl, hd1⟩ := d_pos hd
  have := lp_soon1 (w := w) (l := l) (d := d) hd1 hk hf hc hp hm ht hf2 hyes hno (120 - m0) 0 (Nat.zero_add _) rfl i (wfr_rf i) ⟨fun x y h => by omega, fun y h => by omega⟩
  refine e_X12_soonOf (s_X12_soonOf _ _ _ _ ?_)
  have e : (m0 : Int) + ((0 : Nat) : Int) = (m0 : Int) := by omega
  rw [e] at this
  exact this
end
