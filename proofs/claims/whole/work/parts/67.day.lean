/-! a DAY by DRAWS -/
section
variable {w : Wd} {d : Nat} {i : IM} {l : LM}
def dOne (K : Int → Int) (z : Bool) (s pl : Int) : Int := if z = true then drN s % 10 else dGo K s pl
def dRow (K : Int → Int) (z : Bool) : Nat → Int × (Int → Int) → Int × (Int → Int)
  | 0, st => st
  | n + 1, st => (drN (dRow K z n st).1, fun p => if p = (n : Int) then dOne K z (dRow K z n st).1 ((dRow K z n st).2 (n : Int)) else (dRow K z n st).2 p)
def dAll (K : Int → Int) (N : Nat) (seed : Int) : Nat → Int × (Int → Int)
  | 0 => (seed, fun _ => 0)
  | m + 1 => dRow K (m == 0) N (dAll K N seed m)
theorem dRow_old (K : Int → Int) (z : Bool) (st : Int × (Int → Int)) {p : Int} : ∀ n : Nat, (n : Int) ≤ p → (dRow K z n st).2 p = st.2 p
  | 0, _ => rfl
  | n + 1, h => by
    show (if p = (n : Int) then _ else (dRow K z n st).2 p) = _
    rw [if_neg (by omega), dRow_old K z st n (by omega)]
def dOK (st : Int × (Int → Int)) : Prop := (0 ≤ st.1 ∧ st.1 < 1000003) ∧ ∀ p, 0 ≤ st.2 p ∧ st.2 p < 10
theorem dOne_ok {K : Int → Int} (z : Bool) {s pl : Int} (hp : 0 ≤ pl ∧ pl < 10) : 0 ≤ dOne K z s pl ∧ dOne K z s pl < 10 := by
  unfold dOne
  split
  · have := drN_lt s
    omega
  · exact strGo_rg _ _ _ _ _ hp (by omega)
theorem dRow_ok {K : Int → Int} {z : Bool} {st : Int × (Int → Int)} (h : dOK st) : ∀ n : Nat, dOK (dRow K z n st)
  | 0 => h
  | n + 1 => by
    have ih := dRow_ok (K := K) (z := z) h n
    refine ⟨drN_lt _, fun p => ?_⟩
    show 0 ≤ (if p = (n : Int) then _ else (dRow K z n st).2 p) ∧ (if p = (n : Int) then _ else (dRow K z n st).2 p) < 10
    split
    · exact dOne_ok z (ih.2 _)
    · exact ih.2 p
theorem dAll_ok {K : Int → Int} {N : Nat} {seed : Int} (h : 0 ≤ seed ∧ seed ≤ 1000000) : ∀ m : Nat, dOK (dAll K N seed m)
  | 0 => ⟨⟨h.1, by show seed < 1000003; omega⟩, fun p => ⟨by show (0 : Int) ≤ 0; omega, by show (0 : Int) < 10; omega⟩⟩
  | m + 1 => dRow_ok (dAll_ok h m) N
/-- how many WINDOWS fail at a MINUTE of the DAY -/
def dFail (i : IM) (cs : List Cla) (seed : Int) (m n : Nat) : Int := sumGo (fun v => bI (oB i cs (dAll (i 101) (i 101 309).toNat seed (m + 1)).2 (v : Int) (m : Int) = 0)) n
def dSum (i : IM) (cs : List Cla) (seed : Int) (M : Nat) : Int := sumGo (fun m => dFail i cs seed m (i 101 308).toNat) M
theorem dFail_le (i : IM) (cs : List Cla) (seed : Int) (m n : Nat) : 0 ≤ dFail i cs seed m n ∧ dFail i cs seed m n ≤ 1 * n := sumGo_le (b := 1) n (fun _ _ => bI_le _)
theorem dSum_le {i : IM} (cs : List Cla) (seed : Int) (h : 0 ≤ i 101 308 ∧ i 101 308 ≤ 8) (M : Nat) : 0 ≤ dSum i cs seed M ∧ dSum i cs seed M ≤ 8 * M := sumGo_le (b := 8) M (fun k _ => by have := dFail_le i cs seed k (i 101 308).toNat; omega)
theorem dFail_1 (i : IM) (cs : List Cla) (seed : Int) (m n : Nat) : dFail i cs seed m (n + 1) = dFail i cs seed m n + bI (fLimit cs (n : Int) (i 101 313) (m : Int) < popI (oSeen i cs (dAll (i 101) (i 101 309).toNat seed (m + 1)).2 (n : Int) (m : Int))) := by
  show dFail i cs seed m n + bI (bI (popI (oSeen i cs (dAll (i 101) (i 101 309).toNat seed (m + 1)).2 (n : Int) (m : Int)) ≤ fLimit cs (n : Int) (i 101 313) (m : Int)) = 0) = _
  congr 1
  refine bI_congr ?_
  rw [bI_eq]
  omega
/-- what the model's DAY leaves as it is -/
def mdf (i i' : IM) : Prop := ∀ (a : Nat) (k : Int), a ≠ 110 → a ≠ 124 → (a ≠ 99 ∨ (k ≠ 19 ∧ k ≠ 20 ∧ k ≠ 21 ∧ k ≠ 50 ∧ k ≠ 51)) → i' a k = i a k
theorem mdf_tr {i j k : IM} (h1 : mdf i j) (h2 : mdf j k) : mdf i k := fun a x p1 p2 p3 => (h2 a x p1 p2 p3).trans (h1 a x p1 p2 p3)
theorem mdf_s {i i' : IM} (h : scrM i i') : mdf i i' := fun a x p1 _ p3 => h a x p1 (p3.elim Or.inl (fun z => Or.inr ⟨z.1, z.2.1, z.2.2.1⟩))
theorem mdf_u {i : IM} {k v : Int} (h : k = 50 ∨ k = 51) : mdf i (u2 i 99 k v) := fun a x _ _ p3 => if_neg (fun z => by rcases p3 with q | q; exact q z.1; rcases h with h | h; exact q.2.2.2.1 (by omega); exact q.2.2.2.2 (by omega))
theorem mdf_v {i : IM} {k v : Int} : mdf i (u2 i 124 k v) := fun a x _ p2 _ => if_neg (fun z => p2 z.1)
theorem mdf_c {i i' : IM} (h : mdf i i') {a : Nat} (h1 : a ≠ 110) (h2 : a ≠ 124) (h3 : a ≠ 99) : i' a = i a := funext fun k => h a k h1 h2 (Or.inl h3)
/-- in the model's DAY: minute m, k PEOPLE have gone -/
def dyI (i i' : IM) (seed : Int) (m k : Nat) : Prop := mdf i i' ∧ i' 99 50 = i 101 309 ∧ i' 99 51 = (dRow (i 101) (m == 0) k (dAll (i 101) (i 101 309).toNat seed m)).1 ∧ (∀ x p : Int, 0 ≤ x → x < (m : Int) → 0 ≤ p → p < i 101 309 → i' 124 (5 * x + p) = (dAll (i 101) (i 101 309).toNat seed (x.toNat + 1)).2 p) ∧ (∀ p : Int, 0 ≤ p → p < (k : Int) → i' 124 (5 * (m : Int) + p) = (dRow (i 101) (m == 0) k (dAll (i 101) (i 101 309).toNat seed m)).2 p)
theorem dyI_s {i i' i2 : IM} {seed : Int} {m k : Nat} (h : dyI i i' seed m k) (hs : scrM i' i2) : dyI i i2 seed m k := by
  obtain ⟨h1, h2, h3, h4, h5⟩ := h
  refine ⟨mdf_tr h1 (mdf_s hs), ?_, ?_, ?_, ?_⟩
  · rw [hs 99 50 (by decide) (Or.inr ⟨by decide, by decide, by decide⟩)]; exact h2
  · rw [hs 99 51 (by decide) (Or.inr ⟨by decide, by decide, by decide⟩)]; exact h3
  · rw [scrM_c hs (a := 124) (by decide) (by decide)]; exact h4
  · rw [scrM_c hs (a := 124) (by decide) (by decide)]; exact h5
/-- PEOPLE of one WINDOW -/
theorem lp_day4 {P : Int → IM → LM → Prop} {i : IM} {A : Nat → List Cla} (hd : 79 ≤ d) (hk : kOK (i 101)) (hf : forceM (i 101) A) (hc : hasDep (inForce (i 101) A)) {seed : Int} (hseed : 0 ≤ seed ∧ seed ≤ 1000000) {m : Nat} (hm : m < 120) {v : Nat} (hv : (v : Int) < i 101 308) {n : Int} (hnext : ∀ i', dyI i i' seed m (i 101 309).toNat → gI w d X_X12_day P i' l 101 [(0, vR (some 99)), (2, vI (n + bI (fLimit (inForce (i 101) A) (v : Int) (i 101 313) (m : Int) < popI (oSeen i (inForce (i 101) A) (dAll (i 101) (i 101 309).toNat seed (m + 1)).2 (v : Int) (m : Int))))), (3, vI (m : Int)), (4, vI ((v : Int) + 1))] []) : ∀ r k : Nat, k + r = (i 101 309).toNat → ∀ i', dyI i i' seed m (i 101 309).toNat → gI w d X_X12_day P i' l 130 [(0, vR (some 99)), (2, vI n), (3, vI (m : Int)), (4, vI (v : Int)), (5, vI (orGo (fun p => mCoat i (inForce (i 101) A) (v : Int) (p : Int) ((dAll (i 101) (i 101 309).toNat seed (m + 1)).2 (p : Int)) (i 101 313) (m : Int)) (mThings i (inForce (i 101) A) (v : Int) (i 101 313) (m : Int)) k)), (6, vI (k : Int))] [] := by
  have h308 := hk.1.2.1
  have h309 := hk.1.2.2.1
  have h313 := hk.1.2.2.2.2.2
  intro r
  induction r with
  | zero =>
    intro k hk2 i' hi
    have e1 : i' 101 = i 101 := mdf_c hi.1 (by decide) (by decide) (by decide)
    have hk3 : k = (i 101 309).toNat := by omega
    obtain ⟨b, hb, hb2⟩ := oSeen_nat (cs := inForce (i 101) A) hk (dAll (i 101) (i 101 309).toNat seed (m + 1)).2 (v : Int) (m : Int)
    refine s_X12_day_130 _ _ _ _ _ (by omega) ⟨⟨by omega, by omega⟩, fun q => ⟨?_, ?_⟩, fun q => ?_⟩
    · rw [hk3]
      show 0 ≤ oSeen i (inForce (i 101) A) (dAll (i 101) (i 101 309).toNat seed (m + 1)).2 (v : Int) (m : Int) ∧ oSeen i (inForce (i 101) A) (dAll (i 101) (i 101 309).toNat seed (m + 1)).2 (v : Int) (m : Int) < 2147483648
      rw [hb]; exact ⟨by omega, by omega⟩
    · refine sp_X12_limitOf (by omega) (A := A) (by rw [e1]; exact hf) (by rw [e1]; exact hc) ⟨by omega, by omega⟩ (by rw [e1]; exact ⟨by omega, by omega⟩) ⟨by omega, by omega⟩ (fun i2 hi2 => ?_)
      rw [e1, hk3]
      exact hnext i2 (dyI_s hi hi2)
    · rw [hi.2.1] at q; omega
  | succ r ih =>
    intro k hk2 i' hi
    have e1 : i' 101 = i 101 := mdf_c hi.1 (by decide) (by decide) (by decide)
    have e124 := hi.2.2.2.2 (k : Int) (by omega) (by omega)
    have hpl := (dRow_ok (K := i 101) (z := m == 0) (dAll_ok (K := i 101) (N := (i 101 309).toNat) hseed m) (i 101 309).toNat).2 (k : Int)
    have hsm : sameOK i' := by
      have := kOK_same hk
      unfold sameOK at this ⊢
      rw [e1]; exact this
    refine s_X12_day_130 _ _ _ _ _ (by omega) ⟨⟨by omega, by omega⟩, fun q => ?_, fun q => ⟨⟨by omega, by omega⟩, ?_⟩⟩
    · rw [hi.2.1] at q; omega
    · rw [e124]
      refine sp_X12_coatBit (by omega) (A := A) (by rw [e1]; exact hf) (by rw [e1]; exact hc) hsm ⟨by omega, by omega⟩ ⟨by omega, by omega⟩ ⟨by omega, by omega⟩ (by rw [e1]; exact ⟨by omega, by omega⟩) ⟨by omega, by omega⟩ (by rw [e1]; exact hk.2.2.2.2.1 k (by omega) (by omega)) (fun i2 hi2 => ?_)
      rw [e1, mLow_K e1]
      exact ih (k + 1) (by omega) i2 (dyI_s hi hi2)
/-- WINDOWS of one MINUTE -/
theorem lp_day3 {P : Int → IM → LM → Prop} {i : IM} {A : Nat → List Cla} (hd : 79 ≤ d) (hk : kOK (i 101)) (hf : forceM (i 101) A) (hc : hasDep (inForce (i 101) A)) {seed : Int} (hseed : 0 ≤ seed ∧ seed ≤ 1000000) {m : Nat} (hm : m < 120) (hnext : ∀ i', dyI i i' seed m (i 101 309).toNat → gI w d X_X12_day P i' l 33 [(0, vR (some 99)), (2, vI (dSum i (inForce (i 101) A) seed (m + 1))), (3, vI ((m : Int) + 1))] []) : ∀ r v : Nat, v + r = (i 101 308).toNat → ∀ i', dyI i i' seed m (i 101 309).toNat → gI w d X_X12_day P i' l 101 [(0, vR (some 99)), (2, vI (dSum i (inForce (i 101) A) seed m + dFail i (inForce (i 101) A) seed m v)), (3, vI (m : Int)), (4, vI (v : Int))] [] := by
  have h308 := hk.1.2.1
  have h313 := hk.1.2.2.2.2.2
  intro r
  induction r with
  | zero =>
    intro v hv i' hi
    have e1 : i' 101 = i 101 := mdf_c hi.1 (by decide) (by decide) (by decide)
    have hv2 : v = (i 101 308).toNat := by omega
    refine s_X12_day_101 _ _ _ (by omega) ⟨⟨by omega, by omega⟩, fun q => ?_, fun q => ?_⟩
    · rw [hv2]; exact hnext i' hi
    · rw [e1] at q; omega
  | succ r ih =>
    intro v hv i' hi
    have e1 : i' 101 = i 101 := mdf_c hi.1 (by decide) (by decide) (by decide)
    refine s_X12_day_101 _ _ _ (by omega) ⟨⟨by omega, by omega⟩, fun q => ?_, fun q => ?_⟩
    · rw [e1] at q; omega
    · rw [e1]
      refine sp_X12_thingsSeen (by omega) (A := A) (by rw [e1]; exact hk) (by rw [e1]; exact hf) (by rw [e1]; exact hc) (mo := i 101 313) ⟨by omega, by omega⟩ ⟨by omega, by omega⟩ ⟨by omega, by omega⟩ (fun i2 hi2 => ?_)
      rw [mThings_K e1, e1]
      refine lp_day4 hd hk hf hc hseed hm (by omega) (fun i3 hi3 => ?_) _ 0 (Nat.zero_add _) i2 (dyI_s hi hi2)
      have := ih (v + 1) (by omega) i3 hi3
      rw [dFail_1] at this
      rw [Int.add_assoc]
      exact this
/-- PEOPLE go -/
theorem lp_day2 {P : Int → IM → LM → Prop} {i : IM} {A : Nat → List Cla} (hd : 79 ≤ d) (hk : kOK (i 101)) (hf : forceM (i 101) A) (hc : hasDep (inForce (i 101) A)) {seed : Int} (hseed : 0 ≤ seed ∧ seed ≤ 1000000) {m : Nat} (hm : m < 120) (hnext : ∀ i', dyI i i' seed m (i 101 309).toNat → gI w d X_X12_day P i' l 33 [(0, vR (some 99)), (2, vI (dSum i (inForce (i 101) A) seed (m + 1))), (3, vI ((m : Int) + 1))] []) : ∀ r k : Nat, k + r = (i 101 309).toNat → ∀ i', dyI i i' seed m k → gI w d X_X12_day P i' l 42 [(0, vR (some 99)), (2, vI (dSum i (inForce (i 101) A) seed m)), (3, vI (m : Int)), (4, vI (k : Int))] [] := by
  have h309 := hk.1.2.2.1
  intro r
  induction r with
  | zero =>
    intro k hk2 i' hi
    have hk3 : k = (i 101 309).toNat := by omega
    subst hk3
    have hz := hi.2.1
    refine s_X12_day_42 _ _ _ ⟨⟨by omega, by omega⟩, fun q => ⟨by omega, by omega⟩, fun q => ?_, fun q => ?_, fun q => ?_⟩
    · have := lp_day3 hd hk hf hc hseed hm hnext _ 0 (Nat.zero_add _) i' hi
      have e : dFail i (inForce (i 101) A) seed m 0 = 0 := rfl
      rw [e, Int.add_zero] at this
      exact this
    · omega
    · omega
  | succ r ih =>
    intro k hk2 i' hi
    have e1 : i' 101 = i 101 := mdf_c hi.1 (by decide) (by decide) (by decide)
    obtain ⟨a1, a2, a3, a4, a5⟩ := hi
    have hok := dRow_ok (K := i 101) (z := m == 0) (dAll_ok (K := i 101) (N := (i 101 309).toNat) hseed m) k
    have hr : 0 ≤ i' 99 51 ∧ i' 99 51 < 1000003 := by rw [a3]; exact hok.1
    have fin : ∀ x : Int, x = dOne (i 101) (m == 0) (dRow (i 101) (m == 0) k (dAll (i 101) (i 101 309).toNat seed m)).1 ((dRow (i 101) (m == 0) k (dAll (i 101) (i 101 309).toNat seed m)).2 (k : Int)) → (0 ≤ (5 * (m : Int)) + (k : Int) ∧ (5 * (m : Int)) + (k : Int) < 600) ∧ gI w d X_X12_day P (u2 (u2 i' 99 51 (drN (i' 99 51))) 124 ((5 * (m : Int)) + (k : Int)) x) l 42 [(0, vR (some 99)), (2, vI (dSum i (inForce (i 101) A) seed m)), (3, vI (m : Int)), (4, vI ((k : Int) + 1))] [] := by
      intro x hx
      refine ⟨⟨by omega, by omega⟩, ?_⟩
      refine ih (k + 1) (by omega) _ ⟨mdf_tr (mdf_tr a1 (mdf_u (Or.inr rfl))) mdf_v, a2, ?_, fun y p h1 h2 h3 h4 => ?_, fun p h1 h2 => ?_⟩
      · show drN (i' 99 51) = drN _
        rw [a3]
      · show (if (124 : Nat) = 124 ∧ 5 * y + p = 5 * (m : Int) + (k : Int) then x else i' 124 (5 * y + p)) = _
        rw [if_neg (fun z => by have := z.2; omega)]
        exact a4 y p h1 h2 h3 h4
      · show (if (124 : Nat) = 124 ∧ 5 * (m : Int) + p = 5 * (m : Int) + (k : Int) then x else i' 124 (5 * (m : Int) + p)) = (if p = (k : Int) then _ else (dRow (i 101) (m == 0) k (dAll (i 101) (i 101 309).toNat seed m)).2 p)
        by_cases c : p = (k : Int)
        · rw [if_pos ⟨rfl, by omega⟩, if_pos c, hx]
        · rw [if_neg (fun z => c (by omega)), if_neg c]
          exact a5 p h1 (by omega)
    refine s_X12_day_42 _ _ _ ⟨⟨by omega, by omega⟩, fun q => ⟨by omega, by omega⟩, fun q => by omega, fun q => ⟨⟨by omega, by omega⟩, ?_⟩, fun q => ?_⟩
    · have hm0 : (m == 0) = false := by
        have : ¬ m = 0 := by omega
        simp [this]
      have e124 : i' 124 (5 * ((m : Int) - 1) + (k : Int)) = (dAll (i 101) (i 101 309).toNat seed m).2 (k : Int) := by
        have := a4 ((m : Int) - 1) (k : Int) (by omega) (by omega) (by omega) (by omega)
        have e2 : ((m : Int) - 1).toNat + 1 = m := by omega
        rw [e2] at this
        exact this
      rw [e124]
      refine sp_X12_goes (by omega) (by rw [e1]; exact hk) ((dAll_ok hseed m).2 _) hr ?_
      refine fin _ ?_
      unfold dOne
      rw [hm0, if_neg (by decide), e1, a3, hm0, dRow_old (i 101) false _ k (Int.le_refl _)]
    · refine sp_X12_draws (by omega) ⟨by omega, by omega⟩ hr ?_
      refine fin _ ?_
      have hm0 : (m == 0) = true := by
        have : m = 0 := by omega
        simp [this]
      unfold dOne
      rw [hm0, if_pos rfl, a3, hm0]
theorem dyI_up {i i' : IM} {seed : Int} {m : Nat} (h : dyI i i' seed m (i 101 309).toNat) : dyI i i' seed (m + 1) 0 := by
  obtain ⟨a1, a2, a3, a4, a5⟩ := h
  refine ⟨a1, a2, a3, fun x p h1 h2 h3 h4 => ?_, fun p h1 h2 => by omega⟩
  by_cases c : x = (m : Int)
  · subst c
    have := a5 p h3 (by omega)
    have e : ((m : Int)).toNat + 1 = m + 1 := by omega
    rw [e]
    exact this
  · exact a4 x p h1 (by omega) h3 h4
theorem lp_day1 {P : Int → IM → LM → Prop} {i : IM} {A : Nat → List Cla} (hd : 79 ≤ d) (hk : kOK (i 101)) (hf : forceM (i 101) A) (hc : hasDep (inForce (i 101) A)) {seed : Int} (hseed : 0 ≤ seed ∧ seed ≤ 1000000) (hver : 0 ≤ i 99 1 ∧ i 99 1 < 1000000) (hP : ∀ i', dyI i i' seed 120 0 → P (dSum i (inForce (i 101) A) seed 120) (u2 (u2 i' 99 0 0) 99 1 (i 99 1 + 1)) l) : ∀ r m : Nat, m + r = 120 → ∀ i', dyI i i' seed m 0 → gI w d X_X12_day P i' l 33 [(0, vR (some 99)), (2, vI (dSum i (inForce (i 101) A) seed m)), (3, vI (m : Int))] [] := by
  have h308 := hk.1.2.1
  intro r
  induction r with
  | zero =>
    intro m hm i' hi
    have e : m = 120 := by omega
    subst e
    have hle := dSum_le (inForce (i 101) A) seed h308 120
    have ev : i' 99 1 = i 99 1 := hi.1 99 1 (by decide) (by decide) (Or.inr ⟨by decide, by decide, by decide, by decide, by decide⟩)
    obtain ⟨d, rfl, hd1⟩ := d_pos hd
    refine s_X12_day_33 _ _ ⟨⟨by omega, by omega⟩, fun _ => e_X12_good (s_X12_good _ ⟨?_, ⟨by omega, by omega⟩, ?_⟩), fun q => by omega⟩
    · show rg (i' 99 1 + 1)
      rw [ev]; exact ⟨by omega, by omega⟩
    · show P _ (u2 (u2 i' 99 0 0) 99 1 (i' 99 1 + 1)) l
      rw [ev]
      exact hP i' hi
  | succ r ih =>
    intro m hm i' hi
    refine s_X12_day_33 _ _ ⟨⟨by omega, by omega⟩, fun q => by omega, fun q => ?_⟩
    exact lp_day2 hd hk hf hc hseed (by omega) (fun i2 hi2 => ih (m + 1) (by omega) i2 (dyI_up hi2)) _ 0 (Nat.zero_add _) i' hi
theorem sp_X12_day {P : Int → IM → LM → Prop} {i : IM} {A : Nat → List Cla} (hd : 80 ≤ d) (hk : kOK (i 101)) (hf : forceM (i 101) A) (hc : hasDep (inForce (i 101) A)) {seed : Int} (h0 : rg seed) (hver : 0 ≤ i 99 1 ∧ i 99 1 < 1000000) (href : 0 ≤ i 100 1 ∧ i 100 1 < 1000000) (hP1 : 0 ≤ seed ∧ seed ≤ 1000000 → ∀ i', dyI i i' seed 120 0 → P (dSum i (inForce (i 101) A) seed 120) (u2 (u2 i' 99 0 0) 99 1 (i 99 1 + 1)) l) (hP0 : ¬ (0 ≤ seed ∧ seed ≤ 1000000) → P (-1) (u2 (u2 i 99 0 (-1)) 100 1 (i 100 1 + 1)) l) : cI w d X_X12_day [vR (some 99), vI seed] i l P := by
  obtain ⟨d, rfl, hd1⟩ := d_pos hd
  have h309 := hk.1.2.2.1
  refine e_X12_day (s_X12_day _ (by omega) ⟨h0, fun q => ?_, fun q => ?_⟩)
  · refine lp_day1 hd1 hk hf hc q hver (hP1 q) 120 0 rfl _ ⟨mdf_tr (mdf_u (Or.inr rfl)) (mdf_u (Or.inl rfl)), rfl, rfl, fun x p h1 h2 => by omega, fun p h1 h2 => by omega⟩
  · obtain ⟨d, rfl, hd2⟩ := d_pos hd1
    exact e_X12_refuses (s_X12_refuses _ ⟨rg_lit rfl, ⟨by omega, by omega⟩, by show rg (i 100 1 + 1); exact ⟨by omega, by omega⟩, hP0 q⟩)
end
