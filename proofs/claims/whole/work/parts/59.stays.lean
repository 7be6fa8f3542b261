/-! where PEOPLE stay, laid out -/
section
variable {w : Wd} {d : Nat} {i : IM} {l : LM}
def lastW (W : Int → Int) (p m : Int) : Nat → Int
  | 0 => -2
  | n + 1 => if W (3 * (n : Int)) = p ∧ W (3 * (n : Int) + 1) = m then W (3 * (n : Int) + 2) else lastW W p m n
theorem whGo_since {W : Int → Int} (p m : Int) : ∀ n, (whGo W p m n).2 ≤ m ∨ (whGo W p m n).2 = -1
  | 0 => Or.inr rfl
  | n + 1 => by
    unfold whGo
    split
    · next q => exact Or.inl q.2.1
    · exact whGo_since p m n
theorem whGo_last {W : Int → Int} {p m : Int} (hm : 0 ≤ m) : ∀ n, (∀ k : Nat, k < n → -1 ≤ W (3 * (k : Int) + 2)) → whGo W p m n = if lastW W p m n = -2 then whGo W p (m - 1) n else (lastW W p m n, m)
  | 0, _ => rfl
  | n + 1, h => by
    have ih := whGo_last (W := W) (p := p) hm n (fun k hk => h k (by omega))
    have hn := h n (by omega)
    have hs := whGo_since (W := W) p m n
    unfold whGo lastW
    by_cases a : W (3 * (n : Int)) = p
    · by_cases b : W (3 * (n : Int) + 1) = m
      · rw [if_pos (show W (3 * (n : Int)) = p ∧ W (3 * (n : Int) + 1) ≤ m ∧ (whGo W p m n).2 ≤ W (3 * (n : Int) + 1) from ⟨a, by omega, by omega⟩)]
        rw [if_pos (show W (3 * (n : Int)) = p ∧ W (3 * (n : Int) + 1) = m from ⟨a, b⟩)]
        rw [if_neg (show ¬ W (3 * (n : Int) + 2) = -2 by omega), b]
      · rw [if_neg (show ¬ (W (3 * (n : Int)) = p ∧ W (3 * (n : Int) + 1) = m) from fun z => b z.2)]
        rw [ih]
        by_cases c : lastW W p m n = -2
        · rw [if_pos c, if_pos c]
          by_cases e : W (3 * (n : Int) + 1) ≤ m ∧ (whGo W p (m - 1) n).2 ≤ W (3 * (n : Int) + 1)
          · rw [if_pos ⟨a, e.1, e.2⟩, if_pos ⟨a, by omega, e.2⟩]
          · rw [if_neg (fun z => e z.2), if_neg (fun z => e ⟨by omega, z.2.2⟩)]
        · rw [if_neg c, if_neg c]
          rw [if_neg]
          rintro ⟨-, z1, z2⟩
          have z2' : m ≤ W (3 * (n : Int) + 1) := z2
          omega
    · rw [if_neg (fun z => a z.1), if_neg (show ¬ (W (3 * (n : Int)) = p ∧ W (3 * (n : Int) + 1) = m) from fun z => a z.1), ih]
      by_cases c : lastW W p m n = -2
      · rw [if_pos c, if_pos c, if_neg (fun z => a z.1)]
      · rw [if_neg c, if_neg c]
theorem whGo_no {W : Int → Int} {p : Int} : ∀ n, (∀ k : Nat, k < n → 0 ≤ W (3 * (k : Int) + 1)) → whGo W p (-1) n = (-1, -1)
  | 0, _ => rfl
  | n + 1, h => by
    have ih := whGo_no (W := W) (p := p) n (fun k hk => h k (by omega))
    have := h n (by omega)
    unfold whGo
    rw [if_neg (fun z => by have := z.2.1; omega), ih]
def mLast (i : IM) (n : Nat) (j : Int) : Int := lastW (fun k => i 101 (127 + k)) (j / 120) (j % 120) n
def mWh (i : IM) (j : Int) : Int := mWhere i (j / 120) (j % 120)
theorem kOK_W (hk : kOK (i 101)) {n : Nat} (hn : n < 60) : (0 ≤ i 101 (127 + 3 * (n : Int)) ∧ i 101 (127 + 3 * (n : Int)) < 5) ∧ (0 ≤ i 101 (127 + (3 * (n : Int) + 1)) ∧ i 101 (127 + (3 * (n : Int) + 1)) < 120) ∧ (-1 ≤ i 101 (127 + (3 * (n : Int) + 2)) ∧ i 101 (127 + (3 * (n : Int) + 2)) < 10) := hk.2.2.2.2.2.2 n (by omega) (by omega)
theorem mWh_step (hk : kOK (i 101)) {j : Int} (hj : 0 ≤ j ∧ j < 600) : mWh i j = if mLast i (i 101 310).toNat j = -2 then (if j % 120 = 0 then -1 else mWh i (j - 1)) else mLast i (i 101 310).toNat j := by
  have h310 := hk.1.2.2.2.1
  have h := whGo_last (W := fun k => i 101 (127 + k)) (p := j / 120) (m := j % 120) (by omega) (i 101 310).toNat (fun k hk2 => (kOK_W hk (n := k) (by omega)).2.2.1)
  unfold mWh mWhere
  rw [h]
  show (if mLast i (i 101 310).toNat j = -2 then _ else _ : Int × Int).1 = _
  by_cases c : mLast i (i 101 310).toNat j = -2
  · rw [if_pos c, if_pos c]
    by_cases e : j % 120 = 0
    · rw [if_pos e, e]
      show (whGo _ _ (-1) _).1 = _
      rw [whGo_no _ (fun k hk2 => (kOK_W hk (n := k) (by omega)).2.1.1)]
    · rw [if_neg e]
      have e1 : j / 120 = (j - 1) / 120 := by omega
      have e2 : j % 120 - 1 = (j - 1) % 120 := by omega
      rw [e1, e2]
  · rw [if_neg c, if_neg c]; rfl
theorem lp_lay1 {P : IM → LM → Prop} {i : IM} (ht : TW i) (hk : kOK (i 101)) (hP : ∀ i', (∀ a, a ≠ 45 → i' a = i a) → (∀ j : Int, 0 ≤ j → j < 600 → i' 45 j = mLast i (i 101 310).toNat j) → gV w d X_X8_layStays P i' l 72 [(0, vR (some 44)), (1, vI 0)] []) : ∀ (r k : Nat), k + r = (i 101 310).toNat → ∀ i', (∀ a, a ≠ 45 → i' a = i a) → (∀ j : Int, 0 ≤ j → j < 600 → i' 45 j = mLast i k j) → gV w d X_X8_layStays P i' l 11 [(0, vR (some 44)), (1, vI (3 * (k : Int)))] [] := by
  have h310 := hk.1.2.2.2.1
  have e11 : i 7 11 = i 101 310 := ht.2.2.2.2.2.2.2.2.2.1
  intro r
  induction r with
  | zero =>
    intro k hk2 i' hi ho
    have hk3 : k = (i 101 310).toNat := by omega
    refine s_X8_layStays_11 _ ⟨⟨by omega, by omega⟩, by rw [hi 7 (by decide), e11]; exact ⟨by omega, by omega⟩, fun q => hP i' hi (by rw [← hk3]; exact ho), fun q => ?_⟩
    rw [hi 7 (by decide), e11] at q; omega
  | succ r ih =>
    intro k hk2 i' hi ho
    have hW := kOK_W hk (n := k) (by omega)
    have w0 : i' 14 (3 * (k : Int)) = i 101 (127 + 3 * (k : Int)) := by rw [hi 14 (by decide), ht.2.2.2.2.2.1 _ (by omega) (by omega)]
    have w1 : i' 14 (3 * (k : Int) + 1) = i 101 (127 + (3 * (k : Int) + 1)) := by rw [hi 14 (by decide), ht.2.2.2.2.2.1 _ (by omega) (by omega)]
    have w2 : i' 14 (3 * (k : Int) + 2) = i 101 (127 + (3 * (k : Int) + 2)) := by rw [hi 14 (by decide), ht.2.2.2.2.2.1 _ (by omega) (by omega)]
    refine s_X8_layStays_11 _ ⟨⟨by omega, by omega⟩, by rw [hi 7 (by decide), e11]; exact ⟨by omega, by omega⟩, fun q => ?_, fun q => ⟨⟨by omega, by omega⟩, ⟨by omega, by omega⟩, ⟨by omega, by omega⟩, by rw [w0, w1]; exact ⟨by omega, by omega⟩, ?_⟩⟩
    · rw [hi 7 (by decide), e11] at q; omega
    · rw [w0, w1, w2]
      have e3 : 3 * (k : Int) + 3 = 3 * ((k + 1 : Nat) : Int) := by omega
      rw [e3]
      refine ih (k + 1) (by omega) _ (fun a ha => by rw [u2_other _ _ _ ha, hi a ha]) (fun j h1 h2 => ?_)
      show (if (45 : Nat) = 45 ∧ j = i 101 (127 + 3 * (k : Int)) * 120 + i 101 (127 + (3 * (k : Int) + 1)) then i 101 (127 + (3 * (k : Int) + 2)) else i' 45 j) = (if i 101 (127 + 3 * (k : Int)) = j / 120 ∧ i 101 (127 + (3 * (k : Int) + 1)) = j % 120 then i 101 (127 + (3 * (k : Int) + 2)) else mLast i k j)
      by_cases e : j = i 101 (127 + 3 * (k : Int)) * 120 + i 101 (127 + (3 * (k : Int) + 1))
      · rw [if_pos ⟨rfl, e⟩, if_pos ⟨by omega, by omega⟩]
      · rw [if_neg (fun z => e z.2), if_neg (fun z => e (by omega)), ho j h1 h2]
/-- j of the 600 are done -/
def layI (i i' : IM) (j : Int) : Prop := (∀ a, a ≠ 45 → i' a = i a) ∧ (∀ k : Int, 0 ≤ k → k < 600 → i' 45 k = if k < j then mWh i k else mLast i (i 101 310).toNat k)
theorem lp_lay3 {P : IM → LM → Prop} {i : IM} (hk : kOK (i 101)) {p : Int} (hp : 0 ≤ p ∧ p < 5) (hnext : ∀ i', layI i i' ((p + 1) * 120) → gV w d X_X8_layStays P i' l 72 [(0, vR (some 44)), (1, vI (p + 1))] []) : ∀ (r k : Nat), k + r = 120 → ∀ i', layI i i' (p * 120 + k) → gV w d X_X8_layStays P i' l 84 [(0, vR (some 44)), (1, vI p), (2, vI (if k = 0 then -1 else mWh i (p * 120 + k - 1))), (3, vI (p * 120 + k))] [] := by
  intro r
  induction r with
  | zero =>
    intro k hk2 i' hi
    have e : p * 120 + (k : Int) = (p + 1) * 120 := by omega
    refine s_X8_layStays_84 _ _ _ ⟨⟨by omega, by omega⟩, ⟨by omega, by omega⟩, fun _ => ⟨by omega, by omega⟩, fun q => ?_, fun q => ?_, fun q => ?_⟩
    · rw [e] at hi; exact hnext i' hi
    · exact absurd (by omega) q.1
    · exact absurd (by omega) q.1
  | succ r ih =>
    intro k hk2 i' hi
    have h45 := hi.2 (p * 120 + k) (by omega) (by omega)
    rw [if_neg (by omega)] at h45
    have hst := mWh_step hk (j := p * 120 + k) ⟨by omega, by omega⟩
    have hmod : (p * 120 + (k : Int)) % 120 = k := by omega
    rw [hmod] at hst
    have ee : (if (k : Int) = 0 then (-1 : Int) else mWh i (p * 120 + k - 1)) = (if k = 0 then -1 else mWh i (p * 120 + k - 1)) := by
      by_cases q : k = 0
      · rw [if_pos q, if_pos (by omega)]
      · rw [if_neg q, if_neg (by omega)]
    rw [ee] at hst
    have e3 : p * 120 + (k : Int) + 1 = p * 120 + ((k + 1 : Nat) : Int) := by omega
    have e4 : p * 120 + ((k + 1 : Nat) : Int) - 1 = p * 120 + (k : Int) := by omega
    have hmw : -1 ≤ mWh i (p * 120 + k - 1) ∧ mWh i (p * 120 + k - 1) < 10 := mWhere_lt hk _ _
    have hrg : rg (if k = 0 then -1 else mWh i (p * 120 + k - 1)) := by split; exact rg_lit rfl; exact ⟨by omega, by omega⟩
    refine s_X8_layStays_84 _ _ _ ⟨⟨by omega, by omega⟩, ⟨by omega, by omega⟩, fun _ => ⟨by omega, by omega⟩, fun q => ?_, fun q => ⟨⟨by omega, by omega⟩, ?_⟩, fun q => ⟨⟨by omega, by omega⟩, hrg, ?_⟩⟩
    · omega
    · have hne := q.2
      rw [h45] at hne
      rw [if_neg hne] at hst
      have hn := ih (k + 1) (by omega) i' ⟨hi.1, fun x h1 h2 => by
        rw [hi.2 x h1 h2]
        by_cases c : x < p * 120 + (k : Int)
        · rw [if_pos c, if_pos (by omega)]
        · rw [if_neg c]
          by_cases c2 : x = p * 120 + (k : Int)
          · rw [if_pos (by omega), c2, hst]
          · rw [if_neg (by omega)]⟩
      rw [if_neg (by omega), e4, hst] at hn
      rw [e3, h45]
      exact hn
    · have hne := q.2
      rw [h45] at hne
      rw [if_pos hne] at hst
      have hn := ih (k + 1) (by omega) (u2 i' 45 (p * 120 + k) (if k = 0 then -1 else mWh i (p * 120 + k - 1))) ⟨fun a ha => by rw [u2_other _ _ _ ha, hi.1 a ha], fun x h1 h2 => by
        show (if (45 : Nat) = 45 ∧ x = p * 120 + (k : Int) then (if k = 0 then -1 else mWh i (p * 120 + k - 1)) else i' 45 x) = _
        by_cases c2 : x = p * 120 + (k : Int)
        · rw [if_pos ⟨rfl, c2⟩, if_pos (show x < p * 120 + ((k + 1 : Nat) : Int) by omega), c2, hst]
        · rw [if_neg (fun z => c2 z.2), hi.2 x h1 h2]
          by_cases c : x < p * 120 + (k : Int)
          · rw [if_pos c, if_pos (by omega)]
          · rw [if_neg c, if_neg (by omega)]⟩
      rw [if_neg (show ¬ k + 1 = 0 by omega), e4, hst] at hn
      rw [e3, u2_self]
      exact hn
theorem lp_lay2 {P : IM → LM → Prop} {i : IM} (hk : kOK (i 101)) (hP : ∀ i', layI i i' 600 → P i' l) : ∀ (r k : Nat), k + r = 5 → ∀ i', layI i i' ((k : Int) * 120) → gV w d X_X8_layStays P i' l 72 [(0, vR (some 44)), (1, vI (k : Int))] [] := by
  intro r
  induction r with
  | zero =>
    intro k hk2 i' hi
    have e : (k : Int) = 5 := by omega
    refine s_X8_layStays_72 _ ⟨⟨by omega, by omega⟩, fun q => hP i' (by rw [e] at hi; exact hi), fun q => by omega⟩
  | succ r ih =>
    intro k hk2 i' hi
    refine s_X8_layStays_72 _ ⟨⟨by omega, by omega⟩, fun q => by omega, fun q => ?_⟩
    have := lp_lay3 (l := l) hk (p := (k : Int)) ⟨by omega, by omega⟩ (fun i2 h2 => ih (k + 1) (by omega) i2 (by simpa using h2)) 120 0 rfl i' (by simpa using hi)
    simpa using this
theorem sp_X8_layStays (hd : 3 ≤ d) {P : IM → LM → Prop} (ht : TW i) (hk : kOK (i 101)) (hP : ∀ i', (∀ a, a ≠ 45 → i' a = i a) → (∀ p m : Int, 0 ≤ p ∧ p < 5 → 0 ≤ m ∧ m < 120 → i' 45 (p * 120 + m) = mWhere i p m) → P i' l) : cVd w d X_X8_layStays [vR (some 44)] i l P := by
  obtain ⟨d, rfl, hd1⟩ := d_pos hd
  refine e_X8_layStays (s_X8_layStays (by omega) ?_)
  refine lp_lay1 ht hk (fun i' hi ho => ?_) _ 0 (Nat.zero_add _) _ (fun a ha => by funext x; exact if_neg (fun z => ha z.1)) (fun j h1 h2 => if_pos ⟨rfl, h1, h2⟩)
  refine lp_lay2 hk (fun i2 h2 => hP i2 h2.1 (fun p m hp hm => ?_)) 5 0 rfl i' ⟨hi, fun k h1 h2 => ?_⟩
  · rw [h2.2 _ (by omega) (by omega), if_pos (by omega)]
    unfold mWh
    have e1 : (p * 120 + m) / 120 = p := by omega
    have e2 : (p * 120 + m) % 120 = m := by omega
    rw [e1, e2]
  · rw [ho k h1 h2, if_neg (by omega)]
end
