/-! PAINTER in memory: a block is recorded -/
section
variable {w : Wd} {d : Nat} {i : IM} {l : LM}
theorem sumL_bd {C : PC} {t : Nat} {lo hi : Int} (h : ∀ c, c < 3 → (lo ≤ C.2.1 t c ∧ C.2.1 t c ≤ hi) ∧ (0 ≤ C.2.2.1 t c ∧ C.2.2.1 t c ≤ 1) ∧ (0 ≤ C.2.2.2.1 t c ∧ C.2.2.2.1 t c ≤ 1) ∧ (0 ≤ C.2.2.2.2 t c ∧ C.2.2.2.2 t c ≤ 1)) : ∀ k x, k ≤ 3 → sumL C t k = some x → (0 < x.2.1 ∧ x.2.1 ≤ x.1 ∧ x.1 ≤ k) ∧ (lo ≤ x.2.2.1 ∧ x.2.2.1 ≤ hi) ∧ (0 ≤ x.2.2.2.2.1 ∧ x.2.2.2.2.1 ≤ 1) ∧ (0 ≤ x.2.2.2.2.2.1 ∧ x.2.2.2.2.2.1 ≤ 1) ∧ (0 ≤ x.2.2.2.2.2.2 ∧ x.2.2.2.2.2.2 ≤ 1)
  | 0, x, _, h => by cases h
  | k + 1, x, hk, hx => by
    have ih := sumL_bd h k
    have hc := h k (by omega)
    have hx : joinL (C.1 t k) (lE C t k) (sumL C t k) = some x := hx
    cases hs : sumL C t k with
    | none =>
      rw [hs, joinL_n] at hx
      by_cases m : C.1 t k = true
      · rw [if_pos m] at hx
        cases hx
        exact ⟨⟨by show (0 : Int) < 1; omega, by show (1 : Int) ≤ 1; omega, by show (1 : Int) ≤ ((k + 1 : Nat) : Int); omega⟩, hc.1, hc.2.1, hc.2.2.1, hc.2.2.2⟩
      · rw [if_neg m] at hx; cases hx
    | some y =>
      have iy := ih y (by omega) hs
      rw [hs, joinL_s] at hx
      by_cases m : C.1 t k = true
      · rw [if_pos m] at hx
        cases hx
        obtain ⟨⟨i1, i2, i3⟩, i4, i5, i6, i7⟩ := iy
        obtain ⟨c1, c2, c3, c4⟩ := hc
        unfold mrgL
        refine ⟨⟨?_, ?_, ?_⟩, ?_, ?_, ?_, ?_⟩
        · show 0 < (if y.2.2.1 < C.2.1 t k then (1 : Int) else if y.2.2.1 = C.2.1 t k then y.2.1 + 1 else y.2.1)
          split
          · omega
          · split <;> omega
        · show (if y.2.2.1 < C.2.1 t k then (1 : Int) else if y.2.2.1 = C.2.1 t k then y.2.1 + 1 else y.2.1) ≤ y.1 + 1
          split
          · omega
          · split <;> omega
        · show y.1 + 1 ≤ ((k + 1 : Nat) : Int); omega
        · show lo ≤ max y.2.2.1 (C.2.1 t k) ∧ max y.2.2.1 (C.2.1 t k) ≤ hi; omega
        · show 0 ≤ min y.2.2.2.2.1 (C.2.2.1 t k) ∧ min y.2.2.2.2.1 (C.2.2.1 t k) ≤ 1; omega
        · show 0 ≤ min y.2.2.2.2.2.1 (C.2.2.2.1 t k) ∧ min y.2.2.2.2.2.1 (C.2.2.2.1 t k) ≤ 1; omega
        · show 0 ≤ min y.2.2.2.2.2.2 (C.2.2.2.2 t k) ∧ min y.2.2.2.2.2.2 (C.2.2.2.2 t k) ≤ 1; omega
      · rw [if_neg m] at hx
        cases hx
        exact ⟨⟨iy.1.1, iy.1.2.1, by have := iy.1.2.2; omega⟩, iy.2⟩
theorem pcM_bd {n : Nat} (h : cvOK i n) {t : Nat} (ht : t < n) : ∀ c, c < 3 → (-99 ≤ (pcM i).2.1 t c ∧ (pcM i).2.1 t c ≤ 99) ∧ (0 ≤ (pcM i).2.2.1 t c ∧ (pcM i).2.2.1 t c ≤ 1) ∧ (0 ≤ (pcM i).2.2.2.1 t c ∧ (pcM i).2.2.2.1 t c ≤ 1) ∧ (0 ≤ (pcM i).2.2.2.2 t c ∧ (pcM i).2.2.2.2 t c ≤ 1) := by
  intro c hc
  have := h.2.2.2.2.2 t c ht hc
  show (-99 ≤ i 54 ((t : Int) * 3 + (c : Int)) ∧ i 54 ((t : Int) * 3 + (c : Int)) ≤ 99) ∧ (0 ≤ i 55 ((t : Int) * 3 + (c : Int)) % 256 ∧ i 55 ((t : Int) * 3 + (c : Int)) % 256 ≤ 1) ∧ (0 ≤ i 55 ((t : Int) * 3 + (c : Int)) / 256 % 256 ∧ i 55 ((t : Int) * 3 + (c : Int)) / 256 % 256 ≤ 1) ∧ (0 ≤ i 55 ((t : Int) * 3 + (c : Int)) / 65536 % 256 ∧ i 55 ((t : Int) * 3 + (c : Int)) / 65536 % 256 ≤ 1)
  omega
theorem loc_bd {n : Nat} (h : cvOK i n) {t : Nat} (ht : t < n) : (0 < (loc (pcM i) t).2.1 ∧ (loc (pcM i) t).2.1 ≤ (loc (pcM i) t).1 ∧ (loc (pcM i) t).1 ≤ 3) ∧ (-99 ≤ (loc (pcM i) t).2.2.1 ∧ (loc (pcM i) t).2.2.1 ≤ 99) ∧ (0 ≤ (loc (pcM i) t).2.2.2.2.1 ∧ (loc (pcM i) t).2.2.2.2.1 ≤ 1) ∧ (0 ≤ (loc (pcM i) t).2.2.2.2.2.1 ∧ (loc (pcM i) t).2.2.2.2.2.1 ≤ 1) ∧ (0 ≤ (loc (pcM i) t).2.2.2.2.2.2 ∧ (loc (pcM i) t).2.2.2.2.2.2 ≤ 1) :=
  sumL_bd (pcM_bd h ht) 3 _ (Nat.le_refl _) (loc_pos h.2.2.2.1 ht).1
theorem sx_bd {n : Nat} (h : cvOK i n) : ∀ r t, t + r = n → (0 < (sx (pcM i) r t).2.1 ∧ (sx (pcM i) r t).2.1 ≤ (sx (pcM i) r t).1 ∧ (sx (pcM i) r t).1 ≤ (3 : Int) ^ r) ∧ (-99 * (r : Int) ≤ (sx (pcM i) r t).2.2.1 ∧ (sx (pcM i) r t).2.2.1 ≤ 99 * (r : Int)) ∧ (0 ≤ (sx (pcM i) r t).2.2.2.1 ∧ (sx (pcM i) r t).2.2.2.1 ≤ r) ∧ (0 ≤ (sx (pcM i) r t).2.2.2.2.1 ∧ (sx (pcM i) r t).2.2.2.2.1 ≤ r) ∧ (0 ≤ (sx (pcM i) r t).2.2.2.2.2 ∧ (sx (pcM i) r t).2.2.2.2.2 ≤ r)
  | 0, t, _ => by
    show (0 < (1 : Int) ∧ (1 : Int) ≤ 1 ∧ (1 : Int) ≤ 3 ^ 0) ∧ (-99 * ((0 : Nat) : Int) ≤ (0 : Int) ∧ (0 : Int) ≤ 99 * ((0 : Nat) : Int)) ∧ (0 ≤ (0 : Int) ∧ (0 : Int) ≤ ((0 : Nat) : Int)) ∧ (0 ≤ (0 : Int) ∧ (0 : Int) ≤ ((0 : Nat) : Int)) ∧ (0 ≤ (0 : Int) ∧ (0 : Int) ≤ ((0 : Nat) : Int))
    decide
  | r + 1, t, ht => by
    obtain ⟨⟨i1, i2, i3⟩, i4, i5, i6, i7⟩ := sx_bd h r (t + 1) (by omega)
    obtain ⟨⟨l1, l2, l3⟩, l4, l5, l6, l7⟩ := loc_bd h (show t < n by omega)
    have e3 : (3 : Int) ^ (r + 1) = 3 ^ r * 3 := Int.pow_succ ..
    refine ⟨⟨?_, ?_, ?_⟩, ?_, ?_, ?_, ?_⟩
    · exact Int.mul_pos i1 l1
    · show (sx (pcM i) r (t + 1)).2.1 * (loc (pcM i) t).2.1 ≤ (sx (pcM i) r (t + 1)).1 * (loc (pcM i) t).1
      exact Int.mul_le_mul i2 l2 (by omega) (by omega)
    · show (sx (pcM i) r (t + 1)).1 * (loc (pcM i) t).1 ≤ _
      rw [e3]
      exact Int.mul_le_mul i3 l3 (by omega) (by omega)
    · show -99 * ((r + 1 : Nat) : Int) ≤ (sx (pcM i) r (t + 1)).2.2.1 + (loc (pcM i) t).2.2.1 ∧ (sx (pcM i) r (t + 1)).2.2.1 + (loc (pcM i) t).2.2.1 ≤ 99 * ((r + 1 : Nat) : Int)
      omega
    · show 0 ≤ (sx (pcM i) r (t + 1)).2.2.2.1 + (loc (pcM i) t).2.2.2.2.1 ∧ (sx (pcM i) r (t + 1)).2.2.2.1 + (loc (pcM i) t).2.2.2.2.1 ≤ ((r + 1 : Nat) : Int)
      omega
    · show 0 ≤ (sx (pcM i) r (t + 1)).2.2.2.2.1 + (loc (pcM i) t).2.2.2.2.2.1 ∧ (sx (pcM i) r (t + 1)).2.2.2.2.1 + (loc (pcM i) t).2.2.2.2.2.1 ≤ ((r + 1 : Nat) : Int)
      omega
    · show 0 ≤ (sx (pcM i) r (t + 1)).2.2.2.2.2 + (loc (pcM i) t).2.2.2.2.2.2 ∧ (sx (pcM i) r (t + 1)).2.2.2.2.2 + (loc (pcM i) t).2.2.2.2.2.2 ≤ ((r + 1 : Nat) : Int)
      omega
/-- the sums over later THINGS, in memory -/
def SxM (i : IM) (a n : Nat) : Prop := (∀ t : Nat, t ≤ n → i (a + 4) (t : Int) = (sx (pcM i) (n - t) t).1 ∧ i (a + 5) (t : Int) = (sx (pcM i) (n - t) t).2.1 ∧ i (a + 6) (t : Int) = (sx (pcM i) (n - t) t).2.2.1 ∧ i (a + 7) (t : Int) = pk3 (sx (pcM i) (n - t) t).2.2.2.1 (sx (pcM i) (n - t) t).2.2.2.2.1 (sx (pcM i) (n - t) t).2.2.2.2.2) ∧ ∀ t : Nat, t < n → i (a + 8) (t : Int) = (((loc (pcM i) t).2.2.2.1 : Nat) : Int)
/-- what is found so far, in memory -/
def pS (i : IM) (a n : Nat) (b : Bool) (s : SA) : Prop := i a 11 = s.1 ∧ i a 12 = s.2.1.1 ∧ i a 13 = s.2.1.2.1 ∧ i a 14 = pk3 s.2.2.1 s.2.2.2.1 s.2.2.2.2 ∧ ((0 ≤ s.2.2.1 ∧ s.2.2.1 ≤ 255) ∧ (0 ≤ s.2.2.2.1 ∧ s.2.2.2.1 ≤ 255) ∧ (0 ≤ s.2.2.2.2 ∧ s.2.2.2.2 ≤ 255)) ∧ (b = true → 0 < s.2.1.1 → ∀ j : Nat, j < n → i (a + 9) (j : Int) = ((s.2.1.2.2 j : Nat) : Int))
theorem lp_rec {P : IM → LM → Prop} {a : Nat} (ha : a = 63 ∨ a = 73) {n : Nat} {i : IM} (hn : n ≤ 10) (h7 : i 7 8 = (n : Int)) {t : Nat} (ht : t ≤ n) {f : Nat → Nat} (hf : ∀ j : Nat, j < n → (if j < t then i (a + 3) (j : Int) else i (a + 8) (j : Int)) = ((f j : Nat) : Int)) (hP : ∀ i', (∀ c, c ≠ a + 9 → i' c = i c) → (∀ j : Nat, j < n → i' (a + 9) (j : Int) = ((f j : Nat) : Int)) → P i' l) : ∀ r k : Nat, k + r = n → ∀ i', (∀ c, c ≠ a + 9 → i' c = i c) → (∀ j : Nat, j < k → i' (a + 9) (j : Int) = ((f j : Nat) : Int)) → gV w d X_X5_record P i' l 112 [(0, vR (some a)), (1, vI (t : Int)), (5, vI (k : Int))] [] := by
  intro r
  induction r with
  | zero =>
    intro k hk i' hi hj
    have e : k = n := by omega
    subst e
    have e7 : i' 7 8 = (k : Int) := by rw [hi 7 (by omega), h7]
    exact s_X5_record_112 _ _ ha ⟨⟨by omega, by omega⟩, fun _ => hP i' hi hj, fun q => by rw [e7] at q; omega⟩
  | succ r ih =>
    intro k hk i' hi hj
    have e7 : i' 7 8 = (n : Int) := by rw [hi 7 (by omega), h7]
    refine s_X5_record_112 _ _ ha ⟨⟨by omega, by omega⟩, fun q => by rw [e7] at q; omega, fun q => ⟨⟨by omega, by omega⟩, ⟨by omega, by omega⟩, fun _ => ⟨by omega, by omega⟩, fun _ => ⟨by omega, by omega⟩, ⟨by omega, by omega⟩, ?_⟩⟩
    have hv : (if (t : Int) ≤ (k : Int) then i' (a + 8) (k : Int) else i' (a + 3) (k : Int)) = ((f k : Nat) : Int) := by
      rw [hi (a + 8) (by omega), hi (a + 3) (by omega), ← hf k (by omega)]
      by_cases c : k < t
      · rw [if_pos c, if_neg (by omega)]
      · rw [if_neg c, if_pos (by omega)]
    rw [hv]
    refine ih (k + 1) (by omega) _ (fun c hc => by rw [u2_other _ _ _ hc, hi c hc]) (fun j hj2 => ?_)
    show (if a + 9 = a + 9 ∧ (j : Int) = (k : Int) then ((f k : Nat) : Int) else i' (a + 9) (j : Int)) = _
    by_cases c : j = k
    · subst c; rw [if_pos ⟨rfl, rfl⟩]
    · rw [if_neg (fun z => c (by omega))]; exact hj j (by omega)
end
