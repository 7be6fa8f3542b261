/-! law() of the model -/
section
variable {w : Wd} {d : Nat} {i : IM} {l : LM}
/-- the first q TOKENS lie with LAW t -/
def kpT (B : Nat → Int) (n t q : Nat) (K K' : Int → Int) : Prop := ∀ x : Int, K' x = if 320 + 400 * (t : Int) ≤ x ∧ x < 320 + 400 * (t : Int) + (q : Int) then (tT B n).1 (x - (320 + 400 * (t : Int))).toNat else if 2720 + 400 * (t : Int) ≤ x ∧ x < 2720 + 400 * (t : Int) + (q : Int) then (tT B n).2.1 (x - (2720 + 400 * (t : Int))).toNat else K x
theorem lp_mlaw {P : Int → IM → LM → Prop} {B : Nat → Int} {n t : Nat} (hC : CT B n) (ht : t < 6) (hm : MkT B n i) (h311 : i 101 311 = (t : Int)) (hP : ∀ i', (∀ a, a ≠ 101 → i' a = i a) → kpT B n t (nT B n) (i 101) (i' 101) → cI w d X_X12_good [vR (some 99), vI (t : Int)] (u2 i' 101 311 ((t : Int) + 1)) l P) : ∀ r q : Nat, q + r = nT B n → ∀ i', (∀ a, a ≠ 101 → i' a = i a) → kpT B n t q (i 101) (i' 101) → gI w d X_X12_law P i' l 64 [(0, vR (some 99)), (1, vI (t : Int)), (2, vI (q : Int))] [] := by
  have hn := nT_le B n
  have h400 := hC.1
  intro r
  induction r with
  | zero =>
    intro q hq i' ho hk
    have e15 : i' 99 15 = (nT B n : Int) := by rw [ho 99 (by decide)]; exact hm.1
    have eq : q = nT B n := by omega
    subst eq
    have e311 : i' 101 311 = (t : Int) := by rw [hk, if_neg (by omega), if_neg (by omega), h311]
    refine s_X12_law_64 _ _ ⟨⟨by omega, by omega⟩, fun _ => ⟨by rw [e311]; exact ⟨by omega, by omega⟩, ?_⟩, fun z => absurd (by omega) z⟩
    rw [e311]
    exact hP i' ho hk
  | succ r ih =>
    intro q hq i' ho hk
    have e15 : i' 99 15 = (nT B n : Int) := by rw [ho 99 (by decide)]; exact hm.1
    have e107 : i' 107 (q : Int) = (tT B n).1 q := by rw [ho 107 (by decide)]; exact (hm.2 q (by omega)).1
    have e108 : (u2 i' 101 ((320 + (400 * (t : Int))) + (q : Int)) (i' 107 (q : Int))) 108 (q : Int) = (tT B n).2.1 q := by rw [u2_other _ _ _ (by decide), ho 108 (by decide)]; exact (hm.2 q (by omega)).2.1
    refine s_X12_law_64 _ _ ⟨⟨by omega, by omega⟩, fun z => by omega, fun z => ⟨⟨by omega, by omega⟩, ⟨by omega, by omega⟩, ⟨by omega, by omega⟩, ?_⟩⟩
    rw [e108, e107]
    have nx := ih (q + 1) (by omega) (u2 (u2 i' 101 ((320 + (400 * (t : Int))) + (q : Int)) ((tT B n).1 q)) 101 ((2720 + (400 * (t : Int))) + (q : Int)) ((tT B n).2.1 q)) (fun a ha => by rw [u2_other _ _ _ ha, u2_other _ _ _ ha, ho a ha]) (fun x => by
      rw [u2_at, u2_at]
      by_cases c1 : x = (2720 + (400 * (t : Int))) + (q : Int)
      · rw [if_pos c1, if_neg (by omega), if_pos (by omega), c1, show (2720 + 400 * (t : Int) + (q : Int) - (2720 + 400 * (t : Int))).toNat = q by omega]
      · rw [if_neg c1]
        by_cases c2 : x = (320 + (400 * (t : Int))) + (q : Int)
        · rw [if_pos c2, if_pos (by omega), c2, show (320 + 400 * (t : Int) + (q : Int) - (320 + 400 * (t : Int))).toNat = q by omega]
        · rw [if_neg c2, hk]
          by_cases c3 : 320 + 400 * (t : Int) ≤ x ∧ x < 320 + 400 * (t : Int) + (q : Int)
          · rw [if_pos c3, if_pos (by omega)]
          · rw [if_neg c3, if_neg (show ¬ (320 + 400 * (t : Int) ≤ x ∧ x < 320 + 400 * (t : Int) + ((q + 1 : Nat) : Int)) by omega)]
            by_cases c4 : 2720 + 400 * (t : Int) ≤ x ∧ x < 2720 + 400 * (t : Int) + (q : Int)
            · rw [if_pos c4, if_pos (by omega)]
            · rw [if_neg c4, if_neg (by omega)])
    rw [show ((q + 1 : Nat) : Int) = (q : Int) + 1 by omega] at nx
    exact nx
theorem md_lawC {P : Int → IM → LM → Prop} (hd : 43 ≤ d) {B : Nat → Int} {n : Nat} (hC : CT B n) (h10 : i 99 10 = (n : Int)) (hB : BM B n i) (hW : Wrd i) (ht : 0 ≤ i 101 311 ∧ i 101 311 ≤ 6) (hfull : i 101 311 = 6 → ∀ d1, d = d1 + 1 → cI w d1 X_X12_refuses [vR (some 99), vI (-5)] (u2 i 99 10 0) l P) (hbad : ¬ i 101 311 = 6 → ∀ q i', pWhole (tT B n) = .inl q → rsf i i' → i' 99 10 = 0 → i' 99 11 = (poT B n q : Int) → ∀ d1, d = d1 + 1 → cI w d1 X_X12_refuses [vR (some 99), vI (-6)] i' l P) (hok : ¬ i 101 311 = 6 → ∀ cs i' i2, pWhole (tT B n) = .inr cs → rsf i i' → i' 99 10 = 0 → i' 99 11 = -1 → (∀ a, a ≠ 101 → i2 a = i' a) → kpT B n (i 101 311).toNat (nT B n) (u2 i' 101 (314 + i 101 311) (nT B n : Int) 101) (i2 101) → ∀ d1, d = d1 + 1 → cI w d1 X_X12_good [vR (some 99), vI (i 101 311)] (u2 i2 101 311 (i 101 311 + 1)) l P) : cI w d X_X12_law [vR (some 99)] i l P := by
  obtain ⟨d, rfl, hd1⟩ := d_pos hd
  refine e_X12_law (s_X12_law ⟨fun z => hfull z d rfl, fun z => ?_⟩)
  refine sp_X12_reads (by omega) hC h10 hB hW (fun q i' e f1 a1 a2 => ⟨fun _ => hbad z q i' e f1 a1 a2 d rfl, fun y => absurd rfl y⟩) (fun cs i' e f1 a1 a2 m1 => ⟨fun y => absurd y (by decide), fun _ => ?_⟩)
  obtain ⟨t, et⟩ := Int.eq_ofNat_of_zero_le ht.1
  have e311 : i' 101 311 = (t : Int) := by rw [f1.1 101 (by decide) (by decide) (by decide) (by decide), et]
  have e15 := m1.1
  rw [e311, e15]
  refine ⟨⟨by omega, by omega⟩, ?_⟩
  have m2 : MkT B n (u2 i' 101 (314 + (t : Int)) (nT B n : Int)) := by
    refine ⟨by rw [u2_other _ _ _ (by decide)]; exact e15, fun j hj => ?_⟩
    rw [u2_other _ _ _ (by decide), u2_other _ _ _ (by decide), u2_other _ _ _ (by decide)]
    exact m1.2 j hj
  refine lp_mlaw (i := u2 i' 101 (314 + (t : Int)) (nT B n : Int)) hC (by omega) m2 (by rw [u2_at, if_neg (by omega), e311]) (fun i2 o2 k2 => ?_) (nT B n) 0 (by omega) _ (fun _ _ => rfl) (fun x => by rw [if_neg (by omega), if_neg (by omega)])
  have h := hok z cs i' i2 e f1 a1 a2 (fun a ha => by rw [o2 a ha, u2_other _ _ _ ha]) (by
    rw [et]
    exact k2) d rfl
  rw [et] at h
  exact h
end
