/-! the model lays out what PAINTINGS are made of -/
section
variable {w : Wd} {d : Nat} {l : LM}
/-- what laying changes -/
def lyf (i i' : IM) : Prop := (∀ (a : Nat) (k : Int), a ≠ 110 → a ≠ 111 → a ≠ 112 → a ≠ 113 → a ≠ 114 → a ≠ 115 → (a ≠ 99 ∨ (k ≠ 19 ∧ k ≠ 20 ∧ k ≠ 21)) → i' a k = i a k) ∧ ∀ k : Int, i' 112 k = i 112 k ∨ (0 ≤ i' 112 k ∧ i' 112 k ≤ 8)
theorem lyf_rf (i : IM) : lyf i i := ⟨fun _ _ _ _ _ _ _ _ _ => rfl, fun _ => Or.inl rfl⟩
theorem lyf_tr {i j k : IM} (h1 : lyf i j) (h2 : lyf j k) : lyf i k := ⟨fun a x p1 p2 p3 p4 p5 p6 p7 => (h2.1 a x p1 p2 p3 p4 p5 p6 p7).trans (h1.1 a x p1 p2 p3 p4 p5 p6 p7), fun x => by
  rcases h2.2 x with h | h
  · rw [h]; exact h1.2 x
  · exact Or.inr h⟩
theorem lyf_s {i i' : IM} (h : scrM i i') : lyf i i' := ⟨fun a x p1 _ _ _ _ _ p7 => h a x p1 p7, fun x => Or.inl (h 112 x (by decide) (Or.inl (by decide)))⟩
theorem lyf_u {i : IM} {a : Nat} {k v : Int} (h : a = 111 ∨ (a = 112 ∧ 0 ≤ v ∧ v ≤ 8) ∨ a = 113 ∨ a = 114 ∨ a = 115) : lyf i (u2 i a k v) := ⟨fun b x _ p2 p3 p4 p5 p6 _ => if_neg (fun z => by omega), fun x => by
  by_cases c : 112 = a ∧ x = k
  · have : u2 i a k v 112 x = v := if_pos c
    rw [this]; exact Or.inr (by omega)
  · exact Or.inl (if_neg c)⟩
theorem lyf_101 {i i' : IM} (h : lyf i i') : i' 101 = i 101 := funext fun k => h.1 101 k (by decide) (by decide) (by decide) (by decide) (by decide) (by decide) (Or.inl (by decide))
/-- choices and prices of the first THINGS, and k more choices of the next -/
def lyC (i i' : IM) (cs : List Cla) (t k : Nat) : Prop := ∀ x c : Nat, (x < t ∧ c < 3) ∨ (x = t ∧ c < k) → i' 115 (3 * (x : Int) + (c : Int)) = bI (mMay i (x : Int) (c : Int) = true) ∧ i' 114 (3 * (x : Int) + (c : Int)) = mPr i cs (x : Int) (c : Int)
theorem lyC_s {i i' i2 : IM} {cs : List Cla} {t k : Nat} (h114 : i2 114 = i' 114) (h115 : i2 115 = i' 115) (h : lyC i i' cs t k) : lyC i i2 cs t k := by
  unfold lyC; rw [h114, h115]; exact h
theorem lyC_u {i i' : IM} {cs : List Cla} {t k : Nat} (hk : k < 3) (h : lyC i i' cs t k) {J : IM} (h115 : J 115 = u2 i' 115 (3 * (t : Int) + (k : Int)) (bI (mMay i (t : Int) (k : Int) = true)) 115) (h114 : J 114 = i' 114) {p : Int} (hp : p = mPr i cs (t : Int) (k : Int)) : lyC i (u2 J 114 (3 * (t : Int) + (k : Int)) p) cs t (k + 1) := by
  intro x c hxc
  rw [u2_other _ _ _ (show (115 : Nat) ≠ 114 by decide), h115]
  by_cases e : x = t ∧ c = k
  · rw [e.1, e.2]
    exact ⟨u2_self .., by rw [u2_self]; exact hp⟩
  · have hne : ¬ (3 * (x : Int) + (c : Int) = 3 * (t : Int) + (k : Int)) := fun z => e ⟨by omega, by omega⟩
    have a1 : u2 i' 115 (3 * (t : Int) + (k : Int)) (bI (mMay i (t : Int) (k : Int) = true)) 115 (3 * (x : Int) + (c : Int)) = i' 115 (3 * (x : Int) + (c : Int)) := if_neg (fun z => hne z.2)
    have a2 : u2 J 114 (3 * (t : Int) + (k : Int)) p 114 (3 * (x : Int) + (c : Int)) = i' 114 (3 * (x : Int) + (c : Int)) := by
      have : u2 J 114 (3 * (t : Int) + (k : Int)) p 114 (3 * (x : Int) + (c : Int)) = J 114 (3 * (x : Int) + (c : Int)) := if_neg (fun z => hne z.2)
      rw [this, h114]
    rw [a1, a2]
    exact h x c (by omega)
theorem lp_lays12 {P : IM → LM → Prop} (hd : 78 ≤ d) {i : IM} {A : Nat → List Cla} (hk : kOK (i 101)) (hf : forceM (i 101) A) (hc : hasDep (inForce (i 101) A)) {months : Int} {t : Nat} (ht : (t : Int) < i 101 307) (hnext : ∀ i', lyf i i' → lyC i i' (inForce (i 101) A) (t + 1) 0 → gV w d X_X12_lays P i' l 2 [(0, vR (some 99)), (1, vI months), (2, vI ((t : Int) + 1))] []) : ∀ r k : Nat, k + r = 3 → ∀ i', lyf i i' → lyC i i' (inForce (i 101) A) t k → gV w d X_X12_lays P i' l 12 [(0, vR (some 99)), (1, vI months), (2, vI (t : Int)), (3, vI (k : Int))] [] := by
  have h307 := hk.1.1
  intro r
  induction r with
  | zero =>
    intro k hk2 i' hi hly
    have e : k = 3 := by omega
    subst e
    exact s_X12_lays_12 _ _ _ (by omega) ⟨⟨by omega, by omega⟩, fun _ => hnext i' hi (fun x c hxc => hly x c (by omega)), fun z => by omega⟩
  | succ r ih =>
    intro k hk2 i' hi hly
    have hk3 : k < 3 := by omega
    have e1 := lyf_101 hi
    have eM : mMay i' = mMay i := mMay_K e1
    have htr := hk.2.1 (t : Int) (by omega) (by omega)
    have hi1 : lyf i (u2 i' 115 (3 * (t : Int) + (k : Int)) (bI (mMay i (t : Int) (k : Int) = true))) := lyf_tr hi (lyf_u (by omega))
    have e11 := lyf_101 hi1
    refine s_X12_lays_12 _ _ _ (by omega) ⟨⟨by omega, by omega⟩, fun z => by omega, fun z => ⟨⟨by omega, by omega⟩, ⟨by omega, by omega⟩, ⟨by omega, by omega⟩, fun _ => ⟨by omega, by omega⟩, ?_⟩⟩
    rw [eM, u2_self]
    refine ⟨fun z2 => ⟨⟨by omega, by omega⟩, ?_⟩, fun z2 => ⟨⟨by omega, by omega⟩, ?_⟩⟩
    · refine ih (k + 1) (by omega) _ (lyf_tr hi1 (lyf_u (by omega))) (lyC_u hk3 hly rfl (u2_other _ _ _ (by decide)) ?_)
      unfold mPr
      rw [if_neg]
      rintro ⟨y1, y2⟩
      rcases z2 with z2 | z2
      · exact y2 z2
      · rw [bI_eq] at z2; exact z2 y1
    · have hm : mMay i (t : Int) (k : Int) = true ∧ ¬ (k : Int) = 0 := by
        refine ⟨?_, fun y => z2 (Or.inl y)⟩
        by_cases y : mMay i (t : Int) (k : Int) = true
        · exact y
        · exact absurd (Or.inr (bI_f y)) z2
      have hcl := mColour_lt (i := i) hk (t := (t : Int)) (c := (k : Int)) ⟨by omega, by omega⟩
      rw [mColour_K e11]
      refine sp_X12_priceOf (by omega) (A := A) (by rw [e11]; exact hf) (by rw [e11]; exact hc) ⟨by omega, by omega⟩ ⟨by omega, by omega⟩ (by rw [e11]; exact ⟨by omega, by omega⟩) (fun i2 hi2 => ⟨⟨by omega, by omega⟩, ?_⟩)
      rw [e11]
      refine ih (k + 1) (by omega) _ (lyf_tr (lyf_tr hi1 (lyf_s hi2)) (lyf_u (by omega))) (lyC_u hk3 hly (scrM_c hi2 (by decide) (by decide)) (by rw [scrM_c hi2 (by decide) (by decide)]; exact u2_other _ _ _ (by decide)) ?_)
      unfold mPr
      rw [if_pos hm]
end
