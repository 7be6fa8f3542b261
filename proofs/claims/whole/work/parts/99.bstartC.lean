/-! PAINTER in memory: its start -/
section
variable {w : Wd} {d : Nat} {i : IM} {l : LM}
theorem sp_X5_sumUp {P : IM → LM → Prop} {a : Nat} (ha : a = 63 ∨ a = 73) (hd : 3 ≤ d) {n : Nat} (hcv : cvOK i n) {t : Nat} (ht : t < n) (hsx : SxP i a n (t + 1)) (hP : ∀ i', sfrm a i i' → SxP i' a n t → P i' l) : cVd w d X_X5_sumUp [vR (some a), vI (t : Int)] i l P := by
  obtain ⟨d, rfl, hd1⟩ := d_pos hd
  have := lp_sumUp (w := w) (l := l) (P := P) (d := d) ha hd1 hcv ht hsx hP 3 0 rfl i (fun _ _ => rfl) (fun _ _ => rfl) (fun x hx => by cases hx)
  exact e_X5_sumUp (s_X5_sumUp _ ha this)
theorem lp_st2 {P : IM → LM → Prop} {a : Nat} (ha : a = 63 ∨ a = 73) (hd : 3 ≤ d) {n : Nat} {i : IM} (hcv : cvOK i n) (hP : ∀ i', sfrm a i i' → SxM i' a n → P i' l) : ∀ t : Nat, t ≤ n → ∀ i', sfrm a i i' → SxP i' a n t → gV w d X_X5_start P i' l 134 [(0, vR (some a)), (4, vI ((t : Int) - 1))] [] := by
  have hn := hcv.1
  intro t
  induction t with
  | zero =>
    intro _ i' hi hs
    exact s_X5_start_134 _ ha ⟨⟨by omega, by omega⟩, fun _ => hP i' hi ⟨fun t h => hs.1 t (Nat.zero_le _) h, fun t h => hs.2 t (Nat.zero_le _) h⟩, fun q => by omega⟩
  | succ t ih =>
    intro ht i' hi hs
    refine s_X5_start_134 _ ha ⟨⟨by omega, by omega⟩, fun q => by omega, fun q => ?_⟩
    have e : ((t + 1 : Nat) : Int) - 1 = (t : Int) := by omega
    rw [e]
    refine sp_X5_sumUp ha hd (cvOK_s ha hi hcv) (by omega) hs (fun i2 hi2 hs2 => ?_)
    exact ih (by omega) i2 (fun c a1 a2 a3 a4 a5 => (hi2 c a1 a2 a3 a4 a5).trans (hi c a1 a2 a3 a4 a5)) hs2
theorem lp_st1 {P : IM → LM → Prop} {a : Nat} (ha : a = 63 ∨ a = 73) (hd : 3 ≤ d) {n : Nat} {i : IM} (hcv : cvOK i n) {kept eased : Int} (he : rg eased) {l0 : LM} (hP : ∀ i' l', sfrm a i i' → SxM i' a n → (∀ c, c ≠ a + 1 → c ≠ a + 2 → l' c = l0 c) → (∀ q : Nat, q < (i 51 13).toNat → l' (a + 2) (q : Int) = sparL l0 (q : Int) kept eased ∧ l' (a + 1) (q : Int) = 0) → P i' l') : ∀ r q : Nat, q + r = (i 51 13).toNat → ∀ l', (∀ c, c ≠ a + 1 → c ≠ a + 2 → l' c = l0 c) → (∀ y : Nat, y < q → l' (a + 2) (y : Int) = sparL l0 (y : Int) kept eased ∧ l' (a + 1) (y : Int) = 0) → gV w d X_X5_start P i l' 27 [(0, vR (some a)), (2, vI kept), (3, vI eased), (4, vI (q : Int))] [] := by
  have hR := hcv.2.2.1
  have hn := hcv.1
  have h7 := hcv.2.1
  intro r
  induction r with
  | zero =>
    intro q hq l' hl hw
    have e : q = (i 51 13).toNat := by omega
    subst e
    refine s_X5_start_27 _ _ _ ha (by omega) ⟨⟨by omega, by omega⟩, fun _ => ?_, fun z => by omega⟩
    have n1 : u2 i (a + 4) (i 7 8) 1 7 8 = i 7 8 := by rw [u2_other _ _ _ (by omega)]
    rw [n1]
    have n2 : u2 (u2 i (a + 4) (i 7 8) 1) (a + 5) (i 7 8) 1 7 8 = i 7 8 := by rw [u2_other _ _ _ (by omega), n1]
    rw [n2]
    have n3 : u2 (u2 (u2 i (a + 4) (i 7 8) 1) (a + 5) (i 7 8) 1) (a + 6) (i 7 8) 0 7 8 = i 7 8 := by rw [u2_other _ _ _ (by omega), n2]
    rw [n3]
    have n4 : u2 (u2 (u2 (u2 i (a + 4) (i 7 8) 1) (a + 5) (i 7 8) 1) (a + 6) (i 7 8) 0) (a + 7) (i 7 8) 0 7 8 = i 7 8 := by rw [u2_other _ _ _ (by omega), n3]
    rw [n4, h7]
    refine ⟨⟨by omega, by omega⟩, ⟨by omega, by omega⟩, ⟨by omega, by omega⟩, ⟨by omega, by omega⟩, ?_⟩
    have hf : sfrm a i (u2 (u2 (u2 (u2 i (a + 4) (n : Int) 1) (a + 5) (n : Int) 1) (a + 6) (n : Int) 0) (a + 7) (n : Int) 0) := by
      intro c a1 a2 a3 a4 a5
      rw [u2_other _ _ _ a4, u2_other _ _ _ a3, u2_other _ _ _ a2, u2_other _ _ _ a1]
    have epc := pcM_s ha hf
    refine lp_st2 ha hd (cvOK_s ha hf hcv) (fun i2 hi2 hs2 => hP i2 l' (fun c a1 a2 a3 a4 a5 => (hi2 c a1 a2 a3 a4 a5).trans (hf c a1 a2 a3 a4 a5)) hs2 hl hw) n (Nat.le_refl _) _ (fun _ _ _ _ _ _ => rfl) ⟨fun t h1 h2 => ?_, fun t h1 h2 => by omega⟩
    have e : t = n := by omega
    subst e
    rw [epc, Nat.sub_self]
    refine ⟨?_, ?_, ?_, ?_⟩
    · rw [u2_other _ _ _ (by omega), u2_other _ _ _ (by omega), u2_other _ _ _ (by omega), u2_self]; rfl
    · rw [u2_other _ _ _ (by omega), u2_other _ _ _ (by omega), u2_self]; rfl
    · rw [u2_other _ _ _ (by omega), u2_self]; rfl
    · rw [u2_self]; rfl
  | succ r ih =>
    intro q hq l' hl hw
    have esp : sparL l' (q : Int) kept eased = sparL l0 (q : Int) kept eased := by unfold sparL; rw [hl 60 (by omega) (by omega)]
    refine s_X5_start_27 _ _ _ ha (by omega) ⟨⟨by omega, by omega⟩, fun z => by omega, fun z => ⟨⟨by omega, by omega⟩, he, ⟨by omega, by omega⟩, ?_⟩⟩
    refine ih (q + 1) (by omega) _ (fun c a1 a2 => by rw [u2l_other _ _ _ a1, u2l_other _ _ _ a2]; exact hl c a1 a2) (fun y hy => ?_)
    rw [u2l_other _ _ _ (show a + 2 ≠ a + 1 by omega)]
    by_cases e : y = q
    · subst e
      refine ⟨?_, ?_⟩
      · show (if a + 2 = a + 2 ∧ (y : Int) = (y : Int) then sparL l' (y : Int) kept eased else _) = _
        rw [if_pos ⟨rfl, rfl⟩, esp]
      · exact if_pos (c := a + 1 = a + 1 ∧ (y : Int) = (y : Int)) ⟨rfl, rfl⟩
    · refine ⟨?_, ?_⟩
      · show (if a + 2 = a + 2 ∧ (y : Int) = (q : Int) then sparL l' (q : Int) kept eased else l' (a + 2) (y : Int)) = _
        rw [if_neg (fun z => e (by have := z.2; omega))]; exact (hw y (by omega)).1
      · show (if a + 1 = a + 1 ∧ (y : Int) = (q : Int) then (0 : Int64) else u2l l' (a + 2) (q : Int) (sparL l' (q : Int) kept eased) (a + 1) (y : Int)) = _
        rw [if_neg (fun z => e (by have := z.2; omega)), u2l_other _ _ _ (by omega)]; exact (hw y (by omega)).2
theorem sp_X5_start {P : IM → LM → Prop} {a : Nat} (ha : a = 63 ∨ a = 73) (hd : 4 ≤ d) {n : Nat} (hcv : cvOK i n) {aim kept eased : Int} (h0 : rg aim) (he : rg eased) (hP : ∀ i' l', (∀ c, c ≠ a → c ≠ a + 4 → c ≠ a + 5 → c ≠ a + 6 → c ≠ a + 7 → c ≠ a + 8 → i' c = i c) → (∀ k : Int, k ≠ 11 → k ≠ 14 → k ≠ 15 → i' a k = i a k) → (i' a 11 = 0 ∧ i' a 14 = 16777215 ∧ i' a 15 = aim) → SxM i' a n → (∀ c, c ≠ a → c ≠ a + 1 → c ≠ a + 2 → l' c = l c) → l' a 16 = bytL kept → (∀ q : Nat, q < (i 51 13).toNat → l' (a + 2) (q : Int) = sparL l (q : Int) kept eased ∧ l' (a + 1) (q : Int) = 0) → P i' l') : cVd w d X_X5_start [vR (some a), vI aim, vI kept, vI eased] i l P := by
  obtain ⟨d, rfl, hd1⟩ := d_pos hd
  refine e_X5_start (s_X5_start _ _ _ ha (by omega) ⟨h0, ?_⟩)
  have hJ : ∀ c, c ≠ a → u2 (u2 (u2 i a 15 aim) a 11 0) a 14 16777215 c = i c := fun c hc => by rw [u2_other _ _ _ hc, u2_other _ _ _ hc, u2_other _ _ _ hc]
  have nE : ∀ (j : IM) (k v x : Int), k ≠ x → u2 j a k v a x = j a x := fun j k v x h => if_neg (fun z => h z.2.symm)
  have hcv' : cvOK (u2 (u2 (u2 i a 15 aim) a 11 0) a 14 16777215) n := by
    unfold cvOK pcM
    rw [hJ 7 (by omega), hJ 51 (by omega), hJ 52 (by omega), hJ 53 (by omega), hJ 54 (by omega), hJ 55 (by omega)]
    exact hcv
  have e51 : u2 (u2 (u2 i a 15 aim) a 11 0) a 14 16777215 51 13 = i 51 13 := by rw [hJ 51 (by omega)]
  have := lp_st1 (w := w) (P := P) (d := d) (l0 := u2l l a 16 (bytL kept)) ha hd1 hcv' (kept := kept) he (fun i' l' hi' hs' hl' hw' => by
    refine hP i' l' (fun c a0 a1 a2 a3 a4 a5 => (hi' c a1 a2 a3 a4 a5).trans (hJ c a0)) (fun k k1 k2 k3 => ?_) ⟨?_, ?_, ?_⟩ hs' (fun c c0 c1 c2 => by rw [hl' c c1 c2, u2l_other _ _ _ c0]) ?_ (fun q hq => ?_)
    · rw [hi' a (by omega) (by omega) (by omega) (by omega) (by omega), nE _ _ _ _ (fun z => k2 z.symm), nE _ _ _ _ (fun z => k1 z.symm), nE _ _ _ _ (fun z => k3 z.symm)]
    · rw [hi' a (by omega) (by omega) (by omega) (by omega) (by omega), nE _ _ _ _ (by decide), u2_self]
    · rw [hi' a (by omega) (by omega) (by omega) (by omega) (by omega), u2_self]
    · rw [hi' a (by omega) (by omega) (by omega) (by omega) (by omega), nE _ _ _ _ (by decide), nE _ _ _ _ (by decide), u2_self]
    · rw [hl' a (by omega) (by omega)]; exact if_pos (c := a = a ∧ (16 : Int) = 16) ⟨rfl, rfl⟩
    · have h1 := hw' q (by rw [e51]; exact hq)
      have e2 : sparL (u2l l a 16 (bytL kept)) (q : Int) kept eased = sparL l (q : Int) kept eased := by unfold sparL; rw [u2l_other _ _ _ (by omega)]
      rw [e2] at h1
      exact h1) (i 51 13).toNat 0 (by rw [e51]; exact Nat.zero_add _) (u2l l a 16 (bytL kept)) (fun _ _ _ => rfl) (fun y hy => by omega)
  exact this
end
