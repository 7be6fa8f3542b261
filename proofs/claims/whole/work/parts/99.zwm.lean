/-! TOKENS in the model: splits -/
section
variable {w : Wd} {d : Nat} {i : IM} {l : LM}
def spf (i i' : IM) : Prop := (∀ a, a ≠ 99 → a ≠ 107 → a ≠ 108 → a ≠ 109 → i' a = i a) ∧ ∀ x : Int, x ≠ 15 → i' 99 x = i 99 x
theorem spf_rf (i : IM) : spf i i := ⟨fun _ _ _ _ _ => rfl, fun _ _ => rfl⟩
theorem spf_tr {i j k : IM} (h1 : spf i j) (h2 : spf j k) : spf i k := ⟨fun a x y z t => (h2.1 a x y z t).trans (h1.1 a x y z t), fun x h => (h2.2 x h).trans (h1.2 x h)⟩
theorem spf_a {i i' : IM} (h : spf i i') {a : Nat} (ha : a = 107 ∨ a = 108 ∨ a = 109) (x v : Int) : spf i (u2 i' a x v) := ⟨fun b h1 h2 h3 h4 => by rw [u2_other _ _ _ (by omega)]; exact h.1 b h1 h2 h3 h4, fun y hy => by rw [u2_other _ _ _ (by omega)]; exact h.2 y hy⟩
theorem spf_t {i i' : IM} (h : spf i i') (v : Int) : spf i (u2 i' 99 15 v) := ⟨fun b h1 h2 h3 h4 => by rw [u2_other _ _ _ h1]; exact h.1 b h1 h2 h3 h4, fun y hy => by rw [u2_at, if_neg hy]; exact h.2 y hy⟩
def SpT (B : Nat → Int) (n T : Nat) (J : IM) : Prop := ∀ j : Nat, j < T → poT B n j < n ∧ J 109 (j : Int) = (poT B n j : Int) ∧ J 107 (j : Int) = tcM B n (poT B n j) ∧ J 108 (j : Int) = vlT B n (poT B n j)
def SpI (B : Nat → Int) (n : Nat) (i : IM) (T k : Nat) (J : IM) : Prop := spf i J ∧ J 99 15 = (T : Int) ∧ SpT B n T J ∧ T ≤ k ∧ k ≤ n ∧ skT B n k = poT B n T
def SpJ (B : Nat → Int) (n : Nat) (i : IM) (T k q : Nat) (J : IM) : Prop := spf i J ∧ J 99 15 = (T : Int) ∧ SpT B n T J ∧ (J 109 (T : Int) = (k : Int) ∧ J 107 (T : Int) = tcM B n k ∧ J 108 (T : Int) = if isDg B k = true then vM B k (q - k) else 0) ∧ T ≤ k ∧ k < n ∧ poT B n T = k
theorem SpT_a {B : Nat → Int} {n T : Nat} {J : IM} (h : SpT B n T J) {a : Nat} (ha : a = 107 ∨ a = 108 ∨ a = 109) (v : Int) : SpT B n T (u2 J a (T : Int) v) := fun j hj => by
  have e : ∀ b : Nat, u2 J a (T : Int) v b (j : Int) = J b (j : Int) := fun b => if_neg (fun q => by omega)
  rw [e, e, e]
  exact h j hj
/-- what is done for one TOKEN -/
theorem sl_done {B : Nat → Int} {n T k : Nat} {J : IM} (h : SpJ B n i T k (enT B n k) J) : SpI B n i (T + 1) (enT B n k) (u2 J 99 15 ((J 99 15) + 1)) := by
  obtain ⟨h1, h2, h3, ⟨h4, h5, h6⟩, h7, h8, h9⟩ := h
  have he := enT_le (B := B) h8
  refine ⟨spf_t h1 _, by rw [u2_self, h2]; omega, fun j hj => ?_, by omega, he.2, ?_⟩
  · rw [u2_other _ _ _ (by decide), u2_other _ _ _ (by decide), u2_other _ _ _ (by decide)]
    by_cases c : j = T
    · subst c
      rw [h9]
      refine ⟨h8, h4, h5, ?_⟩
      rw [h6]; rfl
    · exact h3 j (by omega)
  · rw [poT_s, h9, if_pos h8]
theorem sl_169 {P : IM → LM → Prop} (hd : 1 ≤ d) {B : Nat → Int} {n T k : Nat} (hn : n ≤ 400) (hB : BM B n i) {b : Int} (hb : (48 ≤ b ∧ b ≤ 57) ↔ isDg B k = true) (hbr : rg b) (hN : ∀ J, SpI B n i (T + 1) (enT B n k) J → gV w d X_X12_splits P J l 7 [(0, vR (some 99)), (1, vI (n : Int)), (2, vI (enT B n k : Int))] []) : ∀ r q : Nat, q + r = enT B n k → k ≤ q → ∀ J, SpJ B n i T k q J → gV w d X_X12_splits P J l 169 [(0, vR (some 99)), (1, vI (n : Int)), (3, vI b), (4, vI (enT B n k : Int)), (5, vI (q : Int))] [] := by
  intro r
  induction r with
  | zero =>
    intro q hq hkq J hJ
    have e0 : q = enT B n k := by omega
    subst e0
    have he := enT_le (B := B) hJ.2.2.2.2.2.1
    have h15 := hJ.2.1
    have hT := hJ.2.2.2.2.1
    exact s_X12_splits_169 _ _ _ _ hd ⟨⟨by omega, by omega⟩, ⟨by omega, by omega⟩, fun _ => hbr, fun _ => ⟨⟨by omega, by omega⟩, hN _ (sl_done hJ)⟩, fun z => absurd (Or.inl (by omega)) z⟩
  | succ r ih =>
    intro q hq hkq J hJ
    have he := enT_le (B := B) hJ.2.2.2.2.2.1
    have h15 := hJ.2.1
    have hT := hJ.2.2.2.2.1
    have hk := hJ.2.2.2.2.2.1
    refine s_X12_splits_169 _ _ _ _ hd ⟨⟨by omega, by omega⟩, ⟨by omega, by omega⟩, fun _ => hbr, fun z => ⟨⟨by omega, by omega⟩, hN _ (sl_done ?_)⟩, fun z => ?_⟩
    · have hnd : ¬ isDg B k = true := fun y => by
        rcases z with z | z
        · omega
        · exact z (hb.mpr y)
      obtain ⟨h1, h2, h3, ⟨h4, h5, h6⟩, h7⟩ := hJ
      rw [if_neg hnd] at h6
      exact ⟨h1, h2, h3, ⟨h4, h5, by rw [if_neg hnd]; exact h6⟩, h7⟩
    · have hdg : isDg B k = true := by
        by_cases c : isDg B k = true
        · exact c
        · exact absurd (Or.inr (fun y => c (hb.mp y))) z
      obtain ⟨h1, h2, h3, ⟨h4, h5, h6⟩, h7⟩ := hJ
      rw [if_pos hdg] at h6
      have hin := enT_dg (n := n) hdg (q := q - k) (by omega)
      rw [show k + (q - k) = q by omega] at hin
      have hv := v_ok (B := B) (k := k) (q - k) (fun x hx => enT_dg (n := n) hdg (by omega))
      have e105 : J 105 (q : Int) = B q := by
        rw [h1.1 105 (by decide) (by decide) (by decide) (by decide)]
        exact (hB q (by omega)).2.1 (by omega)
      rw [h2, h6, e105]
      have ev : (if vM B k (q - k) ≤ 1000000 then 10 * vM B k (q - k) + B q - 48 else vM B k (q - k)) = vM B k (q + 1 - k) := by
        rw [show q + 1 - k = (q - k) + 1 by omega]
        show _ = if vM B k (q - k) ≤ 1000000 then 10 * vM B k (q - k) + B (k + (q - k)) - 48 else vM B k (q - k)
        rw [show k + (q - k) = q by omega]
      rw [ev]
      have hv2 := v_ok (B := B) (k := k) (q + 1 - k) (fun x hx => enT_dg (n := n) hdg (by omega))
      refine ⟨⟨by omega, by omega⟩, fun _ => ⟨by omega, by omega⟩, fun _ => ⟨by omega, by omega⟩, fun _ => ⟨by omega, by omega⟩, ⟨by omega, by omega⟩, ⟨by omega, by omega⟩, ?_⟩
      have nx := ih (q + 1) (by omega) (by omega) (u2 J 108 (T : Int) (vM B k (q + 1 - k))) ⟨spf_a h1 (by omega) _ _, by rw [u2_other _ _ _ (by decide)]; exact h2, SpT_a h3 (by omega) _, ⟨by rw [u2_other _ _ _ (by decide)]; exact h4, by rw [u2_other _ _ _ (by decide)]; exact h5, by rw [u2_self, if_pos hdg]⟩, h7⟩
      rw [show ((q + 1 : Nat) : Int) = (q : Int) + 1 by omega] at nx
      exact nx
theorem sl_100 {P : IM → LM → Prop} (hd : 2 ≤ d) {B : Nat → Int} {n T k : Nat} (hn : n ≤ 400) (hB : BM B n i) (hW : Wrd i) {J : IM} (hJ : SpI B n i T k J) (hk : k < n) (hp : poT B n T = k) (hN : ∀ J, SpI B n i (T + 1) (enT B n k) J → gV w d X_X12_splits P J l 7 [(0, vR (some 99)), (1, vI (n : Int)), (2, vI (enT B n k : Int))] []) : gV w d X_X12_splits P J l 100 [(0, vR (some 99)), (1, vI (n : Int)), (2, vI (k : Int)), (3, vI (i 105 (k : Int))), (4, vI (enT B n k : Int))] [] := by
  obtain ⟨h1, h2, h3, h4, h5, h6⟩ := hJ
  have he := enT_le (B := B) hk
  obtain ⟨b1, b2, b3, b4⟩ := hB k hk
  have hbr : rg (i 105 (k : Int)) := ⟨by omega, by omega⟩
  have hdg : (48 ≤ i 105 (k : Int) ∧ i 105 (k : Int) ≤ 57) ↔ isDg B k = true := ⟨fun z => decide_eq_true (by omega), fun z => by have := of_decide_eq_true z; omega⟩
  have hlw : (97 ≤ i 105 (k : Int) ∧ i 105 (k : Int) ≤ 122) ↔ isLw B k = true := ⟨fun z => decide_eq_true (by omega), fun z => by have := of_decide_eq_true z; omega⟩
  have c15 : (u2 J 109 (J 99 15) (k : Int)) 99 15 = (T : Int) := by rw [u2_other _ _ _ (by decide), h2]
  have d15 : (u2 (u2 J 109 (J 99 15) (k : Int)) 108 ((u2 J 109 (J 99 15) (k : Int)) 99 15) 0) 99 15 = (T : Int) := by rw [u2_other _ _ _ (by decide), c15]
  refine s_X12_splits_100 _ _ _ _ (by omega) ⟨⟨by omega, by omega⟩, ⟨by omega, by omega⟩, ⟨by omega, by omega⟩, hbr, fun z => ?_, fun z => ?_⟩
  · rw [d15, c15, h2]
    have f1 : spf i (u2 (u2 J 109 (T : Int) (k : Int)) 108 (T : Int) 0) := spf_a (spf_a h1 (by omega) _ _) (by omega) _ _
    have hl := hlw.mp z
    have hnd : ¬ isDg B k = true := fun y => by have := hdg.mpr y; omega
    refine sp_X12_wordOf (by omega) (B := B) (Nat.le_of_lt he.1) (by omega) ?_ (fun j j1 j2 => ?_) ⟨⟨by omega, by omega⟩, ?_⟩
    · unfold Wrd
      rw [f1.1 104 (by decide) (by decide) (by decide) (by decide)]
      exact hW
    · rw [f1.1 105 (by decide) (by decide) (by decide) (by decide)]
      have hj := hB j (by omega)
      have e : enT B n k = whl (isLw B) (n - k) k := by unfold enT; rw [if_pos hl]
      have := of_decide_eq_true (whl_in (p := isLw B) (n - k) k j j1 (by omega))
      exact hj.2.1 (by omega)
    · refine sl_169 (by omega) hn hB hdg hbr hN (enT B n k - k) k (by omega) (Nat.le_refl _) _ ⟨spf_a f1 (by omega) _ _, ?_, SpT_a (SpT_a (SpT_a h3 (by omega) _) (by omega) _) (by omega) _, ⟨?_, ?_, ?_⟩, h4, hk, hp⟩
      · rw [u2_other _ _ _ (by decide), u2_other _ _ _ (by decide), u2_other _ _ _ (by decide), h2]
      · rw [u2_other _ _ _ (by decide), u2_other _ _ _ (by decide), u2_self]
      · rw [u2_self]; unfold tcM; rw [if_pos hl]
      · rw [u2_other _ _ _ (by decide), u2_self, if_neg hnd]
  · rw [d15, c15, h2]
    have f1 : spf i (u2 (u2 J 109 (T : Int) (k : Int)) 108 (T : Int) 0) := spf_a (spf_a h1 (by omega) _ _) (by omega) _ _
    have hnl : ¬ isLw B k = true := fun y => z (hlw.mpr y)
    have etc : (if (48 ≤ i 105 (k : Int) ∧ i 105 (k : Int) ≤ 57) then 50 else 100 + (iand (i 105 (k : Int)) 255)) = tcM B n k := by
      unfold tcM
      rw [if_neg hnl, b4]
      by_cases c : isDg B k = true
      · rw [if_pos (hdg.mpr c), if_pos c]
      · rw [if_neg (fun y => c (hdg.mp y)), if_neg c]
    rw [etc]
    have hrg : rg (tcM B n k) := by
      rw [← etc, b4]
      split
      · exact rg_lit rfl
      · exact ⟨by omega, by omega⟩
    refine ⟨⟨by omega, by omega⟩, hrg, ?_⟩
    refine sl_169 (by omega) hn hB hdg hbr hN (enT B n k - k) k (by omega) (Nat.le_refl _) _ ⟨spf_a f1 (by omega) _ _, ?_, SpT_a (SpT_a (SpT_a h3 (by omega) _) (by omega) _) (by omega) _, ⟨?_, ?_, ?_⟩, h4, hk, hp⟩
    · rw [u2_other _ _ _ (by decide), u2_other _ _ _ (by decide), u2_other _ _ _ (by decide), h2]
    · rw [u2_other _ _ _ (by decide), u2_other _ _ _ (by decide), u2_self]
    · rw [u2_self]
    · rw [u2_other _ _ _ (by decide), u2_self, Nat.sub_self]
      split <;> rfl
end
