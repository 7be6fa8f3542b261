/-! TOKENS in the model: splits, the whole TEXT -/
section
variable {w : Wd} {d : Nat} {i : IM} {l : LM}
theorem sl_43 {P : IM → LM → Prop} (hd : 1 ≤ d) {B : Nat → Int} {n k : Nat} (hn : n ≤ 400) (hB : BM B n i) {J : IM} (hf : spf i J) {b : Int} (hk : k < n) (hlw : isLw B k = true) (hN : gV w d X_X12_splits P J l 68 [(0, vR (some 99)), (1, vI (n : Int)), (2, vI (k : Int)), (3, vI b), (4, vI (enT B n k : Int))] []) : ∀ r q : Nat, q + r = n → k < q → whl (isLw B) (n - q) q = enT B n k → gV w d X_X12_splits P J l 43 [(0, vR (some 99)), (1, vI (n : Int)), (2, vI (k : Int)), (3, vI b), (4, vI (q : Int))] [] := by
  intro r
  induction r with
  | zero =>
    intro q hq hkq he
    have e0 : q = enT B n k := by rw [← he]; exact (whl_end (by omega)).symm
    refine s_X12_splits_43 _ _ _ _ hd ⟨⟨by omega, by omega⟩, ⟨by omega, by omega⟩, fun z => by omega, fun _ => ?_, fun z => absurd (Or.inl (by omega)) z⟩
    rw [e0]; exact hN
  | succ r ih =>
    intro q hq hkq he
    have e105 : J 105 (q : Int) = i 105 (q : Int) := by rw [hf.1 105 (by decide) (by decide) (by decide) (by decide)]
    obtain ⟨b1, b2, b3, -⟩ := hB q (by omega)
    refine s_X12_splits_43 _ _ _ _ hd ⟨⟨by omega, by omega⟩, ⟨by omega, by omega⟩, fun z => ⟨by omega, by omega⟩, fun z => ?_, fun z => ?_⟩
    · have hnl : isLw B q = false := decide_eq_false (fun y => by omega)
      have e0 : q = enT B n k := by rw [← he]; exact (whl_no hnl).symm
      rw [e0]; exact hN
    · have hl : isLw B q = true := decide_eq_true (by omega)
      have nx := ih (q + 1) (by omega) (by omega) (by rw [← he]; exact (whl_go (by omega) hl).symm)
      rw [show ((q + 1 : Nat) : Int) = (q : Int) + 1 by omega] at nx
      exact nx
theorem sl_75 {P : IM → LM → Prop} (hd : 1 ≤ d) {B : Nat → Int} {n k : Nat} (hn : n ≤ 400) (hB : BM B n i) {J : IM} (hf : spf i J) {b : Int} (hk : k < n) (hN : gV w d X_X12_splits P J l 100 [(0, vR (some 99)), (1, vI (n : Int)), (2, vI (k : Int)), (3, vI b), (4, vI (enT B n k : Int))] []) : ∀ r q : Nat, q + r = n → k < q → whl (isDg B) (n - q) q = enT B n k → gV w d X_X12_splits P J l 75 [(0, vR (some 99)), (1, vI (n : Int)), (2, vI (k : Int)), (3, vI b), (4, vI (q : Int))] [] := by
  intro r
  induction r with
  | zero =>
    intro q hq hkq he
    have e0 : q = enT B n k := by rw [← he]; exact (whl_end (by omega)).symm
    refine s_X12_splits_75 _ _ _ _ hd ⟨⟨by omega, by omega⟩, ⟨by omega, by omega⟩, fun z => by omega, fun _ => ?_, fun z => absurd (Or.inl (by omega)) z⟩
    rw [e0]; exact hN
  | succ r ih =>
    intro q hq hkq he
    have e105 : J 105 (q : Int) = i 105 (q : Int) := by rw [hf.1 105 (by decide) (by decide) (by decide) (by decide)]
    obtain ⟨b1, b2, b3, -⟩ := hB q (by omega)
    refine s_X12_splits_75 _ _ _ _ hd ⟨⟨by omega, by omega⟩, ⟨by omega, by omega⟩, fun z => ⟨by omega, by omega⟩, fun z => ?_, fun z => ?_⟩
    · have hnl : isDg B q = false := decide_eq_false (fun y => by omega)
      have e0 : q = enT B n k := by rw [← he]; exact (whl_no hnl).symm
      rw [e0]; exact hN
    · have hl : isDg B q = true := decide_eq_true (by omega)
      have nx := ih (q + 1) (by omega) (by omega) (by rw [← he]; exact (whl_go (by omega) hl).symm)
      rw [show ((q + 1 : Nat) : Int) = (q : Int) + 1 by omega] at nx
      exact nx
theorem sl_end {B : Nat → Int} {n T : Nat} {J : IM} (hJ : SpI B n i T n J) : nT B n = T ∧ MkT B n (u2 (u2 (u2 J 109 (T : Int) (n : Int)) 107 (T : Int) 0) 108 (T : Int) 0) := by
  obtain ⟨h1, h2, h3, h4, h5, h6⟩ := hJ
  have hpT : poT B n T = n := by
    rw [← h6]
    have := skT_le (B := B) (Nat.le_refl n)
    omega
  have hT : nT B n = T := nT_eq (fun j hj => (h3 j hj).1) hpT
  refine ⟨hT, ?_, fun j hj => ?_⟩
  · rw [u2_other _ _ _ (by decide), u2_other _ _ _ (by decide), u2_other _ _ _ (by decide), h2, hT]
  · rw [hT] at hj
    have e1 : (tT B n).1 j = if j < T then tcM B n (poT B n j) else 0 := by rw [← hT]; rfl
    have e2 : (tT B n).2.1 j = if j < T then vlT B n (poT B n j) else 0 := by rw [← hT]; rfl
    rw [e1, e2, u2_other _ _ _ (by decide), u2_at, u2_at, u2_other _ _ _ (by decide), u2_other _ _ _ (by decide), u2_other _ _ _ (by decide), u2_other _ _ _ (by decide), u2_other _ _ _ (by decide), u2_at]
    by_cases c : j = T
    · subst c
      simp only [if_neg (Nat.lt_irrefl j), if_true]
      exact ⟨trivial, trivial, by rw [hpT]⟩
    · have hj2 := h3 j (by omega)
      have hc : ¬ (j : Int) = (T : Int) := by omega
      have hl : j < T := by omega
      simp only [if_neg hc, if_pos hl]
      exact ⟨hj2.2.2.1, hj2.2.2.2, hj2.2.1⟩
theorem sl_7 {P : IM → LM → Prop} (hd : 2 ≤ d) {B : Nat → Int} {n : Nat} (hn : n ≤ 400) (hB : BM B n i) (hW : Wrd i) (hP : ∀ i', spf i i' → MkT B n i' → P i' l) : ∀ (f k : Nat), n - k < f → ∀ (T : Nat) (J : IM), SpI B n i T k J → gV w d X_X12_splits P J l 7 [(0, vR (some 99)), (1, vI (n : Int)), (2, vI (k : Int))] [] := by
  intro f
  induction f with
  | zero => intro k hf; omega
  | succ f ih =>
    intro k hf T J hJ
    obtain ⟨h1, h2, h3, h4, h5, h6⟩ := id hJ
    have h6' : skT B n k = poT B n T := h6
    have e105 : J 105 (k : Int) = i 105 (k : Int) := by rw [h1.1 105 (by decide) (by decide) (by decide) (by decide)]
    refine s_X12_splits_7 _ _ (by omega) ⟨⟨by omega, by omega⟩, ⟨by omega, by omega⟩, fun z => ?_, fun z => ?_⟩
    · have ek : k = n := by omega
      subst ek
      have c15 : (u2 J 109 (J 99 15) (k : Int)) 99 15 = (T : Int) := by rw [u2_other _ _ _ (by decide), h2]
      have d15 : (u2 (u2 J 109 (J 99 15) (k : Int)) 107 ((u2 J 109 (J 99 15) (k : Int)) 99 15) 0) 99 15 = (T : Int) := by rw [u2_other _ _ _ (by decide), c15]
      rw [d15, c15, h2]
      exact ⟨⟨by omega, by omega⟩, ⟨by omega, by omega⟩, ⟨by omega, by omega⟩, ⟨by omega, by omega⟩, hP _ (spf_a (spf_a (spf_a h1 (by omega) _ _) (by omega) _ _) (by omega) _ _) (sl_end hJ).2⟩
    · have hk : k < n := by omega
      obtain ⟨b1, b2, b3, b4⟩ := hB k hk
      have he := enT_le (B := B) hk
      have nxt : poT B n T = k → ∀ J, SpI B n i (T + 1) (enT B n k) J → gV w d X_X12_splits P J l 7 [(0, vR (some 99)), (1, vI (n : Int)), (2, vI (enT B n k : Int))] [] := fun _ J' hJ' => ih (enT B n k) (by omega) (T + 1) J' hJ'
      rw [e105]
      refine ⟨⟨by omega, by omega⟩, fun y => ?_, fun y => ⟨fun y2 => ?_, fun y2 => ?_⟩⟩
      · have hsp : isSp B k = true := decide_eq_true (by omega)
        have nx := ih (k + 1) (by omega) T J ⟨h1, h2, h3, by omega, by omega, by rw [← h6']; exact (whl_go (by omega) hsp).symm⟩
        rw [show ((k + 1 : Nat) : Int) = (k : Int) + 1 by omega] at nx
        exact nx
      · have hsp : isSp B k = false := decide_eq_false (fun y => by omega)
        have hp : poT B n T = k := by rw [← h6']; exact whl_no hsp
        have hl : isLw B k = true := decide_eq_true (by omega)
        have s43 := sl_43 (w := w) (d := d) (l := l) (P := P) (by omega) hn hB h1 (b := i 105 (k : Int)) hk hl (s_X12_splits_68 _ _ _ _ (by omega) ⟨⟨by omega, by omega⟩, fun y3 => by omega, fun _ => sl_100 hd hn hB hW hJ hk hp (nxt hp)⟩) (n - (k + 1)) (k + 1) (by omega) (by omega) (by
          rw [← whl_go hk hl]
          unfold enT; rw [if_pos hl])
        rw [show ((k + 1 : Nat) : Int) = (k : Int) + 1 by omega] at s43
        exact s43
      · have hsp : isSp B k = false := decide_eq_false (fun y => by omega)
        have hp : poT B n T = k := by rw [← h6']; exact whl_no hsp
        have hnl : ¬ isLw B k = true := fun y => by have := of_decide_eq_true y; omega
        refine s_X12_splits_68 _ _ _ _ (by omega) ⟨⟨by omega, by omega⟩, fun y3 => ?_, fun y3 => ?_⟩
        · have hg : isDg B k = true := decide_eq_true (by omega)
          have s75 := sl_75 (w := w) (d := d) (l := l) (P := P) (by omega) hn hB h1 (b := i 105 (k : Int)) hk (sl_100 hd hn hB hW hJ hk hp (nxt hp)) (n - (k + 1)) (k + 1) (by omega) (by omega) (by
            rw [← whl_go hk hg]
            unfold enT; rw [if_neg hnl, if_pos hg])
          rw [show ((k + 1 : Nat) : Int) = (k : Int) + 1 by omega] at s75
          exact s75
        · have hng : ¬ isDg B k = true := fun y => by have := of_decide_eq_true y; omega
          have e1 : enT B n k = k + 1 := by unfold enT; rw [if_neg hnl, if_neg hng]
          have s := sl_100 hd hn hB hW hJ hk hp (nxt hp)
          rw [e1, show ((k + 1 : Nat) : Int) = (k : Int) + 1 by omega] at s
          exact s
theorem sp_X12_splits {P : IM → LM → Prop} (hd : 3 ≤ d) {B : Nat → Int} {n : Nat} (hn : n ≤ 400) (hB : BM B n i) (hW : Wrd i) (hP : ∀ i', spf i i' → MkT B n i' → P i' l) : cVd w d X_X12_splits [vR (some 99), vI (n : Int)] i l P := by
  obtain ⟨d, rfl, hd1⟩ := d_pos hd
  refine e_X12_splits (s_X12_splits _ ?_)
  exact sl_7 (i := i) hd1 hn hB hW hP (n + 1) 0 (by omega) 0 _ ⟨spf_t (spf_rf i) 0, u2_self .., fun j hj => absurd hj (Nat.not_lt_zero _), Nat.le_refl _, Nat.zero_le _, rfl⟩
/-! reads() -/
def rsf (i i' : IM) : Prop := (∀ a, a ≠ 99 → a ≠ 107 → a ≠ 108 → a ≠ 109 → i' a = i a) ∧ ∀ x : Int, x ≠ 10 → x ≠ 11 → x ≠ 15 → x ≠ 16 → x ≠ 17 → x ≠ 18 → i' 99 x = i 99 x
theorem sp_X12_reads {P : Int → IM → LM → Prop} (hd : 42 ≤ d) {B : Nat → Int} {n : Nat} (hC : CT B n) (h10 : i 99 10 = (n : Int)) (hB : BM B n i) (hW : Wrd i) (hF : ∀ q i', pWhole (tT B n) = .inl q → rsf i i' → i' 99 10 = 0 → i' 99 11 = (poT B n q : Int) → P 0 i' l) (hO : ∀ cs i', pWhole (tT B n) = .inr cs → rsf i i' → i' 99 10 = 0 → i' 99 11 = -1 → MkT B n i' → P 1 i' l) : cI w d X_X12_reads [vR (some 99)] i l P := by
  obtain ⟨d, rfl, hd1⟩ := d_pos hd
  refine e_X12_reads (s_X12_reads ?_)
  rw [h10]
  refine sp_X12_splits (by omega) hC.1 hB hW (fun i1 f1 m1 => ?_)
  have fx : ∀ i2, mfr (u2 (u2 (u2 (u2 i1 99 10 0) 99 16 0) 99 17 0) 99 18 (-1)) i2 → ∀ v, rsf i (u2 i2 99 11 v) ∧ (u2 i2 99 11 v) 99 10 = 0 ∧ (u2 i2 99 11 v) 99 11 = v ∧ MkT B n (u2 i2 99 11 v) := fun i2 f2 v => by
    refine ⟨⟨fun a a1 a2 a3 a4 => ?_, fun x x1 x2 x3 x4 x5 x6 => ?_⟩, ?_, u2_self .., ?_, fun j hj => ?_⟩
    · rw [u2_other _ _ _ a1, show i2 a = i1 a from funext fun x => by rw [f2 a x (Or.inl a1), u2_other _ _ _ a1, u2_other _ _ _ a1, u2_other _ _ _ a1, u2_other _ _ _ a1], f1.1 a a1 a2 a3 a4]
    · rw [u2_at, if_neg x2, f2 99 x (Or.inr ⟨x4, x5, x6⟩), u2_at, if_neg x6, u2_at, if_neg x5, u2_at, if_neg x4, u2_at, if_neg x1, f1.2 x x3]
    · rw [u2_at, if_neg (by decide), f2 99 10 (by omega), u2_at, if_neg (by decide), u2_at, if_neg (by decide), u2_at, if_neg (by decide), u2_self]
    · rw [u2_at, if_neg (by decide), f2 99 15 (by omega), u2_at, if_neg (by decide), u2_at, if_neg (by decide), u2_at, if_neg (by decide), u2_at, if_neg (by decide)]
      exact m1.1
    · have e : ∀ a : Nat, a ≠ 99 → u2 i2 99 11 v a (j : Int) = i1 a (j : Int) := fun a a1 => by rw [u2_other _ _ _ a1, f2 a _ (Or.inl a1), u2_other _ _ _ a1, u2_other _ _ _ a1, u2_other _ _ _ a1, u2_other _ _ _ a1]
      rw [e 107 (by decide), e 108 (by decide), e 109 (by decide)]
      exact m1.2 j hj
  have m2 : MkT B n (u2 (u2 (u2 (u2 i1 99 10 0) 99 16 0) 99 17 0) 99 18 (-1)) := by
    refine ⟨?_, fun j hj => ?_⟩
    · rw [u2_at, if_neg (by decide), u2_at, if_neg (by decide), u2_at, if_neg (by decide), u2_at, if_neg (by decide)]
      exact m1.1
    · have e : ∀ a : Nat, a ≠ 99 → u2 (u2 (u2 (u2 i1 99 10 0) 99 16 0) 99 17 0) 99 18 (-1) a (j : Int) = i1 a (j : Int) := fun a a1 => by rw [u2_other _ _ _ a1, u2_other _ _ _ a1, u2_other _ _ _ a1, u2_other _ _ _ a1]
      rw [e 107 (by decide), e 108 (by decide), e 109 (by decide)]
      exact m1.2 j hj
  refine md_law hC (w := w) (d := d) (P := P) (l := l) (by omega) m2 11 (by omega) 0 0 0 _ (Nat.zero_le _) (by omega) (Nat.le_refl _) (mfr_rf _) ⟨?_, ?_, ?_⟩ (fun q i2 e f2 => ?_) (fun cs i2 e f2 => ?_)
  · rw [u2_at, if_neg (by decide), u2_at, if_neg (by decide), u2_self]; rfl
  · rw [u2_at, if_neg (by decide), u2_self]; rfl
  · rw [u2_self]
  · obtain ⟨g1, g2, g3, -⟩ := fx i2 f2 (poT B n q : Int)
    exact hF q _ e g1 g2 g3
  · obtain ⟨g1, g2, g3, g4⟩ := fx i2 f2 (-1)
    exact hO cs _ e g1 g2 g3 g4
end
