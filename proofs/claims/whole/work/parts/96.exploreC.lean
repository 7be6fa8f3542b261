/-! PAINTER in memory: the search -/
section
variable {w : Wd} {d : Nat} {i : IM} {l : LM}
theorem lp_outd {P : Int → IM → LM → Prop} {a : Nat} (ha : a = 63 ∨ a = 73) (hd : 2 ≤ d) {n : Nat} (hcv : cvOK i n) {t c : Nat} (ht : t < n) (hc : c < 3) {o : Nat → Nat} {op : Nat} (hop : op < 4096) (hsn : ∀ q : Nat, q < (rwM i l a).1 → op.testBit q = true → l (a + 1) ((t : Int) * 12 + (q : Int)) = vw (rwM i l a) o q t) (h1 : (∃ x, x < 3 ∧ odB (pcM i) (rwM i l a) (i a 15) t c o op (l a 16) x = true) → P 1 i l) (h0 : (∀ x, x < 3 → odB (pcM i) (rwM i l a) (i a 15) t c o op (l a 16) x = false) → P 0 i l) : ∀ r x : Nat, x + r = 3 → (∀ y, y < x → odB (pcM i) (rwM i l a) (i a 15) t c o op (l a 16) y = false) → gI w d X_X5_isOutdone P i l 16 [(0, vR (some a)), (1, vI (t : Int)), (2, vI (c : Int)), (3, vI (op : Int)), (4, vI ((t : Int) * 3 + (c : Int))), (5, vI ((t : Int) * 12)), (6, vI (x : Int))] [] := by
  have hn := hcv.1
  intro r
  induction r with
  | zero =>
    intro x hx hno
    have e : x = 3 := by omega
    subst e
    exact s_X5_isOutdone_16 _ _ _ _ _ _ ha ⟨⟨by omega, by omega⟩, fun _ => h0 hno, fun q => by omega⟩
  | succ r ih =>
    intro x hx hno
    have hnx : odB (pcM i) (rwM i l a) (i a 15) t c o op (l a 16) x = false → gI w d X_X5_isOutdone P i l 16 [(0, vR (some a)), (1, vI (t : Int)), (2, vI (c : Int)), (3, vI (op : Int)), (4, vI ((t : Int) * 3 + (c : Int))), (5, vI ((t : Int) * 12)), (6, vI ((x : Int) + 1))] [] := by
      intro hb
      refine ih (x + 1) (by omega) (fun y hy => ?_)
      by_cases e : y = x
      · subst e; exact hb
      · exact hno y (by omega)
    have hF : ¬ odB (pcM i) (rwM i l a) (i a 15) t c o op (l a 16) x = true → odB (pcM i) (rwM i l a) (i a 15) t c o op (l a 16) x = false := fun z => by simpa using z
    have gx := (hcv.2.2.2.2.2 t x ht (by omega)).1
    have gc := (hcv.2.2.2.2.2 t c ht hc).1
    have egx : (pcM i).2.1 t x = i 54 ((t : Int) * 3 + (x : Int)) := rfl
    have egc : (pcM i).2.1 t c = i 54 ((t : Int) * 3 + (c : Int)) := rfl
    have hg : ∀ y, gnA (pcM i) (i a 15) t y = if i a 15 = 2 then i 54 ((t : Int) * 3 + (y : Int)) else 0 := fun y => rfl
    have hrgi : rg (if i a 15 = 2 then i 54 ((t : Int) * 3 + (x : Int)) - i 54 ((t : Int) * 3 + (c : Int)) else 0) := by
      split
      · exact ⟨by omega, by omega⟩
      · exact rg_lit rfl
    refine s_X5_isOutdone_16 _ _ _ _ _ _ ha ⟨⟨by omega, by omega⟩, fun q => by omega, fun q => ⟨fun _ => ⟨by omega, by omega⟩, fun _ => ⟨by omega, by omega⟩, ⟨by omega, by omega⟩, fun _ => ⟨by omega, by omega⟩, fun _ => ⟨by omega, by omega⟩, fun _ _ => hrgi, fun z => ?_, fun z => ?_⟩⟩
    · obtain ⟨z1, z2, z3⟩ := z
      have hm : (pcM i).1 t x = true := (pcM_may hcv ht (by omega)).mp z1
      refine sp_showsNoMore (by omega) (by omega) hcv.2.2.1 (by omega) (by omega) hc hop hsn (fun y => ⟨fun _ => ⟨by omega, by omega⟩, fun _ => ⟨by omega, by omega⟩, fun _ _ => hrgi, fun q2 => absurd q2 (by decide), fun q2 => ?_, fun q2 => ?_⟩) (fun y => ⟨fun q2 => absurd rfl q2, fun q2 => absurd rfl q2, fun q2 => absurd rfl q2, fun _ => ?_, fun q2 => absurd rfl q2.1, fun q2 => absurd rfl q2.1⟩)
      · refine h1 ⟨x, by omega, odB_iff.mpr ⟨hm, fun e => z2 (by omega), ?_, y, ?_⟩⟩
        · rw [hg, hg]
          by_cases h2 : i a 15 = 2
          · rw [if_pos h2] at z3; rw [if_pos h2, if_pos h2]; omega
          · rw [if_neg h2, if_neg h2]; exact Int.le_refl _
        · rcases q2.2 with q3 | q3
          · exact Or.inl (by omega)
          · refine Or.inr (Or.inl ?_)
            rw [hg, hg]
            by_cases h2 : i a 15 = 2
            · rw [if_pos h2] at q3; rw [if_pos h2, if_pos h2]; omega
            · rw [if_neg h2] at q3; omega
      · refine sp_showsNoMore (by omega) (by omega) hcv.2.2.1 (by omega) hc (by omega) hop hsn (fun y2 => ⟨fun q3 => absurd q3 (by decide), fun _ => hnx (hF (fun z4 => ?_))⟩) (fun y2 => ⟨fun _ => ?_, fun q3 => absurd rfl q3⟩)
        · obtain ⟨-, -, -, -, d5⟩ := odB_iff.mp z4
          rcases d5 with d5 | d5 | d5
          · exact q2.2.1 (by omega)
          · apply q2.2.2
            rw [hg, hg] at d5
            by_cases h2 : i a 15 = 2
            · rw [if_pos h2, if_pos h2] at d5; rw [if_pos h2]; omega
            · rw [if_neg h2, if_neg h2] at d5; omega
          · rw [y2] at d5; cases d5
        · refine h1 ⟨x, by omega, odB_iff.mpr ⟨hm, fun e => z2 (by omega), ?_, y, Or.inr (Or.inr (by simpa using y2))⟩⟩
          rw [hg, hg]
          by_cases h2 : i a 15 = 2
          · rw [if_pos h2] at z3; rw [if_pos h2, if_pos h2]; omega
          · rw [if_neg h2, if_neg h2]; exact Int.le_refl _
      · exact hnx (hF (fun z4 => y (odB_iff.mp z4).2.2.2.1))
    · refine hnx (hF (fun z4 => z ?_))
      obtain ⟨d1, d2, d3, -, -⟩ := odB_iff.mp z4
      refine ⟨(pcM_may hcv ht (by omega)).mpr d1, fun e => d2 (by omega), ?_⟩
      rw [hg, hg] at d3
      by_cases h2 : i a 15 = 2
      · rw [if_pos h2, if_pos h2] at d3; rw [if_pos h2]; omega
      · rw [if_neg h2]; omega
theorem sp_X5_isOutdone {P : Int → IM → LM → Prop} {a : Nat} (ha : a = 63 ∨ a = 73) (hd : 3 ≤ d) {n : Nat} (hcv : cvOK i n) {t c : Nat} (ht : t < n) (hc : c < 3) {o : Nat → Nat} {op : Nat} (hop : op < 4096) (hsn : ∀ q : Nat, q < (rwM i l a).1 → op.testBit q = true → l (a + 1) ((t : Int) * 12 + (q : Int)) = vw (rwM i l a) o q t) (h1 : od (pcM i) (rwM i l a) (i a 15) t c o op (l a 16) = true → P 1 i l) (h0 : od (pcM i) (rwM i l a) (i a 15) t c o op (l a 16) = false → P 0 i l) : cI w d X_X5_isOutdone [vR (some a), vI (t : Int), vI (c : Int), vI (op : Int)] i l P := by
  obtain ⟨d, rfl, hd1⟩ := d_pos hd
  refine e_X5_isOutdone (s_X5_isOutdone _ _ _ ha (lp_outd ha hd1 hcv ht hc hop hsn (fun h => h1 (od_iff.mpr h)) (fun h => h0 ?_) 3 0 rfl (fun y hy => by omega)))
  cases z : od (pcM i) (rwM i l a) (i a 15) t c o op (l a 16) with
  | false => rfl
  | true =>
    obtain ⟨x, hx, hb⟩ := od_iff.mp z
    rw [h x hx] at hb; cases hb
/-- what the search leaves as it is -/
def efr (a t : Nat) (i i' : IM) : Prop := (∀ c, c ≠ a → c ≠ a + 3 → c ≠ a + 9 → i' c = i c) ∧ (∀ k : Int, k ≠ 11 → k ≠ 12 → k ≠ 13 → k ≠ 14 → i' a k = i a k) ∧ ∀ j : Int, j < (t : Int) → i' (a + 3) j = i (a + 3) j
theorem efr_rf (a t : Nat) (i : IM) : efr a t i i := ⟨fun _ _ _ _ => rfl, fun _ _ _ _ _ => rfl, fun _ _ => rfl⟩
theorem efr_tr {a t : Nat} {i j k : IM} (h1 : efr a t i j) (h2 : efr a t j k) : efr a t i k := ⟨fun c x y z => (h2.1 c x y z).trans (h1.1 c x y z), fun c p q r s => (h2.2.1 c p q r s).trans (h1.2.1 c p q r s), fun x h => (h2.2.2 x h).trans (h1.2.2 x h)⟩
theorem efr_up {a t : Nat} {i i' : IM} (h : efr a (t + 1) i i') : efr a t i i' := ⟨h.1, h.2.1, fun j hj => h.2.2 j (by omega)⟩
theorem efr_p {a t : Nat} {i i' : IM} (h : pfr a i i') : efr a t i i' := ⟨fun c x _ z => h.1 c x z, h.2, fun j _ => by rw [h.1 (a + 3) (by omega) (by omega)]⟩
theorem pcM_e {a t : Nat} (ha : a = 63 ∨ a = 73) {i i' : IM} (h : efr a t i i') : pcM i' = pcM i := by
  unfold pcM
  rw [h.1 52 (by omega) (by omega) (by omega), h.1 54 (by omega) (by omega) (by omega), h.1 55 (by omega) (by omega) (by omega)]
theorem cvOK_e {a t n : Nat} (ha : a = 63 ∨ a = 73) {i i' : IM} (h : efr a t i i') (hc : cvOK i n) : cvOK i' n := by
  unfold cvOK
  rw [pcM_e ha h, h.1 7 (by omega) (by omega) (by omega), h.1 51 (by omega) (by omega) (by omega), h.1 52 (by omega) (by omega) (by omega), h.1 53 (by omega) (by omega) (by omega), h.1 54 (by omega) (by omega) (by omega), h.1 55 (by omega) (by omega) (by omega)]
  exact hc
theorem SxM_e {a t n : Nat} (ha : a = 63 ∨ a = 73) {i i' : IM} (h : efr a t i i') (hc : SxM i a n) : SxM i' a n := by
  unfold SxM
  rw [pcM_e ha h, h.1 (a + 4) (by omega) (by omega) (by omega), h.1 (a + 5) (by omega) (by omega) (by omega), h.1 (a + 6) (by omega) (by omega) (by omega), h.1 (a + 7) (by omega) (by omega) (by omega), h.1 (a + 8) (by omega) (by omega) (by omega)]
  exact hc
theorem rwM_e {a t : Nat} (ha : a = 63 ∨ a = 73) {i i' : IM} (h : efr a t i i') (l : LM) : rwM i' l a = rwM i l a := by
  unfold rwM
  rw [h.1 51 (by omega) (by omega) (by omega)]
theorem upB_bd {T p : Int} {f : Nat → Nat} {s : BS} (hs : 0 ≤ s.1) (hT : 0 ≤ T) : 0 ≤ (upB T p f s).1 ∧ (upB T p f s).1 ≤ s.1 + T := by
  unfold upB
  split
  · omega
  · split
    · show 0 ≤ s.1 + T ∧ s.1 + T ≤ s.1 + T; omega
    · show 0 ≤ T ∧ T ≤ s.1 + T; omega
theorem exX_bd {n : Nat} (hc : cvOK i n) {Z : RW} {aim : Int} {M : Int64} : ∀ (r t : Nat) (o : Nat → Nat) (op : Nat) (s : SA), t + r = n → 0 ≤ s.1 → 0 ≤ s.2.1.1 → (0 ≤ (exX (pcM i) Z aim M r t o op s).1 ∧ (exX (pcM i) Z aim M r t o op s).1 ≤ s.1 + (3 : Int) ^ r) ∧ (0 ≤ (exX (pcM i) Z aim M r t o op s).2.1.1 ∧ (exX (pcM i) Z aim M r t o op s).2.1.1 ≤ s.2.1.1 + (3 : Int) ^ r)
  | 0, t, o, op, s, ht, h1, h2 => by
    show (0 ≤ s.1 ∧ s.1 ≤ s.1 + 3 ^ 0) ∧ (0 ≤ s.2.1.1 ∧ s.2.1.1 ≤ s.2.1.1 + 3 ^ 0)
    have : (3 : Int) ^ 0 = 1 := rfl
    omega
  | r + 1, t, o, op, s, ht, h1, h2 => by
    have h3 : (0 : Int) ≤ 3 ^ r := Int.pow_nonneg (by omega)
    have hsx := (sx_bd hc r (t + 1) (by omega)).1
    have key : ∀ c s, 0 ≤ s.1 → 0 ≤ s.2.1.1 → (0 ≤ (exC (pcM i) Z aim M r t o op c s).1 ∧ (exC (pcM i) Z aim M r t o op c s).1 ≤ s.1 + (3 : Int) ^ r) ∧ (0 ≤ (exC (pcM i) Z aim M r t o op c s).2.1.1 ∧ (exC (pcM i) Z aim M r t o op c s).2.1.1 ≤ s.2.1.1 + (3 : Int) ^ r) := by
      intro c s h1 h2
      unfold exC
      split
      · omega
      · split
        · omega
        · cases hl : lk Z t c o op with
          | none => show (0 ≤ s.1 ∧ s.1 ≤ s.1 + 3 ^ r) ∧ (0 ≤ s.2.1.1 ∧ s.2.1.1 ≤ s.2.1.1 + 3 ^ r); omega
          | some x =>
            show (0 ≤ (if x = 0 then addB (blk (pcM i) r (t + 1) (upN o t c)) s else exX (pcM i) Z aim M r (t + 1) (upN o t c) x s).1 ∧ (if x = 0 then addB (blk (pcM i) r (t + 1) (upN o t c)) s else exX (pcM i) Z aim M r (t + 1) (upN o t c) x s).1 ≤ s.1 + 3 ^ r) ∧ (0 ≤ (if x = 0 then addB (blk (pcM i) r (t + 1) (upN o t c)) s else exX (pcM i) Z aim M r (t + 1) (upN o t c) x s).2.1.1 ∧ (if x = 0 then addB (blk (pcM i) r (t + 1) (upN o t c)) s else exX (pcM i) Z aim M r (t + 1) (upN o t c) x s).2.1.1 ≤ s.2.1.1 + 3 ^ r)
            by_cases z : x = 0
            · rw [if_pos z]
              have e1 : (addB (blk (pcM i) r (t + 1) (upN o t c)) s).1 = s.1 + (sx (pcM i) r (t + 1)).1 := rfl
              have e2 := upB_bd (T := (sx (pcM i) r (t + 1)).2.1) (p := (blk (pcM i) r (t + 1) (upN o t c)).2.2.1) (f := (blk (pcM i) r (t + 1) (upN o t c)).2.2.2.1) h2 (by omega)
              have e3 : (addB (blk (pcM i) r (t + 1) (upN o t c)) s).2.1 = upB (sx (pcM i) r (t + 1)).2.1 (blk (pcM i) r (t + 1) (upN o t c)).2.2.1 (blk (pcM i) r (t + 1) (upN o t c)).2.2.2.1 s.2.1 := rfl
              rw [e1, e3]
              omega
            · rw [if_neg z]
              exact exX_bd hc r (t + 1) _ x s (by omega) h1 h2
    rw [exX_s]
    have k0 := key 0 s h1 h2
    have k1 := key 1 _ k0.1.1 k0.2.1
    have k2 := key 2 _ k1.1.1 k1.2.1
    have e : (3 : Int) ^ (r + 1) = 3 ^ r * 3 := Int.pow_succ ..
    omega
end
