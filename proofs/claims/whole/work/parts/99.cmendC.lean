/-! MENDER in memory: its steps -/
section
variable {w : Wd} {d : Nat} {i : IM} {l : LM}
/-- what walling up costs, for the first k WINDOWS -/
def shGo (p : Int → Int) (F : Int64) : Nat → Int
  | 0 => 0
  | v + 1 => shGo p F v + if 128 ≤ Bt F v then p (v : Int) else 0
theorem shGo_bd {p : Int → Int} {F : Int64} : ∀ k : Nat, (∀ v : Nat, v < k → 0 ≤ p (v : Int) ∧ p (v : Int) ≤ 99) → 0 ≤ shGo p F k ∧ shGo p F k ≤ 99 * (k : Int)
  | 0, _ => ⟨Int.le_refl _, Int.le_refl _⟩
  | k + 1, h => by
    have ih := shGo_bd (p := p) (F := F) k (fun v hv => h v (by omega))
    have := h k (by omega)
    show 0 ≤ shGo p F k + (if 128 ≤ Bt F k then p (k : Int) else 0) ∧ shGo p F k + (if 128 ≤ Bt F k then p (k : Int) else 0) ≤ 99 * ((k + 1 : Nat) : Int)
    split <;> omega
theorem shGo_mono {p : Int → Int} {F G : Int64} : ∀ k : Nat, (∀ v : Nat, v < k → 0 ≤ p (v : Int)) → (∀ v, v < k → 128 ≤ Bt F v → 128 ≤ Bt G v) → shGo p F k ≤ shGo p G k
  | 0, _, _ => Int.le_refl _
  | k + 1, h, hs => by
    have ih := shGo_mono (p := p) (F := F) (G := G) k (fun v hv => h v (by omega)) (fun v hv => hs v (by omega))
    have h1 := h k (by omega)
    have h2 := hs k (by omega)
    show shGo p F k + (if 128 ≤ Bt F k then p (k : Int) else 0) ≤ shGo p G k + (if 128 ≤ Bt G k then p (k : Int) else 0)
    by_cases a : 128 ≤ Bt F k
    · rw [if_pos a, if_pos (h2 a)]; omega
    · rw [if_neg a]; split <;> omega
theorem shGo_0 (p : Int → Int) : ∀ k : Nat, k ≤ 8 → shGo p 0 k = 0
  | 0, _ => rfl
  | k + 1, h => by
    show shGo p 0 k + (if 128 ≤ Bt 0 k then p (k : Int) else 0) = 0
    rw [shGo_0 p k (by omega), if_neg (by rw [(Bt_lit k (by omega)).2.2.2.2.2.2.1]; omega)]
    rfl
theorem bit7 (F : Int64) {v : Nat} (hv : v < 8) : (lushr F (8 * (v : Int) + 7)) &&& 1 = 1 ↔ 128 ≤ Bt F v := by
  have e : 8 * (v : Int) + 7 = ((8 * v + 7 : Nat) : Int) := by omega
  have hn : nL ((lushr F (8 * (v : Int) + 7)) &&& 1) = nL F / 2 ^ (8 * v + 7) % 2 := by
    rw [nL_and, e, nL_shr F (by omega), nL_lit1, Nat.and_one_is_mod]
  have h2 : nL F / 2 ^ (8 * v + 7) = nL F / 2 ^ (8 * v) / 128 := by
    rw [Nat.div_div_eq_div_mul, Nat.pow_add]
  have hb : Bt F v = nL F / 2 ^ (8 * v) % 256 := rfl
  constructor
  · intro h
    rw [h, nL_lit1, h2] at hn
    rw [hb]; omega
  · intro h
    apply nL_ext
    rw [hn, nL_lit1, h2]
    rw [hb] at h; omega
theorem lp_shut {P : Int → IM → LM → Prop} (hd : 1 ≤ d) {W : Nat} (hW : W ≤ 8) (h9 : i 7 9 = (W : Int)) (hp : ∀ v : Nat, v < W → 0 ≤ i 9 ((v : Int) * 3 + 2) ∧ i 9 ((v : Int) * 3 + 2) ≤ 99) {F : Int64} (hP : P (shGo (fun v => i 9 (v * 3 + 2)) F W) i l) : ∀ r v : Nat, v + r = W → gI w d X_X3_shutting P i l 5 [(0, vR (some 83)), (1, vL F), (3, vI (shGo (fun v => i 9 (v * 3 + 2)) F v)), (4, vI (v : Int))] [] := by
  intro r
  induction r with
  | zero =>
    intro v hv
    have e : v = W := by omega
    subst e
    have := shGo_bd (p := fun v => i 9 (v * 3 + 2)) (F := F) v hp
    exact s_X3_shutting_5 _ _ _ hd ⟨⟨by omega, by omega⟩, fun _ => ⟨⟨by omega, by omega⟩, hP⟩, fun q => by rw [h9] at q; omega, fun q => by rw [h9] at q; omega⟩
  | succ r ih =>
    intro v hv
    have hb := shGo_bd (p := fun v => i 9 (v * 3 + 2)) (F := F) v (fun y hy => hp y (by omega))
    have hnx := ih (v + 1) (by omega)
    have e : shGo (fun v => i 9 (v * 3 + 2)) F (v + 1) = shGo (fun v => i 9 (v * 3 + 2)) F v + if 128 ≤ Bt F v then i 9 ((v : Int) * 3 + 2) else 0 := rfl
    rw [e] at hnx
    refine s_X3_shutting_5 _ _ _ hd ⟨⟨by omega, by omega⟩, fun q => ⟨⟨by omega, by omega⟩, ?_⟩, fun q => ?_, fun q => ⟨⟨by omega, by omega⟩, ?_⟩⟩
    · have hz : F = 0 := by
        rcases q with q | q
        · rw [h9] at q; omega
        · exact q
      rw [hz] at hP ⊢
      rw [shGo_0 _ _ hW] at hP
      rw [shGo_0 _ _ (by omega)]
      exact hP
    · rw [if_neg (fun z => q.2.2 ((bit7 F (by omega)).mpr z)), Int.add_zero] at hnx
      exact hnx
    · rw [if_pos ((bit7 F (by omega)).mp q.2.2)] at hnx
      exact hnx
theorem sp_X3_shutting {P : Int → IM → LM → Prop} (hd : 2 ≤ d) {W : Nat} (hW : W ≤ 8) (h9 : i 7 9 = (W : Int)) (hp : ∀ v : Nat, v < W → 0 ≤ i 9 ((v : Int) * 3 + 2) ∧ i 9 ((v : Int) * 3 + 2) ≤ 99) {F : Int64} (hP : P (shGo (fun v => i 9 (v * 3 + 2)) F W) i l) : cI w d X_X3_shutting [vR (some 83), vL F] i l P := by
  obtain ⟨d, rfl, hd1⟩ := d_pos hd
  exact e_X3_shutting (s_X3_shutting _ (lp_shut hd1 hW h9 hp hP W 0 (Nat.zero_add _)))
/-- looks -/
theorem lp_lookM {P : Int64 → IM → LM → Prop} (hd : 1 ≤ d) (hR : 0 ≤ i 51 13 ∧ i 51 13 ≤ 12) {t c : Nat} (ht : t < 10) (hc : c < 3) {o : Nat → Nat} {op : Nat} (hop : op < 4096) {l : LM} (hsn : ∀ q : Nat, q < (rwM i l 83).1 → op.testBit q = true → l 84 ((t : Int) * 12 + (q : Int)) = vw (rwM i l 83) o q t) (hP : ∀ l', lfr 83 t l l' → (∀ q : Nat, q < (rwM i l 83).1 → op.testBit q = true → l' 84 (((t : Int) + 1) * 12 + (q : Int)) = vw (rwM i l 83) o q t ||| (rwM i l 83).2.1 t c q) → P (lkM (rwM i l 83) t c o op (rwM i l 83).1) i l') : ∀ r q : Nat, q + r = (rwM i l 83).1 → ∀ l', lfr 83 t l l' → (∀ y : Nat, y < q → op.testBit y = true → l' 84 (((t : Int) + 1) * 12 + (y : Int)) = vw (rwM i l 83) o y t ||| (rwM i l 83).2.1 t c y) → gLg w d X_X3_look P i l' 6 [(0, vR (some 83)), (1, vI (t : Int)), (2, vI ((t : Int) * 3 + (c : Int))), (3, vI (op : Int)), (4, vL (lkM (rwM i l 83) t c o op q)), (6, vI (q : Int))] [] := by
  have eR : (rwM i l 83).1 = (i 51 13).toNat := rfl
  intro r
  induction r with
  | zero =>
    intro q hq l' hl hw
    have e : q = (rwM i l 83).1 := by omega
    rw [e] at hw ⊢
    exact s_X3_look_6 _ _ _ _ _ hd ⟨⟨by omega, by omega⟩, fun _ => hP l' hl hw, fun z => by omega, fun z => by omega⟩
  | succ r ih =>
    intro q hq l' hl hw
    have hbit : iand (ishr (op : Int) (q : Int)) 1 = ((if op.testBit q = true then 1 else 0 : Nat) : Int) := by rw [ibit_nat (by omega) (by omega), bit_div]
    have hnx := ih (q + 1) (by omega)
    have hst : lkM (rwM i l 83) t c o op (q + 1) = if op.testBit q = true then lkM (rwM i l 83) t c o op q ||| (ldL (rwM i l 83) (vw (rwM i l 83) o q t ||| (rwM i l 83).2.1 t c q) q &&& OV) else lkM (rwM i l 83) t c o op q := rfl
    rw [hst] at hnx
    refine s_X3_look_6 _ _ _ _ _ hd ⟨⟨by omega, by omega⟩, fun z => by omega, fun z => ?_, fun z => ⟨⟨by omega, by omega⟩, ⟨by omega, by omega⟩, ⟨by omega, by omega⟩, ⟨by omega, by omega⟩, ?_⟩⟩
    · have z2 := z.2
      rw [hbit] at z2
      have hnb : ¬ op.testBit q = true := fun y => z2 (by rw [if_pos y]; rfl)
      rw [if_neg hnb] at hnx
      exact hnx l' hl (fun y hy hyo => hw y (by
        by_cases e : y = q
        · subst e; exact absurd hyo hnb
        · omega) hyo)
    · have z2 := z.2
      rw [hbit] at z2
      have hnb : op.testBit q = true := by
        by_cases y : op.testBit q = true
        · exact y
        · rw [if_neg y] at z2; exact absurd z2 (by decide)
      rw [if_pos hnb] at hnx
      have e1 : l' 84 ((t : Int) * 12 + (q : Int)) = vw (rwM i l 83) o q t := by
        rw [hl.2 _ (by omega)]; exact hsn q (by omega) hnb
      have e2 : l' 56 (((t : Int) * 3 + (c : Int)) * 12 + (q : Int)) = (rwM i l 83).2.1 t c q := by rw [hl.1 56 (by decide)]; rfl
      have e3 : ∀ v, u2l l' 84 (((t : Int) + 1) * 12 + (q : Int)) v 85 (q : Int) = (rwM i l 83).2.2.1 q := fun v => by rw [u2l_other _ _ _ (by decide), hl.1 85 (by decide)]; rfl
      rw [e1, e2, e3]
      refine hnx _ ⟨fun k hk => by rw [u2l_other _ _ _ hk]; exact hl.1 k hk, fun j hj => ?_⟩ (fun y hy hyo => ?_)
      · show (if (84 : Nat) = 84 ∧ j = ((t : Int) + 1) * 12 + (q : Int) then _ else l' 84 j) = _
        rw [if_neg (fun z => by have := z.2; omega)]
        exact hl.2 j hj
      · show (if (84 : Nat) = 84 ∧ ((t : Int) + 1) * 12 + (y : Int) = ((t : Int) + 1) * 12 + (q : Int) then vw (rwM i l 83) o q t ||| (rwM i l 83).2.1 t c q else l' 84 (((t : Int) + 1) * 12 + (y : Int))) = _
        by_cases e : y = q
        · subst e; rw [if_pos ⟨rfl, rfl⟩]
        · rw [if_neg (fun z => e (by have := z.2; omega))]; exact hw y (by omega) hyo
theorem sp_X3_look {P : Int64 → IM → LM → Prop} (hd : 2 ≤ d) (hR : 0 ≤ i 51 13 ∧ i 51 13 ≤ 12) {t c : Nat} (ht : t < 10) (hc : c < 3) {o : Nat → Nat} {op : Nat} (hop : op < 4096) (hsn : ∀ q : Nat, q < (rwM i l 83).1 → op.testBit q = true → l 84 ((t : Int) * 12 + (q : Int)) = vw (rwM i l 83) o q t) (hP : ∀ l', lfr 83 t l l' → (∀ q : Nat, q < (rwM i l 83).1 → op.testBit q = true → l' 84 (((t : Int) + 1) * 12 + (q : Int)) = vw (rwM i l 83) o q t ||| (rwM i l 83).2.1 t c q) → P (lkM (rwM i l 83) t c o op (rwM i l 83).1) i l') : cL w d X_X3_look [vR (some 83), vI (t : Int), vI ((t : Int) * 3 + (c : Int)), vI (op : Int)] i l P := by
  obtain ⟨d, rfl, hd1⟩ := d_pos hd
  exact e_X3_look (s_X3_look _ _ _ (lp_lookM hd1 hR ht hc hop hsn hP _ 0 (Nat.zero_add _) l (lfr_rf 83 t l) (fun y h => by omega)))
theorem lp_still {P : Int → IM → LM → Prop} (hd : 2 ≤ d) (hR : 0 ≤ i 51 13 ∧ i 51 13 ≤ 12) {t : Nat} (ht : t ≤ 10) {o : Nat → Nat} {op : Nat} (hop : op < 4096) {F : Int64} (hsn : ∀ q : Nat, q < (rwM i l 83).1 → op.testBit q = true → l 84 ((t : Int) * 12 + (q : Int)) = vw (rwM i l 83) o q t) (hP : P ((soM (rwM i l 83) t o F op (rwM i l 83).1 : Nat) : Int) i l) : ∀ r q : Nat, q + r = (rwM i l 83).1 → gI w d X_X3_stillOpen P i l 6 [(0, vR (some 83)), (1, vI (t : Int)), (2, vL F), (4, vI (op : Int)), (5, vI ((soM (rwM i l 83) t o F op q : Nat) : Int)), (6, vI (q : Int))] [] := by
  have eR : (rwM i l 83).1 = (i 51 13).toNat := rfl
  intro r
  induction r with
  | zero =>
    intro q hq
    have e : q = (rwM i l 83).1 := by omega
    rw [e]
    have hlt := soM_lt (rwM i l 83) t o F op (rwM i l 83).1
    have h12 : 2 ^ (rwM i l 83).1 ≤ 2 ^ 12 := Nat.pow_le_pow_right (by omega) (by omega)
    exact s_X3_stillOpen_6 _ _ _ _ _ hd ⟨⟨by omega, by omega⟩, fun _ => ⟨⟨by omega, by omega⟩, hP⟩, fun z => by omega, fun z => by omega⟩
  | succ r ih =>
    intro q hq
    have hbit : iand (ishr (op : Int) (q : Int)) 1 = ((if op.testBit q = true then 1 else 0 : Nat) : Int) := by rw [ibit_nat (by omega) (by omega), bit_div]
    have hnx := ih (q + 1) (by omega)
    have hlt := soM_lt (rwM i l 83) t o F op q
    have h12 : 2 ^ q ≤ 2 ^ 11 := Nat.pow_le_pow_right (by omega) (by omega)
    unfold soM at hnx
    refine s_X3_stillOpen_6 _ _ _ _ _ hd ⟨⟨by omega, by omega⟩, fun z => by omega, fun z => ?_, fun z => ⟨⟨by omega, by omega⟩, ⟨by omega, by omega⟩, ?_⟩⟩
    · have z2 := z.2
      rw [hbit] at z2
      rw [if_neg (fun y => z2 (by rw [if_pos y]; rfl))] at hnx
      exact hnx
    · have z2 := z.2
      rw [hbit] at z2
      have hnb : op.testBit q = true := by
        by_cases y : op.testBit q = true
        · exact y
        · rw [if_neg y] at z2; exact absurd z2 (by decide)
      rw [if_pos hnb] at hnx
      have e1 := hsn q (by omega) hnb
      have e3 : l 85 (q : Int) = (rwM i l 83).2.2.1 q := rfl
      rw [e1, e3, mayF_eq (i := i) (a := 83) (t := t) (q := q) rfl]
      refine ⟨fun z3 => ?_, fun z3 => ?_⟩
      · rw [if_pos z3] at hnx; exact hnx
      · rw [if_neg z3] at hnx
        rw [ishl_one (by omega), ior_nat (by omega) (by omega)]
        exact hnx
theorem sp_X3_stillOpen {P : Int → IM → LM → Prop} (hd : 3 ≤ d) (hR : 0 ≤ i 51 13 ∧ i 51 13 ≤ 12) {t : Nat} (ht : t ≤ 10) {o : Nat → Nat} {op : Nat} (hop : op < 4096) {F : Int64} (hsn : ∀ q : Nat, q < (rwM i l 83).1 → op.testBit q = true → l 84 ((t : Int) * 12 + (q : Int)) = vw (rwM i l 83) o q t) (hP : P ((soM (rwM i l 83) t o F op (rwM i l 83).1 : Nat) : Int) i l) : cI w d X_X3_stillOpen [vR (some 83), vI (t : Int), vL F, vI (op : Int)] i l P := by
  obtain ⟨d, rfl, hd1⟩ := d_pos hd
  exact e_X3_stillOpen (s_X3_stillOpen _ _ _ (lp_still hd1 hR ht hop hsn hP _ 0 (Nat.zero_add _)))
/-- prices in memory -/
def prM (i : IM) (n : Nat) (t c : Nat) : Int := if t < n ∧ c < 3 then i 53 ((t : Int) * 3 + (c : Int)) else 0
theorem prM_ok {n : Nat} (h : cvOK i n) : prOK (prM i n) := by
  intro t c
  unfold prM
  split
  · next z => have := (h.2.2.2.2.2 t c z.1 z.2).2.1; omega
  · omega
theorem prM_at {n t c : Nat} (ht : t < n) (hc : c < 3) : i 53 ((t : Int) * 3 + (c : Int)) = prM i n t c := (if_pos ⟨ht, hc⟩).symm
theorem lp_outM {P : Int → IM → LM → Prop} (hd : 2 ≤ d) {n : Nat} (hcv : cvOK i n) {t c : Nat} (ht : t < n) (hc : c < 3) {o : Nat → Nat} {op : Nat} (hop : op < 4096) {F : Int64} (hsn : ∀ q : Nat, q < (rwM i l 83).1 → op.testBit q = true → l 84 ((t : Int) * 12 + (q : Int)) = vw (rwM i l 83) o q t) (h1 : (∃ x, x < 3 ∧ odM1 (pcM i) (prM i n) (rwM i l 83) F t c o op x = true) → P 1 i l) (h0 : (∀ x, x < 3 → odM1 (pcM i) (prM i n) (rwM i l 83) F t c o op x = false) → P 0 i l) : ∀ r x : Nat, x + r = 3 → (∀ y, y < x → odM1 (pcM i) (prM i n) (rwM i l 83) F t c o op y = false) → gI w d X_X3_isOutdone P i l 24 [(0, vR (some 83)), (1, vI (t : Int)), (2, vI (c : Int)), (5, vI (op : Int)), (6, vI ((t : Int) * 3 + (c : Int))), (7, vL (matM F)), (9, vI (x : Int))] [] := by
  have hn := hcv.1
  intro r
  induction r with
  | zero =>
    intro x hx hno
    have e : x = 3 := by omega
    subst e
    exact s_X3_isOutdone_24 _ _ _ _ _ _ ⟨⟨by omega, by omega⟩, fun _ => h0 hno, fun q => by omega⟩
  | succ r ih =>
    intro x hx hno
    have hx3 : x < 3 := by omega
    have hnx : odM1 (pcM i) (prM i n) (rwM i l 83) F t c o op x = false → gI w d X_X3_isOutdone P i l 24 [(0, vR (some 83)), (1, vI (t : Int)), (2, vI (c : Int)), (5, vI (op : Int)), (6, vI ((t : Int) * 3 + (c : Int))), (7, vL (matM F)), (9, vI ((x : Int) + 1))] [] := by
      intro hb
      refine ih (x + 1) (by omega) (fun y hy => ?_)
      by_cases e : y = x
      · subst e; exact hb
      · exact hno y (by omega)
    have hF : ¬ odM1 (pcM i) (prM i n) (rwM i l 83) F t c o op x = true → odM1 (pcM i) (prM i n) (rwM i l 83) F t c o op x = false := fun z => by simpa using z
    have gx := (hcv.2.2.2.2.2 t x ht hx3).2.1
    have gc := (hcv.2.2.2.2.2 t c ht hc).2.1
    have ex := prM_at (i := i) ht hx3
    have ec := prM_at (i := i) ht hc
    refine s_X3_isOutdone_24 _ _ _ _ _ _ ⟨⟨by omega, by omega⟩, fun q => by omega, fun q => ⟨⟨by omega, by omega⟩, ⟨by omega, by omega⟩, ⟨by omega, by omega⟩, fun _ => ⟨by omega, by omega⟩, fun _ _ _ => ⟨by omega, by omega⟩, fun _ _ _ => ⟨by omega, by omega⟩, fun z => ?_, fun z => ?_⟩⟩
    · have hm : (pcM i).1 t x = true := (pcM_may hcv ht hx3).mp z.1
      have hp : prM i n t x < prM i n t c ∨ (prM i n t x = prM i n t c ∧ x < c) := by
        rw [← ex, ← ec]
        rcases z.2 with y | y
        · left; omega
        · right; omega
      refine s_X3_isOutdone_95 _ _ _ _ _ _ _ (sp_showsNoMore (by omega) (by omega) hcv.2.2.1 (by omega) hx3 hc hop hsn (fun y => ⟨fun q2 => absurd q2 (by decide), fun _ => h1 ⟨x, hx3, odM1_iff.mpr ⟨hm, hp, y⟩⟩⟩) (fun y => ⟨fun _ => hnx (hF (fun z4 => y (odM1_iff.mp z4).2.2)), fun q2 => absurd rfl q2⟩))
    · refine hnx (hF (fun z4 => z ?_))
      obtain ⟨d1, d2, -⟩ := odM1_iff.mp z4
      refine ⟨(pcM_may hcv ht hx3).mpr d1, ?_⟩
      rw [← ex, ← ec] at d2
      omega
theorem sp_X3_isOutdone {P : Int → IM → LM → Prop} (hd : 3 ≤ d) {n : Nat} (hcv : cvOK i n) {t c : Nat} (ht : t < n) (hc : c < 3) {o : Nat → Nat} {op : Nat} (hop : op < 4096) {F : Int64} (hsn : ∀ q : Nat, q < (rwM i l 83).1 → op.testBit q = true → l 84 ((t : Int) * 12 + (q : Int)) = vw (rwM i l 83) o q t) (h1 : odM (pcM i) (prM i n) (rwM i l 83) F t c o op = true → P 1 i l) (h0 : odM (pcM i) (prM i n) (rwM i l 83) F t c o op = false → P 0 i l) : cI w d X_X3_isOutdone [vR (some 83), vI (t : Int), vI (c : Int), vL F, vI (op : Int)] i l P := by
  obtain ⟨d, rfl, hd1⟩ := d_pos hd
  refine e_X3_isOutdone (s_X3_isOutdone _ _ _ _ (lp_outM hd1 hcv ht hc hop hsn (fun h => h1 (odM_iff.mpr h)) (fun h => h0 ?_) 3 0 rfl (fun y hy => by omega)))
  cases z : odM (pcM i) (prM i n) (rwM i l 83) F t c o op with
  | false => rfl
  | true =>
    obtain ⟨x, hx, hb⟩ := odM_iff.mp z
    rw [h x hx] at hb; cases hb
end
