/-! WAYS in the program: where one of the PEOPLE may be -/
section
variable {w : Wd} {d : Nat} {i : IM} {l : LM}
theorem ior_rc {a b c : Nat} (ha : a < 256) (hb : b < 256) (hc : c < 256) : ior (ior (a : Int) (b : Int)) (c : Int) = ior (ior (a : Int) (c : Int)) (b : Int) := by
  have h1 : a ||| b < 2 ^ 8 := Nat.or_lt_two_pow ha hb
  have h2 : a ||| c < 2 ^ 8 := Nat.or_lt_two_pow ha hc
  rw [ior_nat (a := a) (b := b) (by omega) (by omega), ior_nat (a := a) (b := c) (by omega) (by omega)]
  rw [ior_nat (a := a ||| b) (b := c) (by omega) (by omega), ior_nat (a := a ||| c) (b := b) (by omega) (by omega), Nat.or_assoc, Nat.or_comm b c, ← Nat.or_assoc]
/-- one more is out -/
theorem orGo_one {g g' : Nat → Int} {x : Int} {p : Nat} (hx : ∃ b : Nat, x = (b : Int) ∧ b < 256) (hg' : ∃ b : Nat, g' p = (b : Int) ∧ b < 256) (h0 : g p = 0) (hne : ∀ k, k ≠ p → g' k = g k) : ∀ n, p < n → (∀ k, k < n → ∃ b : Nat, g k = (b : Int) ∧ b < 256) → orGo g' x n = ior (orGo g x n) (g' p)
  | 0, h, _ => by omega
  | n + 1, h, hg => by
    obtain ⟨c, hc, hc2⟩ := hg'
    obtain ⟨a, ha, ha2⟩ := orGo_nat hx n (fun k hk => hg k (by omega))
    by_cases e : p = n
    · subst e
      show ior (orGo g' x p) (g' p) = ior (ior (orGo g x p) (g p)) (g' p)
      rw [orGo_cg (g := g') (g' := g) (fun k hk => hne k (by omega)), h0, ha, ior_0 ha2]
    · have ih := orGo_one hx ⟨c, hc, hc2⟩ h0 hne n (by omega) (fun k hk => hg k (by omega))
      obtain ⟨b, hb, hb2⟩ := hg n (by omega)
      show ior (orGo g' x n) (g' n) = ior (ior (orGo g x n) (g n)) (g' p)
      rw [ih, hne n (by omega), hc, ha, hb]
      exact ior_rc ha2 hc2 hb2
theorem seen_one {cs : List Cla} (hk : kOK (i 101)) {v m p pl : Int} (hp : 0 ≤ p ∧ p < i 101 309) : mSeen i cs v m p pl = ior (oSeen i cs (fun q => if q = p then -1 else mWhere i q m) v m) (mCoat i cs v p pl (i 101 313) m) := by
  have h309 := hk.1.2.2.1
  obtain ⟨p, rfl⟩ := Int.eq_ofNat_of_zero_le hp.1
  have hp2 := hp.2
  have := orGo_one (g := fun q => mCoat i cs v (q : Int) (if (q : Int) = (p : Int) then -1 else mWhere i (q : Int) m) (i 101 313) m) (g' := fun q => mCoat i cs v (q : Int) (if (q : Int) = (p : Int) then pl else mWhere i (q : Int) m) (i 101 313) m) (x := mThings i cs v (i 101 313) m) (p := p) (mThings_nat hk cs v _ m) (mCoat_nat hk cs ⟨by omega, by omega⟩) (by
      show mCoat i cs v (p : Int) (if (p : Int) = (p : Int) then -1 else mWhere i (p : Int) m) (i 101 313) m = 0
      rw [if_pos rfl]
      unfold mCoat
      exact if_pos (Or.inl rfl)) (fun k hk2 => by
      show mCoat i cs v (k : Int) (if (k : Int) = (p : Int) then pl else mWhere i (k : Int) m) (i 101 313) m = mCoat i cs v (k : Int) (if (k : Int) = (p : Int) then -1 else mWhere i (k : Int) m) (i 101 313) m
      rw [if_neg (by omega), if_neg (by omega)]) (i 101 309).toNat (by omega) (fun k hk2 => mCoat_nat hk cs ⟨by omega, by omega⟩)
  have e : mCoat i cs v (p : Int) (if (p : Int) = (p : Int) then pl else mWhere i (p : Int) m) (i 101 313) m = mCoat i cs v (p : Int) pl (i 101 313) m := by rw [if_pos rfl]
  rw [← e]
  exact this
/-- all but ASKER, SIGHT and WALKER -/
def kfr (i i' : IM) : Prop := ∀ a : Nat, (a < 41 ∨ 50 < a) → (a < 90 ∨ 93 < a) → i' a = i a
theorem kfr_rf (i : IM) : kfr i i := fun _ _ _ => rfl
theorem kfr_tr {i j k : IM} (h1 : kfr i j) (h2 : kfr j k) : kfr i k := fun a x y => (h2 a x y).trans (h1 a x y)
theorem kfr_v {i i' : IM} (h : vfr i i') : kfr i i' := fun a x _ => h a x
theorem kfr_u {i : IM} {a : Nat} {k v : Int} (h : 90 ≤ a ∧ a ≤ 93) : kfr i (u2 i a k v) := fun b x y => u2_other _ _ _ (by omega)
theorem Cx_k {i i' : IM} {cs : List Cla} (h : kfr i i') (hx : Cx w i cs) : Cx w i' cs := by
  have e101 := h 101 (by decide) (by decide)
  refine ⟨?_, by rw [e101]; exact hx.2.1, forceC_K (h 7 (by decide) (by decide)) (fun b hb => h b (by omega) (by omega)) hx.2.2.1, hx.2.2.2⟩
  have ht := hx.1
  unfold TW
  rw [h 7 (by decide) (by decide), h 8 (by decide) (by decide), h 9 (by decide) (by decide), h 10 (by decide) (by decide), h 11 (by decide) (by decide), h 13 (by decide) (by decide), h 14 (by decide) (by decide), e101, mLow_K e101]
  exact ht
/-- SIGHT is fresh -/
def Fr (i : IM) (cs : List Cla) : Prop := SgF i cs ∧ Sw i cs ∧ i 44 14 = i 7 15
theorem Fr_s {i i' : IM} {cs : List Cla} (h : sfr i i') (hg : SgF i' cs) (hf : Fr i cs) : Fr i' cs := ⟨hg, Sw_s h hf.2.1, by rw [sfr_44 h, sfr_7 h, hf.2.2]⟩
theorem Fr_u {cs : List Cla} {a : Nat} {k v : Int} (ha : a ≠ 7 ∧ a ≠ 44 ∧ a ≠ 45 ∧ a ≠ 46 ∧ a ≠ 47 ∧ a ≠ 48 ∧ a ≠ 50 ∧ a ≠ 101) (h : Fr i cs) : Fr (u2 i a k v) cs :=
  ⟨SgF_eq (u2_other _ _ _ (by omega)) (u2_other _ _ _ (by omega)) (u2_other _ _ _ (by omega)) (u2_other _ _ _ (by omega)) (u2_other _ _ _ (by omega)) (u2_other _ _ _ (by omega)) h.1, Sw_eq (u2_other _ _ _ (by omega)) (u2_other _ _ _ (by omega)) (u2_other _ _ _ (by omega)) h.2.1, by rw [u2_other _ _ _ (by omega), u2_other _ _ _ (by omega)]; exact h.2.2⟩
theorem Fr_49 {i i' : IM} {cs : List Cla} (h : ∀ a, a ≠ 49 → i' a = i a) (hf : Fr i cs) : Fr i' cs :=
  ⟨SgF_eq (h 44 (by decide)) (h 45 (by decide)) (h 46 (by decide)) (h 47 (by decide)) (h 48 (by decide)) (h 101 (by decide)) hf.1, Sw_eq (h 44 (by decide)) (h 50 (by decide)) (h 101 (by decide)) hf.2.1, by rw [h 44 (by decide), h 7 (by decide), hf.2.2]⟩
/-- what each WINDOW that looks at some of the PLACES sees with that one at home -/
def snI2 (i i' : IM) (cs : List Cla) (p m : Int) (x n : Nat) : Prop := ∀ v : Int, 0 ≤ v → v < (n : Int) → ¬ iand (i 101 (80 + 3 * v + 1)) (x : Int) = 0 → i' 92 v = oSeen i cs (fun q => if q = p then -1 else mWhere i q m) v m
theorem and_bit {a x b : Nat} (ha : a < 1024) (hb : b < 10) (h1 : iand (ishr (a : Int) (b : Int)) 1 = 1) (h2 : x.testBit b = true) : ¬ iand (a : Int) (x : Int) = 0 := by
  rw [ibit_nat (by omega) (by omega), bit_div] at h1
  have h3 : a.testBit b = true := by
    by_cases z : a.testBit b = true
    · exact z
    · rw [if_neg z] at h1; omega
  rw [iand_nat (by omega)]
  intro z
  have z2 : a &&& x = 0 := by omega
  have : (a &&& x).testBit b = true := by rw [Nat.testBit_and, h3, h2]; rfl
  rw [z2, Nat.zero_testBit] at this
  cases this
theorem lp_mayStand (hd : 6 ≤ d) {P : Int → IM → LM → Prop} {cs : List Cla} {i : IM} (hx : Cx w i cs) {p m : Int} (hp : 0 ≤ p ∧ p < i 101 309) (hm : 0 ≤ m ∧ m < 120) {x b : Nat} (hb : b < 10) (hxb : x.testBit b = true) {l0 : LM} (hP1 : mbF i cs p (b : Int) m = true → ∀ i' l', kfr i i' → psc l0 l' → Fr i' cs → i' 90 6 = p → snI2 i i' cs p m x (i 101 308).toNat → (i' 90 = i 90 ∧ i' 91 = i 91 ∧ i' 93 = i 93) → P 1 i' l') (hP0 : ¬ mbF i cs p (b : Int) m = true → ∀ i' l', kfr i i' → psc l0 l' → Fr i' cs → i' 90 6 = p → snI2 i i' cs p m x (i 101 308).toNat → (i' 90 = i 90 ∧ i' 91 = i 91 ∧ i' 93 = i 93) → P 0 i' l') : ∀ r v : Nat, v + r = (i 101 308).toNat → mbG i cs p (b : Int) m v = true → ∀ i' l', kfr i i' → psc l0 l' → Fr i' cs → i' 90 6 = p → snI2 i i' cs p m x (i 101 308).toNat → (i' 90 = i 90 ∧ i' 91 = i 91 ∧ i' 93 = i 93) → gI w d X_X10_mayStand P i' l' 2 [(0, vR (some 90)), (1, vI (b : Int)), (2, vI m), (3, vI (v : Int))] [] := by
  have h308 := hx.2.1.1.2.1
  have h309 := hx.2.1.1.2.2.1
  have h7 := Cx_7 hx
  intro r
  induction r with
  | zero =>
    intro v hv hg i' l' hi hl hf h6 hs hsame
    have e7 : i' 7 9 = i 101 308 := by rw [hi 7 (by decide) (by decide), h7.2.1]
    have e : v = (i 101 308).toNat := by omega
    rw [e] at hg
    exact s_X10_mayStand_2 _ _ _ (by omega) ⟨⟨by omega, by omega⟩, fun q => by rw [e7] at q; omega, fun _ => hP1 hg i' l' hi hl hf h6 hs hsame, fun q => by rw [e7] at q; omega, fun q => by rw [e7] at q; omega⟩
  | succ r ih =>
    intro v hv hg i' l' hi hl hf h6 hs hsame
    have e7 : i' 7 9 = i 101 308 := by rw [hi 7 (by decide) (by decide), h7.2.1]
    have hv8 : 0 ≤ (v : Int) ∧ (v : Int) < 8 := by omega
    have e9 : i' 9 ((v : Int) * 3 + 1) = i 101 (80 + 3 * (v : Int) + 1) := by rw [hi 9 (by decide) (by decide), TW_view hx.1 hv8 (by omega)]
    have e101 := hi 101 (by decide) (by decide)
    have hnx := ih (v + 1) (by omega)
    have hgs : mbG i cs p (b : Int) m (v + 1) = mbC i cs p (b : Int) m v := by
      unfold mbG
      rw [hg, Bool.true_and]
    have hvw := (hx.2.1.2.2.1 (v : Int) hv8.1 hv8.2).2.1
    refine s_X10_mayStand_2 _ _ _ (by omega) ⟨⟨by omega, by omega⟩, fun q => ⟨by omega, by omega⟩, fun q => by rw [e7] at q; omega, fun q => ?_, fun q => ⟨hv8, ?_⟩⟩
    · have q2 := q.2
      rw [e9] at q2
      refine hnx ?_ i' l' hi hl hf h6 hs hsame
      rw [hgs]
      unfold mbC
      rw [decide_eq_true q2, Bool.true_or]
    · have q2 := q.2
      rw [e9] at q2
      obtain ⟨W, hW⟩ := Int.eq_ofNat_of_zero_le hvw.1
      have hne : ¬ iand (i 101 (80 + 3 * (v : Int) + 1)) (x : Int) = 0 := by
        rw [hW] at q2 ⊢
        exact and_bit (by omega) hb q2 hxb
      have e92 := hs (v : Int) (by omega) (by omega) hne
      rw [h6]
      refine sp_X8_oneFrom (by omega) (Cx_k hi hx) hf.1 hv8 ⟨by omega, by omega⟩ ⟨by omega, by omega⟩ hm (fun i2 l2 f2 g2 s2 => ?_)
      rw [e92, mCoat_K e101, e101, ← seen_one hx.2.1 hp]
      obtain ⟨c, hc, hc2⟩ := mSeen_nat hx.2.1 cs (v : Int) m p (b : Int)
      refine ⟨by rw [hc]; exact ⟨by omega, by omega⟩, ?_⟩
      have hi2 := kfr_tr hi (kfr_v (vfr_s f2))
      have hf2 := Fr_s f2 s2 hf
      refine sp_X8_limitAt (by omega) (Cx_k hi2 hx) hf2.1 hv8 hm (fun i3 l3 f3 g3 s3 => ?_)
      have hi3 := kfr_tr hi2 (kfr_v (vfr_s f3))
      have hf3 := Fr_s f3 s3 hf2
      have fc : ∀ a, a ≠ 41 → a ≠ 42 → a ≠ 46 → a ≠ 47 → a ≠ 48 → i3 a = i' a := sfr_tr f2 f3
      have h63 : i3 90 6 = p := by rw [fc 90 (by decide) (by decide) (by decide) (by decide) (by decide)]; exact h6
      have hs3 : snI2 i i3 cs p m x (i 101 308).toNat := by unfold snI2; rw [fc 92 (by decide) (by decide) (by decide) (by decide) (by decide)]; exact hs
      have hsm3 : i3 90 = i 90 ∧ i3 91 = i 91 ∧ i3 93 = i 93 := by
        rw [fc 90 (by decide) (by decide) (by decide) (by decide) (by decide), fc 91 (by decide) (by decide) (by decide) (by decide) (by decide), fc 93 (by decide) (by decide) (by decide) (by decide) (by decide)]
        exact hsame
      rw [hi2 101 (by decide) (by decide)]
      refine ⟨fun q3 => hnx ?_ i3 l3 hi3 (psc_tr (psc_tr hl g2) g3) hf3 h63 hs3 hsm3, fun q3 => hP0 ?_ i3 l3 hi3 (psc_tr (psc_tr hl g2) g3) hf3 h63 hs3 hsm3⟩
      · rw [hgs]
        unfold mbC
        rw [decide_eq_true q3, Bool.or_true]
      · intro z
        have := (mbG_iff _ _ _ _ _ _).mp z v (by omega)
        unfold mbC at this
        rw [decide_eq_false (fun y => y q2), decide_eq_false q3] at this
        cases this
/-- the PLACES, one by one -/
theorem lp_open2 (hd : 7 ≤ d) {P : Int → IM → LM → Prop} {cs : List Cla} {i : IM} (hx : Cx w i cs) {p m : Int} (hp : 0 ≤ p ∧ p < i 101 309) (hm : 0 ≤ m ∧ m < 120) {x : Nat} (hx10 : x < 1024) {l0 : LM} (hP : ∀ i' l', kfr i i' → psc l0 l' → Fr i' cs → i' 90 6 = p → (i' 90 = i 90 ∧ i' 91 = i 91 ∧ i' 93 = i 93) → P (flt x (fun b => mbF i cs p (b : Int) m) : Nat) i' l') : ∀ r b : Nat, b + r = 10 → ∀ i' l', kfr i i' → psc l0 l' → Fr i' cs → i' 90 6 = p → snI2 i i' cs p m x (i 101 308).toNat → (i' 90 = i 90 ∧ i' 91 = i 91 ∧ i' 93 = i 93) → gI w d X_X10_openOf P i' l' 69 [(0, vR (some 90)), (1, vI (x : Int)), (2, vI m), (3, vI (bfGo (fun b => if x.testBit b = true ∧ mbF i cs p (b : Int) m = true then 0 else 1) b : Nat)), (4, vI (b : Int))] [] := by
  intro r
  induction r with
  | zero =>
    intro b hb i' l' hi hl hf h6 hs hsame
    have e : b = 10 := by omega
    subst e
    have hlt := bfGo_lt (fun b => if x.testBit b = true ∧ mbF i cs p (b : Int) m = true then 0 else 1) 10
    exact s_X10_openOf_69 _ _ _ _ ⟨⟨by omega, by omega⟩, fun _ => ⟨⟨by omega, by omega⟩, hP i' l' hi hl hf h6 hsame⟩, fun q => by omega, fun q => by omega⟩
  | succ r ih =>
    intro b hb i' l' hi hl hf h6 hs hsame
    have hnx := ih (b + 1) (by omega)
    unfold bfGo at hnx
    have hlt := bfGo_lt (fun b => if x.testBit b = true ∧ mbF i cs p (b : Int) m = true then 0 else 1) b
    have h2b : 2 ^ b ≤ 2 ^ 9 := Nat.pow_le_pow_right (by omega) (by omega)
    have hbit : iand (ishr (x : Int) (b : Int)) 1 = ((if x.testBit b = true then 1 else 0 : Nat) : Int) := by rw [ibit_nat (by omega) (by omega), bit_div]
    refine s_X10_openOf_69 _ _ _ _ ⟨⟨by omega, by omega⟩, fun q => by omega, fun q => ?_, fun q => ?_⟩
    · have q2 := q.2
      rw [hbit] at q2
      have hnb : ¬ x.testBit b = true := fun z => q2 (by rw [if_pos z]; rfl)
      rw [if_neg (by rw [if_neg (fun z => hnb z.1)]; decide)] at hnx
      exact hnx i' l' hi hl hf h6 hs hsame
    · have q2 := q.2
      rw [hbit] at q2
      have hnb : x.testBit b = true := by
        by_cases z : x.testBit b = true
        · exact z
        · rw [if_neg z] at q2; exact absurd q2 (by decide)
      obtain ⟨d, rfl, hd1⟩ := d_pos hd
      refine e_X10_mayStand (s_X10_mayStand _ _ (lp_mayStand hd1 hx hp hm (show b < 10 by omega) hnb (fun z i2 l2 a1 a2 a3 a4 a5 a6 => ⟨fun y => absurd y (by decide), fun _ => ?_⟩) (fun z i2 l2 a1 a2 a3 a4 a5 a6 => ⟨fun _ => ?_, fun y => absurd rfl y⟩) _ 0 (Nat.zero_add _) rfl i' l' hi hl hf h6 hs hsame))
      · rw [if_pos (by rw [if_pos ⟨hnb, z⟩])] at hnx
        rw [ishl_one (by omega), ior_nat (by omega) (by omega)]
        exact hnx i2 l2 a1 a2 a3 a4 a5 a6
      · rw [if_neg (by rw [if_neg (fun y => z y.2)]; decide)] at hnx
        exact hnx i2 l2 a1 a2 a3 a4 a5 a6
theorem lp_open1 (hd : 8 ≤ d) {P : Int → IM → LM → Prop} {cs : List Cla} {i : IM} (hx : Cx w i cs) {p m : Int} (hp : 0 ≤ p ∧ p < i 101 309) (hm : 0 ≤ m ∧ m < 120) {x : Nat} (hx10 : x < 1024) {l0 : LM} (hP : ∀ i' l', kfr i i' → psc l0 l' → Fr i' cs → i' 90 6 = p → (i' 90 = i 90 ∧ i' 91 = i 91 ∧ i' 93 = i 93) → P (flt x (fun b => mbF i cs p (b : Int) m) : Nat) i' l') : ∀ r v : Nat, v + r = (i 101 308).toNat → ∀ i' l', kfr i i' → psc l0 l' → Fr i' cs → i' 90 6 = p → snI2 i i' cs p m x v → (i' 90 = i 90 ∧ i' 91 = i 91 ∧ i' 93 = i 93) → (∀ q : Int, 0 ≤ q → q < 5 → i' 49 q = if q = p then -1 else mWhere i q m) → gI w d X_X10_openOf P i' l' 14 [(0, vR (some 90)), (1, vI (x : Int)), (2, vI m), (3, vI (v : Int))] [] := by
  have h308 := hx.2.1.1.2.1
  have h309 := hx.2.1.1.2.2.1
  have h7 := Cx_7 hx
  intro r
  induction r with
  | zero =>
    intro v hv i' l' hi hl hf h6 hs hsame ho
    have e7 : i' 7 9 = i 101 308 := by rw [hi 7 (by decide) (by decide), h7.2.1]
    have e : v = (i 101 308).toNat := by omega
    subst e
    exact s_X10_openOf_14 _ _ _ (by omega) ⟨⟨by omega, by omega⟩, fun q => by rw [e7] at q; omega, fun _ => lp_open2 (by omega) hx hp hm hx10 hP 10 0 rfl i' l' hi hl hf h6 hs hsame, fun q => by rw [e7] at q; omega, fun q => by rw [e7] at q; omega⟩
  | succ r ih =>
    intro v hv i' l' hi hl hf h6 hs hsame ho
    have e7 : i' 7 9 = i 101 308 := by rw [hi 7 (by decide) (by decide), h7.2.1]
    have hv8 : 0 ≤ (v : Int) ∧ (v : Int) < 8 := by omega
    have e9 : i' 9 ((v : Int) * 3 + 1) = i 101 (80 + 3 * (v : Int) + 1) := by rw [hi 9 (by decide) (by decide), TW_view hx.1 hv8 (by omega)]
    have e101 := hi 101 (by decide) (by decide)
    have hnx := ih (v + 1) (by omega)
    refine s_X10_openOf_14 _ _ _ (by omega) ⟨⟨by omega, by omega⟩, fun q => ⟨by omega, by omega⟩, fun q => by rw [e7] at q; omega, fun q => ?_, fun q => ⟨hv8, ?_⟩⟩
    · refine sp_X8_seenFrom (by omega) (Cx_k hi hx) hf.1 (fun q h1 h2 => by
        rw [ho q h1 h2]
        split
        · omega
        · exact mWhere_lt hx.2.1 _ _) hv8 hm (fun i2 l2 f2 g2 s2 => ⟨hv8, ?_⟩)
      rw [oSeen_K e101, oSeen_cg (o' := fun q => if q = p then -1 else mWhere i q m) h309 (fun q h1 h2 => ho q h1 (by omega))]
      have f92 := f2 92 (by decide) (by decide) (by decide) (by decide) (by decide)
      refine hnx _ l2 (kfr_tr (kfr_tr hi (kfr_v (vfr_s f2))) (kfr_u (by omega))) (psc_tr hl g2) (Fr_u (by decide) (Fr_s f2 s2 hf)) ?_ (fun y h1 h2 h3 => ?_) ?_ (fun q h1 h2 => ?_)
      · show i2 90 6 = p
        rw [f2 90 (by decide) (by decide) (by decide) (by decide) (by decide)]; exact h6
      · show (if (92 : Nat) = 92 ∧ y = (v : Int) then oSeen i cs (fun q => if q = p then -1 else mWhere i q m) (v : Int) m else i2 92 y) = _
        by_cases c : y = (v : Int)
        · rw [if_pos ⟨rfl, c⟩, c]
        · rw [if_neg (fun z => c z.2), f92]; exact hs y h1 (by omega) h3
      · rw [u2_other _ _ _ (by decide), u2_other _ _ _ (by decide), u2_other _ _ _ (by decide), f2 90 (by decide) (by decide) (by decide) (by decide) (by decide), f2 91 (by decide) (by decide) (by decide) (by decide) (by decide), f2 93 (by decide) (by decide) (by decide) (by decide) (by decide)]
        exact hsame
      · rw [u2_other _ _ _ (by decide), sfr_49 f2]; exact ho q h1 h2
    · have q2 := q.2
      rw [e9] at q2
      refine hnx _ l' (kfr_tr hi (kfr_u (by omega))) hl (Fr_u (by decide) hf) h6 (fun y h1 h2 h3 => ?_) ?_ ho
      · show (if (92 : Nat) = 92 ∧ y = (v : Int) then 0 else i' 92 y) = _
        by_cases c : y = (v : Int)
        · rw [c] at h3; exact absurd q2 h3
        · rw [if_neg (fun z => c z.2)]; exact hs y h1 (by omega) h3
      · rw [u2_other _ _ _ (by decide), u2_other _ _ _ (by decide), u2_other _ _ _ (by decide)]; exact hsame
theorem sp_X10_openOf (hd : 9 ≤ d) {P : Int → IM → LM → Prop} {cs : List Cla} {i : IM} (hx : Cx w i cs) (hf : Fr i cs) {p m : Int} (hp : 0 ≤ p ∧ p < i 101 309) (h6 : i 90 6 = p) (hm : 0 ≤ m ∧ m < 120) {x : Nat} (hx10 : x < 1024) (hP : ∀ i' l', kfr i i' → psc l l' → Fr i' cs → (i' 90 = i 90 ∧ i' 91 = i 91 ∧ i' 93 = i 93) → P (flt x (fun b => mbF i cs p (b : Int) m) : Nat) i' l') : cI w d X_X10_openOf [vR (some 90), vI (x : Int), vI m] i l P := by
  obtain ⟨d, rfl, hd1⟩ := d_pos hd
  have h309 := hx.2.1.1.2.2.1
  refine e_X10_openOf (s_X10_openOf _ _ ?_)
  rw [h6]
  refine sp_X8_letOut (by omega) hm ⟨by omega, by omega⟩ (fun i2 hi2 ho2 => ?_)
  refine lp_open1 hd1 hx hp hm hx10 (fun i' l' a1 a2 a3 _ a5 => hP i' l' a1 a2 a3 a5) _ 0 (Nat.zero_add _) i2 l (kfr_v (vfr_o (a := 49) (by omega) hi2)) (psc_rf l) (Fr_49 hi2 hf) (by rw [hi2 90 (by decide)]; exact h6) (fun v h1 h2 => by omega) ⟨hi2 90 (by decide), hi2 91 (by decide), hi2 93 (by decide)⟩ (fun q h1 h2 => ?_)
  rw [ho2 q h1 h2]
  by_cases c : q = p
  · rw [if_pos c, if_pos c]
  · rw [if_neg c, if_neg c, hf.1.2.2.2.2.2 q m ⟨h1, h2⟩ hm]
theorem lp_withS {P : Int → IM → LM → Prop} (ht : TW i) (hk : kOK (i 101)) {x : Nat} (hx : x < 1024) (hP : P (withS (sS i) x : Nat) i l) : ∀ r n : Nat, n + r = 10 → gI w d X_X10_withStreets P i l 4 [(0, vR (some 90)), (1, vI (x : Int)), (2, vI (wsGo (sS i) x n : Nat)), (3, vI (n : Int))] [] := by
  intro r
  induction r with
  | zero =>
    intro n hn
    have e : n = 10 := by omega
    subst e
    have := wsGo_lt (S := sS i) hx (fun a ha => sS_lt hk ha) 10 (by omega)
    exact s_X10_withStreets_4 _ _ _ ⟨⟨by omega, by omega⟩, fun _ => ⟨⟨by omega, by omega⟩, hP⟩, fun q => by omega, fun q => by omega⟩
  | succ r ih =>
    intro n hn
    have hnx := ih (n + 1) (by omega)
    unfold wsGo at hnx
    have hlt := wsGo_lt (S := sS i) hx (fun a ha => sS_lt hk ha) n (by omega)
    have hS := sS_lt (i := i) hk (show n < 10 by omega)
    have hbit : iand (ishr (x : Int) (n : Int)) 1 = ((if x.testBit n = true then 1 else 0 : Nat) : Int) := by rw [ibit_nat (by omega) (by omega), bit_div]
    have e11 : i 11 (n : Int) = ((sS i n : Nat) : Int) := by
      rw [ht.2.2.2.1 _ (by omega) (by omega)]
      have := hk.2.2.2.1 (n : Int) (by omega) (by omega)
      unfold sS; omega
    refine s_X10_withStreets_4 _ _ _ ⟨⟨by omega, by omega⟩, fun q => by omega, fun q => ?_, fun q => ⟨⟨by omega, by omega⟩, ?_⟩⟩
    · have q2 := q.2
      rw [hbit] at q2
      rw [if_neg (fun z => q2 (by rw [if_pos z]; rfl))] at hnx
      exact hnx
    · have q2 := q.2
      rw [hbit] at q2
      have hnb : x.testBit n = true := by
        by_cases z : x.testBit n = true
        · exact z
        · rw [if_neg z] at q2; exact absurd q2 (by decide)
      rw [if_pos hnb] at hnx
      rw [e11, ior_nat (by omega) (by omega)]
      exact hnx
theorem sp_X10_withStreets (hd : 1 ≤ d) {P : Int → IM → LM → Prop} (ht : TW i) (hk : kOK (i 101)) {x : Nat} (hx : x < 1024) (hP : P (withS (sS i) x : Nat) i l) : cI w d X_X10_withStreets [vR (some 90), vI (x : Int)] i l P := by
  obtain ⟨d, rfl, hd1⟩ := d_pos hd
  exact e_X10_withStreets (s_X10_withStreets _ (lp_withS ht hk hx hP 10 0 rfl))
end
