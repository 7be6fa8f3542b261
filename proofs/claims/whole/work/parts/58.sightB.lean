/-! what is SEEN with PEOPLE anywhere; the WINDOWS that fail -/
section
variable {w : Wd} {d : Nat} {i : IM} {l : LM}
def oSeen (i : IM) (cs : List Cla) (out : Int → Int) (v m : Int) : Int := orGo (fun p => mCoat i cs v (p : Int) (out (p : Int)) (i 101 313) m) (mThings i cs v (i 101 313) m) (i 101 309).toNat
theorem oSeen_K {i i' : IM} (e : i' 101 = i 101) : oSeen i' = oSeen i := by
  funext cs out v m; unfold oSeen; rw [e, mThings_K e, mCoat_K e]
theorem oSeen_cg {i : IM} {cs : List Cla} {o o' : Int → Int} {v m : Int} (h309 : 0 ≤ i 101 309 ∧ i 101 309 ≤ 5) (h : ∀ p : Int, 0 ≤ p → p < i 101 309 → o p = o' p) : oSeen i cs o v m = oSeen i cs o' v m := by
  unfold oSeen
  refine orGo_cg (fun k hk => ?_)
  rw [h k (by omega) (by omega)]
theorem oSeen_nat {cs : List Cla} (hk : kOK (i 101)) (o : Int → Int) (v m : Int) : ∃ b : Nat, oSeen i cs o v m = (b : Int) ∧ b < 256 := by
  have h309 := hk.1.2.2.1
  exact orGo_nat (mThings_nat hk cs v _ m) _ (fun k hk2 => mCoat_nat hk cs ⟨by omega, by omega⟩)
theorem mSeen_o (cs : List Cla) (v m but pl : Int) : mSeen i cs v m but pl = oSeen i cs (fun p => if p = but then pl else mWhere i p m) v m := rfl
theorem lp_seenFrom (hd : 5 ≤ d) {P : Int → IM → LM → Prop} {cs : List Cla} {i : IM} (hx : Cx w i cs) (ho : ∀ p : Int, 0 ≤ p → p < 5 → -1 ≤ i 49 p ∧ i 49 p < 10) {v m : Int} (hv : 0 ≤ v ∧ v < 8) (hm : 0 ≤ m ∧ m < 120) (hP : ∀ i' l', sfr i i' → psc l l' → SgF i' cs → P (oSeen i cs (i 49) v m) i' l') : ∀ (r k : Nat), k + r = (i 101 309).toNat → ∀ i' l', sfr i i' → psc l l' → SgF i' cs → gI w d X_X8_seenFrom P i' l' 10 [(0, vR (some 44)), (1, vI v), (2, vI m), (3, vI (orGo (fun p => mCoat i cs v (p : Int) (i 49 (p : Int)) (i 101 313) m) (mThings i cs v (i 101 313) m) k)), (4, vI (k : Int))] [] := by
  have h7 := Cx_7 hx
  have h309 := hx.2.1.1.2.2.1
  intro r
  induction r with
  | zero =>
    intro k hk i' l' hi hl hs
    have hk2 : k = (i 101 309).toNat := by omega
    obtain ⟨b, hb, hb2⟩ := oSeen_nat (cs := cs) hx.2.1 (i 49) v m
    refine s_X8_seenFrom_10 _ _ _ _ ⟨⟨by omega, by omega⟩, fun q => ⟨?_, ?_⟩, fun q => ?_⟩
    · rw [hk2]; show rg (oSeen i cs (i 49) v m); rw [hb]; exact ⟨by omega, by omega⟩
    · rw [hk2]; exact hP i' l' hi hl hs
    · rw [sfr_7 hi, h7.2.2.1] at q; omega
  | succ r ih =>
    intro k hk i' l' hi hl hs
    have e101 := sfr_101 hi
    refine s_X8_seenFrom_10 _ _ _ _ ⟨⟨by omega, by omega⟩, fun q => ?_, fun q => ⟨⟨by omega, by omega⟩, ?_⟩⟩
    · rw [sfr_7 hi, h7.2.2.1] at q; omega
    · have hok := ho k (by omega) (by omega)
      rw [sfr_49 hi]
      refine sp_X8_oneFrom hd (Cx_sfr hi hx) hs hv ⟨by omega, by omega⟩ hok hm (fun i2 l2 hi2 hl2 hs2 => ?_)
      have := ih (k + 1) (by omega) i2 l2 (sfr_tr hi hi2) (psc_tr hl hl2) hs2
      rw [e101, mCoat_K e101]
      exact this
theorem sp_X8_seenFrom (hd : 7 ≤ d) {P : Int → IM → LM → Prop} {cs : List Cla} (hx : Cx w i cs) (hs : SgF i cs) (ho : ∀ p : Int, 0 ≤ p → p < 5 → -1 ≤ i 49 p ∧ i 49 p < 10) {v m : Int} (hv : 0 ≤ v ∧ v < 8) (hm : 0 ≤ m ∧ m < 120) (hP : ∀ i' l', sfr i i' → psc l l' → SgF i' cs → P (oSeen i cs (i 49) v m) i' l') : cI w d X_X8_seenFrom [vR (some 44), vI v, vI m] i l P := by
  obtain ⟨d, rfl, hd1⟩ := d_pos hd
  refine e_X8_seenFrom (s_X8_seenFrom _ _ (sp_X8_thingsFrom (by omega) hx hs hv hm (fun i' l' hi hl hs' => ?_)))
  exact lp_seenFrom (by omega) hx ho hv hm hP _ 0 (Nat.zero_add _) i' l' hi hl hs'
/-- bits of those at which g is 0 -/
def bfGo (g : Nat → Int) : Nat → Nat
  | 0 => 0
  | n + 1 => if g n = 0 then bfGo g n ||| 2 ^ n else bfGo g n
theorem bfGo_cg {g g' : Nat → Int} : ∀ {n : Nat}, (∀ k, k < n → g k = g' k) → bfGo g n = bfGo g' n
  | 0, _ => rfl
  | n + 1, h => by
    show (if g n = 0 then bfGo g n ||| 2 ^ n else bfGo g n) = (if g' n = 0 then bfGo g' n ||| 2 ^ n else bfGo g' n)
    rw [bfGo_cg (fun k hk => h k (by omega)), h n (by omega)]
theorem bfGo_bit (g : Nat → Int) : ∀ n v, (bfGo g n).testBit v = true ↔ (v < n ∧ g v = 0)
  | 0, v => by
    show (0 : Nat).testBit v = true ↔ _
    rw [Nat.zero_testBit]
    constructor
    · intro h; cases h
    · intro h; omega
  | n + 1, v => by
    have ih := bfGo_bit g n v
    unfold bfGo
    by_cases q : g n = 0
    · rw [if_pos q, Nat.testBit_or, Bool.or_eq_true, ih, bit_pow]
      constructor
      · rintro (h | h)
        · exact ⟨by omega, h.2⟩
        · subst h; exact ⟨by omega, q⟩
      · rintro ⟨h1, h2⟩
        by_cases e : n = v
        · exact Or.inr e
        · exact Or.inl ⟨by omega, h2⟩
    · rw [if_neg q, ih]
      constructor
      · rintro ⟨h1, h2⟩; exact ⟨by omega, h2⟩
      · rintro ⟨h1, h2⟩
        have : v ≠ n := by intro e; subst e; exact q h2
        exact ⟨by omega, h2⟩
theorem bfGo_lt (g : Nat → Int) : ∀ n, bfGo g n < 2 ^ n
  | 0 => by show 0 < 1; omega
  | n + 1 => by
    have ih := bfGo_lt g n
    have h2 : 2 ^ n < 2 ^ (n + 1) := Nat.pow_lt_pow_right (by omega) (by omega)
    unfold bfGo
    split
    · exact Nat.or_lt_two_pow (Nat.lt_trans ih h2) h2
    · omega
theorem bit_div (a v : Nat) : a / 2 ^ v % 2 = if a.testBit v = true then 1 else 0 := by
  rw [Nat.testBit_eq_decide_div_mod_eq]
  have := ibit_lt a v
  by_cases q : a / 2 ^ v % 2 = 1
  · rw [if_pos (by simp [q]), q]
  · rw [if_neg (by simp [q])]; omega
theorem bfGo_div (g : Nat → Int) (n v : Nat) : (bfGo g n) / 2 ^ v % 2 = if v < n ∧ g v = 0 then 1 else 0 := by
  rw [bit_div]
  by_cases q : v < n ∧ g v = 0
  · rw [if_pos q, if_pos ((bfGo_bit g n v).mpr q)]
  · rw [if_neg q, if_neg (fun z => q ((bfGo_bit g n v).mp z))]
theorem bfGo_cnt (g : Nat → Int) (n : Nat) : ∀ k, k ≤ n → (cntB (bfGo g n) k : Int) = sumGo (fun v => bI (g v = 0)) k
  | 0, _ => rfl
  | k + 1, h => by
    have ih := bfGo_cnt g n k (by omega)
    show ((cntB (bfGo g n) k + bfGo g n / 2 ^ k % 2 : Nat) : Int) = sumGo (fun v => bI (g v = 0)) k + bI (g k = 0)
    rw [bfGo_div, ← ih]
    by_cases q : g k = 0
    · rw [if_pos ⟨by omega, q⟩, bI_t q]; rfl
    · rw [if_neg (fun z => q z.2), bI_f q]; rfl
theorem bfGo_cnt2 (g : Nat → Int) (n : Nat) : ∀ k, cntB (bfGo g n) (n + k) = cntB (bfGo g n) n
  | 0 => rfl
  | k + 1 => by
    show cntB (bfGo g n) (n + k) + bfGo g n / 2 ^ (n + k) % 2 = _
    rw [bfGo_div, if_neg (by omega), bfGo_cnt2 g n k]; rfl
theorem popI_bf (g : Nat → Int) {n : Nat} (h : n ≤ 16) : popI ((bfGo g n : Nat) : Int) = sumGo (fun v => bI (g v = 0)) n := by
  unfold popI
  show (cntB (bfGo g n) 16 : Int) = _
  have : 16 = n + (16 - n) := by omega
  rw [this, bfGo_cnt2, bfGo_cnt g n n (Nat.le_refl _)]
/-- whether a WINDOW holds, with PEOPLE anywhere -/
def oB (i : IM) (cs : List Cla) (o : Int → Int) (v m : Int) : Int := bI (popI (oSeen i cs o v m) ≤ fLimit cs v (i 101 313) m)
theorem oB_K {i i' : IM} (e : i' 101 = i 101) : oB i' = oB i := by
  funext cs out v m; unfold oB; rw [e, oSeen_K e]
theorem oB_cg {i : IM} {cs : List Cla} {o o' : Int → Int} {v m : Int} (h309 : 0 ≤ i 101 309 ∧ i 101 309 ≤ 5) (h : ∀ p : Int, 0 ≤ p → p < i 101 309 → o p = o' p) : oB i cs o v m = oB i cs o' v m := by
  unfold oB
  rw [oSeen_cg h309 h]
def fails (i : IM) (cs : List Cla) (o : Int → Int) (m : Int) : Nat := bfGo (fun v => oB i cs o (v : Int) m) (i 101 308).toNat
theorem lp_failing (hd : 7 ≤ d) {P : Int → IM → LM → Prop} {cs : List Cla} {i : IM} (hx : Cx w i cs) (ho : ∀ p : Int, 0 ≤ p → p < 5 → -1 ≤ i 49 p ∧ i 49 p < 10) {m : Int} (hm : 0 ≤ m ∧ m < 120) (hP : ∀ i' l', sfr i i' → psc l l' → SgF i' cs → P (fails i cs (i 49) m : Nat) i' l') : ∀ (r k : Nat), k + r = (i 101 308).toNat → ∀ i' l', sfr i i' → psc l l' → SgF i' cs → gI w d X_X8_failing P i' l' 4 [(0, vR (some 44)), (1, vI m), (2, vI (bfGo (fun v => oB i cs (i 49) (v : Int) m) k : Nat)), (3, vI (k : Int))] [] := by
  have h7 := Cx_7 hx
  have h308 := hx.2.1.1.2.1
  intro r
  induction r with
  | zero =>
    intro k hk i' l' hi hl hs
    have hk2 : k = (i 101 308).toNat := by omega
    have hb := bfGo_lt (fun v => oB i cs (i 49) (v : Int) m) k
    have h8 : 2 ^ k ≤ 2 ^ 8 := Nat.pow_le_pow_right (by omega) (by omega)
    refine s_X8_failing_4 _ _ _ (by omega) ⟨⟨by omega, by omega⟩, fun q => ⟨⟨by omega, by omega⟩, ?_⟩, fun q => ?_⟩
    · rw [hk2]; exact hP i' l' hi hl hs
    · rw [sfr_7 hi, h7.2.1] at q; omega
  | succ r ih =>
    intro k hk i' l' hi hl hs
    have e101 := sfr_101 hi
    have hv : 0 ≤ (k : Int) ∧ (k : Int) < 8 := by omega
    refine s_X8_failing_4 _ _ _ (by omega) ⟨⟨by omega, by omega⟩, fun q => ?_, fun q => ?_⟩
    · rw [sfr_7 hi, h7.2.1] at q; omega
    · refine sp_X8_seenFrom hd (Cx_sfr hi hx) hs (by rw [sfr_49 hi]; exact ho) hv hm (fun i2 l2 hi2 hl2 hs2 => ?_)
      have e101b := sfr_101 (sfr_tr hi hi2)
      obtain ⟨b, hb, hb2⟩ := oSeen_nat (cs := cs) (i := i) hx.2.1 (i 49) k m
      rw [sfr_49 hi, oSeen_K e101]
      refine ⟨by rw [hb]; exact ⟨by omega, by omega⟩, sp_X8_limitAt (by omega) (Cx_sfr (sfr_tr hi hi2) hx) hs2 hv hm (fun i3 l3 hi3 hl3 hs3 => ?_)⟩
      rw [e101b]
      have h3 := ih (k + 1) (by omega) i3 l3 (sfr_tr (sfr_tr hi hi2) hi3) (psc_tr (psc_tr hl hl2) hl3) hs3
      have hbl := bfGo_lt (fun v => oB i cs (i 49) (v : Int) m) k
      have h8 : 2 ^ k ≤ 2 ^ 8 := Nat.pow_le_pow_right (by omega) (by omega)
      unfold bfGo at h3
      refine ⟨fun q2 => ?_, fun q2 => ?_⟩
      · rw [if_neg (by show ¬ oB i cs (i 49) k m = 0; unfold oB; rw [bI_t q2]; decide)] at h3
        exact h3
      · rw [if_pos (by show oB i cs (i 49) k m = 0; unfold oB; exact bI_f q2)] at h3
        rw [ishl_one (by omega), ior_nat (by omega) (by omega)]
        exact h3
theorem sp_X8_failing (hd : 8 ≤ d) {P : Int → IM → LM → Prop} {cs : List Cla} (hx : Cx w i cs) (hs : SgF i cs) (ho : ∀ p : Int, 0 ≤ p → p < 5 → -1 ≤ i 49 p ∧ i 49 p < 10) {m : Int} (hm : 0 ≤ m ∧ m < 120) (hP : ∀ i' l', sfr i i' → psc l l' → SgF i' cs → P (fails i cs (i 49) m : Nat) i' l') : cI w d X_X8_failing [vR (some 44), vI m] i l P := by
  obtain ⟨d, rfl, hd1⟩ := d_pos hd
  exact e_X8_failing (s_X8_failing _ (lp_failing hd1 hx ho hm hP _ 0 (Nat.zero_add _) i l (sfr_rf i) (psc_rf l) hs))
/-- PEOPLE as their WALKS tell, but for one -/
theorem lp_letOut {P : IM → LM → Prop} {i : IM} {m but : Int} (hm : 0 ≤ m ∧ m < 120) (hb : rg but) (hP : ∀ i', (∀ a, a ≠ 49 → i' a = i a) → (∀ p : Int, 0 ≤ p → p < 5 → i' 49 p = if p = but then -1 else i 45 (p * 120 + m)) → P i' l) : ∀ (r k : Nat), k + r = 5 → ∀ i', (∀ a, a ≠ 49 → i' a = i a) → (∀ p : Int, 0 ≤ p → p < (k : Int) → i' 49 p = if p = but then -1 else i 45 (p * 120 + m)) → gV w d X_X8_letOut P i' l 2 [(0, vR (some 44)), (1, vI m), (2, vI but), (3, vI (k : Int))] [] := by
  intro r
  induction r with
  | zero =>
    intro k hk i' hi ho
    exact s_X8_letOut_2 _ _ _ ⟨⟨by omega, by omega⟩, fun q => hP i' hi (fun p h1 h2 => ho p h1 (by omega)), fun q => by omega⟩
  | succ r ih =>
    intro k hk i' hi ho
    refine s_X8_letOut_2 _ _ _ ⟨⟨by omega, by omega⟩, fun q => by omega, fun q => ⟨⟨by omega, by omega⟩, hb, fun _ => ⟨by omega, by omega⟩, ⟨by omega, by omega⟩, ?_⟩⟩
    refine ih (k + 1) (by omega) _ (fun a ha => by rw [u2_other _ _ _ ha, hi a ha]) (fun p h1 h2 => ?_)
    by_cases e : p = (k : Int)
    · subst e
      rw [u2_self, hi 45 (by decide)]
    · have : u2 i' 49 (k : Int) (if (k : Int) = but then -1 else i' 45 ((k : Int) * 120 + m)) 49 p = i' 49 p := if_neg (fun z => e z.2)
      rw [this]
      exact ho p h1 (by omega)
theorem sp_X8_letOut (hd : 1 ≤ d) {P : IM → LM → Prop} {m but : Int} (hm : 0 ≤ m ∧ m < 120) (hb : rg but) (hP : ∀ i', (∀ a, a ≠ 49 → i' a = i a) → (∀ p : Int, 0 ≤ p → p < 5 → i' 49 p = if p = but then -1 else i 45 (p * 120 + m)) → P i' l) : cVd w d X_X8_letOut [vR (some 44), vI m, vI but] i l P := by
  obtain ⟨d, rfl, hd1⟩ := d_pos hd
  exact e_X8_letOut (s_X8_letOut _ _ (lp_letOut hm hb hP 5 0 rfl i (fun _ _ => rfl) (fun p h1 h2 => by omega)))
end
