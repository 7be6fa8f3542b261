/-! FILES in the program -/
section
variable {w : Wd} {d : Nat} {i : IM} {l : LM}
theorem lp_fits (hd : 1 ≤ d) {P : Int → IM → LM → Prop} {cs : List Cla} (hx : Cx w i cs) {o : Int → Int} {t : Nat} (ht : t < 5) (ho : ordO (i 97) o (t + 1) (i 101 309)) {a : Nat} {L : Nat} (hL : i 96 5 = (L : Int)) (hP : P (bI (cntB (wset (fun j => clP i (o j)) a (t + 1 - a)) 16 ≤ L)) i l) : ∀ r m : Nat, m + r = t + 1 - a → a ≤ t + 1 → gI w d X_X6_fits P i l 15 [(0, vR (some 96)), (1, vI (t : Int)), (2, vI (wset (fun j => clP i (o j)) a m : Int)), (3, vI ((a : Int) + (m : Int)))] [] := by
  have h309 := hx.2.1.1.2.2.1
  have hlt := fun m => wset_lt (C := fun j => clP i (o j)) (fun j => clP_lt i (o j)) a m
  intro r
  induction r with
  | zero =>
    intro m hm ha
    have e : m = t + 1 - a := by omega
    subst e
    have := hlt (t + 1 - a)
    refine s_X6_fits_15 _ _ _ hd ⟨⟨by omega, by omega⟩, ⟨by omega, by omega⟩, fun _ => ⟨⟨by omega, by omega⟩, ?_⟩, fun q => by omega⟩
    rw [hL]
    rw [bI_congr (p := ¬ (L : Int) < popI ((wset (fun j => clP i (o j)) a (t + 1 - a) : Nat) : Int)) (q := cntB (wset (fun j => clP i (o j)) a (t + 1 - a)) 16 ≤ L) (by
      have e2 : popI ((wset (fun j => clP i (o j)) a (t + 1 - a) : Nat) : Int) = ((cntB (wset (fun j => clP i (o j)) a (t + 1 - a)) 16 : Nat) : Int) := rfl
      rw [e2]; omega)]
    exact hP
  | succ r ih =>
    intro m hm ha
    have h2 := hlt m
    have ho2 := ho ((a : Int) + (m : Int)) (by omega) (by omega)
    have e10 : i 10 (o ((a : Int) + (m : Int))) = i 101 (114 + o ((a : Int) + (m : Int))) := hx.1.2.2.1 _ (by omega) (by omega)
    have hco := hx.2.1.2.2.2.2.1 (o ((a : Int) + (m : Int))) (by omega) (by omega)
    refine s_X6_fits_15 _ _ _ hd ⟨⟨by omega, by omega⟩, ⟨by omega, by omega⟩, fun q => by omega, fun q => ⟨⟨by omega, by omega⟩, ?_⟩⟩
    rw [ho2.1, e10]
    refine ⟨⟨by omega, by omega⟩, hco, ?_⟩
    rw [hx.1.2.2.2.2.1 _ hco.1 hco.2, clP_eq hx.2.1 ⟨by omega, by omega⟩, bit_ior h2 (clP_lt i _)]
    have := ih (m + 1) (by omega) ha
    have e : wset (fun j => clP i (o j)) a (m + 1) = wset (fun j => clP i (o j)) a m ||| 2 ^ clP i (o ((a : Int) + (m : Int))) := by
      show _ ||| 2 ^ clP i (o ((a + m : Nat) : Int)) = _
      rw [Int.natCast_add]
    rw [e] at this
    have e3 : (a : Int) + (m : Int) + 1 = (a : Int) + ((m + 1 : Nat) : Int) := by omega
    rw [e3]
    exact this
theorem sp_X6_fits (hd : 2 ≤ d) {P : Int → IM → LM → Prop} {cs : List Cla} (hx : Cx w i cs) {o : Int → Int} {t : Nat} (ht : t < 5) (ho : ordO (i 97) o (t + 1) (i 101 309)) {k L : Nat} (hk : i 96 4 = (k : Int)) (hk1 : 1 ≤ k ∧ k ≤ 8) (hL : i 96 5 = (L : Int)) (hP : P (bI (ft (fun j => clP i (o j)) k L t = true)) i l) : cI w d X_X6_fits [vR (some 96), vI (t : Int)] i l P := by
  obtain ⟨d, rfl, hd1⟩ := d_pos hd
  refine e_X6_fits (s_X6_fits _ hd1 ⟨by rw [hk]; exact ⟨by omega, by omega⟩, ?_⟩)
  rw [hk]
  have e : max 0 ((t : Int) - (k : Int) + 1) = ((t + 1 - k : Nat) : Int) + ((0 : Nat) : Int) := by omega
  rw [e]
  refine lp_fits hd1 hx ht ho hL ?_ (t + 1 - (t + 1 - k)) 0 (Nat.zero_add _) (by omega)
  rw [bI_congr (p := cntB (wset (fun j => clP i (o j)) (t + 1 - k) (t + 1 - (t + 1 - k))) 16 ≤ L) (q := ft (fun j => clP i (o j)) k L t = true) (by unfold ft; rw [decide_eq_true_iff])]
  exact hP
/-- FILES found so far, in the program -/
def fiC (i i' : IM) (k L : Nat) (st : FSt) : Prop := (∀ a : Nat, a ≠ 96 → a ≠ 97 → a ≠ 98 → i' a = i a) ∧ (i' 96 4 = (k : Int) ∧ i' 96 5 = (L : Int)) ∧ i' 96 3 = st.1 ∧ (st.1 ≠ 0 → ∀ p : Int, 0 ≤ p → p < i 101 309 → i' 98 p = st.2 p)
theorem Cx_f {i i' : IM} {cs : List Cla} (h : ∀ a : Nat, a ≠ 96 → a ≠ 97 → a ≠ 98 → i' a = i a) (hx : Cx w i cs) : Cx w i' cs := by
  have e101 := h 101 (by decide) (by decide) (by decide)
  refine ⟨?_, by rw [e101]; exact hx.2.1, forceC_K (h 7 (by decide) (by decide) (by decide)) (fun b hb => h b (by omega) (by omega) (by omega)) hx.2.2.1, hx.2.2.2⟩
  have ht := hx.1
  unfold TW
  rw [h 7 (by decide) (by decide) (by decide), h 8 (by decide) (by decide) (by decide), h 9 (by decide) (by decide) (by decide), h 10 (by decide) (by decide) (by decide), h 11 (by decide) (by decide) (by decide), h 13 (by decide) (by decide) (by decide), h 14 (by decide) (by decide) (by decide), e101, mLow_K e101]
  exact ht
theorem sp_X6_goOn {i : IM} {cs : List Cla} (hx : Cx w i cs) {k L : Nat} (hk1 : 1 ≤ k ∧ k ≤ 8) : ∀ (r d t used : Nat) (o : Int → Int) (st : FSt) (i' : IM) (P : IM → LM → Prop), r + 4 ≤ d → t + r = (i 101 309).toNat → used < 32 → 0 ≤ st.1 ∧ st.1 + (5 : Int) ^ r ≤ 10000 → fiC i i' k L st → ordO (i' 97) o t (i 101 309) → (∀ i2, fiC i i2 k L (cF (clP i) (i 101 309).toNat k L r t used o st) → ordO (i2 97) o t (i 101 309) → P i2 l) → cVd w d X_X6_goOn [vR (some 96), vI (t : Int), vI (used : Int)] i' l P := by
  have h309 := hx.2.1.1.2.2.1
  have h7 := Cx_7 hx
  intro r
  induction r with
  | zero =>
    intro d t used o st i' P hd ht hu hst hi ho hP
    obtain ⟨d, rfl, hd1⟩ := d_pos (show 3 + 1 ≤ d by omega)
    have e7 : i' 7 10 = i 101 309 := by rw [hi.1 7 (by decide) (by decide) (by decide), h7.2.2.1]
    have et : t = (i 101 309).toNat := by omega
    subst et
    have hst2 : st.1 + 1 ≤ 10000 := hst.2
    unfold cF at hP
    obtain ⟨a1, a2, a3, a4⟩ := hi
    refine e_X6_goOn (s_X6_goOn _ _ ⟨⟨by omega, by omega⟩, fun q => by rw [e7] at q; omega, fun q => ⟨by rw [a3]; exact ⟨by omega, by omega⟩, ?_⟩, fun q => ⟨by show rg (i' 96 3 + 1); rw [a3]; exact ⟨by omega, by omega⟩, ?_⟩⟩)
    · have q2 := q.2
      rw [a3] at q2
      refine hP _ ⟨fun a z1 z2 z3 => by rw [u2_other _ _ _ z1]; exact a1 a z1 z2 z3, a2, ?_, fun _ p h1 h2 => ?_⟩ ho
      · show i' 96 3 + 1 = st.1 + 1
        rw [a3]
      · show i' 98 p = (if st.1 = 0 then o else st.2) p
        rw [if_neg q2]
        exact a4 q2 p h1 h2
    · have q2 := q.2
      rw [a3] at q2
      refine hP _ ⟨fun a z1 z2 z3 => ?_, a2, ?_, fun _ p h1 h2 => ?_⟩ ho
      · rw [u2_other _ _ _ z1]
        have : cpA i' 97 98 5 a = i' a := by funext y; exact if_neg (fun z => z3 z.1)
        rw [this]
        exact a1 a z1 z2 z3
      · show i' 96 3 + 1 = st.1 + 1
        rw [a3]
      · show cpA i' 97 98 5 98 p = (if st.1 = 0 then o else st.2) p
        rw [if_pos q2]
        have : cpA i' 97 98 5 98 p = i' 97 p := if_pos (c := (98 : Nat) = 98 ∧ 0 ≤ p ∧ p < 5) ⟨rfl, h1, by omega⟩
        rw [this]
        exact (ho p h1 (by omega)).1
  | succ r ih =>
    intro d t used o st i' P hd ht hu hst hi ho hP
    obtain ⟨d, rfl, hd1⟩ := d_pos (show (r + 4) + 1 ≤ d by omega)
    have e7 : i' 7 10 = i 101 309 := by rw [hi.1 7 (by decide) (by decide) (by decide), h7.2.2.1]
    refine e_X6_goOn (s_X6_goOn _ _ ⟨⟨by omega, by omega⟩, fun q => ?_, fun q => by rw [e7] at q; omega, fun q => by rw [e7] at q; omega⟩)
    unfold cF at hP
    have hp5 : (0 : Int) ≤ 5 ^ r := Int.pow_nonneg (by omega)
    have e5 : (5 : Int) ^ (r + 1) = 5 * 5 ^ r := by rw [Int.pow_succ]; omega
    have key : ∀ (m p : Nat), p + m = (i 101 309).toNat → ∀ i2, fiC i i2 k L (lpF (fun p s => if used.testBit p = true then s else if ft (fun j => clP i (updF o t (p : Int) j)) k L t = true then cF (clP i) (i 101 309).toNat k L r (t + 1) (used ||| 2 ^ p) (updF o t (p : Int)) s else s) p st) → ordO (i2 97) o t (i 101 309) → gV w d X_X6_goOn P i2 l 45 [(0, vR (some 96)), (1, vI (t : Int)), (2, vI (used : Int)), (3, vI (p : Int))] [] := by
      intro m
      induction m with
      | zero =>
        intro p hp i2 hi2 ho2
        have e72 : i2 7 10 = i 101 309 := by rw [hi2.1 7 (by decide) (by decide) (by decide), h7.2.2.1]
        have ep : p = (i 101 309).toNat := by omega
        rw [ep] at hi2
        exact s_X6_goOn_45 _ _ _ ⟨⟨by omega, by omega⟩, fun _ => hP i2 hi2 ho2, fun q2 => by rw [e72] at q2; omega, fun q2 => by rw [e72] at q2; omega⟩
      | succ m ihm =>
        intro p hp i2 hi2 ho2
        have e72 : i2 7 10 = i 101 309 := by rw [hi2.1 7 (by decide) (by decide) (by decide), h7.2.2.1]
        have hbit : iand (ishr (used : Int) (p : Int)) 1 = ((used / 2 ^ p % 2 : Nat) : Int) := ibit_nat (by omega) (by omega)
        have hnx := ihm (p + 1) (by omega)
        have hb := lpF_bd (f := fun p s => if used.testBit p = true then s else if ft (fun j => clP i (updF o t (p : Int) j)) k L t = true then cF (clP i) (i 101 309).toNat k L r (t + 1) (used ||| 2 ^ p) (updF o t (p : Int)) s else s) hp5 p st (fun p s _ => by
          show s.1 ≤ (if used.testBit p = true then s else if ft (fun j => clP i (updF o t (p : Int) j)) k L t = true then cF (clP i) (i 101 309).toNat k L r (t + 1) (used ||| 2 ^ p) (updF o t (p : Int)) s else s).1 ∧ (if used.testBit p = true then s else if ft (fun j => clP i (updF o t (p : Int) j)) k L t = true then cF (clP i) (i 101 309).toNat k L r (t + 1) (used ||| 2 ^ p) (updF o t (p : Int)) s else s).1 ≤ s.1 + 5 ^ r
          split
          · omega
          · split
            · exact cF_bd (by omega) r _ _ _ s
            · omega)
        have hpm : (p : Int) * 5 ^ r ≤ 4 * 5 ^ r := Int.mul_le_mul_of_nonneg_right (by omega) hp5
        have es : lpF (fun p s => if used.testBit p = true then s else if ft (fun j => clP i (updF o t (p : Int) j)) k L t = true then cF (clP i) (i 101 309).toNat k L r (t + 1) (used ||| 2 ^ p) (updF o t (p : Int)) s else s) (p + 1) st = (if used.testBit p = true then (lpF (fun p s => if used.testBit p = true then s else if ft (fun j => clP i (updF o t (p : Int) j)) k L t = true then cF (clP i) (i 101 309).toNat k L r (t + 1) (used ||| 2 ^ p) (updF o t (p : Int)) s else s) p st) else if ft (fun j => clP i (updF o t (p : Int) j)) k L t = true then cF (clP i) (i 101 309).toNat k L r (t + 1) (used ||| 2 ^ p) (updF o t (p : Int)) (lpF (fun p s => if used.testBit p = true then s else if ft (fun j => clP i (updF o t (p : Int) j)) k L t = true then cF (clP i) (i 101 309).toNat k L r (t + 1) (used ||| 2 ^ p) (updF o t (p : Int)) s else s) p st) else (lpF (fun p s => if used.testBit p = true then s else if ft (fun j => clP i (updF o t (p : Int) j)) k L t = true then cF (clP i) (i 101 309).toNat k L r (t + 1) (used ||| 2 ^ p) (updF o t (p : Int)) s else s) p st)) := rfl
        rw [es] at hnx
        have ec : ((p + 1 : Nat) : Int) = (p : Int) + 1 := by omega
        rw [ec] at hnx
        have hbd := bit_div used p
        obtain ⟨a1, a2, a3, a4⟩ := hi2
        refine s_X6_goOn_45 _ _ _ ⟨⟨by omega, by omega⟩, fun q2 => by rw [e72] at q2; omega, fun q2 => ?_, fun q2 => ⟨⟨by omega, by omega⟩, ⟨by omega, by omega⟩, ?_⟩⟩
        · have q3 := q2.2
          rw [hbit, hbd] at q3
          have hnb : used.testBit p = true := by
            by_cases z : used.testBit p = true
            · exact z
            · rw [if_neg z] at q3; exact absurd rfl q3
          rw [if_pos hnb] at hnx
          exact hnx i2 ⟨a1, a2, a3, a4⟩ ho2
        · have q3 := q2.2
          rw [hbit, hbd] at q3
          have hnb : ¬ used.testBit p = true := fun z => by rw [if_pos z] at q3; omega
          rw [if_neg hnb] at hnx
          have h2p : 2 ^ p < 2 ^ 5 := Nat.pow_lt_pow_right (by omega) (by omega)
          have f1 : ∀ a : Nat, a ≠ 96 → a ≠ 97 → a ≠ 98 → u2 i2 97 (t : Int) (p : Int) a = i a := fun a z1 z2 z3 => by rw [u2_other _ _ _ z2]; exact a1 a z1 z2 z3
          have e101 : u2 i2 97 (t : Int) (p : Int) 101 = i 101 := f1 101 (by decide) (by decide) (by decide)
          have oo : ordO (u2 i2 97 (t : Int) (p : Int) 97) (updF o t (p : Int)) (t + 1) (i 101 309) := fun j h1 h2 => by
              show (if (97 : Nat) = 97 ∧ j = (t : Int) then (p : Int) else i2 97 j) = (if j = (t : Int) then (p : Int) else o j) ∧ 0 ≤ (if j = (t : Int) then (p : Int) else o j) ∧ (if j = (t : Int) then (p : Int) else o j) < i 101 309
              by_cases c : j = (t : Int)
              · rw [if_pos ⟨rfl, c⟩, if_pos c]; exact ⟨rfl, by omega, by omega⟩
              · rw [if_neg (fun z => c z.2), if_neg c]; exact ho2 j h1 (by omega)
          have ob : ∀ {i3 : IM}, ordO (i3 97) (updF o t (p : Int)) (t + 1) (i 101 309) → ordO (i3 97) o t (i 101 309) := fun {i3} h j h1 h2 => by
              have := h j h1 (by omega)
              unfold updF at this
              rw [if_neg (by omega)] at this
              exact this
          refine sp_X6_fits (by omega) (Cx_f f1 hx) (o := updF o t (p : Int)) (by omega) (by rw [e101]; exact oo) (k := k) (L := L) a2.1 hk1 a2.2 ?_
          rw [clP_K e101]
          by_cases c : ft (fun j => clP i (updF o t (p : Int) j)) k L t = true
          · rw [if_pos c] at hnx
            rw [bI_t c]
            refine ⟨fun z => absurd z (by decide), fun _ => ?_⟩
            rw [bit_ior (by omega) (by omega)]
            exact ih d (t + 1) (used ||| 2 ^ p) (updF o t (p : Int)) _ (u2 i2 97 (t : Int) (p : Int)) _ hd1 (by omega) (Nat.or_lt_two_pow (n := 5) hu h2p) ⟨by omega, by omega⟩ ⟨f1, a2, a3, a4⟩ oo (fun i3 hi3 ho3 => hnx i3 hi3 (ob ho3))
          · rw [if_neg c] at hnx
            rw [bI_f c]
            exact ⟨fun _ => hnx _ ⟨f1, a2, a3, a4⟩ (ob oo), fun z => absurd rfl z⟩
    exact key _ 0 (Nat.zero_add _) i' hi ho
theorem sp_X11_file (hd : 12 ≤ d) {P : Int → IM → LM → Prop} {cs : List Cla} (hx : Cx w i cs) {k L x : Int} (h0 : rg k) (h1 : rg L) (h2 : rg x) (hP : ∀ i', (∀ a : Nat, a ≠ 96 → a ≠ 97 → a ≠ 98 → i' a = i a) → P (mFile i k L x) i' l) : cI w d X_X11_file [vR (some 6), vI k, vI L, vI x] i l P := by
  obtain ⟨d, rfl, hd1⟩ := d_pos hd
  have h309 := hx.2.1.1.2.2.1
  have h7 := Cx_7 hx
  unfold mFile at hP
  refine e_X11_file (s_X11_file _ _ _ (by omega) ⟨h0, fun _ _ => h1, fun _ _ _ _ => h2, fun q => ?_, fun q => ?_⟩)
  · rw [h7.2.2.1] at q
    rw [if_neg (by omega)] at hP
    exact hP i (fun _ _ _ _ => rfl)
  · rw [h7.2.2.1] at q
    rw [if_pos (by omega)] at hP
    obtain ⟨k, rfl⟩ := Int.eq_ofNat_of_zero_le (show 0 ≤ k by omega)
    obtain ⟨L, rfl⟩ := Int.eq_ofNat_of_zero_le (show 0 ≤ L by omega)
    have hp5 := pow5_le (i 101 309).toNat (by omega)
    obtain ⟨d, rfl, hd2⟩ := d_pos hd1
    refine s_X11_file_43 _ _ _ (e_X6_arrange (s_X6_arrange _ _ ⟨h0, h1, ?_⟩))
    refine sp_X6_goOn hx (k := k) (L := L) (by omega) (i 101 309).toNat d 0 0 (fun _ => 0) (0, fun _ => 0) (u2 (u2 (u2 i 96 4 (k : Int)) 96 5 (L : Int)) 96 3 0) _ (by omega) (Nat.zero_add _) (by omega) ⟨by show (0 : Int) ≤ 0; omega, by show 0 + (5 : Int) ^ _ ≤ 10000; omega⟩ ⟨fun a z1 z2 z3 => by rw [u2_other _ _ _ z1, u2_other _ _ _ z1, u2_other _ _ _ z1], ⟨rfl, rfl⟩, rfl, fun z => absurd rfl z⟩ (fun j z1 z2 => by omega) (fun i2 hi2 ho2 => ?_)
    rw [cF_mF (by omega) _ _ _ _ _ (Nat.zero_add _) (fun j hj => by omega)] at hi2
    have hp := hP i2 hi2.1
    have e1 : ((k : Int)).toNat = k := by omega
    have e2 : ((L : Int)).toNat = L := by omega
    rw [e1, e2] at hp
    have hbd := mF_bd (cl := clP i) (n := (i 101 309).toNat) (k := k) (l := L) (by omega) (i 101 309).toNat 0 0 (fun _ => 0) (0, fun _ => 0)
    have hbd1 : (0 : Int) ≤ (mF (clP i) (i 101 309).toNat k L (i 101 309).toNat 0 0 (fun _ => 0) (0, fun _ => 0)).1 := hbd.1
    rw [hi2.2.2.1]
    refine ⟨h2, fun c => ?_, fun c => ⟨fun _ => ⟨by omega, by omega⟩, ?_⟩⟩
    · rw [if_pos c] at hp; exact hp
    · rw [if_neg c] at hp
      by_cases c2 : (mF (clP i) (i 101 309).toNat k L (i 101 309).toNat 0 0 (fun _ => 0) (0, fun _ => 0)).1 = 0
      · rw [if_pos c2] at hp
        rw [if_pos (by omega)]; exact hp
      · rw [if_neg c2] at hp
        rw [if_neg (by omega), hi2.2.2.2 c2 x (by omega) (by omega)]; exact hp
end
