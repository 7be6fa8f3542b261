/-! FILES in the model and in the program -/
section
variable {w : Wd} {d : Nat} {i : IM} {l : LM}
def clP (i : IM) (p : Int) : Nat := (mLow i (i 101 (114 + p))).toNat % 8
theorem clP_lt (i : IM) (p : Int) : clP i p < 8 := Nat.mod_lt _ (by omega)
theorem clP_eq (hk : kOK (i 101)) {p : Int} (hp : 0 ≤ p ∧ p < 5) : mLow i (i 101 (114 + p)) = (clP i p : Int) := by
  obtain ⟨n, hn, hn8⟩ := mLow_nat (i := i) (i 101 (114 + p)) (hk.2.2.2.2.1 p hp.1 hp.2)
  unfold clP
  rw [hn]
  omega
theorem clP_K {i i' : IM} (e : i' 101 = i 101) : clP i' = clP i := by
  funext p; unfold clP; rw [e, mLow_K e]
theorem bit_ior {a n : Nat} (ha : a < 256) (hn : n < 8) : ior (a : Int) (ishl 1 (n : Int)) = ((a ||| 2 ^ n : Nat) : Int) := by
  have h2 : 2 ^ n < 2 ^ 8 := Nat.pow_lt_pow_right (by omega) hn
  rw [ishl_one (by omega), ior_nat (by omega) (by omega)]
/-- the order in a row of memory -/
def ordO (a o : Int → Int) (t : Nat) (n : Int) : Prop := ∀ j : Int, 0 ≤ j → j < (t : Int) → a j = o j ∧ 0 ≤ o j ∧ o j < n
theorem lp_isFile2 (hd : 2 ≤ d) {P : Int → IM → LM → Prop} (hk : kOK (i 101)) {o : Int → Int} (ho : ordO (i 122) o (i 101 309).toNat (i 101 309)) {L : Nat} (hL : L < 100) {many f : Nat} (hf : f + many ≤ (i 101 309).toNat) (h1 : cntB (wset (fun j => clP i (o j)) f many) 16 ≤ L → gI w d X_X12_isFile P i l 15 [(0, vR (some 99)), (2, vI (L : Int)), (3, vI (i 101 309)), (4, vI (many : Int)), (5, vI ((f : Int) + 1))] []) (h0 : ¬ cntB (wset (fun j => clP i (o j)) f many) 16 ≤ L → P 0 i l) : ∀ r m : Nat, m + r = many → gI w d X_X12_isFile P i l 30 [(0, vR (some 99)), (2, vI (L : Int)), (3, vI (i 101 309)), (4, vI (many : Int)), (5, vI (f : Int)), (6, vI (wset (fun j => clP i (o j)) f m : Int)), (7, vI (m : Int))] [] := by
  have h309 := hk.1.2.2.1
  have hlt := fun m => wset_lt (C := fun j => clP i (o j)) (fun j => clP_lt i (o j)) f m
  intro r
  induction r with
  | zero =>
    intro m hm
    have e : m = many := by omega
    subst e
    have := hlt m
    refine s_X12_isFile_30 _ _ _ _ _ _ hd ⟨⟨by omega, by omega⟩, ⟨by omega, by omega⟩, fun _ => ⟨by omega, by omega⟩, fun _ => ⟨by omega, by omega⟩, fun q => h1 ?_, fun q => h0 ?_, fun q => by omega⟩
    · have := q.2
      have e2 : popI ((wset (fun j => clP i (o j)) f m : Nat) : Int) = ((cntB (wset (fun j => clP i (o j)) f m) 16 : Nat) : Int) := rfl
      omega
    · have := q.2
      have e2 : popI ((wset (fun j => clP i (o j)) f m : Nat) : Int) = ((cntB (wset (fun j => clP i (o j)) f m) 16 : Nat) : Int) := rfl
      omega
  | succ r ih =>
    intro m hm
    have h2 := hlt m
    have ho2 := ho ((f : Int) + (m : Int)) (by omega) (by omega)
    refine s_X12_isFile_30 _ _ _ _ _ _ hd ⟨⟨by omega, by omega⟩, ⟨by omega, by omega⟩, fun _ => ⟨by omega, by omega⟩, fun _ => ⟨by omega, by omega⟩, fun q => by omega, fun q => by omega, fun q => ⟨⟨by omega, by omega⟩, ?_⟩⟩
    rw [ho2.1]
    have hco := hk.2.2.2.2.1 (o ((f : Int) + (m : Int))) (by omega) (by omega)
    refine ⟨⟨by omega, by omega⟩, hco, kOK_same hk, ?_⟩
    rw [clP_eq hk ⟨by omega, by omega⟩, bit_ior h2 (clP_lt i _)]
    have := ih (m + 1) (by omega)
    have e : wset (fun j => clP i (o j)) f (m + 1) = wset (fun j => clP i (o j)) f m ||| 2 ^ clP i (o ((f : Int) + (m : Int))) := by
      show _ ||| 2 ^ clP i (o ((f + m : Nat) : Int)) = _
      rw [Int.natCast_add]
    rw [e] at this
    exact this
theorem lp_isFile1 (hd : 2 ≤ d) {P : Int → IM → LM → Prop} (hk : kOK (i 101)) {o : Int → Int} (ho : ordO (i 122) o (i 101 309).toNat (i 101 309)) {L : Nat} (hL : L < 100) {many : Nat} (hmany : many ≤ (i 101 309).toNat) (h1 : gB (fun j => clP i (o j)) L many ((i 101 309).toNat + 1 - many) = true → P 1 i l) (h0 : ¬ gB (fun j => clP i (o j)) L many ((i 101 309).toNat + 1 - many) = true → P 0 i l) : ∀ r f : Nat, f + r = (i 101 309).toNat + 1 - many → gB (fun j => clP i (o j)) L many f = true → gI w d X_X12_isFile P i l 15 [(0, vR (some 99)), (2, vI (L : Int)), (3, vI (i 101 309)), (4, vI (many : Int)), (5, vI (f : Int))] [] := by
  have h309 := hk.1.2.2.1
  intro r
  induction r with
  | zero =>
    intro f hf hg
    have e : f = (i 101 309).toNat + 1 - many := by omega
    rw [e] at hg
    exact s_X12_isFile_15 _ _ _ _ ⟨⟨by omega, by omega⟩, ⟨by omega, by omega⟩, fun _ => h1 hg, fun q => by omega⟩
  | succ r ih =>
    intro f hf hg
    refine s_X12_isFile_15 _ _ _ _ ⟨⟨by omega, by omega⟩, ⟨by omega, by omega⟩, fun q => by omega, fun q => ?_⟩
    refine lp_isFile2 hd hk ho hL (by omega) (fun q2 => ?_) (fun q2 => h0 (fun z => q2 ?_)) many 0 (Nat.zero_add _)
    · exact ih (f + 1) (by omega) (by unfold gB; rw [hg, Bool.true_and, decide_eq_true_iff]; exact q2)
    · rw [gB_iff] at z
      exact z f (by omega)
theorem sp_X12_isFile (hd : 3 ≤ d) {P : Int → IM → LM → Prop} (hk : kOK (i 101)) {o : Int → Int} (ho : ordO (i 122) o (i 101 309).toNat (i 101 309)) {k L : Nat} (hk8 : k < 100) (hL : L < 100) (h1 : gF (fun j => clP i (o j)) (i 101 309).toNat k L = true → P 1 i l) (h0 : ¬ gF (fun j => clP i (o j)) (i 101 309).toNat k L = true → P 0 i l) : cI w d X_X12_isFile [vR (some 99), vI (k : Int), vI (L : Int)] i l P := by
  obtain ⟨d, rfl, hd1⟩ := d_pos hd
  have h309 := hk.1.2.2.1
  have e : min (k : Int) (i 101 309) = ((min k (i 101 309).toNat : Nat) : Int) := by omega
  refine e_X12_isFile (s_X12_isFile _ _ (by omega) ⟨⟨by omega, by omega⟩, ?_⟩)
  rw [e]
  exact lp_isFile1 hd1 hk ho hL (by omega) h1 h0 _ 0 (Nat.zero_add _) rfl
/-- FILES found so far, in the model -/
def fiM (i i' : IM) (st : FSt) : Prop := (∀ (a : Nat) (k : Int), a ≠ 122 → a ≠ 123 → (a ≠ 99 ∨ k ≠ 48) → i' a k = i a k) ∧ i' 99 48 = st.1 ∧ (st.1 ≠ 0 → ∀ p : Int, 0 ≤ p → p < i 101 309 → i' 123 p = st.2 p)
theorem fiM_c {i i' : IM} {st : FSt} (h : fiM i i' st) {a : Nat} (h1 : a ≠ 122) (h2 : a ≠ 123) (h3 : a ≠ 99) : i' a = i a := funext fun k => h.1 a k h1 h2 (Or.inl h3)
theorem lp_filesC (hd : 1 ≤ d) {P : IM → LM → Prop} {i : IM} (hk : kOK (i 101)) {o : Int → Int} {st : FSt} (hst : st.1 = 0) (hP : ∀ i', fiM i i' (recF o st) → ordO (i' 122) o (i 101 309).toNat (i 101 309) → P i' l) : ∀ r x : Nat, x + r = (i 101 309).toNat → ∀ i', fiM i i' st → ordO (i' 122) o (i 101 309).toNat (i 101 309) → (∀ p : Int, 0 ≤ p → p < (x : Int) → i' 123 p = o p) → gV w d X_X12_files P i' l 29 [(0, vR (some 99)), (5, vI (x : Int))] [] := by
  have h309 := hk.1.2.2.1
  intro r
  induction r with
  | zero =>
    intro x hx i' hi ho h123
    have e1 : i' 101 = i 101 := fiM_c hi (by decide) (by decide) (by decide)
    refine s_X12_files_29 _ hd ⟨⟨by omega, by omega⟩, fun q => ⟨by rw [hi.2.1, hst]; exact ⟨by omega, by omega⟩, ?_⟩, fun q => by rw [e1] at q; omega⟩
    refine hP _ ⟨fun a k q1 q2 q3 => ?_, ?_, fun _ p h1 h2 => ?_⟩ ho
    · have : u2 i' 99 48 (i' 99 48 + 1) a k = i' a k := if_neg (fun z => by rcases q3 with q3 | q3; exact q3 z.1; exact q3 z.2)
      rw [this]; exact hi.1 a k q1 q2 q3
    · show i' 99 48 + 1 = st.1 + 1
      rw [hi.2.1]
    · show i' 123 p = (if st.1 = 0 then o else st.2) p
      rw [if_pos hst]
      exact h123 p h1 (by omega)
  | succ r ih =>
    intro x hx i' hi ho h123
    have e1 : i' 101 = i 101 := fiM_c hi (by decide) (by decide) (by decide)
    refine s_X12_files_29 _ hd ⟨⟨by omega, by omega⟩, fun q => by rw [e1] at q; omega, fun q => ⟨⟨by omega, by omega⟩, ?_⟩⟩
    refine ih (x + 1) (by omega) _ ⟨fun a k q1 q2 q3 => ?_, hi.2.1, fun z => absurd hst z⟩ ho (fun p h1 h2 => ?_)
    · have : u2 i' 123 (x : Int) (i' 122 (x : Int)) a k = i' a k := if_neg (fun z => q2 z.1)
      rw [this]; exact hi.1 a k q1 q2 q3
    · show (if (123 : Nat) = 123 ∧ p = (x : Int) then i' 122 (x : Int) else i' 123 p) = o p
      by_cases c : p = (x : Int)
      · rw [if_pos ⟨rfl, c⟩, c, (ho (x : Int) (by omega) (by omega)).1]
      · rw [if_neg (fun z => c z.2)]
        exact h123 p h1 (by omega)
theorem sp_X12_files {i : IM} (hk : kOK (i 101)) {k L : Nat} (hk8 : k < 100) (hL : L < 100) : ∀ (r d t used : Nat) (o : Int → Int) (st : FSt) (i' : IM) (P : IM → LM → Prop), r + 4 ≤ d → t + r = (i 101 309).toNat → used < 32 → 0 ≤ st.1 ∧ st.1 + (5 : Int) ^ r ≤ 10000 → fiM i i' st → ordO (i' 122) o t (i 101 309) → (∀ i2, fiM i i2 (mF (clP i) (i 101 309).toNat k L r t used o st) → ordO (i2 122) o t (i 101 309) → P i2 l) → cVd w d X_X12_files [vR (some 99), vI (t : Int), vI (used : Int), vI (k : Int), vI (L : Int)] i' l P := by
  have h309 := hk.1.2.2.1
  intro r
  induction r with
  | zero =>
    intro d t used o st i' P hd ht hu hst hi ho hP
    obtain ⟨d, rfl, hd1⟩ := d_pos (show 3 + 1 ≤ d by omega)
    have e1 : i' 101 = i 101 := fiM_c hi (by decide) (by decide) (by decide)
    have et : t = (i 101 309).toNat := by omega
    subst et
    have hst2 : st.1 + 1 ≤ 10000 := hst.2
    unfold mF at hP
    refine e_X12_files (s_X12_files _ _ _ _ (by omega) ⟨⟨by omega, by omega⟩, fun q => ?_, fun q => by rw [e1] at q; omega⟩)
    refine sp_X12_isFile (by omega) (by rw [e1]; exact hk) (o := o) (by rw [e1]; exact ho) hk8 hL (fun q2 => ?_) (fun q2 => ?_)
    · rw [e1, clP_K e1] at q2
      rw [if_pos q2] at hP
      refine ⟨fun q3 => ⟨by rw [hi.2.1]; exact ⟨by omega, by omega⟩, ?_⟩, fun q3 => ?_, fun q3 => absurd q3 (by decide)⟩
      · have q4 := q3.2
        rw [hi.2.1] at q4
        refine hP _ ⟨fun a x q1 q2 q3 => ?_, ?_, fun _ p h1 h2 => ?_⟩ ho
        · have : u2 i' 99 48 (i' 99 48 + 1) a x = i' a x := if_neg (fun z => by rcases q3 with q3 | q3; exact q3 z.1; exact q3 z.2)
          rw [this]; exact hi.1 a x q1 q2 q3
        · show i' 99 48 + 1 = st.1 + 1
          rw [hi.2.1]
        · show i' 123 p = (if st.1 = 0 then o else st.2) p
          rw [if_neg q4]
          exact hi.2.2 q4 p h1 h2
      · have q4 := q3.2
        rw [hi.2.1] at q4
        exact lp_filesC (by omega) hk q4 hP _ 0 (Nat.zero_add _) i' hi ho (fun p h1 h2 => by omega)
    · rw [e1, clP_K e1] at q2
      rw [if_neg q2] at hP
      exact ⟨fun q3 => absurd rfl q3.1, fun q3 => absurd rfl q3.1, fun _ => hP i' hi ho⟩
  | succ r ih =>
    intro d t used o st i' P hd ht hu hst hi ho hP
    obtain ⟨d, rfl, hd1⟩ := d_pos (show (r + 4) + 1 ≤ d by omega)
    have e1 : i' 101 = i 101 := fiM_c hi (by decide) (by decide) (by decide)
    refine e_X12_files (s_X12_files _ _ _ _ (by omega) ⟨⟨by omega, by omega⟩, fun q => by rw [e1] at q; omega, fun q => ?_⟩)
    unfold mF at hP
    have hp5 : (0 : Int) ≤ 5 ^ r := Int.pow_nonneg (by omega)
    have e5 : (5 : Int) ^ (r + 1) = 5 * 5 ^ r := by rw [Int.pow_succ]; omega
    have key : ∀ (m p : Nat), p + m = (i 101 309).toNat → ∀ i2, fiM i i2 (lpF (fun p s => if used.testBit p = true then s else mF (clP i) (i 101 309).toNat k L r (t + 1) (used ||| 2 ^ p) (updF o t (p : Int)) s) p st) → ordO (i2 122) o t (i 101 309) → gV w d X_X12_files P i2 l 72 [(0, vR (some 99)), (1, vI (t : Int)), (2, vI (used : Int)), (3, vI (k : Int)), (4, vI (L : Int)), (5, vI (p : Int))] [] := by
      intro m
      induction m with
      | zero =>
        intro p hp i2 hi2 ho2
        have e2 : i2 101 = i 101 := fiM_c hi2 (by decide) (by decide) (by decide)
        have ep : p = (i 101 309).toNat := by omega
        rw [ep] at hi2
        exact s_X12_files_72 _ _ _ _ _ (by omega) ⟨⟨by omega, by omega⟩, fun _ => hP i2 hi2 ho2, fun q2 => by rw [e2] at q2; omega, fun q2 => by rw [e2] at q2; omega⟩
      | succ m ihm =>
        intro p hp i2 hi2 ho2
        have e2 : i2 101 = i 101 := fiM_c hi2 (by decide) (by decide) (by decide)
        have hbit : iand (ishr (used : Int) (p : Int)) 1 = ((used / 2 ^ p % 2 : Nat) : Int) := ibit_nat (by omega) (by omega)
        have hnx := ihm (p + 1) (by omega)
        have hb := lpF_bd (f := fun p s => if used.testBit p = true then s else mF (clP i) (i 101 309).toNat k L r (t + 1) (used ||| 2 ^ p) (updF o t (p : Int)) s) hp5 p st (fun p s _ => by
          show s.1 ≤ (if used.testBit p = true then s else mF (clP i) (i 101 309).toNat k L r (t + 1) (used ||| 2 ^ p) (updF o t (p : Int)) s).1 ∧ (if used.testBit p = true then s else mF (clP i) (i 101 309).toNat k L r (t + 1) (used ||| 2 ^ p) (updF o t (p : Int)) s).1 ≤ s.1 + 5 ^ r
          split
          · omega
          · exact mF_bd (by omega) r _ _ _ s)
        have hpm : (p : Int) * 5 ^ r ≤ 4 * 5 ^ r := Int.mul_le_mul_of_nonneg_right (by omega) hp5
        have es : lpF (fun p s => if used.testBit p = true then s else mF (clP i) (i 101 309).toNat k L r (t + 1) (used ||| 2 ^ p) (updF o t (p : Int)) s) (p + 1) st = (if used.testBit p = true then (lpF (fun p s => if used.testBit p = true then s else mF (clP i) (i 101 309).toNat k L r (t + 1) (used ||| 2 ^ p) (updF o t (p : Int)) s) p st) else mF (clP i) (i 101 309).toNat k L r (t + 1) (used ||| 2 ^ p) (updF o t (p : Int)) (lpF (fun p s => if used.testBit p = true then s else mF (clP i) (i 101 309).toNat k L r (t + 1) (used ||| 2 ^ p) (updF o t (p : Int)) s) p st)) := rfl
        rw [es] at hnx
        have ec : ((p + 1 : Nat) : Int) = (p : Int) + 1 := by omega
        rw [ec] at hnx
        have hbd := bit_div used p
        refine s_X12_files_72 _ _ _ _ _ (by omega) ⟨⟨by omega, by omega⟩, fun q2 => by rw [e2] at q2; omega, fun q2 => ⟨⟨by omega, by omega⟩, ⟨by omega, by omega⟩, ?_⟩, fun q2 => ?_⟩
        · have q3 := q2.2
          rw [hbit, hbd] at q3
          have hnb : ¬ used.testBit p = true := fun z => q3 (by rw [if_pos z]; rfl)
          rw [if_neg hnb] at hnx
          have h2p : 2 ^ p < 2 ^ 5 := Nat.pow_lt_pow_right (by omega) (by omega)
          rw [bit_ior (by omega) (by omega)]
          have := ih d (t + 1) (used ||| 2 ^ p) (updF o t (p : Int)) (lpF (fun p s => if used.testBit p = true then s else mF (clP i) (i 101 309).toNat k L r (t + 1) (used ||| 2 ^ p) (updF o t (p : Int)) s) p st) (u2 i2 122 (t : Int) (p : Int)) (fun i26 l26 => gV w d X_X12_files P i26 l26 72 [(0, vR (some 99)), (1, vI (t : Int)), (2, vI (used : Int)), (3, vI (k : Int)), (4, vI (L : Int)), (5, vI ((p : Int) + 1))] []) hd1 (by omega) (Nat.or_lt_two_pow (n := 5) hu h2p) ⟨by omega, by omega⟩ ⟨fun a x z1 z2 z3 => by
              have : u2 i2 122 (t : Int) (p : Int) a x = i2 a x := if_neg (fun z => z1 z.1)
              rw [this]; exact hi2.1 a x z1 z2 z3, hi2.2.1, hi2.2.2⟩ (fun j h1 h2 => by
              show (if (122 : Nat) = 122 ∧ j = (t : Int) then (p : Int) else i2 122 j) = (if j = (t : Int) then (p : Int) else o j) ∧ 0 ≤ (if j = (t : Int) then (p : Int) else o j) ∧ (if j = (t : Int) then (p : Int) else o j) < i 101 309
              by_cases c : j = (t : Int)
              · rw [if_pos ⟨rfl, c⟩, if_pos c]; exact ⟨rfl, by omega, by omega⟩
              · rw [if_neg (fun z => c z.2), if_neg c]; exact ho2 j h1 (by omega)) (fun i3 hi3 ho3 => hnx i3 hi3 (fun j h1 h2 => by
              have := ho3 j h1 (by omega)
              unfold updF at this
              rw [if_neg (by omega)] at this
              exact this))
          exact this
        · have q3 := q2.2
          rw [hbit, hbd] at q3
          have hnb : used.testBit p = true := by
            by_cases z : used.testBit p = true
            · exact z
            · rw [if_neg z] at q3; omega
          rw [if_pos hnb] at hnx
          exact hnx i2 hi2 ho2
    exact key _ 0 (Nat.zero_add _) i' hi ho
def mFile (i : IM) (k L x : Int) : Int := if (1 ≤ k ∧ k ≤ 8) ∧ ((1 ≤ L ∧ L ≤ 8) ∧ (-1 ≤ x ∧ x ≤ i 101 309 - 1)) then (if x = -1 then (mF (clP i) (i 101 309).toNat k.toNat L.toNat (i 101 309).toNat 0 0 (fun _ => 0) (0, fun _ => 0)).1 else if (mF (clP i) (i 101 309).toNat k.toNat L.toNat (i 101 309).toNat 0 0 (fun _ => 0) (0, fun _ => 0)).1 = 0 then -1 else (mF (clP i) (i 101 309).toNat k.toNat L.toNat (i 101 309).toNat 0 0 (fun _ => 0) (0, fun _ => 0)).2 x) else -1
/-- what the model's FILES change -/
def ffr (i i' : IM) : Prop := ∀ (a : Nat) (k : Int), a ≠ 122 → a ≠ 123 → (a ≠ 99 ∨ k ≠ 48) → i' a k = i a k
theorem pow5_le : ∀ n : Nat, n ≤ 5 → (5 : Int) ^ n ≤ 10000 := by decide
theorem sp_X12_file (hd : 11 ≤ d) {P : Int → IM → LM → Prop} (hk : kOK (i 101)) {k L x : Int} (h0 : rg k) (h1 : rg L) (h2 : rg x) (hP : ∀ i', ffr i i' → P (mFile i k L x) i' l) : cI w d X_X12_file [vR (some 99), vI k, vI L, vI x] i l P := by
  obtain ⟨d, rfl, hd1⟩ := d_pos hd
  have h309 := hk.1.2.2.1
  unfold mFile at hP
  refine e_X12_file (s_X12_file _ _ _ (by omega) ⟨h0, fun _ => h1, fun _ _ => h2, fun _ _ => ⟨by omega, by omega⟩, fun q => ?_, fun q => ?_⟩)
  · rw [if_pos q] at hP
    obtain ⟨k, rfl⟩ := Int.eq_ofNat_of_zero_le (show 0 ≤ k by omega)
    obtain ⟨L, rfl⟩ := Int.eq_ofNat_of_zero_le (show 0 ≤ L by omega)
    have hp5 := pow5_le (i 101 309).toNat (by omega)
    refine sp_X12_files hk (k := k) (L := L) (by omega) (by omega) (i 101 309).toNat d 0 0 (fun _ => 0) (0, fun _ => 0) (u2 i 99 48 0) _ (by omega) (Nat.zero_add _) (by omega) ⟨by show (0 : Int) ≤ 0; omega, by show 0 + (5 : Int) ^ _ ≤ 10000; omega⟩ ⟨fun a y z1 z2 z3 => if_neg (fun z => by rcases z3 with z3 | z3; exact z3 z.1; exact z3 z.2), rfl, fun z => absurd rfl z⟩ (fun j z1 z2 => by omega) (fun i2 hi2 ho2 => ⟨h2, fun z1 z2 => ⟨by omega, by omega⟩, ?_⟩)
    have hp := hP i2 hi2.1
    have e1 : ((k : Int)).toNat = k := by omega
    have e2 : ((L : Int)).toNat = L := by omega
    rw [e1, e2] at hp
    rw [hi2.2.1]
    by_cases c : x = -1
    · rw [if_pos c] at hp ⊢; exact hp
    · rw [if_neg c] at hp ⊢
      by_cases c2 : (mF (clP i) (i 101 309).toNat k L (i 101 309).toNat 0 0 (fun _ => 0) (0, fun _ => 0)).1 = 0
      · rw [if_pos c2] at hp ⊢; exact hp
      · rw [if_neg c2] at hp ⊢
        rw [hi2.2.2 c2 x (by omega) (by omega)]; exact hp
  · rw [if_neg q] at hP
    exact hP i (fun _ _ _ _ _ => rfl)
end
