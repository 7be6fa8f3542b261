/-! CANVAS: what a colour of a THING shows to each WINDOW -/
section
variable {w : Wd} {d : Nat} {i : IM} {l : LM}
/-- what WINDOW v sees of a THING that shows a colour -/
def vB (i : IM) (cs : List Cla) (v t c mo : Int) : Int := if iand (ishr (i 101 (80 + 3 * v + 0)) t) 1 = 1 then fBit cs (mkEnv v t 0 c (i 101 (8 * t + 0)) mo 0 0 0) (mLow i c) else 0
theorem mBit_vB (cs : List Cla) (v t c mo : Int) : mBit i cs v t c mo 0 = vB i cs v t (mShows i t c mo) mo := rfl
theorem vB_nat {cs : List Cla} {v t c mo : Int} (hc : 0 ≤ c ∧ c < 8) : ∃ b : Nat, vB i cs v t c mo = (b : Int) ∧ b < 256 := by
  unfold vB
  split
  · obtain ⟨n, hn, hn8⟩ := mLow_nat (i := i) c hc
    rw [hn]
    exact fBit_nat _ _ hn8
  · exact ⟨0, rfl, by omega⟩
theorem vB_K {i i' : IM} (e : i' 101 = i 101) : vB i' = vB i := by
  funext cs v t c mo; unfold vB; rw [e, mLow_K e]
theorem vB_mo {cs : List Cla} (h2 : noW 5 2 cs) (h3 : noW 5 3 cs) (v t c mo mo' : Int) : vB i cs v t c mo = vB i cs v t c mo' := by
  unfold vB
  rw [fBit_noW h2 h3 mkEnv_ne5]
/-- the bytes of a view -/
def vwB (i : IM) (cs : List Cla) (W : Nat) (t c mo : Int) (x : Int64) : Prop := ∀ v : Nat, v < 8 → Bt x v = if v < W then (vB i cs (v : Int) t c mo).toNat else 0
/-- all but ASKER and the views that are known -/
def vofr (i i' : IM) : Prop := ∀ a : Nat, a ≠ 41 → a ≠ 42 → a ≠ 62 → i' a = i a
def vofl (l l' : LM) : Prop := ∀ a : Nat, a ≠ 43 → a ≠ 61 → l' a = l a
theorem vofr_c {i i' : IM} (h : cscr i i') : vofr i i' := fun a h1 h2 _ => cscr_c h h2 h1
theorem vofr_tr {i j k : IM} (h1 : vofr i j) (h2 : vofr j k) : vofr i k := fun a x y z => (h2 a x y z).trans (h1 a x y z)
theorem vofl_p {l l' : LM} (h : psc l l') : vofl l l' := fun a h1 _ => h a h1
theorem vofl_tr {l l' l'' : LM} (h1 : vofl l l') (h2 : vofl l' l'') : vofl l l'' := fun a x y => (h2 a x y).trans (h1 a x y)
theorem Cx_o {i i' : IM} {cs : List Cla} (h : vofr i i') (hx : Cx w i cs) : Cx w i' cs := by
  have e101 := h 101 (by decide) (by decide) (by decide)
  refine ⟨?_, by rw [e101]; exact hx.2.1, forceC_K (h 7 (by decide) (by decide) (by decide)) (fun b hb => h b (by omega) (by omega) (by omega)) hx.2.2.1, hx.2.2.2⟩
  have ht := hx.1
  unfold TW
  rw [h 7 (by decide) (by decide) (by decide), h 8 (by decide) (by decide) (by decide), h 9 (by decide) (by decide) (by decide), h 10 (by decide) (by decide) (by decide), h 11 (by decide) (by decide) (by decide), h 13 (by decide) (by decide) (by decide), h 14 (by decide) (by decide) (by decide), e101, mLow_K e101]
  exact ht
/-- views that are known are right, for a MONTH -/
def KnI (i : IM) (l : LM) (cs : List Cla) (mo : Int) : Prop := ∀ t c : Nat, t < 10 → c < 8 → (0 ≤ i 62 (t : Int) ∧ i 62 (t : Int) < 256) ∧ (iand (ishr (i 62 (t : Int)) (c : Int)) 1 = 1 → vwB i cs (i 101 308).toNat (t : Int) (c : Int) mo (l 61 ((t : Int) * 8 + (c : Int))))
theorem lp_view {P : Int64 → IM → LM → Prop} (hd : 5 ≤ d) {cs : List Cla} {i : IM} (hx : Cx w i cs) {t c : Nat} (ht : t < 10) (hc : c < 8) {mo : Int} (hmo : 0 ≤ mo ∧ mo < 12) {l0 : LM} {n : Nat} (hn8 : n < 8) (hn : mLow i (c : Int) = (n : Int)) (hP : ∀ x i' l', cscr i i' → psc l0 l' → vwB i cs (i 101 308).toNat (t : Int) (c : Int) mo x → P x (u2 i' 62 (t : Int) (ior (i' 62 (t : Int)) (ishl 1 (c : Int)))) (u2l l' 61 ((t : Int) * 8 + (c : Int)) x)) : ∀ r k : Nat, k + r = (i 101 308).toNat → ∀ x i' l', cscr i i' → psc l0 l' → (∀ v : Nat, v < 8 → Bt x v = if v < k then (vB i cs (v : Int) (t : Int) (c : Int) mo).toNat else 0) → gLg w d X_X1_viewOf P i' l' 49 [(0, vR (some 51)), (1, vI (t : Int)), (2, vI (c : Int)), (3, vI mo), (4, vI ((t : Int) * 8 + (c : Int))), (5, vL (lshl 1 (n : Int))), (7, vL x), (9, vI (k : Int))] [] := by
  have h7 := Cx_7 hx
  have h308 := hx.2.1.1.2.1
  have hbit : nL (lshl 1 (n : Int)) = 2 ^ n := by
    rw [nL_shl _ (by omega), nL_lit1, Nat.one_mul]
    have : 2 ^ n < 2 ^ 8 := Nat.pow_lt_pow_right (by omega) hn8
    exact Nat.mod_eq_of_lt (by omega)
  have hp8 : 2 ^ n < 256 := by
    have h : 2 ^ n < 2 ^ 8 := Nat.pow_lt_pow_right (by omega) hn8
    exact Nat.lt_of_lt_of_le h (by decide)
  intro r
  induction r with
  | zero =>
    intro k hk x i' l' hi hl hxb
    have e : k = (i 101 308).toNat := by omega
    have e7 : i' 7 9 = i 101 308 := by rw [cscr_c hi (by decide) (by decide), h7.2.1]
    subst e
    exact s_X1_viewOf_49 _ _ _ _ _ _ _ (by omega) ⟨⟨by omega, by omega⟩, fun z => by rw [e7] at z; omega, fun _ => ⟨⟨by omega, by omega⟩, ⟨by omega, by omega⟩, hP x i' l' hi hl hxb⟩, fun z => by rw [e7] at z; omega, fun z => by rw [e7] at z; omega⟩
  | succ r ih =>
    intro k hk x i' l' hi hl hxb
    have e7 : i' 7 9 = i 101 308 := by rw [cscr_c hi (by decide) (by decide), h7.2.1]
    have hv8 : 0 ≤ (k : Int) ∧ (k : Int) < 8 := by omega
    have e9 : i' 9 ((k : Int) * 3 + 0) = i 101 (80 + 3 * (k : Int) + 0) := by rw [cscr_c hi (by decide) (by decide), TW_view hx.1 hv8 (by omega)]
    have hnx := ih (k + 1) (by omega)
    have ht2 := hx.2.1.2.1 (t : Int) (by omega) (by omega)
    have e8 : i' 8 ((t : Int) * 8 + 0) = i 101 (8 * (t : Int) + 0) := by rw [cscr_c hi (by decide) (by decide), TW_trait hx.1 ⟨by omega, by omega⟩ (by omega)]
    -- nothing is added
    have hzero : vB i cs (k : Int) (t : Int) (c : Int) mo = 0 → ∀ v : Nat, v < 8 → Bt x v = if v < k + 1 then (vB i cs (v : Int) (t : Int) (c : Int) mo).toNat else 0 := by
      intro hz v hv
      rw [hxb v hv]
      by_cases e : v = k
      · subst e; rw [if_neg (by omega), if_pos (by omega), hz]; rfl
      · by_cases e2 : v < k
        · rw [if_pos e2, if_pos (by omega)]
        · rw [if_neg e2, if_neg (by omega)]
    refine s_X1_viewOf_49 _ _ _ _ _ _ _ (by omega) ⟨⟨by omega, by omega⟩, fun _ => ⟨by omega, by omega⟩, fun z => by rw [e7] at z; omega, fun z => ?_, fun z => ?_⟩
    · have z2 := z.2
      rw [e9] at z2
      refine hnx x i' l' hi hl (hzero ?_)
      unfold vB
      exact if_neg z2
    · have z2 := z.2
      rw [e9] at z2
      refine sp_X0_showsThing (by omega) (forceC_kept hi hx.2.2.1) hx.2.2.2 ⟨by omega, by omega⟩ ⟨by omega, by omega⟩ ⟨by omega, by omega⟩ ⟨by omega, by omega⟩ bd0 (by rw [e8]; exact ⟨by omega, by omega⟩) (fun i2 l2 hi2 hl2 hcn => ⟨fun y => absurd y (by decide), fun _ => ?_⟩) (fun i2 l2 hi2 hl2 hcn => ⟨fun _ => ?_, fun y => absurd rfl y⟩)
      · rw [e8] at hcn
        have hv : vB i cs (k : Int) (t : Int) (c : Int) mo = ((2 ^ n : Nat) : Int) := by
          unfold vB
          rw [if_pos z2, fBit_1 hcn, hn, ishl_one (by omega)]
        refine hnx _ i2 l2 (cscr_tr hi hi2) (psc_tr hl hl2) (fun v hv8' => ?_)
        rw [Bt_or, hxb v hv8', Bt_put hp8 (by omega) hbit hv8']
        by_cases e : v = k
        · subst e; rw [if_neg (by omega), if_pos rfl, if_pos (by omega), hv, Nat.zero_or]; rfl
        · rw [if_neg e, Nat.or_zero]
          by_cases e2 : v < k
          · rw [if_pos e2, if_pos (by omega)]
          · rw [if_neg e2, if_neg (by omega)]
      · rw [e8] at hcn
        refine hnx x i2 l2 (cscr_tr hi hi2) (psc_tr hl hl2) (hzero ?_)
        unfold vB
        rw [if_pos z2, fBit_0 hcn]
theorem sp_X1_viewOf {P : Int64 → IM → LM → Prop} (hd : 6 ≤ d) {cs : List Cla} (hx : Cx w i cs) {t c : Nat} (ht : t < 10) (hc : c < 8) {mo : Int} (hmo : 0 ≤ mo ∧ mo < 12) (hkn : KnI i l cs mo) (hP : ∀ x i' l', vofr i i' → vofl l l' → KnI i' l' cs mo → vwB i cs (i 101 308).toNat (t : Int) (c : Int) mo x → P x i' l') : cL w d X_X1_viewOf [vR (some 51), vI (t : Int), vI (c : Int), vI mo] i l P := by
  obtain ⟨d, rfl, hd1⟩ := d_pos hd
  have hk := hkn t c ht hc
  obtain ⟨n, hn, hn8⟩ := mLow_nat (i := i) (c : Int) ⟨by omega, by omega⟩
  have e13 : i 13 (c : Int) = (n : Int) := by rw [hx.1.2.2.2.2.1 _ (by omega) (by omega), hn]
  refine e_X1_viewOf (s_X1_viewOf _ _ _ ⟨⟨by omega, by omega⟩, fun z => ⟨⟨by omega, by omega⟩, ?_⟩, fun z => ⟨⟨by omega, by omega⟩, ?_⟩⟩)
  · exact hP _ i l (fun _ _ _ _ => rfl) (fun _ _ _ => rfl) hkn (hk.2 z)
  · rw [e13]
    refine lp_view hd1 hx ht hc hmo hn8 hn (fun x i' l' hi hl hxb => ?_) _ 0 (Nat.zero_add _) 0 i l (cscr_rf i) (psc_rf l) (fun v hv => by rw [if_neg (by omega)]; exact (Bt_lit v hv).2.2.2.2.2.2.1)
    have e62 : i' 62 = i 62 := cscr_c hi (by decide) (by decide)
    have e101 : i' 101 = i 101 := cscr_c hi (by decide) (by decide)
    have hkt := hk.1
    obtain ⟨K, hK⟩ := Int.eq_ofNat_of_zero_le hkt.1
    have h2c : 2 ^ c < 2 ^ 8 := Nat.pow_lt_pow_right (by omega) hc
    have hior : ior (i' 62 (t : Int)) (ishl 1 (c : Int)) = ((K ||| 2 ^ c : Nat) : Int) := by
      rw [e62, hK, ishl_one (by omega), ior_nat (by omega) (by omega)]
    have hKl : K ||| 2 ^ c < 2 ^ 8 := Nat.or_lt_two_pow (by omega) h2c
    have hvf : vofr i (u2 i' 62 (t : Int) (ior (i' 62 (t : Int)) (ishl 1 (c : Int)))) := vofr_tr (vofr_c hi) (fun a _ _ h3 => u2_other _ _ _ h3)
    refine hP x _ _ hvf (vofl_tr (vofl_p hl) (fun a _ h2 => u2l_other _ _ _ h2)) (fun t' c' ht' hc' => ?_) hxb
    have e101' : u2 i' 62 (t : Int) (ior (i' 62 (t : Int)) (ishl 1 (c : Int))) 101 = i 101 := hvf 101 (by decide) (by decide) (by decide)
    have hvwK : ∀ a b y, vwB (u2 i' 62 (t : Int) (ior (i' 62 (t : Int)) (ishl 1 (c : Int)))) cs (u2 i' 62 (t : Int) (ior (i' 62 (t : Int)) (ishl 1 (c : Int))) 101 308).toNat a b mo y ↔ vwB i cs (i 101 308).toNat a b mo y := by
      intro a b y
      unfold vwB
      rw [e101', vB_K e101']
    rw [hvwK]
    have hold := hkn t' c' ht' hc'
    have hl61 : ∀ j, j ≠ (t : Int) * 8 + (c : Int) → u2l l' 61 ((t : Int) * 8 + (c : Int)) x 61 j = l 61 j := fun j hj => by
      have : u2l l' 61 ((t : Int) * 8 + (c : Int)) x 61 j = l' 61 j := if_neg (fun z => hj z.2)
      rw [this, hl 61 (by decide)]
    by_cases e : t' = t
    · subst e
      have ev : u2 i' 62 (t' : Int) (ior (i' 62 (t' : Int)) (ishl 1 (c : Int))) 62 (t' : Int) = ((K ||| 2 ^ c : Nat) : Int) := by rw [u2_self, hior]
      rw [ev]
      refine ⟨⟨by omega, by omega⟩, fun z => ?_⟩
      by_cases e2 : c' = c
      · subst e2
        have : u2l l' 61 ((t' : Int) * 8 + (c' : Int)) x 61 ((t' : Int) * 8 + (c' : Int)) = x := if_pos ⟨rfl, rfl⟩
        rw [this]; exact hxb
      · rw [hl61 _ (by omega)]
        refine hold.2 ?_
        rw [hK, ibit_nat (by omega) (by omega), bit_div]
        rw [ibit_nat (by omega) (by omega), bit_div, Nat.testBit_or] at z
        have hf : (2 ^ c).testBit c' = false := by
          have := mt (bit_pow c c').mp (fun y => e2 y.symm)
          simpa using this
        rw [hf, Bool.or_false] at z
        exact z
    · have ev : u2 i' 62 (t : Int) (ior (i' 62 (t : Int)) (ishl 1 (c : Int))) 62 (t' : Int) = i 62 (t' : Int) := by
        have : u2 i' 62 (t : Int) (ior (i' 62 (t : Int)) (ishl 1 (c : Int))) 62 (t' : Int) = i' 62 (t' : Int) := if_neg (fun z => e (by have := z.2; omega))
        rw [this, e62]
      rw [ev]
      refine ⟨hold.1, fun z => ?_⟩
      rw [hl61 _ (by omega)]
      exact hold.2 z
end
