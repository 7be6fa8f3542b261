/-! a DAY by DRAWS, in the program -/
section
variable {w : Wd} {d : Nat} {i : IM} {l : LM}
/-- all but ASKER, SIGHT and OUTING -/
def cdf (i i' : IM) : Prop := ∀ a : Nat, (a < 41 ∨ 50 < a) → a ≠ 94 → a ≠ 95 → i' a = i a
theorem cdf_tr {i j k : IM} (h1 : cdf i j) (h2 : cdf j k) : cdf i k := fun a x y z => (h2 a x y z).trans (h1 a x y z)
theorem cdf_v {i i' : IM} (h : vfr i i') : cdf i i' := fun a x _ _ => h a x
theorem cdf_u {i : IM} {a : Nat} {k v : Int} (h : a = 94 ∨ a = 95 ∨ a = 49) : cdf i (u2 i a k v) := fun b x y z => u2_other _ _ _ (by omega)
theorem Cx_d {i i' : IM} {cs : List Cla} (h : cdf i i') (hx : Cx w i cs) : Cx w i' cs := by
  have e101 := h 101 (by decide) (by decide) (by decide)
  refine ⟨?_, by rw [e101]; exact hx.2.1, forceC_K (h 7 (by decide) (by decide) (by decide)) (fun b hb => h b (by omega) (by omega) (by omega)) hx.2.2.1, hx.2.2.2⟩
  have ht := hx.1
  unfold TW
  rw [h 7 (by decide) (by decide) (by decide), h 8 (by decide) (by decide) (by decide), h 9 (by decide) (by decide) (by decide), h 10 (by decide) (by decide) (by decide), h 11 (by decide) (by decide) (by decide), h 13 (by decide) (by decide) (by decide), h 14 (by decide) (by decide) (by decide), e101, mLow_K e101]
  exact ht
/-- minute m of the DAY, k PEOPLE have gone -/
def doI (i i' : IM) (cs : List Cla) (seed : Int) (m k : Nat) : Prop := (cdf i i' ∧ SgF i' cs ∧ Sw i' cs ∧ i' 44 14 = i' 7 15) ∧ i' 94 3 = i 101 309 ∧ i' 94 4 = (dRow (i 101) (m == 0) k (dAll (i 101) (i 101 309).toNat seed m)).1 ∧ (∀ p : Int, 0 ≤ p → p < 5 → -1 ≤ i' 49 p ∧ i' 49 p < 10) ∧ (∀ p : Int, 0 ≤ p → p < i 101 309 → (m ≠ 0 ∨ p < (k : Int)) → i' 49 p = (dRow (i 101) (m == 0) k (dAll (i 101) (i 101 309).toNat seed m)).2 p) ∧ (∀ x p : Int, 0 ≤ x → x < (m : Int) → 0 ≤ p → p < i 101 309 → i' 95 (p * 120 + x) = (dAll (i 101) (i 101 309).toNat seed (x.toNat + 1)).2 p) ∧ (∀ p : Int, 0 ≤ p → p < (k : Int) → i' 95 (p * 120 + (m : Int)) = (dRow (i 101) (m == 0) k (dAll (i 101) (i 101 309).toNat seed m)).2 p)
theorem doI_s {i i' i2 : IM} {cs : List Cla} {seed : Int} {m k : Nat} (h : doI i i' cs seed m k) (hs : sfr i' i2) (hg : SgF i2 cs) : doI i i2 cs seed m k := by
  obtain ⟨⟨b1, b2, b3, b4⟩, a2, a3, a4, a5, a6, a7⟩ := h
  have e94 := hs 94 (by decide) (by decide) (by decide) (by decide) (by decide)
  have e95 := hs 95 (by decide) (by decide) (by decide) (by decide) (by decide)
  refine ⟨⟨cdf_tr b1 (cdf_v (vfr_s hs)), hg, Sw_s hs b3, by rw [sfr_44 hs, sfr_7 hs, b4]⟩, ?_, ?_, ?_, ?_, ?_, ?_⟩
  · rw [e94]; exact a2
  · rw [e94]; exact a3
  · rw [sfr_49 hs]; exact a4
  · rw [sfr_49 hs]; exact a5
  · rw [e95]; exact a6
  · rw [e95]; exact a7
theorem doI_up {i i' : IM} {cs : List Cla} {seed : Int} {m : Nat} (h : doI i i' cs seed m (i 101 309).toNat) : doI i i' cs seed (m + 1) 0 := by
  obtain ⟨a1, a2, a3, a4, a5, a6, a7⟩ := h
  refine ⟨a1, a2, a3, a4, fun p h1 h2 _ => a5 p h1 h2 (Or.inr (by omega)), fun x p h1 h2 h3 h4 => ?_, fun p h1 h2 => by omega⟩
  by_cases c : x = (m : Int)
  · subst c
    have := a7 p h3 (by omega)
    have e : ((m : Int)).toNat + 1 = m + 1 := by omega
    rw [e]
    exact this
  · exact a6 x p h1 (by omega) h3 h4
theorem Sw_49 {cs : List Cla} {a : Nat} {k v : Int} (ha : a = 49 ∨ a = 94 ∨ a = 95) (h : Sw i cs) : Sw (u2 i a k v) cs := Sw_eq (u2_other _ _ _ (by omega)) (u2_other _ _ _ (by omega)) (u2_other _ _ _ (by omega)) h
theorem SgF_49 {cs : List Cla} {a : Nat} {k v : Int} (ha : a = 49 ∨ a = 94 ∨ a = 95) (h : SgF i cs) : SgF (u2 i a k v) cs := SgF_eq (u2_other _ _ _ (by omega)) (u2_other _ _ _ (by omega)) (u2_other _ _ _ (by omega)) (u2_other _ _ _ (by omega)) (u2_other _ _ _ (by omega)) (u2_other _ _ _ (by omega)) h
theorem lp_draw2 {P : Int → IM → LM → Prop} (hd : 9 ≤ d) {cs : List Cla} {i : IM} (hx : Cx w i cs) {l0 : LM} {seed : Int} (hseed : 0 ≤ seed ∧ seed ≤ 1000000) {m : Nat} (hm : m < 120) (hnext : ∀ i' l', psc l0 l' → doI i i' cs seed (m + 1) 0 → gI w d X_X4_draw P i' l' 36 [(0, vR (some 94)), (2, vI (dSum i cs seed (m + 1))), (3, vI ((m : Int) + 1))] []) : ∀ r k : Nat, k + r = (i 101 309).toNat → ∀ i' l', psc l0 l' → doI i i' cs seed m k → gI w d X_X4_draw P i' l' 45 [(0, vR (some 94)), (2, vI (dSum i cs seed m)), (3, vI (m : Int)), (4, vI (k : Int))] [] := by
  have h308 := hx.2.1.1.2.1
  have h309 := hx.2.1.1.2.2.1
  have hm2 : 0 ≤ (m : Int) ∧ (m : Int) < 120 := by omega
  intro r
  induction r with
  | zero =>
    intro k hk2 i' l' hl hi
    have hk3 : k = (i 101 309).toNat := by omega
    subst hk3
    have hz := hi.2.1
    have e101 := hi.1.1 101 (by decide) (by decide) (by decide)
    refine s_X4_draw_45 _ _ _ (by omega) ⟨⟨by omega, by omega⟩, fun q => ⟨by omega, by omega⟩, fun q => ?_, fun q => by omega, fun q => by omega⟩
    refine sp_X8_failing (by omega) (Cx_d hi.1.1 hx) hi.1.2.1 hi.2.2.2.1 hm2 (fun i2 l2 hi2 hl2 hs2 => ?_)
    have hF : fails i' cs (i' 49) (m : Int) = bfGo (fun v => oB i cs (dAll (i 101) (i 101 309).toNat seed (m + 1)).2 (v : Int) (m : Int)) (i 101 308).toNat := by
      unfold fails
      rw [e101, oB_K e101]
      refine bfGo_cg (fun v _ => oB_cg h309 (fun p h1 h2 => hi.2.2.2.2.1 p h1 h2 (Or.inr (by omega))))
    rw [hF]
    have hlt := bfGo_lt (fun v => oB i cs (dAll (i 101) (i 101 309).toNat seed (m + 1)).2 (v : Int) (m : Int)) (i 101 308).toNat
    have h8 : 2 ^ (i 101 308).toNat ≤ 2 ^ 8 := Nat.pow_le_pow_right (by omega) (by omega)
    refine ⟨⟨by omega, by omega⟩, ?_⟩
    rw [popI_bf _ (by omega)]
    exact hnext i2 l2 (psc_tr hl hl2) (doI_up (doI_s hi hi2 hs2))
  | succ r ih =>
    intro k hk2 i' l' hl hi
    have hi0 := hi
    obtain ⟨⟨b1, b2, b3, b4⟩, a2, a3, a4, a5, a6, a7⟩ := hi
    have e101 := b1 101 (by decide) (by decide) (by decide)
    have hx' := Cx_d b1 hx
    have hok := dRow_ok (K := i 101) (z := m == 0) (dAll_ok (K := i 101) (N := (i 101 309).toNat) hseed m) k
    have hr : 0 ≤ i' 94 4 ∧ i' 94 4 < 1000003 := by rw [a3]; exact hok.1
    have fin : ∀ x : Int, x = dOne (i 101) (m == 0) (dRow (i 101) (m == 0) k (dAll (i 101) (i 101 309).toNat seed m)).1 ((dRow (i 101) (m == 0) k (dAll (i 101) (i 101 309).toNat seed m)).2 (k : Int)) → (0 ≤ (k : Int) ∧ (k : Int) < 5) ∧ (0 ≤ ((k : Int) * 120) + (m : Int) ∧ ((k : Int) * 120) + (m : Int) < 600) ∧ gI w d X_X4_draw P (u2 (u2 (u2 i' 94 4 (drN (i' 94 4))) 49 (k : Int) x) 95 (((k : Int) * 120) + (m : Int)) x) l' 45 [(0, vR (some 94)), (2, vI (dSum i cs seed m)), (3, vI (m : Int)), (4, vI ((k : Int) + 1))] [] := by
      intro x hxx
      have hxr := dOne_ok (K := i 101) (m == 0) (s := (dRow (i 101) (m == 0) k (dAll (i 101) (i 101 309).toNat seed m)).1) (hok.2 (k : Int))
      rw [← hxx] at hxr
      refine ⟨⟨by omega, by omega⟩, ⟨by omega, by omega⟩, ?_⟩
      refine ih (k + 1) (by omega) _ l' hl ⟨⟨cdf_tr (cdf_tr (cdf_tr b1 (cdf_u (by omega))) (cdf_u (by omega))) (cdf_u (by omega)), SgF_49 (by omega) (SgF_49 (by omega) (SgF_49 (by omega) b2)), Sw_49 (by omega) (Sw_49 (by omega) (Sw_49 (by omega) b3)), b4⟩, a2, ?_, fun p h1 h2 => ?_, fun p h1 h2 h3 => ?_, fun y p h1 h2 h3 h4 => ?_, fun p h1 h2 => ?_⟩
      · show drN (i' 94 4) = drN _
        rw [a3]
      · show -1 ≤ (if (49 : Nat) = 49 ∧ p = (k : Int) then x else i' 49 p) ∧ (if (49 : Nat) = 49 ∧ p = (k : Int) then x else i' 49 p) < 10
        by_cases c : p = (k : Int)
        · rw [if_pos ⟨rfl, c⟩]; exact ⟨by omega, by omega⟩
        · rw [if_neg (fun z => c z.2)]; exact a4 p h1 h2
      · show (if (49 : Nat) = 49 ∧ p = (k : Int) then x else i' 49 p) = (if p = (k : Int) then _ else (dRow (i 101) (m == 0) k (dAll (i 101) (i 101 309).toNat seed m)).2 p)
        by_cases c : p = (k : Int)
        · rw [if_pos ⟨rfl, c⟩, if_pos c, hxx]
        · rw [if_neg (fun z => c z.2), if_neg c]
          exact a5 p h1 h2 (by omega)
      · show (if (95 : Nat) = 95 ∧ p * 120 + y = (k : Int) * 120 + (m : Int) then x else i' 95 (p * 120 + y)) = _
        rw [if_neg (fun z => by have := z.2; omega)]
        exact a6 y p h1 h2 h3 h4
      · show (if (95 : Nat) = 95 ∧ p * 120 + (m : Int) = (k : Int) * 120 + (m : Int) then x else i' 95 (p * 120 + (m : Int))) = (if p = (k : Int) then _ else (dRow (i 101) (m == 0) k (dAll (i 101) (i 101 309).toNat seed m)).2 p)
        by_cases c : p = (k : Int)
        · rw [if_pos ⟨rfl, by omega⟩, if_pos c, hxx]
        · rw [if_neg (fun z => c (by omega)), if_neg c]
          exact a7 p h1 (by omega)
    refine s_X4_draw_45 _ _ _ (by omega) ⟨⟨by omega, by omega⟩, fun q => ⟨by omega, by omega⟩, fun q => by omega, fun q => ⟨⟨by omega, by omega⟩, ?_⟩, fun q => ?_⟩
    · have hm0 : (m == 0) = false := by
        have : ¬ m = 0 := by omega
        simp [this]
      have e49 : i' 49 (k : Int) = (dRow (i 101) (m == 0) k (dAll (i 101) (i 101 309).toNat seed m)).2 (k : Int) := a5 (k : Int) (by omega) (by omega) (Or.inl (by omega))
      rw [e49]
      refine sp_X4_next (by omega) hx'.1 hx'.2.1 (hok.2 _) hr ?_
      refine fin _ ?_
      unfold dOne
      rw [hm0, if_neg (by decide), e101, a3, hm0]
    · refine sp_X4_drawOf (by omega) ⟨by omega, by omega⟩ hr ?_
      refine fin _ ?_
      have hm0 : (m == 0) = true := by
        have : m = 0 := by omega
        simp [this]
      unfold dOne
      rw [hm0, if_pos rfl, a3, hm0]
theorem lp_draw1 {P : Int → IM → LM → Prop} (hd : 9 ≤ d) {cs : List Cla} {i : IM} (hx : Cx w i cs) {l0 : LM} {seed : Int} (hseed : 0 ≤ seed ∧ seed ≤ 1000000) (hP : ∀ i' l', psc l0 l' → doI i i' cs seed 120 0 → P (dSum i cs seed 120) i' l') : ∀ r m : Nat, m + r = 120 → ∀ i' l', psc l0 l' → doI i i' cs seed m 0 → gI w d X_X4_draw P i' l' 36 [(0, vR (some 94)), (2, vI (dSum i cs seed m)), (3, vI (m : Int))] [] := by
  have h308 := hx.2.1.1.2.1
  intro r
  induction r with
  | zero =>
    intro m hm i' l' hl hi
    have e : m = 120 := by omega
    subst e
    have hle := dSum_le cs seed h308 120
    exact s_X4_draw_36 _ _ ⟨⟨by omega, by omega⟩, fun _ => ⟨⟨by omega, by omega⟩, hP i' l' hl hi⟩, fun q => by omega⟩
  | succ r ih =>
    intro m hm i' l' hl hi
    refine s_X4_draw_36 _ _ ⟨⟨by omega, by omega⟩, fun q => by omega, fun q => ?_⟩
    exact lp_draw2 hd hx hseed (by omega) (fun i2 l2 hl2 hi2 => ih (m + 1) (by omega) i2 l2 hl2 hi2) _ 0 (Nat.zero_add _) i' l' hl hi
theorem SgC_d {i i' : IM} {cs : List Cla} (e7 : i' 7 15 = i 7 15) (h44 : i' 44 = i 44) (h : ∀ a, 45 ≤ a → a ≤ 50 → i' a = i a) (e101 : i' 101 = i 101) (hs : SgC i cs) : SgC i' cs := by
  refine ⟨by rw [h44, e7]; exact hs.1, fun q => ?_⟩
  rw [h44, e7] at q
  have := hs.2 q
  exact ⟨SgF_eq h44 (h 45 (by decide) (by decide)) (h 46 (by decide) (by decide)) (h 47 (by decide) (by decide)) (h 48 (by decide) (by decide)) e101 this.1, Sw_eq h44 (h 50 (by decide) (by decide)) e101 this.2⟩
theorem sp_X4_draw {P : Int → IM → LM → Prop} (hd : 10 ≤ d) {cs : List Cla} (hx : Cx w i cs) (hs : SgC i cs) {seed : Int} (hseed : 0 ≤ seed ∧ seed ≤ 1000000) (hP : ∀ i' l', psc l l' → doI i i' cs seed 120 0 → P (dSum i cs seed 120) i' l') : cI w d X_X4_draw [vR (some 94), vI seed] i l P := by
  obtain ⟨d, rfl, hd1⟩ := d_pos hd
  have h7 := Cx_7 hx
  have hx1 : Cx w (u2 (u2 i 94 4 seed) 94 3 ((u2 i 94 4 seed) 7 10)) cs := Cx_d (cdf_tr (cdf_u (by omega)) (cdf_u (by omega))) hx
  have hs1 : SgC (u2 (u2 i 94 4 seed) 94 3 ((u2 i 94 4 seed) 7 10)) cs := SgC_d (i := i) rfl (by rw [u2_other _ _ _ (by decide), u2_other _ _ _ (by decide)]) (fun a h1 h2 => by rw [u2_other _ _ _ (by omega), u2_other _ _ _ (by omega)]) (by rw [u2_other _ _ _ (by decide), u2_other _ _ _ (by decide)]) hs
  refine e_X4_draw (s_X4_draw _ ⟨⟨by omega, by omega⟩, sp_X8_refresh (by omega) hx1 hs1 (fun i1 v1 h14 s1 w1 => sp_X8_letOut (by omega) ⟨by omega, by omega⟩ (rg_lit rfl) (fun i2 hi2 ho2 => ?_))⟩)
  have e101 : i1 101 = i 101 := (v1 101 (by decide)).trans rfl
  refine lp_draw1 hd1 hx hseed hP 120 0 rfl i2 l (psc_rf l) ⟨⟨?_, ?_, ?_, ?_⟩, ?_, ?_, fun p h1 h2 => ?_, fun p h1 h2 h3 => by omega, fun x p h1 h2 => by omega, fun p h1 h2 => by omega⟩
  · exact cdf_tr (cdf_tr (cdf_tr (cdf_u (by omega)) (cdf_u (by omega))) (cdf_v v1)) (cdf_v (vfr_o (a := 49) (by omega) hi2))
  · exact SgF_eq (hi2 44 (by decide)) (hi2 45 (by decide)) (hi2 46 (by decide)) (hi2 47 (by decide)) (hi2 48 (by decide)) (hi2 101 (by decide)) s1
  · exact Sw_eq (hi2 44 (by decide)) (hi2 50 (by decide)) (hi2 101 (by decide)) w1
  · rw [hi2 44 (by decide), hi2 7 (by decide), h14]
  · rw [hi2 94 (by decide), v1 94 (by decide)]
    exact h7.2.2.1
  · rw [hi2 94 (by decide), v1 94 (by decide)]
    rfl
  · rw [ho2 p h1 h2, if_neg (by omega), s1.2.2.2.2.2 p 0 ⟨h1, h2⟩ ⟨by omega, by omega⟩, mWhere_K e101]
    exact mWhere_lt hx.2.1 _ _
theorem sp_X11_day {P : Int → IM → LM → Prop} (hd : 12 ≤ d) {cs : List Cla} (hx : Cx w i cs) (hs : SgC i cs) {seed : Int} (h0 : rg seed) (href : 0 ≤ i 36 0 ∧ i 36 0 < 1000000) (hP1 : 0 ≤ seed ∧ seed ≤ 1000000 → ∀ i' l', psc l l' → doI i i' cs seed 120 0 → P (dSum i cs seed 120) (u2 i' 6 18 0) l') (hP0 : ¬ (0 ≤ seed ∧ seed ≤ 1000000) → P (-1) (u2 (u2 i 6 18 (-1)) 36 0 (i 36 0 + 1)) l) : cI w d X_X11_day [vR (some 6), vI seed] i l P := by
  obtain ⟨d, rfl, hd1⟩ := d_pos hd
  have h308 := hx.2.1.1.2.1
  have hle := dSum_le cs seed h308 120
  refine e_X11_day (s_X11_day _ (by omega) ⟨h0, fun q => ?_, fun q => ?_⟩)
  · refine sp_X4_draw (by omega) hx hs q (fun i' l' hl hi => ?_)
    obtain ⟨d, rfl, hd2⟩ := d_pos hd1
    exact e_X11_granted (s_X11_granted _ ⟨⟨by omega, by omega⟩, hP1 q i' l' hl hi⟩)
  · obtain ⟨d, rfl, hd2⟩ := d_pos hd1
    exact e_X11_refuse (s_X11_refuse _ ⟨rg_lit rfl, ⟨by decide, by decide⟩, by show rg (i 36 0 + 1); exact ⟨by omega, by omega⟩, hP0 q⟩)
end
