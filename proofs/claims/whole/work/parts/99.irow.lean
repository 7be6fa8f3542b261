/-! CANVAS: one row -/
section
variable {w : Wd} {d : Nat} {i : IM} {l : LM}
/-- the choices are laid -/
def ChK (i : IM) : Prop := ∀ t c : Nat, (t : Int) < i 101 307 → c < 3 → ((0 ≤ i 52 (t : Int) ∧ i 52 (t : Int) < 8) ∧ (iand (ishr (i 52 (t : Int)) (c : Int)) 1 = 1 ↔ mMay i (t : Int) (c : Int) = true) ∧ i 59 ((t : Int) * 3 + (c : Int)) = mColour i (t : Int) (c : Int))
theorem mColour_lt (hk : kOK (i 101)) {t c : Int} (ht : 0 ≤ t ∧ t < 10) : 0 ≤ mColour i t c ∧ mColour i t c < 8 := by
  have h := hk.2.1 t ht.1 ht.2
  unfold mColour
  split
  · exact h.2.1
  · split
    · exact h.2.2.1
    · omega
/-- what is spare in a MONTH -/
def spB (i : IM) (cs : List Cla) (mo : Int) (x : Int64) : Prop := ∀ v : Nat, v < 8 → Bt x v = if v < (i 101 308).toNat then (127 - fLimit cs (v : Int) mo 0).toNat else 0
/-- what a choice shows in a MONTH -/
def shB (i : IM) (cs : List Cla) (mo : Int) (t c : Nat) (x : Int64) : Prop := ∀ v : Nat, v < 8 → Bt x v = if v < (i 101 308).toNat then (mBit i cs (v : Int) (t : Int) (mColour i (t : Int) (c : Int)) mo 0).toNat else 0
/-- all that the first k choices of a THING show -/
def allB (i : IM) (cs : List Cla) (mo : Int) (t v : Nat) : Nat → Nat
  | 0 => 0
  | c + 1 => if mMay i (t : Int) (c : Int) = true ∧ v < (i 101 308).toNat then allB i cs mo t v c ||| (mBit i cs (v : Int) (t : Int) (mColour i (t : Int) (c : Int)) mo 0).toNat else allB i cs mo t v c
/-- what later THINGS may show, and how many -/
def restB (i : IM) (cs : List Cla) (mo : Int) (v : Nat) : Nat → Nat → Nat
  | 0, _ => 0
  | r + 1, t => allB i cs mo t v 3 ||| restB i cs mo v r (t + 1)
def moreB (i : IM) (cs : List Cla) (mo : Int) (v : Nat) : Nat → Nat → Nat
  | 0, _ => 0
  | r + 1, t => moreB i cs mo v r (t + 1) + (if allB i cs mo t v 3 = 0 then 0 else 1)
theorem moreB_le (cs : List Cla) (mo : Int) (v : Nat) : ∀ r t, moreB i cs mo v r t ≤ r
  | 0, _ => Nat.le_refl _
  | r + 1, t => by
    have ih := moreB_le cs mo v r (t + 1)
    show moreB i cs mo v r (t + 1) + (if allB i cs mo t v 3 = 0 then 0 else 1) ≤ r + 1
    split <;> omega
/-- a row is laid for a MONTH, from a THING on -/
def rowP (i : IM) (l : LM) (cs : List Cla) (mo : Int) (q t0 : Nat) : Prop := (∀ t c : Nat, t0 ≤ t → (t : Int) < i 101 307 → c < 3 → mMay i (t : Int) (c : Int) = true → shB i cs mo t c (l 56 (((t : Int) * 3 + (c : Int)) * 12 + (q : Int)))) ∧ ∀ t v : Nat, t0 ≤ t → (t : Int) ≤ i 101 307 → v < 8 → Bt (l 57 ((t : Int) * 12 + (q : Int))) v = restB i cs mo v ((i 101 307).toNat - t) t ∧ Bt (l 58 ((t : Int) * 12 + (q : Int))) v = moreB i cs mo v ((i 101 307).toNat - t) t
theorem i2l_lim : ∀ k : Nat, k < 128 → nL (i2l (k : Int)) = k := by decide +kernel
/-- limits of all WINDOWS -/
theorem lp_row1 {P : IM → LM → Prop} (hd : 5 ≤ d) {cs : List Cla} {i : IM} (hx : Cx w i cs) {mo : Int} (hmo : 0 ≤ mo ∧ mo < 12) {q : Nat} (hq : q < 12) {l0 : LM} (hnext : ∀ x i' l', cscr i i' → psc l0 l' → spB i cs mo x → gV w d X_X1_layRow P i' (u2l (u2l (u2l l' 60 (q : Int) x) 57 (i 101 307 * 12 + (q : Int)) 0) 58 (i 101 307 * 12 + (q : Int)) 0) 106 [(0, vR (some 51)), (1, vI mo), (2, vI (q : Int)), (3, vL x), (5, vI (i 101 307 - 1))] []) : ∀ r k : Nat, k + r = (i 101 308).toNat → ∀ x i' l', cscr i i' → psc l0 l' → (∀ v : Nat, v < 8 → Bt x v = if v < k then (127 - fLimit cs (v : Int) mo 0).toNat else 0) → gV w d X_X1_layRow P i' l' 10 [(0, vR (some 51)), (1, vI mo), (2, vI (q : Int)), (3, vL x), (5, vI (k : Int))] [] := by
  have h7 := Cx_7 hx
  have h308 := hx.2.1.1.2.1
  have h307 := hx.2.1.1.1
  intro r
  induction r with
  | zero =>
    intro k hk x i' l' hi hl hxb
    have e : k = (i 101 308).toNat := by omega
    have e7 : i' 7 = i 7 := cscr_c hi (by decide) (by decide)
    subst e
    refine s_X1_layRow_10 _ _ _ _ ⟨⟨by omega, by omega⟩, fun _ => ?_, fun z => by rw [e7, h7.2.1] at z; omega⟩
    rw [e7, h7.1]
    exact ⟨⟨by omega, by omega⟩, ⟨by omega, by omega⟩, hnext x i' l' hi hl hxb⟩
  | succ r ih =>
    intro k hk x i' l' hi hl hxb
    have e7 : i' 7 = i 7 := cscr_c hi (by decide) (by decide)
    refine s_X1_layRow_10 _ _ _ _ ⟨⟨by omega, by omega⟩, fun z => by rw [e7, h7.2.1] at z; omega, fun z => ?_⟩
    refine sp_X0_limitOf (by omega) (forceC_kept hi hx.2.2.1) hx.2.2.2 ⟨by omega, by omega⟩ ⟨by omega, by omega⟩ bd0 (fun i2 l2 hi2 hl2 => ?_)
    have hf := fLimit_rg cs (k : Int) mo 0
    obtain ⟨b, hb⟩ := Int.eq_ofNat_of_zero_le (show 0 ≤ 127 - fLimit cs (k : Int) mo 0 by omega)
    rw [hb]
    refine ih (k + 1) (by omega) _ i2 l2 (cscr_tr hi hi2) (psc_tr hl hl2) (fun v hv => ?_)
    rw [Bt_or, hxb v hv, Bt_put (b := b) (by omega) (by omega) (i2l_lim b (by omega)) hv]
    by_cases e : v = k
    · subst e; rw [if_neg (by omega), if_pos rfl, if_pos (by omega), hb, Nat.zero_or]; rfl
    · rw [if_neg e, Nat.or_zero]
      by_cases e2 : v < k
      · rw [if_pos e2, if_pos (by omega)]
      · rw [if_neg e2, if_neg (by omega)]
/-- frame of a row: longs of other rows stay -/
def rofl (q : Nat) (l l' : LM) : Prop := (∀ a : Nat, a ≠ 43 → a ≠ 56 → a ≠ 57 → a ≠ 58 → a ≠ 60 → a ≠ 61 → l' a = l a) ∧ (∀ x : Int, 0 ≤ x → x % 12 ≠ (q : Int) → l' 56 x = l 56 x ∧ l' 57 x = l 57 x ∧ l' 58 x = l 58 x) ∧ ∀ x : Int, x ≠ (q : Int) → l' 60 x = l 60 x
theorem rofl_tr {q : Nat} {l l' l'' : LM} (h1 : rofl q l l') (h2 : rofl q l' l'') : rofl q l l'' := ⟨fun a x1 x2 x3 x4 x5 x6 => (h2.1 a x1 x2 x3 x4 x5 x6).trans (h1.1 a x1 x2 x3 x4 x5 x6), fun x h0 h => ⟨(h2.2.1 x h0 h).1.trans (h1.2.1 x h0 h).1, (h2.2.1 x h0 h).2.1.trans (h1.2.1 x h0 h).2.1, (h2.2.1 x h0 h).2.2.trans (h1.2.1 x h0 h).2.2⟩, fun x h => (h2.2.2 x h).trans (h1.2.2 x h)⟩
theorem rofl_v {q : Nat} {l l' : LM} (h : vofl l l') : rofl q l l' := ⟨fun a x1 _ _ _ _ x6 => h a x1 x6, fun x _ _ => ⟨by rw [h 56 (by decide) (by decide)], by rw [h 57 (by decide) (by decide)], by rw [h 58 (by decide) (by decide)]⟩, fun x _ => by rw [h 60 (by decide) (by decide)]⟩
theorem rofl_u {q a : Nat} {l : LM} {k : Int} {x : Int64} (ha : a = 56 ∨ a = 57 ∨ a = 58) (hk : k % 12 = (q : Int)) : rofl q l (u2l l a k x) := by
  refine ⟨fun b x1 x2 x3 x4 x5 x6 => u2l_other _ _ _ (by omega), fun y _ hy => ?_, fun y _ => by rw [u2l_other _ _ _ (by omega)]⟩
  have hne : y ≠ k := fun e => hy (by rw [e]; exact hk)
  have : ∀ b, u2l l a k x b y = l b y := fun b => if_neg (fun z => hne z.2)
  exact ⟨this 56, this 57, this 58⟩
theorem cShown_m {i i' : IM} {cs : List Cla} (hx : Cx w i cs) (h8 : i' 8 = i 8) {t p m : Int} (ht : 0 ≤ t ∧ t < 10) : cShown i' t p m = mShows i t p m := by
  rw [← TW_shown hx.1 ht]
  unfold cShown
  rw [h8]
theorem lp_row3 {P : IM → LM → Prop} (hd : 6 ≤ d) {cs : List Cla} {i : IM} (hx : Cx w i cs) (hch : ChK i) {mo : Int} (hmo : 0 ≤ mo ∧ mo < 12) {q : Nat} (hq : q < 12) {t : Nat} (ht : (t : Int) < i 101 307) {lim : Int64} {l0 : LM} (hnext : ∀ x i' l', vofr i i' → rofl q l0 l' → KnI i' l' cs mo → l' 57 = l0 57 → l' 58 = l0 58 → l' 60 = l0 60 → (∀ y : Int, (y < (t : Int) * 36 ∨ ((t : Int) + 1) * 36 ≤ y) → l' 56 y = l0 56 y) → (∀ v : Nat, v < 8 → Bt x v = allB i cs mo t v 3) → (∀ c : Nat, c < 3 → mMay i (t : Int) (c : Int) = true → shB i cs mo t c (l' 56 (((t : Int) * 3 + (c : Int)) * 12 + (q : Int)))) → gV w d X_X1_layRow P i' (u2l (u2l l' 57 ((t : Int) * 12 + (q : Int)) (x ||| l' 57 ((t : Int) * 12 + (q : Int) + 12))) 58 ((t : Int) * 12 + (q : Int)) (l' 58 ((t : Int) * 12 + (q : Int) + 12) + ((lushr (cntL x + 9187201950435737471) 7) &&& 72340172838076673))) 106 [(0, vR (some 51)), (1, vI mo), (2, vI (q : Int)), (3, vL lim), (5, vI ((t : Int) + (-1)))] []) : ∀ r c : Nat, c + r = 3 → ∀ x i' l', vofr i i' → rofl q l0 l' → KnI i' l' cs mo → l' 57 = l0 57 → l' 58 = l0 58 → l' 60 = l0 60 → (∀ y : Int, (y < (t : Int) * 36 ∨ ((t : Int) + 1) * 36 ≤ y) → l' 56 y = l0 56 y) → (∀ v : Nat, v < 8 → Bt x v = allB i cs mo t v c) → (∀ y : Nat, y < c → mMay i (t : Int) (y : Int) = true → shB i cs mo t y (l' 56 (((t : Int) * 3 + (y : Int)) * 12 + (q : Int)))) → gV w d X_X1_layRow P i' l' 117 [(0, vR (some 51)), (1, vI mo), (2, vI (q : Int)), (3, vL lim), (5, vI (t : Int)), (6, vL x), (8, vI (c : Int))] [] := by
  have h307 := hx.2.1.1.1
  intro r
  induction r with
  | zero =>
    intro c hc x i' l' hi hl hkn h57 h58 h60 h56 hxb hsh
    have e : c = 3 := by omega
    subst e
    have hn := hnext x i' l' hi hl hkn h57 h58 h60 h56 hxb hsh
    refine s_X1_layRow_117 _ _ _ _ _ _ (by omega) ⟨⟨by omega, by omega⟩, fun z => by omega, fun _ => ⟨⟨by omega, by omega⟩, ⟨by omega, by omega⟩, ?_⟩, fun z => by omega, fun z => by omega⟩
    rw [u2l_other _ _ _ (show (58 : Nat) ≠ 57 by decide)]
    exact hn
  | succ r ih =>
    intro c hc x i' l' hi hl hkn h57 h58 h60 h56 hxb hsh
    have hc3 : c < 3 := by omega
    have e52 : i' 52 = i 52 := hi 52 (by decide) (by decide) (by decide)
    have e59 : i' 59 = i 59 := hi 59 (by decide) (by decide) (by decide)
    have e101 : i' 101 = i 101 := hi 101 (by decide) (by decide) (by decide)
    obtain ⟨c1, c2, c3⟩ := hch t c ht hc3
    have hnx := ih (c + 1) (by omega)
    have hst : ∀ v, allB i cs mo t v (c + 1) = if mMay i (t : Int) (c : Int) = true ∧ v < (i 101 308).toNat then allB i cs mo t v c ||| (mBit i cs (v : Int) (t : Int) (mColour i (t : Int) (c : Int)) mo 0).toNat else allB i cs mo t v c := fun v => rfl
    refine s_X1_layRow_117 _ _ _ _ _ _ (by omega) ⟨⟨by omega, by omega⟩, fun _ => ⟨by omega, by omega⟩, fun z => by omega, fun z => ?_, fun z => ⟨⟨by omega, by omega⟩, ⟨by omega, by omega⟩, ?_⟩⟩
    · have hm : ¬ mMay i (t : Int) (c : Int) = true := fun y => z.2 (by rw [e52]; exact c2.mpr y)
      refine hnx x i' l' hi hl hkn h57 h58 h60 h56 (fun v hv => by rw [hst, if_neg (fun y => hm y.1)]; exact hxb v hv) (fun y hy hym => hsh y (by
        by_cases e : y = c
        · subst e; exact absurd hym hm
        · omega) hym)
    · have hm : mMay i (t : Int) (c : Int) = true := c2.mp (by rw [← e52]; exact z.2)
      have hco := mColour_lt (i := i) hx.2.1 (t := (t : Int)) (c := (c : Int)) ⟨by omega, by omega⟩
      have h7 := (hx.2.1.2.1 (t : Int) (by omega) (by omega)).2.2.2.2.2.2.2
      have hs8 := mShows_lt (i := i) (t := (t : Int)) (c := mColour i (t : Int) (c : Int)) (m := mo) hco h7
      have ecs : cShown i' (t : Int) (i' 59 ((t : Int) * 3 + (c : Int))) mo = mShows i (t : Int) (mColour i (t : Int) (c : Int)) mo := by
        rw [e59, c3]
        exact cShown_m hx (hi 8 (by decide) (by decide) (by decide)) ⟨by omega, by omega⟩
      rw [ecs]
      obtain ⟨k, hk⟩ := Int.eq_ofNat_of_zero_le hs8.1
      rw [hk]
      refine sp_X1_viewOf hd (Cx_o hi hx) (by omega) (by omega) hmo hkn (fun y i2 l2 hi2 hl2 hkn2 hy => ⟨⟨by omega, by omega⟩, ?_⟩)
      have hyB : shB i cs mo t c y := by
        intro v hv
        have := hy v hv
        rw [e101, vB_K e101, ← hk, ← mBit_vB] at this
        exact this
      have hmod : (((t : Int) * 3 + (c : Int)) * 12 + (q : Int)) % 12 = (q : Int) := by omega
      have hl3 := rofl_tr (rofl_tr hl (rofl_v hl2)) (rofl_u (q := q) (a := 56) (k := ((t : Int) * 3 + (c : Int)) * 12 + (q : Int)) (x := y) (Or.inl rfl) hmod)
      refine hnx (x ||| y) i2 _ (vofr_tr hi hi2) hl3 (fun t' c' ht' hc' => by rw [u2l_other _ _ _ (by decide)]; exact hkn2 t' c' ht' hc') (by rw [u2l_other _ _ _ (by decide), hl2 57 (by decide) (by decide), h57]) (by rw [u2l_other _ _ _ (by decide), hl2 58 (by decide) (by decide), h58]) (by rw [u2l_other _ _ _ (by decide), hl2 60 (by decide) (by decide), h60]) (fun j hj => ?_) (fun v hv => ?_) (fun u hu hum => ?_)
      · have : u2l l2 56 (((t : Int) * 3 + (c : Int)) * 12 + (q : Int)) y 56 j = l2 56 j := if_neg (fun z => by have := z.2; omega)
        rw [this, hl2 56 (by decide) (by decide)]; exact h56 j hj
      · rw [Bt_or, hxb v hv, hyB v hv, hst]
        by_cases e : v < (i 101 308).toNat
        · rw [if_pos e, if_pos ⟨hm, e⟩]
        · rw [if_neg e, if_neg (fun z => e z.2), Nat.or_zero]
      · by_cases e : u = c
        · subst e
          have : u2l l2 56 (((t : Int) * 3 + (u : Int)) * 12 + (q : Int)) y 56 (((t : Int) * 3 + (u : Int)) * 12 + (q : Int)) = y := if_pos ⟨rfl, rfl⟩
          rw [this]; exact hyB
        · have : u2l l2 56 (((t : Int) * 3 + (c : Int)) * 12 + (q : Int)) y 56 (((t : Int) * 3 + (u : Int)) * 12 + (q : Int)) = l2 56 (((t : Int) * 3 + (u : Int)) * 12 + (q : Int)) := if_neg (fun z => e (by have := z.2; omega))
          rw [this, hl2 56 (by decide) (by decide)]
          exact hsh u (by omega) hum
end
