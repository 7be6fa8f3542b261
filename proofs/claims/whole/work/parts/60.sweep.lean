/-! SIGHT made fresh, and the sweep through the day -/
section
variable {w : Wd} {d : Nat} {i : IM} {l : LM}
/-- all but what ASKER and SIGHT keep -/
def vfr (i i' : IM) : Prop := ∀ a : Nat, (a < 41 ∨ 50 < a) → i' a = i a
theorem vfr_rf (i : IM) : vfr i i := fun _ _ => rfl
theorem vfr_tr {i j k : IM} (h1 : vfr i j) (h2 : vfr j k) : vfr i k := fun a h => (h2 a h).trans (h1 a h)
theorem vfr_s {i i' : IM} (h : sfr i i') : vfr i i' := fun a ha => h a (by omega) (by omega) (by omega) (by omega) (by omega)
theorem vfr_c {i i' : IM} (h : cscr i i') : vfr i i' := vfr_s (sfr_cs h)
theorem vfr_o {i i' : IM} {a : Nat} (ha : 41 ≤ a ∧ a ≤ 50) (h : ∀ b, b ≠ a → i' b = i b) : vfr i i' := fun b hb => h b (by omega)
theorem vfr_u {i : IM} {a : Nat} {k x : Int} (ha : 41 ≤ a ∧ a ≤ 50) : vfr i (u2 i a k x) := vfr_o ha (fun _ hb => u2_other _ _ _ hb)
theorem vfr_f {i : IM} {a : Nat} {k x : Int} (ha : 41 ≤ a ∧ a ≤ 50) : vfr i (fillA i a k x) := vfr_o ha (fun _ hb => by funext j; exact if_neg (fun z => hb z.1))
theorem TW_v {i i' : IM} (h : vfr i i') (ht : TW i) : TW i' := by
  have e101 := h 101 (by decide)
  unfold TW
  rw [h 7 (by decide), h 8 (by decide), h 9 (by decide), h 10 (by decide), h 11 (by decide), h 13 (by decide), h 14 (by decide), e101, mLow_K e101]
  exact ht
theorem Cx_v {i i' : IM} {cs : List Cla} (h : vfr i i') (hx : Cx w i cs) : Cx w i' cs :=
  ⟨TW_v h hx.1, by rw [h 101 (by decide)]; exact hx.2.1, forceC_K (h 7 (by decide)) (fun b hb => h b (by omega)) hx.2.2.1, hx.2.2.2⟩
/-- the first MINUTE among the first n at which a WINDOW fails -/
def fmP (i : IM) (cs : List Cla) (W : Nat) : Nat → Option (Nat × Nat)
  | 0 => none
  | n + 1 => match fmP i cs W n with
    | some q => some q
    | none => match fwGo i cs n W 0 with
      | some v => some (n, v)
      | none => none
theorem fmP_go (i : IM) (cs : List Cla) (W : Nat) : ∀ n m, (match fmP i cs W m with
    | some q => some q
    | none => fmGo i cs W n m) = fmP i cs W (m + n)
  | 0, m => by
    show (match fmP i cs W m with | some q => some q | none => none) = fmP i cs W m
    cases fmP i cs W m <;> rfl
  | n + 1, m => by
    have ih := fmP_go i cs W n (m + 1)
    have e : m + 1 + n = m + (n + 1) := by omega
    rw [e] at ih
    rw [← ih]
    show _ = (match (match fmP i cs W m with
      | some q => some q
      | none => match fwGo i cs m W 0 with
        | some v => some (m, v)
        | none => none) with
      | some q => some q
      | none => fmGo i cs W n (m + 1))
    cases h1 : fmP i cs W m with
    | some q => rfl
    | none =>
      have eF : fmGo i cs W (n + 1) m = (match fwGo i cs m W 0 with
        | some v => some (m, v)
        | none => fmGo i cs W n (m + 1)) := rfl
      rw [eF]
      cases h2 : fwGo i cs m W 0 with
      | some v => rfl
      | none => rfl
theorem fmGo_P (i : IM) (cs : List Cla) (W n : Nat) : fmGo i cs W n 0 = fmP i cs W n := by
  have := fmP_go i cs W n 0
  rw [Nat.zero_add] at this
  exact this
theorem fwGo_low {i : IM} {cs : List Cla} {m : Nat} {F W : Nat} (hF : ∀ v, F.testBit v = true ↔ (v < W ∧ hB i cs (v : Int) (m : Int) = 0)) : ∀ n v, v + n = W → ∀ x, n ≤ x → (∀ u, fwGo i cs m n v = some u → lowFrom F x v = u ∧ F.testBit u = true) ∧ (fwGo i cs m n v = none → ∀ u, v ≤ u → F.testBit u = false)
  | 0, v, hv, x, _ => by
    refine ⟨fun u h => (by cases h), fun _ u hu => ?_⟩
    cases q : F.testBit u with
    | false => rfl
    | true => have := (hF u).mp q; omega
  | n + 1, v, hv, 0, hx => by omega
  | n + 1, v, hv, x + 1, hx => by
    have ih := fwGo_low hF n (v + 1) (by omega) x (by omega)
    unfold fwGo lowFrom
    by_cases q : hB i cs (v : Int) (m : Int) = 0
    · have hb : F.testBit v = true := (hF v).mpr ⟨by omega, q⟩
      rw [if_pos q]
      refine ⟨fun u h => ?_, fun h => (by cases h)⟩
      cases h
      rw [bit_div, if_pos hb, if_pos rfl]
      exact ⟨rfl, hb⟩
    · have hb : F.testBit v = false := by
        cases q2 : F.testBit v with
        | false => rfl
        | true => exact absurd ((hF v).mp q2).2 q
      rw [if_neg q]
      refine ⟨fun u h => ?_, fun h u hu => ?_⟩
      · rw [bit_div, hb]
        exact ih.1 u h
      · by_cases e : u = v
        · rw [e]; exact hb
        · exact ih.2 h u (by omega)
/-- the sweep, if it was made, is as the TOWN stands -/
def Sw (i : IM) (cs : List Cla) : Prop := i 44 11 = 0 ∨ (i 44 10 = mTotal i cs 120 ∧ (∀ v : Int, 0 ≤ v → v < i 101 308 → i 50 v = sumGo (fun m => bI (hB i cs v (m : Int) = 0)) 120) ∧ (match fmP i cs (i 101 308).toNat 120 with
    | some q => i 44 8 = (q.1 : Int) ∧ i 44 9 = (q.2 : Int)
    | none => i 44 8 = -1 ∧ i 44 9 = -1))
theorem fwGo_K {i i' : IM} (e : i' 101 = i 101) (cs : List Cla) (m : Nat) : ∀ n v, fwGo i' cs m n v = fwGo i cs m n v
  | 0, _ => rfl
  | n + 1, v => by unfold fwGo; rw [hB_K e, fwGo_K e cs m n (v + 1)]
theorem fmP_K {i i' : IM} (e : i' 101 = i 101) (cs : List Cla) (W : Nat) : ∀ n, fmP i' cs W n = fmP i cs W n
  | 0 => rfl
  | n + 1 => by unfold fmP; rw [fmP_K e cs W n, fwGo_K e]
theorem mTotal_K {i i' : IM} (e : i' 101 = i 101) : mTotal i' = mTotal i := by
  funext cs n
  unfold mTotal rowBad
  rw [hB_K e, e]
theorem Sw_eq {i i' : IM} {cs : List Cla} (e44 : i' 44 = i 44) (e50 : i' 50 = i 50) (e101 : i' 101 = i 101) (h : Sw i cs) : Sw i' cs := by
  unfold Sw
  rw [e44, e50, e101, mTotal_K e101, hB_K e101, fmP_K e101]
  exact h
theorem Sw_s {i i' : IM} {cs : List Cla} (h : sfr i i') (hs : Sw i cs) : Sw i' cs := Sw_eq (sfr_44 h) (h 50 (by decide) (by decide) (by decide) (by decide) (by decide)) (sfr_101 h) hs
/-- what SIGHT keeps is right, if nothing changed since -/
def SgC (i : IM) (cs : List Cla) : Prop := i 44 14 ≤ i 7 15 ∧ (i 44 14 = i 7 15 → SgF i cs ∧ Sw i cs)
theorem noW_of {w : Wd} {i : IM} {lw : Nat} {cs : List Cla} (hL : lawC w i lw cs) {h x : Nat} (hh : h < 4) (hx : x < 9) (hn : ¬ menI i lw (h : Int) (x : Int)) : noW x h cs := by
  obtain ⟨-, -, -, h4⟩ := hL
  have hq := h4 h hh
  intro e e' he
  by_cases q : 0 ≤ i (lw + 3) (h : Int)
  · obtain ⟨m, hm, hm2, hdep⟩ := hq.2 q
    refine lawTells_dep (m := m) (fun y hy hb => he y hy (fun z => ?_)) hdep
    subst z
    refine hn ⟨q, ?_⟩
    rw [hm, ibit_nat (by omega) (by omega), bit_div, if_pos hb]
    rfl
  · refine lawTells_dep (m := 0) (fun y _ hb => by rw [Nat.zero_testBit] at hb; cases hb) (fun c hc hc2 => absurd (hq.1.mpr ⟨c, hc, hc2⟩) q)
theorem noW_nil (x h : Nat) : noW x h [] := fun _ _ _ => rfl
theorem SgF_new {i : IM} {cs : List Cla} (h1 : i 44 12 = 0 → noW 6 2 cs ∧ noW 6 3 cs) (h2 : i 44 13 = 0 → noW 6 0 cs) (e46 : ∀ j : Int, 0 ≤ j → j < 960 → i 46 j = -1) (e47 : ∀ j : Int, 0 ≤ j → j < 960 → i 47 j = -1) (e48 : ∀ j : Int, 0 ≤ j → j < 400 → i 48 j = -1) (h6 : ∀ p m : Int, 0 ≤ p ∧ p < 5 → 0 ≤ m ∧ m < 120 → i 45 (p * 120 + m) = mWhere i p m) : SgF i cs :=
  ⟨h1, h2, fun v m hv hm => Or.inl (e47 _ (sl_rg hv hm).1 (sl_rg hv hm).2), fun v m hv hm => Or.inl (e46 _ (sl_rg hv hm).1 (sl_rg hv hm).2), fun _ v p pl m hv hp hpl => Or.inl (e48 _ (by omega) (by omega)), h6⟩
theorem sp_X8_refresh (hd : 4 ≤ d) {P : IM → LM → Prop} {cs : List Cla} (hx : Cx w i cs) (hs : SgC i cs) (hP : ∀ i', vfr i i' → i' 44 14 = i' 7 15 → SgF i' cs → Sw i' cs → P i' l) : cVd w d X_X8_refresh [vR (some 44)] i l P := by
  obtain ⟨d, rfl, hd1⟩ := d_pos hd
  have fin : ∀ (f12 f13 : Int), (f12 = 0 → noW 6 2 cs ∧ noW 6 3 cs) → (f13 = 0 → noW 6 0 cs) → cVd w d X_X8_layStays [vR (some 44)] (u2 (u2 (fillA (fillA (fillA (u2 (u2 i 44 14 (i 7 15)) 44 11 0) 46 960 (-1)) 47 960 (-1)) 48 400 (-1)) 44 12 f12) 44 13 f13) l (fun i9 l9 => P i9 l9) := by
    intro f12 f13 h12 h13
    have hv : vfr i (u2 (u2 (fillA (fillA (fillA (u2 (u2 i 44 14 (i 7 15)) 44 11 0) 46 960 (-1)) 47 960 (-1)) 48 400 (-1)) 44 12 f12) 44 13 f13) :=
      vfr_tr (vfr_tr (vfr_tr (vfr_tr (vfr_tr (vfr_tr (vfr_u (by omega)) (vfr_u (by omega))) (vfr_f (by omega))) (vfr_f (by omega))) (vfr_f (by omega))) (vfr_u (by omega))) (vfr_u (by omega))
    have hx2 := Cx_v hv hx
    refine sp_X8_layStays hd1 hx2.1 hx2.2.1 (fun i' hi h45 => ?_)
    have hvi := vfr_tr hv (vfr_o (a := 45) (by omega) hi)
    have e44 := hi 44 (by decide)
    refine hP i' hvi ?_ (SgF_new ?_ ?_ ?_ ?_ ?_ ?_) (Or.inl ?_)
    · rw [e44, hvi 7 (by decide)]; rfl
    · rw [e44]; exact h12
    · rw [e44]; exact h13
    · intro j h1 h2; rw [hi 46 (by decide)]; show fillA (u2 (u2 i 44 14 (i 7 15)) 44 11 0) 46 960 (-1) 46 j = -1; exact if_pos (c := (46 : Nat) = 46 ∧ 0 ≤ j ∧ j < 960) ⟨rfl, h1, h2⟩
    · intro j h1 h2; rw [hi 47 (by decide)]; show fillA (fillA (u2 (u2 i 44 14 (i 7 15)) 44 11 0) 46 960 (-1)) 47 960 (-1) 47 j = -1; exact if_pos (c := (47 : Nat) = 47 ∧ 0 ≤ j ∧ j < 960) ⟨rfl, h1, h2⟩
    · intro j h1 h2; rw [hi 48 (by decide)]; show fillA (fillA (fillA (u2 (u2 i 44 14 (i 7 15)) 44 11 0) 46 960 (-1)) 47 960 (-1)) 48 400 (-1) 48 j = -1; exact if_pos (c := (48 : Nat) = 48 ∧ 0 ≤ j ∧ j < 400) ⟨rfl, h1, h2⟩
    · intro p m hp hm; rw [h45 p m hp hm, mWhere_K (hi 101 (by decide))]
    · rw [e44]; rfl
  have hvJ : vfr i (fillA (fillA (fillA (u2 (u2 i 44 14 (i 7 15)) 44 11 0) 46 960 (-1)) 47 960 (-1)) 48 400 (-1)) :=
    vfr_tr (vfr_tr (vfr_tr (vfr_tr (vfr_u (by omega)) (vfr_u (by omega))) (vfr_f (by omega))) (vfr_f (by omega))) (vfr_f (by omega))
  have hfJ := (Cx_v hvJ hx).2.2.1
  refine e_X8_refresh (s_X8_refresh (by omega) ⟨fun q => hP i (vfr_rf i) q (hs.2 q).1 (hs.2 q).2, fun q => ⟨hfJ.1, fun q2 => ?_, fun lw q2 => ?_⟩⟩)
  · rcases hfJ.2 with h | ⟨lw, h, -⟩
    · have hc := h.2
      subst hc
      exact fin 0 0 (fun _ => ⟨noW_nil _ _, noW_nil _ _⟩) (fun _ => noW_nil _ _)
    · rw [q2] at h; cases h
  · rcases hfJ.2 with h | ⟨lw', h, hL⟩
    · rw [h.1] at q2; cases q2
    · rw [q2] at h
      cases h
      refine ⟨hL.1, fin _ _ (fun z => ?_) (fun z => ?_)⟩
      · rw [bI_eq] at z
        exact ⟨noW_of hL (h := 2) (x := 6) (by omega) (by omega) (fun y => z (Or.inr y)), noW_of hL (h := 3) (x := 6) (by omega) (by omega) (fun y => z (Or.inl y))⟩
      · rw [bI_eq] at z
        refine noW_of hL (h := 0) (x := 6) (by omega) (by omega) (fun y => z ?_)
        have ha : 125 ≤ lw := hL.1.1
        unfold menI at y ⊢
        rw [u2_other _ _ _ (by omega)]
        exact y
end
