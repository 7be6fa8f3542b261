/-! what a THING shows, which colour a choice has, which choices there are, where one may step: of the reference's memory -/
def mShows (i : IM) (t p m : Int) : Int := if iand (ishr (i 101 (8 * t + 6)) m) 1 = 1 then i 101 (8 * t + 7) else p
def mColour (i : IM) (t c : Int) : Int := if c = 0 then i 101 (8 * t + 1) else if c = 1 then i 101 (8 * t + 2) else 0
def mMay (i : IM) (t c : Int) : Bool := if i 101 (8 * t + 5) = 1 then (if i 101 (8 * t + 1) = i 101 (8 * t + 2) then decide (c = 0) else decide (c = 1)) else (decide (c = 0) || (decide (c = 1) && !decide (i 101 (8 * t + 1) = i 101 (8 * t + 2))) || (decide (c = 2) && !decide (i 101 (8 * t + 1) = 0) && !decide (i 101 (8 * t + 2) = 0)))
def mStep (i : IM) (a b : Int) : Bool := decide (a = b) || decide (iand (ishr (i 101 (104 + a)) b) 1 = 1)
def cShown (i : IM) (t p m : Int) : Int := if iand (ishr (i 8 (t * 8 + 6)) m) 1 = 1 then i 8 (t * 8 + 7) else p
section
variable {w : Wd} {d : Nat} {i : IM} {l : LM}
theorem sp_X12_isThing (hd : 2 ≤ d) {a : Int} (ha : rg a) (h : rg (i 101 307 - 1)) : cI w d X_X12_isThing [vR (some 99), vI a] i l (fun x i' l' => x = bI (0 ≤ a ∧ a < i 101 307) ∧ i' = i ∧ l' = l) := by
  obtain ⟨d, rfl, hd1⟩ := d_pos hd
  exact e_X12_isThing (s_X12_isThing a hd1 ⟨ha, h, bI_congr (by omega), rfl, rfl⟩)
theorem sp_X12_isWindow (hd : 2 ≤ d) {a : Int} (ha : rg a) (h : rg (i 101 308 - 1)) : cI w d X_X12_isWindow [vR (some 99), vI a] i l (fun x i' l' => x = bI (0 ≤ a ∧ a < i 101 308) ∧ i' = i ∧ l' = l) := by
  obtain ⟨d, rfl, hd1⟩ := d_pos hd
  exact e_X12_isWindow (s_X12_isWindow a hd1 ⟨ha, h, bI_congr (by omega), rfl, rfl⟩)
theorem sp_X12_isPerson (hd : 2 ≤ d) {a : Int} (ha : rg a) (h : rg (i 101 309 - 1)) : cI w d X_X12_isPerson [vR (some 99), vI a] i l (fun x i' l' => x = bI (0 ≤ a ∧ a < i 101 309) ∧ i' = i ∧ l' = l) := by
  obtain ⟨d, rfl, hd1⟩ := d_pos hd
  exact e_X12_isPerson (s_X12_isPerson a hd1 ⟨ha, h, bI_congr (by omega), rfl, rfl⟩)
theorem sp_X12_shows (hd : 2 ≤ d) {t p m : Int} (hp : rg p) (h : 0 ≤ t ∧ t < 10) : cI w d X_X12_shows [vR (some 99), vI t, vI p, vI m] i l (fun x i' l' => x = mShows i t p m ∧ i' = i ∧ l' = l) := by
  obtain ⟨d, rfl, hd1⟩ := d_pos hd
  refine e_X12_shows (g_rg (fun hR => s_X12_shows t p m hd1 ⟨⟨by omega, by omega⟩, fun _ => ⟨by omega, by omega⟩, ?_⟩))
  exact ⟨rg_ite (hR _ _) hp, rfl, rfl, rfl⟩
theorem sp_X12_colourOf (hd : 2 ≤ d) {t c : Int} (hc : rg c) (h : 0 ≤ t ∧ t < 10) : cI w d X_X12_colourOf [vR (some 99), vI t, vI c] i l (fun x i' l' => x = mColour i t c ∧ i' = i ∧ l' = l) := by
  obtain ⟨d, rfl, hd1⟩ := d_pos hd
  exact e_X12_colourOf (s_X12_colourOf t c hd1 ⟨hc, fun _ _ => ⟨by omega, by omega⟩, fun _ => ⟨by omega, by omega⟩, rfl, rfl, rfl⟩)
theorem sp_X12_isChoice (hd : 2 ≤ d) {t c : Int} (hc : rg c) (h : 0 ≤ t ∧ t < 10) : cI w d X_X12_isChoice [vR (some 99), vI t, vI c] i l (fun x i' l' => x = bI (mMay i t c = true) ∧ i' = i ∧ l' = l) := by
  obtain ⟨d, rfl, hd1⟩ := d_pos hd
  refine e_X12_isChoice (s_X12_isChoice t c hd1 ⟨⟨by omega, by omega⟩, ⟨by omega, by omega⟩, ⟨by omega, by omega⟩, fun hm => ?_, fun hm => ⟨hc, fun h1 => ?_, fun h1 => ?_⟩⟩)
  · refine ⟨hc, bI_congr ?_, rfl, rfl⟩
    unfold mMay bI
    rw [if_pos hm]
    by_cases e : i 101 (8 * t + 1) = i 101 (8 * t + 2) <;> simp [e]
  · refine ⟨(bI_t ?_).symm, rfl, rfl⟩
    unfold mMay
    rw [if_neg hm]
    rcases h1 with h1 | h1 <;> simp [h1]
  · refine s_X12_isChoice_63 t c hd1 ⟨hc, fun _ => ⟨by omega, by omega⟩, fun _ _ => ⟨by omega, by omega⟩, bI_congr ?_, rfl, rfl⟩
    unfold mMay
    rw [if_neg hm]
    have h2 : ¬ c = 0 := fun q => h1 (Or.inl q)
    have h3 : ¬ (c = 1 ∧ ¬ i 101 (8 * t + 1) = i 101 (8 * t + 2)) := fun q => h1 (Or.inr q)
    simp only [not_and, Decidable.not_not] at h3
    by_cases h4 : c = 1
    · simp [h4, h3 h4]
    · simp [h2, h4]
      exact and_assoc.symm
theorem sp_X12_isStep (hd : 2 ≤ d) {a b : Int} (ha : rg a) (hb : rg b) (h : 0 ≤ a ∧ a < 10) : cI w d X_X12_isStep [vR (some 99), vI a, vI b] i l (fun x i' l' => x = bI (mStep i a b = true) ∧ i' = i ∧ l' = l) := by
  obtain ⟨d, rfl, hd1⟩ := d_pos hd
  refine e_X12_isStep (s_X12_isStep a b hd1 ⟨ha, hb, fun _ => ⟨by omega, by omega⟩, bI_congr ?_, rfl, rfl⟩)
  unfold mStep
  simp
theorem sp_X9_shownIn (hd : 2 ≤ d) {t p m : Int} (hp : rg p) (h : 0 ≤ t ∧ t < 10) : cI w d X_X9_shownIn [vR (some 7), vI t, vI p, vI m] i l (fun x i' l' => x = cShown i t p m ∧ i' = i ∧ l' = l) := by
  obtain ⟨d, rfl, hd1⟩ := d_pos hd
  refine e_X9_shownIn (g_rg (fun hR => s_X9_shownIn t p m hd1 ⟨⟨by omega, by omega⟩, fun _ => ⟨by omega, by omega⟩, ?_⟩))
  exact ⟨rg_ite (hR _ _) hp, rfl, rfl, rfl⟩
end
