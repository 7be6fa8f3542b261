/-! CANVAS: the choices of a THING, the whole; rows that are dropped -/
section
variable {w : Wd} {d : Nat} {i : IM} {l : LM}
theorem bits8 {m c : Nat} (hm : m < 8) (hc : c < 3) : iand (ishr (m : Int) (c : Int)) 1 = 1 ↔ m.testBit c = true := by
  rw [ibit_nat (by omega) (by omega), bit_div]
  by_cases z : m.testBit c = true
  · rw [if_pos z]; simp [z]
  · rw [if_neg z]
    constructor
    · intro h; exact absurd h (by decide)
    · intro h; exact absurd h z
theorem lt3 {c : Nat} (h : c < 3) : c = 0 ∨ c = 1 ∨ c = 2 := by omega
theorem ior12 : ior 1 2 = 3 := by decide +kernel
theorem ior02 : ior 0 2 = 2 := by decide +kernel
theorem ior14 : ior 1 4 = 5 := by decide +kernel
theorem ior34 : ior 3 4 = 7 := by decide +kernel
theorem sp_X1_layChoices {P : IM → LM → Prop} (hd : 6 ≤ d) {cs : List Cla} (hx : Cx w i cs) {t : Nat} (ht : (t : Int) < i 101 307) (hP : ∀ i' l', lcf t i i' → psc l l' → (∀ c : Nat, c < 3 → (0 ≤ i' 52 (t : Int) ∧ i' 52 (t : Int) < 8) ∧ (iand (ishr (i' 52 (t : Int)) (c : Int)) 1 = 1 ↔ mMay i (t : Int) (c : Int) = true)) → chS i i' cs t 3 → P i' l') : cVd w d X_X1_layChoices [vR (some 51), vI (t : Int)] i l P := by
  obtain ⟨d, rfl, hd1⟩ := d_pos hd
  have h307 := hx.2.1.1.1
  have htr := hx.2.1.2.1 (t : Int) (by omega) (by omega)
  have e1 : i 8 ((t : Int) * 8 + 1) = i 101 (8 * (t : Int) + 1) := TW_trait hx.1 ⟨by omega, by omega⟩ (by omega)
  have e2 : i 8 ((t : Int) * 8 + 2) = i 101 (8 * (t : Int) + 2) := TW_trait hx.1 ⟨by omega, by omega⟩ (by omega)
  have e5 : i 8 ((t : Int) * 8 + 5) = i 101 (8 * (t : Int) + 5) := TW_trait hx.1 ⟨by omega, by omega⟩ (by omega)
  have go : ∀ m : Nat, m < 8 → (∀ c : Nat, c < 3 → (m.testBit c = true ↔ mMay i (t : Int) (c : Int) = true)) → gV w d X_X1_layChoices P (u2 i 52 (t : Int) (m : Int)) l 98 [(0, vR (some 51)), (1, vI (t : Int)), (2, vI (i 101 (8 * (t : Int) + 1))), (3, vI (i 101 (8 * (t : Int) + 2))), (5, vI (m : Int)), (6, vI 0)] [] := by
    intro m hm hb
    have hmr : ∀ c : Nat, c < 3 → (iand (ishr (m : Int) (c : Int)) 1 = 1 ↔ mMay i (t : Int) (c : Int) = true) := fun c hc => (bits8 hm hc).trans (hb c hc)
    refine lp_ch (l0 := l) hd1 hx ht hmr (fun i' l' a1 a2 a3 a4 => hP i' l' a1 a2 (fun c hc => by rw [a3]; exact ⟨⟨by omega, by omega⟩, hmr c hc⟩) a4) 3 0 rfl _ l ⟨fun a _ _ h3 _ _ _ _ => u2_other _ _ _ h3, fun x _ => ⟨by rw [u2_other _ _ _ (by decide)], by rw [u2_other _ _ _ (by decide)], by rw [u2_other _ _ _ (by decide)], by rw [u2_other _ _ _ (by decide)]⟩, fun x hx => if_neg (fun z => hx z.2)⟩ (psc_rf l) (u2_self ..) (fun c hc => by omega)
  refine e_X1_layChoices (s_X1_layChoices _ (by omega) ⟨⟨by omega, by omega⟩, ⟨by omega, by omega⟩, ⟨by omega, by omega⟩, ?_⟩)
  rw [e1, e2, e5]
  have hrg : rg (bI (i 101 (8 * (t : Int) + 5) = 1)) := bI_rg _
  refine ⟨fun z => s_X1_layChoices_50 _ _ _ _ ⟨⟨by omega, by omega⟩, ⟨by omega, by omega⟩, fun ew => ?_, fun ew => ?_⟩, fun z => ⟨fun ew => absurd (Or.inl ew) z, fun ew => ?_⟩⟩
  · -- as it is wished
    refine s_X1_layChoices_68 _ _ _ _ _ ⟨⟨by omega, by omega⟩, fun _ => ⟨by omega, by omega⟩, fun _ _ => hrg, fun y => ⟨⟨by omega, by omega⟩, rg_lit rfl, ?_⟩, fun y => ⟨⟨by omega, by omega⟩, ?_⟩⟩
    · refine go 1 (by decide) (fun c hc => ?_)
      rcases lt3 hc with e | e | e <;> subst e <;> unfold mMay <;> by_cases em : i 101 (8 * (t : Int) + 5) = 1
      · simp [em, ew]
      · simp [em]
      · simp [em, ew]; decide
      · simp [em, ew]; decide
      · simp [em, ew]; decide
      · rw [if_neg em]
        rcases y with y | y | y
        · simp [y]; decide
        · simp [y]; decide
        · rw [bI_eq] at y; exact absurd em y
    · have em : ¬ i 101 (8 * (t : Int) + 5) = 1 := fun q => y (Or.inr (Or.inr (by rw [bI_t q]; decide)))
      have n1 : ¬ i 101 (8 * (t : Int) + 1) = 0 := fun q => y (Or.inl q)
      have n2 : ¬ i 101 (8 * (t : Int) + 2) = 0 := fun q => y (Or.inr (Or.inl q))
      rw [ior14]
      refine go 5 (by decide) (fun c hc => ?_)
      rcases lt3 hc with e | e | e <;> subst e <;> unfold mMay <;> rw [if_neg em]
      · simp
      · simp [ew]; decide
      · simp [n1, n2]; decide
  · have em : ¬ i 101 (8 * (t : Int) + 5) = 1 := by
      rcases z with z | z
      · exact absurd z ew
      · exact z
    refine s_X1_layChoices_68 _ _ _ _ _ ⟨⟨by omega, by omega⟩, fun _ => ⟨by omega, by omega⟩, fun _ _ => hrg, fun y => ⟨⟨by omega, by omega⟩, by rw [ior12]; exact rg_lit rfl, ?_⟩, fun y => ⟨⟨by omega, by omega⟩, ?_⟩⟩
    · rw [ior12]
      refine go 3 (by decide) (fun c hc => ?_)
      rcases lt3 hc with e | e | e <;> subst e <;> unfold mMay <;> rw [if_neg em]
      · simp
      · simp [ew]; decide
      · rcases y with y | y | y
        · simp [y]; decide
        · simp [y]; decide
        · rw [bI_eq] at y; exact absurd em y
    · have n1 : ¬ i 101 (8 * (t : Int) + 1) = 0 := fun q => y (Or.inl q)
      have n2 : ¬ i 101 (8 * (t : Int) + 2) = 0 := fun q => y (Or.inr (Or.inl q))
      rw [ior12, ior34]
      refine go 7 (by decide) (fun c hc => ?_)
      rcases lt3 hc with e | e | e <;> subst e <;> unfold mMay <;> rw [if_neg em]
      · simp
      · simp [ew]; decide
      · simp [n1, n2]; decide
  · have em : i 101 (8 * (t : Int) + 5) = 1 := by
      by_cases q : i 101 (8 * (t : Int) + 5) = 1
      · exact q
      · exact absurd (Or.inr q) z
    refine s_X1_layChoices_68 _ _ _ _ _ ⟨⟨by omega, by omega⟩, fun _ => ⟨by omega, by omega⟩, fun _ _ => hrg, fun y => ⟨⟨by omega, by omega⟩, by rw [ior02]; exact rg_lit rfl, ?_⟩, fun y => absurd (Or.inr (Or.inr (by rw [bI_t em]; decide))) y⟩
    rw [ior02]
    refine go 2 (by decide) (fun c hc => ?_)
    rcases lt3 hc with e | e | e <;> subst e <;> unfold mMay <;> rw [if_pos em, if_neg ew]
    · simp
    · simp; decide
    · simp; decide
end
