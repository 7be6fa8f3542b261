/-! THE CODE OF A LAW RUNS AS IT MEANS -/
theorem L64_toInt {v : Int} (h : -9000000000000000000 ≤ v ∧ v ≤ 9000000000000000000) : (Int64.ofInt v).toInt = v := Int64.toInt_ofInt_of_le (by omega) (by omega)
theorem L64_eq {a b : Int} (ha : -9000000000000000000 ≤ a ∧ a ≤ 9000000000000000000) (hb : -9000000000000000000 ≤ b ∧ b ≤ 9000000000000000000) : Int64.ofInt a = Int64.ofInt b ↔ a = b := by rw [← Int64.toInt_inj, L64_toInt ha, L64_toInt hb]
theorem L64_lt {a b : Int} (ha : -9000000000000000000 ≤ a ∧ a ≤ 9000000000000000000) (hb : -9000000000000000000 ≤ b ∧ b ≤ 9000000000000000000) : Int64.ofInt a < Int64.ofInt b ↔ a < b := by rw [Int64.lt_iff_toInt_lt, L64_toInt ha, L64_toInt hb]
theorem L64_le {a b : Int} (ha : -9000000000000000000 ≤ a ∧ a ≤ 9000000000000000000) (hb : -9000000000000000000 ≤ b ∧ b ≤ 9000000000000000000) : Int64.ofInt a ≤ Int64.ofInt b ↔ a ≤ b := by rw [Int64.le_iff_toInt_le, L64_toInt ha, L64_toInt hb]
theorem i2l_L64 {x : Int} (h : rg x) : i2l x = Int64.ofInt x := by
  unfold i2l
  apply Int64.toInt_inj.mp
  rw [Int32.toInt_toInt64, rg_toInt h, L64_toInt ⟨by have := h.1; omega, by have := h.2; omega⟩]
theorem l2i_L64 {x : Int} (h : rg x) : l2i (Int64.ofInt x) = x := by
  unfold l2i
  have : (Int64.ofInt x).toInt32 = Int32.ofInt x := by
    apply Int32.toInt_inj.mp
    rw [Int64.toInt_toInt32, L64_toInt ⟨by have := h.1; omega, by have := h.2; omega⟩, Int32.toInt_ofInt]
  rw [this, rg_toInt h]
theorem L64_div {a b : Int} (ha : -1000000000 ≤ a ∧ a ≤ 1000000000) (hb : -1000000000 ≤ b ∧ b ≤ 1000000000) : Int64.ofInt a / Int64.ofInt b = Int64.ofInt (a.tdiv b) := by
  apply Int64.toInt_inj.mp
  rw [Int64.toInt_div, L64_toInt ⟨by omega, by omega⟩, L64_toInt ⟨by omega, by omega⟩, Int64.toInt_ofInt]
theorem ordNat {o a : Nat} (ho : o < 16) (ha : a < 100000000) : iand ((o : Int) + 16 * (a : Int)) 15 = o ∧ ishr ((o : Int) + 16 * (a : Int)) 4 = a := by
  have e : (o : Int) + 16 * (a : Int) = ((o + 16 * a : Nat) : Int) := by omega
  rw [e]
  constructor
  · have h := iand_nat (a := o + 16 * a) (b := 15) (by omega)
    have h2 : (o + 16 * a) &&& 15 = (o + 16 * a) % 16 := Nat.and_two_pow_sub_one_eq_mod _ 4
    rw [h2] at h
    rw [show ((15 : Int)) = ((15 : Nat) : Int) from rfl, h]
    omega
  · have h := ishr_nat (a := o + 16 * a) (k := 4) (by omega) (by omega)
    rw [show ((4 : Int)) = ((4 : Nat) : Int) from rfl, h]
    have : (o + 16 * a) / 2 ^ 4 = a := by omega
    rw [this]
def envOf (i : IM) : LEnv := fun x => i 42 (x : Int)
def bd (v : Int) : Prop := -1000000000 ≤ v ∧ v ≤ 1000000000
def envOK (i : IM) : Prop := ∀ x : Nat, x < 9 → bd (i 42 (x : Int))
/-- the pile below h, and all else, is as it was -/
def pileS (l l' : LM) (h : Nat) : Prop := (∀ a, a ≠ 43 → l' a = l a) ∧ ∀ k : Int, k < h → l' 43 k = l 43 k
theorem pileS_rf (l : LM) (h : Nat) : pileS l l h := ⟨fun _ _ => rfl, fun _ _ => rfl⟩
theorem pileS_tr {l l1 l2 : LM} {h h1 : Nat} (a : pileS l l1 h) (b : pileS l1 l2 h1) (hh : h ≤ h1) : pileS l l2 h := ⟨fun x hx => (b.1 x hx).trans (a.1 x hx), fun k hk => (b.2 k (by omega)).trans (a.2 k hk)⟩
theorem pileS_up (l : LM) {h h1 : Nat} (x : Int64) (hh : h ≤ h1) : pileS l (u2l l 43 h1 x) h := ⟨fun a ha => u2l_other l _ _ ha, fun k hk => if_neg (fun q => by omega)⟩
section
variable {w : Wd} {d : Nat} {P : Int → IM → LM → Prop} {i : IM} {l : LM} {cd : Nat}
theorem ru_num (hcd : CodeAt w cd) {t at_ h a : Nat} (ht : at_ < t) (htl : t ≤ w.2.2.1 cd) (hz : i cd (at_ : Int) = 16 * (a : Int)) (ha : a < 100000000) (hh : h < 64) (k : gI w d X_X0_runs P i (u2l l 43 h (Int64.ofInt a)) 6 [(0, vR (some 41)), (1, vR (some cd)), (3, vI t), (4, vI ((h : Int) + 1)), (5, vI ((at_ : Int) + 1))] []) : gI w d X_X0_runs P i l 6 [(0, vR (some 41)), (1, vR (some cd)), (3, vI t), (4, vI h), (5, vI at_)] [] := by
  have h31 := hcd.2
  obtain ⟨o1, o2⟩ := ordNat (o := 0) (a := a) (by omega) ha
  rw [show ((0 : Nat) : Int) + 16 * (a : Int) = 16 * (a : Int) by omega] at o1 o2
  refine s_X0_runs_6 _ _ _ hcd ⟨⟨by omega, by omega⟩, ⟨by omega, by omega⟩, fun _ => ⟨by omega, by omega⟩, fun q => by omega, fun _ => ⟨⟨by omega, by omega⟩, ?_, fun _ => ?_, ?_, ?_⟩⟩
  · intro q; exact absurd (by rw [hz, o1]; rfl) q
  · rw [hz, o1, o2]
    refine s_X0_runs_47 _ _ _ _ _ hcd ⟨⟨by omega, by omega⟩, fun _ => rg_lit rfl, fun _ q => absurd q (by decide), fun q => ?_, fun _ => ?_⟩
    · rcases q with q | q
      · omega
      · exact absurd q.1 (by decide)
    · refine s_X0_runs_72 _ _ _ _ _ hcd ⟨rg_lit rfl, fun q => absurd q (by decide), ⟨by omega, by omega⟩, ?_⟩
      rw [if_neg (by decide), i2l_L64 ⟨by omega, by omega⟩]
      exact k
  · intro q; exact absurd (by rw [hz, o1]; rfl) q.1
  · intro q; exact absurd (by rw [hz, o1]; rfl) q.1
theorem ru_word (hcd : CodeAt w cd) {t at_ h a : Nat} (ht : at_ < t) (htl : t ≤ w.2.2.1 cd) (hz : i cd (at_ : Int) = 1 + 16 * (a : Int)) (ha : a < 9) (hh : h < 64) (he : bd (i 42 (a : Int))) (k : gI w d X_X0_runs P i (u2l l 43 h (Int64.ofInt (i 42 (a : Int)))) 6 [(0, vR (some 41)), (1, vR (some cd)), (3, vI t), (4, vI ((h : Int) + 1)), (5, vI ((at_ : Int) + 1))] []) : gI w d X_X0_runs P i l 6 [(0, vR (some 41)), (1, vR (some cd)), (3, vI t), (4, vI h), (5, vI at_)] [] := by
  have h31 := hcd.2
  obtain ⟨o1, o2⟩ := ordNat (o := 1) (a := a) (by omega) (by omega)
  rw [show ((1 : Nat) : Int) + 16 * (a : Int) = 1 + 16 * (a : Int) by omega] at o1 o2
  have e1 : ((1 : Nat) : Int) = 1 := rfl
  rw [e1] at o1
  refine s_X0_runs_6 _ _ _ hcd ⟨⟨by omega, by omega⟩, ⟨by omega, by omega⟩, fun _ => ⟨by omega, by omega⟩, fun q => by omega, fun _ => ⟨⟨by omega, by omega⟩, ?_, fun _ => ?_, ?_, ?_⟩⟩
  · intro _ q; exact absurd (by rw [hz, o1]) q
  · rw [hz, o1, o2]
    refine s_X0_runs_47 _ _ _ _ _ hcd ⟨⟨by omega, by omega⟩, fun _ => rg_lit rfl, fun _ q => ⟨by omega, by omega⟩, fun q => by omega, fun _ => ?_⟩
    refine s_X0_runs_72 _ _ _ _ _ hcd ⟨rg_lit rfl, fun q => ⟨by omega, by omega⟩, ⟨by omega, by omega⟩, ?_⟩
    rw [if_pos rfl, i2l_L64 ⟨by have := he.1; omega, by have := he.2; omega⟩]
    exact k
  · intro q; exact absurd (by rw [hz, o1]) q.2.1
  · intro q; exact absurd (by rw [hz, o1]) q.2.1
theorem ru_not (hcd : CodeAt w cd) {t at_ h : Nat} (ht : at_ < t) (htl : t ≤ w.2.2.1 cd) (hz : i cd (at_ : Int) = 9) (hh : h < 64) (k : gI w d X_X0_runs P i (u2l l 43 h (1 - l 43 h)) 6 [(0, vR (some 41)), (1, vR (some cd)), (3, vI t), (4, vI ((h : Int) + 1)), (5, vI ((at_ : Int) + 1))] []) : gI w d X_X0_runs P i l 6 [(0, vR (some 41)), (1, vR (some cd)), (3, vI t), (4, vI ((h : Int) + 1)), (5, vI at_)] [] := by
  have h31 := hcd.2
  obtain ⟨o1, o2⟩ := ordNat (o := 9) (a := 0) (by omega) (by omega)
  rw [show ((9 : Nat) : Int) + 16 * ((0 : Nat) : Int) = 9 by omega, show ((9 : Nat) : Int) = 9 from rfl] at o1
  refine s_X0_runs_6 _ _ _ hcd ⟨⟨by omega, by omega⟩, ⟨by omega, by omega⟩, fun _ => ⟨by omega, by omega⟩, fun q => by omega, fun _ => ⟨⟨by omega, by omega⟩, fun _ _ _ => ⟨by omega, by omega⟩, ?_, ?_, ?_⟩⟩
  · intro q; rw [hz, o1] at q; omega
  · intro q; rw [hz, o1] at q; omega
  · intro q
    rw [show (h : Int) + 1 - 1 = h by omega]
    exact ⟨⟨by omega, by omega⟩, k⟩
theorem ru_jump (hcd : CodeAt w cd) {t at_ h a : Nat} {isOr : Bool} (ht : at_ < t) (htl : t ≤ w.2.2.1 cd) (hz : i cd (at_ : Int) = jOrd isOr + 16 * (a : Int)) (ha : a < 100000000) (hat : at_ < a) (hh : h < 64) {v : Int} (hv : bd v) (hl : l 43 h = Int64.ofInt v)
    (k1 : (v ≠ 0 ↔ isOr = true) → gI w d X_X0_runs P i l 6 [(0, vR (some 41)), (1, vR (some cd)), (3, vI t), (4, vI ((h : Int) + 1)), (5, vI a)] [])
    (k2 : ¬ (v ≠ 0 ↔ isOr = true) → gI w d X_X0_runs P i l 6 [(0, vR (some 41)), (1, vR (some cd)), (3, vI t), (4, vI h), (5, vI ((at_ : Int) + 1))] []) : gI w d X_X0_runs P i l 6 [(0, vR (some 41)), (1, vR (some cd)), (3, vI t), (4, vI ((h : Int) + 1)), (5, vI at_)] [] := by
  have h31 := hcd.2
  have hb := hv
  unfold bd at hb
  have hv0 : l 43 h = 0 ↔ v = 0 := by
    rw [hl]
    exact L64_eq (b := 0) ⟨by omega, by omega⟩ ⟨by omega, by omega⟩
  obtain ⟨o, ho, he, hoi⟩ : ∃ o : Nat, o < 16 ∧ (i cd (at_ : Int) = (o : Int) + 16 * (a : Int)) ∧ ((o = 10 ∧ isOr = true) ∨ (o = 11 ∧ isOr = false)) := by
    cases isOr
    · exact ⟨11, by omega, hz, Or.inr ⟨rfl, rfl⟩⟩
    · exact ⟨10, by omega, hz, Or.inl ⟨rfl, rfl⟩⟩
  obtain ⟨o1, o2⟩ := ordNat (o := o) (a := a) ho ha
  rw [← he] at o1 o2
  refine s_X0_runs_6 _ _ _ hcd ⟨⟨by omega, by omega⟩, ⟨by omega, by omega⟩, fun _ => ⟨by omega, by omega⟩, fun q => by omega, fun _ => ⟨⟨by omega, by omega⟩, fun _ _ _ => ⟨by omega, by omega⟩, ?_, fun _ => ?_, ?_⟩⟩
  · intro q; rw [o1] at q; omega
  · rw [o1, o2]
    refine s_X0_runs_140 _ _ _ _ _ hcd ⟨⟨by omega, by omega⟩, fun _ => ⟨by omega, by omega⟩, fun q => by omega, fun _ => ?_⟩
    rw [show (h : Int) + 1 - 1 = h by omega]
    refine ⟨⟨by omega, by omega⟩, ⟨by omega, by omega⟩, fun q => ⟨⟨by omega, by omega⟩, ⟨by omega, by omega⟩, ?_⟩, fun q => ?_⟩
    · rw [if_neg (by omega), show (a : Int) - 1 + 1 = a by omega]
      refine k1 ?_
      rcases hoi with ⟨rfl, rfl⟩ | ⟨rfl, rfl⟩
      · rw [bI_t (p := ((10 : Nat) : Int) = 10) rfl] at q
        constructor
        · intro _; rfl
        · intro _ e
          rw [bI_f (fun z => z (hv0.mpr e))] at q
          cases q
      · rw [bI_f (p := ((11 : Nat) : Int) = 10) (by decide)] at q
        constructor
        · intro e
          rw [bI_t (p := ¬ l 43 (h : Int) = 0) (fun z => e (hv0.mp z))] at q
          cases q
        · intro e; cases e
    · rw [show (h : Int) + 1 + -1 = h by omega]
      refine k2 (fun e => q ?_)
      rcases hoi with ⟨rfl, rfl⟩ | ⟨rfl, rfl⟩
      · rw [bI_t (p := ((10 : Nat) : Int) = 10) rfl, bI_t (p := ¬ l 43 (h : Int) = 0) (fun z => (e.mpr rfl) (hv0.mp z))]
      · have : v = 0 := Decidable.of_not_not fun z => by cases e.mp z
        rw [bI_f (p := ((11 : Nat) : Int) = 10) (by decide), bI_f (fun z => z (hv0.mpr this))]
  · intro q; rw [o1] at q; omega
/-- two numbers are taken, one is put -/
def opOK (o : Nat) (g : Int → Int → Option Int) : Prop := (o = 2 ∧ g = fun a b => bnd (a + b)) ∨ (o = 3 ∧ g = fun a b => bnd (a - b)) ∨ (o = 4 ∧ g = fun a b => bnd (a * b)) ∨ (o = 5 ∧ g = fun a b => if b = 0 then none else bnd (a.tdiv b)) ∨ (o = 6 ∧ g = fun a b => some (if a < b then 1 else 0)) ∨ (o = 7 ∧ g = fun a b => some (if b < a then 1 else 0)) ∨ (o = 8 ∧ g = fun a b => some (if a = b then 1 else 0))
theorem ru_end (hcd : CodeAt w cd) {t at_ h : Nat} {v : Int} (hh : h < 63) (hb : -9000000000000000000 ≤ v ∧ v ≤ 9000000000000000000) (k0 : ¬ bd v → P 0 i l) (k1 : bd v → gI w d X_X0_runs P i (u2l l 43 h (Int64.ofInt v)) 6 [(0, vR (some 41)), (1, vR (some cd)), (3, vI t), (4, vI ((h : Int) + 1)), (5, vI ((at_ : Int) + 1))] []) : gI w d X_X0_runs P i l 398 [(0, vR (some 41)), (1, vR (some cd)), (3, vI t), (4, vI ((h : Int) + 1)), (5, vI at_), (10, vL (Int64.ofInt v))] [] := by
  have e1 : (1000000000 : Int64) < Int64.ofInt v ↔ 1000000000 < v := L64_lt (a := 1000000000) ⟨by omega, by omega⟩ hb
  have c2 : (-1000000000 : Int64) = Int64.ofInt (-1000000000) := by decide +kernel
  have e2 : (-1000000000 : Int64) ≤ Int64.ofInt v ↔ -1000000000 ≤ v := by rw [c2]; exact L64_le (a := -1000000000) ⟨by omega, by omega⟩ hb
  refine s_X0_runs_398 _ _ _ _ hcd ⟨fun q => k0 (fun z => ?_), fun q => ?_⟩
  · rw [e1, e2] at q
    unfold bd at z
    omega
  · rw [e1, e2] at q
    rw [show (h : Int) + 1 - 1 = h by omega]
    exact ⟨⟨by omega, by omega⟩, k1 ⟨by omega, by omega⟩⟩
theorem ru_bin (hcd : CodeAt w cd) {t at_ h o : Nat} {g : Int → Int → Option Int} (hg : opOK o g) (ht : at_ < t) (htl : t ≤ w.2.2.1 cd) (hz : i cd (at_ : Int) = o) (hh : h < 63) {a b : Int} (ha : bd a) (hb : bd b) (hla : l 43 h = Int64.ofInt a) (hlb : l 43 ((h : Int) + 1) = Int64.ofInt b)
    (k0 : g a b = none → P 0 i l) (k1 : ∀ v, g a b = some v → bd v → gI w d X_X0_runs P i (u2l l 43 h (Int64.ofInt v)) 6 [(0, vR (some 41)), (1, vR (some cd)), (3, vI t), (4, vI ((h : Int) + 1)), (5, vI ((at_ : Int) + 1))] []) : gI w d X_X0_runs P i l 6 [(0, vR (some 41)), (1, vR (some cd)), (3, vI t), (4, vI ((h : Int) + 2)), (5, vI at_)] [] := by
  have h31 := hcd.2
  have ho : 2 ≤ o ∧ o ≤ 8 := by unfold opOK at hg; omega
  obtain ⟨o1, o2⟩ := ordNat (o := o) (a := 0) (by omega) (by omega)
  rw [show (o : Int) + 16 * ((0 : Nat) : Int) = o by omega, ← hz] at o1 o2
  have ba := ha
  have bb := hb
  unfold bd at ba bb
  have hb0 : Int64.ofInt b = 0 ↔ b = 0 := L64_eq (b := 0) ⟨by omega, by omega⟩ ⟨by omega, by omega⟩
  refine s_X0_runs_6 _ _ _ hcd ⟨⟨by omega, by omega⟩, ⟨by omega, by omega⟩, fun _ => ⟨by omega, by omega⟩, fun q => by omega, fun _ => ⟨⟨by omega, by omega⟩, fun _ _ _ => ⟨by omega, by omega⟩, ?_, fun _ => ?_, ?_⟩⟩
  · intro q; rw [o1] at q; omega
  · rw [o1]
    refine s_X0_runs_140 _ _ _ _ _ hcd ⟨⟨by omega, by omega⟩, fun q => absurd (by omega) q, fun _ => ?_, fun q => absurd (Or.inl (by omega)) q⟩
    refine s_X0_runs_213 _ _ _ _ hcd ⟨⟨by omega, by omega⟩, fun q => by omega, fun _ => ?_⟩
    rw [show (h : Int) + 2 + -1 = h + 1 by omega, show (h : Int) + 1 - 1 = h by omega, hla, hlb, hb0]
    refine ⟨⟨by omega, by omega⟩, ⟨by omega, by omega⟩, ⟨by omega, by omega⟩, fun q => k0 ?_, fun q => ?_⟩
    · unfold opOK at hg
      rcases hg with ⟨rfl, -⟩ | ⟨rfl, -⟩ | ⟨rfl, -⟩ | ⟨-, rfl⟩ | ⟨rfl, -⟩ | ⟨rfl, -⟩ | ⟨rfl, -⟩
      · omega
      · omega
      · omega
      · exact if_pos q.2
      · omega
      · omega
      · omega
    · have fin : ∀ v : Int, (-9000000000000000000 ≤ v ∧ v ≤ 9000000000000000000) → g a b = bnd v → gI w d X_X0_runs P i l 398 [(0, vR (some 41)), (1, vR (some cd)), (3, vI t), (4, vI ((h : Int) + 1)), (5, vI at_), (10, vL (Int64.ofInt v))] [] := by
        intro v hv e
        refine ru_end hcd hh hv (fun z => k0 ?_) (fun z => k1 v ?_ z)
        · rw [e]; exact if_neg z
        · rw [e]; exact if_pos z
      have mul : -9000000000000000000 ≤ a * b ∧ a * b ≤ 9000000000000000000 := by
        have h1 : (a * b).natAbs ≤ 1000000000 * 1000000000 := by
          rw [Int.natAbs_mul]
          exact Nat.mul_le_mul (by omega) (by omega)
        omega
      have dv : -9000000000000000000 ≤ a.tdiv b ∧ a.tdiv b ≤ 9000000000000000000 := by
        have h1 := Int.natAbs_tdiv_le_natAbs a b
        omega
      refine s_X0_runs_257 _ _ _ _ _ _ hcd ⟨⟨by omega, by omega⟩, fun z => ?_, fun z => ?_, fun z => ?_, fun z => ?_, fun z => ⟨fun y => y, ?_⟩, fun z => ?_, fun z => ?_⟩
      · have hc : (if Int64.ofInt a = Int64.ofInt b then (1 : Int64) else 0) = Int64.ofInt (if a = b then 1 else 0) := by
          by_cases e : a = b
          · rw [if_pos e, if_pos (by rw [e])]; rfl
          · rw [if_neg e, if_neg (fun q => e ((L64_eq ⟨by omega, by omega⟩ ⟨by omega, by omega⟩).mp q))]; rfl
        rw [hc]
        refine fin _ (by split <;> omega) ?_
        unfold opOK at hg
        rcases hg with ⟨rfl, -⟩ | ⟨rfl, -⟩ | ⟨rfl, -⟩ | ⟨rfl, -⟩ | ⟨rfl, -⟩ | ⟨rfl, -⟩ | ⟨-, rfl⟩
        · omega
        · omega
        · omega
        · omega
        · omega
        · omega
        · exact (if_pos (by split <;> omega)).symm
      · rw [← Int64.ofInt_add]
        refine fin _ (by omega) ?_
        unfold opOK at hg
        rcases hg with ⟨-, rfl⟩ | ⟨rfl, -⟩ | ⟨rfl, -⟩ | ⟨rfl, -⟩ | ⟨rfl, -⟩ | ⟨rfl, -⟩ | ⟨rfl, -⟩
        · rfl
        all_goals omega
      · rw [← Int64.ofInt_sub]
        refine fin _ (by omega) ?_
        unfold opOK at hg
        rcases hg with ⟨rfl, -⟩ | ⟨-, rfl⟩ | ⟨rfl, -⟩ | ⟨rfl, -⟩ | ⟨rfl, -⟩ | ⟨rfl, -⟩ | ⟨rfl, -⟩
        · omega
        · rfl
        all_goals omega
      · rw [← Int64.ofInt_mul]
        refine fin _ mul ?_
        unfold opOK at hg
        rcases hg with ⟨rfl, -⟩ | ⟨rfl, -⟩ | ⟨-, rfl⟩ | ⟨rfl, -⟩ | ⟨rfl, -⟩ | ⟨rfl, -⟩ | ⟨rfl, -⟩
        · omega
        · omega
        · rfl
        all_goals omega
      · have hbn : ¬ b = 0 := fun e => q ⟨z, e⟩
        have hbz : ¬ Int64.ofInt b = 0 := fun e => hbn (hb0.mp e)
        rw [if_neg hbz, L64_div ⟨by omega, by omega⟩ ⟨by omega, by omega⟩]
        refine fin _ dv ?_
        unfold opOK at hg
        rcases hg with ⟨rfl, -⟩ | ⟨rfl, -⟩ | ⟨rfl, -⟩ | ⟨-, rfl⟩ | ⟨rfl, -⟩ | ⟨rfl, -⟩ | ⟨rfl, -⟩
        · omega
        · omega
        · omega
        · exact if_neg hbn
        all_goals omega
      · have hc : (if Int64.ofInt b ≤ Int64.ofInt a then (0 : Int64) else 1) = Int64.ofInt (if a < b then 1 else 0) := by
          by_cases e : b ≤ a
          · rw [if_pos ((L64_le ⟨by omega, by omega⟩ ⟨by omega, by omega⟩).mpr e), if_neg (by omega)]; rfl
          · rw [if_neg (fun q => e ((L64_le ⟨by omega, by omega⟩ ⟨by omega, by omega⟩).mp q)), if_pos (by omega)]; rfl
        rw [hc]
        refine fin _ (by split <;> omega) ?_
        unfold opOK at hg
        rcases hg with ⟨rfl, -⟩ | ⟨rfl, -⟩ | ⟨rfl, -⟩ | ⟨rfl, -⟩ | ⟨-, rfl⟩ | ⟨rfl, -⟩ | ⟨rfl, -⟩
        · omega
        · omega
        · omega
        · omega
        · exact (if_pos (by split <;> omega)).symm
        all_goals omega
      · have hc : (if Int64.ofInt a ≤ Int64.ofInt b then (0 : Int64) else 1) = Int64.ofInt (if b < a then 1 else 0) := by
          by_cases e : a ≤ b
          · rw [if_pos ((L64_le ⟨by omega, by omega⟩ ⟨by omega, by omega⟩).mpr e), if_neg (by omega)]; rfl
          · rw [if_neg (fun q => e ((L64_le ⟨by omega, by omega⟩ ⟨by omega, by omega⟩).mp q)), if_pos (by omega)]; rfl
        rw [hc]
        refine fin _ (by split <;> omega) ?_
        unfold opOK at hg
        rcases hg with ⟨rfl, -⟩ | ⟨rfl, -⟩ | ⟨rfl, -⟩ | ⟨rfl, -⟩ | ⟨rfl, -⟩ | ⟨-, rfl⟩ | ⟨rfl, -⟩
        · omega
        · omega
        · omega
        · omega
        · omega
        · exact (if_pos (by split <;> omega)).symm
        all_goals omega
  · intro q; rw [o1] at q; omega
end
