/-! the search finds the first of the cheapest -/
section
def odM1 (C : PC) (pr : Nat → Nat → Int) (Z : RW) (F : Int64) (t c : Nat) (o : Nat → Nat) (op x : Nat) : Bool := C.1 t x && ((decide (pr t x < pr t c) || (decide (pr t x = pr t c) && decide (x < c))) && nm Z t x c o op (matM F))
def odM (C : PC) (pr : Nat → Nat → Int) (Z : RW) (F : Int64) (t c : Nat) (o : Nat → Nat) (op : Nat) : Bool := odM1 C pr Z F t c o op 0 || (odM1 C pr Z F t c o op 1 || odM1 C pr Z F t c o op 2)
theorem odM1_iff {C : PC} {pr : Nat → Nat → Int} {Z : RW} {F : Int64} {t c : Nat} {o : Nat → Nat} {op x : Nat} : odM1 C pr Z F t c o op x = true ↔ C.1 t x = true ∧ (pr t x < pr t c ∨ (pr t x = pr t c ∧ x < c)) ∧ nm Z t x c o op (matM F) = true := by
  unfold odM1
  simp only [Bool.and_eq_true, Bool.or_eq_true, decide_eq_true_iff]
theorem odM_iff {C : PC} {pr : Nat → Nat → Int} {Z : RW} {F : Int64} {t c : Nat} {o : Nat → Nat} {op : Nat} : odM C pr Z F t c o op = true ↔ ∃ x, x < 3 ∧ odM1 C pr Z F t c o op x = true := by
  unfold odM
  rw [Bool.or_eq_true, Bool.or_eq_true]
  constructor
  · rintro (h | h | h)
    · exact ⟨0, by omega, h⟩
    · exact ⟨1, by omega, h⟩
    · exact ⟨2, by omega, h⟩
  · rintro ⟨x, hx, h⟩
    have : x = 0 ∨ x = 1 ∨ x = 2 := by omega
    rcases this with e | e | e <;> subst e
    · exact Or.inl h
    · exact Or.inr (Or.inl h)
    · exact Or.inr (Or.inr h)
theorem odM_tr {C : PC} {pr : Nat → Nat → Int} {Z : RW} {F : Int64} {t a b c : Nat} {o : Nat → Nat} {op : Nat} (hM : ∀ v, v < 8 → Bt (matM F) v = 255 ∨ Bt (matM F) v = 0) (h1 : odM1 C pr Z F t b o op a = true) (h2 : odM1 C pr Z F t c o op b = true) : odM1 C pr Z F t c o op a = true := by
  rw [odM1_iff] at h1 h2 ⊢
  refine ⟨h1.1, ?_, nm_tr hM h1.2.2 h2.2.2⟩
  rcases h1.2.1 with p | p <;> rcases h2.2.1 with q | q
  · left; omega
  · left; omega
  · left; omega
  · right; omega
theorem odM_ex {C : PC} {pr : Nat → Nat → Int} {Z : RW} {F : Int64} {t c : Nat} {o : Nat → Nat} {op : Nat} (hM : ∀ v, v < 8 → Bt (matM F) v = 255 ∨ Bt (matM F) v = 0) (hc : c < 3) (hm : C.1 t c = true) : ∃ x, x < 3 ∧ C.1 t x = true ∧ odM C pr Z F t x o op = false ∧ (x = c ∨ ((pr t x < pr t c ∨ (pr t x = pr t c ∧ x < c)) ∧ nm Z t x c o op (matM F) = true)) := by
  have hne : ∀ {x y}, odM1 C pr Z F t y o op x = true → x ≠ y := fun h e => by subst e; have := (odM1_iff.mp h).2.1; omega
  have hm2 : ∀ {x y}, odM1 C pr Z F t y o op x = true → C.1 t x = true := fun h => (odM1_iff.mp h).1
  cases h0 : odM C pr Z F t c o op with
  | false => exact ⟨c, hc, hm, h0, Or.inl rfl⟩
  | true =>
    obtain ⟨x1, hx1, d1⟩ := odM_iff.mp h0
    cases h1 : odM C pr Z F t x1 o op with
    | false => exact ⟨x1, hx1, hm2 d1, h1, Or.inr (odM1_iff.mp d1).2⟩
    | true =>
      obtain ⟨x2, hx2, d2⟩ := odM_iff.mp h1
      have d20 := odM_tr hM d2 d1
      cases h2 : odM C pr Z F t x2 o op with
      | false => exact ⟨x2, hx2, hm2 d2, h2, Or.inr (odM1_iff.mp d20).2⟩
      | true =>
        obtain ⟨x3, hx3, d3⟩ := odM_iff.mp h2
        have a1 := hne d1
        have a2 := hne d2
        have a3 := hne d3
        have a4 := hne d20
        have a5 := hne (odM_tr hM d3 d2)
        have a6 := hne (odM_tr hM d3 d20)
        omega
abbrev kpM (C : PC) (pr : Nat → Nat → Int) (t : Nat) (o : Nat → Nat) : Nat → Nat := fun j => if j < t then o j else (cpG C.1 pr j 3).2
/-- as the program searches -/
def exM (C : PC) (pr : Nat → Nat → Int) (Z : RW) (sh : Int64 → Int) : Nat → Nat → (Nat → Nat) → Int64 → Nat → MS → MS
  | 0, _, _, _, _, s => s
  | r + 1, t, o, F, op, s => (fun (f : Nat → MS → MS) => f 2 (f 1 (f 0 s))) (fun c s =>
      if C.1 t c = false ∨ s.1 ≤ vs pr o t + pr t c + ch C.1 pr r (t + 1) then s
      else if odM C pr Z F t c o op = true then s
      else if vs pr o t + pr t c + ch C.1 pr r (t + 1) + sh (F ||| lkM Z t c o op Z.1) < s.1 then
        (if soM Z (t + 1) (upN o t c) (F ||| lkM Z t c o op Z.1) op Z.1 = 0 then (vs pr o t + pr t c + ch C.1 pr r (t + 1) + sh (F ||| lkM Z t c o op Z.1), F ||| lkM Z t c o op Z.1, kpM C pr (t + 1) (upN o t c))
         else exM C pr Z sh r (t + 1) (upN o t c) (F ||| lkM Z t c o op Z.1) (soM Z (t + 1) (upN o t c) (F ||| lkM Z t c o op Z.1) op Z.1) s)
      else s)
abbrev exMc (C : PC) (pr : Nat → Nat → Int) (Z : RW) (sh : Int64 → Int) (r t : Nat) (o : Nat → Nat) (F : Int64) (op c : Nat) (s : MS) : MS :=
      if C.1 t c = false ∨ s.1 ≤ vs pr o t + pr t c + ch C.1 pr r (t + 1) then s
      else if odM C pr Z F t c o op = true then s
      else if vs pr o t + pr t c + ch C.1 pr r (t + 1) + sh (F ||| lkM Z t c o op Z.1) < s.1 then
        (if soM Z (t + 1) (upN o t c) (F ||| lkM Z t c o op Z.1) op Z.1 = 0 then (vs pr o t + pr t c + ch C.1 pr r (t + 1) + sh (F ||| lkM Z t c o op Z.1), F ||| lkM Z t c o op Z.1, kpM C pr (t + 1) (upN o t c))
         else exM C pr Z sh r (t + 1) (upN o t c) (F ||| lkM Z t c o op Z.1) (soM Z (t + 1) (upN o t c) (F ||| lkM Z t c o op Z.1) op Z.1) s)
      else s
theorem exM_s (C : PC) (pr : Nat → Nat → Int) (Z : RW) (sh : Int64 → Int) (r t : Nat) (o : Nat → Nat) (F : Int64) (op : Nat) (s : MS) : exM C pr Z sh (r + 1) t o F op s = exMc C pr Z sh r t o F op 2 (exMc C pr Z sh r t o F op 1 (exMc C pr Z sh r t o F op 0 s)) := rfl
abbrev tM (C : PC) (pr : Nat → Nat → Int) (Z : RW) (sh : Int64 → Int) (n : Nat) : MT := (fun o => vs pr o n + sh (FLs Z n o), FLs Z n, kpM C pr n)
def shOK (sh : Int64 → Int) : Prop := (∀ F, 0 ≤ sh F) ∧ ∀ F G : Int64, b128 F → b128 G → (∀ v, v < 8 → Bt F v = 128 → Bt G v = 128) → sh F ≤ sh G
/-- what has failed fails; rows that are not open add nothing -/
def inM (C : PC) (Z : RW) (n t : Nat) (o : Nat → Nat) (F : Int64) (op : Nat) : Prop := b128 F ∧ (∀ o', ext C.1 n t o o' → ∀ v, v < 8 → Bt F v = 128 → Bt (FLs Z n o') v = 128) ∧ ∀ q, q < Z.1 → op.testBit q = false → ∀ o', ext C.1 n t o o' → ∀ v, v < 8 → 128 ≤ cntB (Bt (vw Z o' q n) v) 8 + Bt (Z.2.2.1 q) v → Bt F v = 128
theorem inM_up {C : PC} {Z : RW} {n t c : Nat} (hZ : RWok C Z n) (ht : t < n) (hm : C.1 t c = true) (hc : c < 3) {o : Nat → Nat} {F : Int64} {op : Nat} (h : inM C Z n t o F op) : inM C Z n (t + 1) (upN o t c) (F ||| lkM Z t c o op Z.1) (soM Z (t + 1) (upN o t c) (F ||| lkM Z t c o op Z.1) op Z.1) := by
  have hb := b128_or h.1 (lkM_b Z t c o op Z.1)
  refine ⟨hb, fun o' he v hv hF => ?_, fun q hq hs o' he v hv hov => ?_⟩
  · rw [or128 h.1 (lkM_b Z t c o op Z.1) hv] at hF
    rcases hF with hF | hF
    · exact h.2.1 o' (ext_up hm hc he) v hv hF
    · obtain ⟨q, q1, q2, q3⟩ := (lkM_iff hZ t c o op hv Z.1 (Nat.le_refl _)).mp hF
      refine (flGo_iff hZ o' hv Z.1 (Nat.le_refl _)).mpr ⟨q, q1, ?_⟩
      rw [← vw_up Z o q t c] at q3
      have hg := sub_cnt (vw_grow (Z := Z) he (q := q) (v := v) (n - (t + 1)) (by omega)) 8
      rw [show t + 1 + (n - (t + 1)) = n by omega] at hg
      omega
  · by_cases a : op.testBit q = true
    · have h1 : mfL Z (t + 1) q (vw Z (upN o t c) q (t + 1)) (ldL Z (vw Z (upN o t c) q (t + 1)) q) (Z.2.2.1 q) &&& ((F ||| lkM Z t c o op Z.1) ^^^ (-1)) = 0 := by
        by_cases z : mfL Z (t + 1) q (vw Z (upN o t c) q (t + 1)) (ldL Z (vw Z (upN o t c) q (t + 1)) q) (Z.2.2.1 q) &&& ((F ||| lkM Z t c o op Z.1) ^^^ (-1)) = 0
        · exact z
        · have := (soM_bit Z (t + 1) (upN o t c) (F ||| lkM Z t c o op Z.1) op Z.1 q hq).mpr ⟨a, z⟩
          rw [hs] at this; cases this
      rcases hb v hv with e | e
      · have h2 := (Bt_0.mp h1) v hv
        rw [Bt_and, (not_F hv).1 e, and255 _ (Bt_lt _ _)] at h2
        have := mf_okv hZ (by omega) he hq hv h2
        omega
      · exact e
    · rw [or128 h.1 (lkM_b Z t c o op Z.1) hv]
      exact Or.inl (h.2.2 q hq (by simpa using a) o' (ext_up hm hc he) v hv hov)
theorem soM_last {C : PC} {Z : RW} {n t c : Nat} (hZ : RWok C Z n) (ht : t + 1 = n) {o : Nat → Nat} {F : Int64} {op : Nat} (hF : b128 F) : soM Z (t + 1) (upN o t c) (F ||| lkM Z t c o op Z.1) op Z.1 = 0 := by
  have hb := b128_or hF (lkM_b Z t c o op Z.1)
  apply Nat.eq_of_testBit_eq
  intro q
  rw [Nat.zero_testBit]
  by_cases hq : q < Z.1
  · cases hs : (soM Z (t + 1) (upN o t c) (F ||| lkM Z t c o op Z.1) op Z.1).testBit q with
    | false => rfl
    | true =>
      have h1 := (soM_bit Z (t + 1) (upN o t c) (F ||| lkM Z t c o op Z.1) op Z.1 q hq).mp hs
      exfalso
      apply h1.2
      refine Bt_0.mpr (fun v hv => ?_)
      rw [Bt_and]
      have hz : Z.2.2.2.2 (t + 1) q = 0 := Bt_0.mpr (fun u hu => by have := hZ.2.2.1 (t + 1) q u (by omega) hq hu; omega)
      rcases hb v hv with e | e
      · have hlk : ¬ 128 ≤ cntB (Bt (vw Z o q t ||| Z.2.1 t c q) v) 8 + Bt (Z.2.2.1 q) v := by
          intro z
          have := (lkM_iff hZ t c o op hv Z.1 (Nat.le_refl _)).mpr ⟨q, hq, h1.1, z⟩
          have := (or128 hF (lkM_b Z t c o op Z.1) hv).mpr (Or.inr this)
          omega
        have hm0 : Bt (mfL Z (t + 1) q (vw Z (upN o t c) q (t + 1)) (ldL Z (vw Z (upN o t c) q (t + 1)) q) (Z.2.2.1 q)) v = 0 := by
          unfold mfL
          rw [hz]
          have e0 : ldL Z (vw Z (upN o t c) q (t + 1)) q + 0 = ldL Z (vw Z (upN o t c) q (t + 1)) q := Int64.add_zero _
          rw [e0]
          split
          · exact (Bt_lit v hv).2.2.2.2.2.2.1
          · rw [Bt_and, Bt_over _ hv, ldL_B hZ _ hq hv, vw_up, if_pos (by omega), Nat.zero_and]
        rw [hm0, Nat.zero_and]
      · have h255 : Bt ((F ||| lkM Z t c o op Z.1) ^^^ (-1)) v = 127 := by
          apply Nat.eq_of_testBit_eq
          intro j
          by_cases hj : j < 8
          · rw [Bt_not _ hv hj, e]
            have : ∀ j, j < 8 → (!(128 : Nat).testBit j) = (127 : Nat).testBit j := by decide
            exact this j hj
          · have hi : ∀ (x : Nat), x < 256 → x.testBit j = false := by
              intro x hx
              cases c : x.testBit j with
              | false => rfl
              | true => exact absurd (bit8 hx c) hj
            rw [hi _ (Bt_lt _ _), hi 127 (by omega)]
        have h01 : Bt (mfL Z (t + 1) q (vw Z (upN o t c) q (t + 1)) (ldL Z (vw Z (upN o t c) q (t + 1)) q) (Z.2.2.1 q)) v = 0 ∨ Bt (mfL Z (t + 1) q (vw Z (upN o t c) q (t + 1)) (ldL Z (vw Z (upN o t c) q (t + 1)) q) (Z.2.2.1 q)) v = 128 := by
          unfold mfL
          split
          · exact Or.inl (Bt_lit v hv).2.2.2.2.2.2.1
          · rw [Bt_and, Bt_over _ hv]
            split
            · exact Or.inl (Nat.zero_and _)
            · have h3 := and128 _ (Bt_lt (cntL (vw Z (upN o t c) q (t + 1) ||| Z.2.2.2.1 (t + 1) q) + Z.2.2.1 q) v)
              rw [Nat.and_comm] at h3
              rw [h3]
              split
              · exact Or.inl rfl
              · exact Or.inr rfl
        rw [h255]
        rcases h01 with z | z <;> rw [z] <;> decide
  · exact Nat.testBit_lt_two_pow (Nat.lt_of_lt_of_le (soM_lt _ _ _ _ _ _) (Nat.pow_le_pow_right (by omega) (by omega)))
theorem FL_eq {C : PC} {Z : RW} {n t : Nat} (hZ : RWok C Z n) {o o' : Nat → Nat} {F : Int64} (h : inM C Z n t o F 0) (he : ext C.1 n t o o') : FLs Z n o' = F := by
  refine b128_ext (flGo_b Z n o' Z.1) h.1 (fun v hv => ⟨fun z => ?_, fun z => h.2.1 o' he v hv z⟩)
  obtain ⟨q, q1, q2⟩ := (flGo_iff hZ o' hv Z.1 (Nat.le_refl _)).mp z
  exact h.2.2 q q1 (Nat.zero_testBit q) o' he v hv q2
end
