/-! painting and walling up: the first of the cheapest -/
section
def lexL (n : Nat) (a b : Nat → Nat) : Prop := ∃ j, j < n ∧ (∀ i, i < j → a i = b i) ∧ a j < b j
theorem lex_or (a b : Nat → Nat) : ∀ n, (∀ j, j < n → a j = b j) ∨ lexL n a b ∨ lexL n b a
  | 0 => Or.inl (fun j h => by omega)
  | n + 1 => by
    rcases lex_or a b n with h | ⟨j, h1, h2, h3⟩ | ⟨j, h1, h2, h3⟩
    · rcases Nat.lt_trichotomy (a n) (b n) with c | c | c
      · exact Or.inr (Or.inl ⟨n, by omega, h, c⟩)
      · left
        intro j hj
        by_cases e : j = n
        · subst e; exact c
        · exact h j (by omega)
      · exact Or.inr (Or.inr ⟨n, by omega, fun i hi => (h i hi).symm, c⟩)
    · exact Or.inr (Or.inl ⟨j, by omega, h2, h3⟩)
    · exact Or.inr (Or.inr ⟨j, by omega, h2, h3⟩)
theorem lex_tr {n : Nat} {a b c : Nat → Nat} (h1 : lexL n a b) (h2 : lexL n b c) : lexL n a c := by
  obtain ⟨j, j1, j2, j3⟩ := h1
  obtain ⟨k, k1, k2, k3⟩ := h2
  rcases Nat.lt_trichotomy j k with c | c | c
  · exact ⟨j, j1, fun i hi => by rw [j2 i hi, k2 i (by omega)], by rw [← k2 j c]; exact j3⟩
  · subst c; exact ⟨j, j1, fun i hi => by rw [j2 i hi, k2 i hi], by omega⟩
  · exact ⟨k, k1, fun i hi => by rw [j2 i (by omega), k2 i hi], by rw [j2 k c]; exact k3⟩
abbrev MS := Int × Int64 × (Nat → Nat)
/-- what a PAINTING costs, what fails, how it is kept -/
abbrev MT := ((Nat → Nat) → Int) × ((Nat → Nat) → Int64) × ((Nat → Nat) → (Nat → Nat))
def mQ (T : MT) (n : Nat) (E : (Nat → Nat) → Prop) (s s' : MS) : Prop := ((∀ o, E o → s.1 ≤ T.1 o) ∧ s' = s) ∨ ∃ x, E x ∧ T.1 x < s.1 ∧ s' = (T.1 x, T.2.1 x, T.2.2 x) ∧ (∀ o, E o → T.1 x ≤ T.1 o) ∧ (∀ o, E o → lexL n o x → T.1 x < T.1 o)
theorem mQ_cg {T : MT} {n : Nat} {E E' : (Nat → Nat) → Prop} {s s' : MS} (h : ∀ o, E o ↔ E' o) (hq : mQ T n E s s') : mQ T n E' s s' := by
  rcases hq with ⟨h1, h2⟩ | ⟨x, h1, h2, h3, h4, h5⟩
  · exact Or.inl ⟨fun o ho => h1 o ((h o).mpr ho), h2⟩
  · exact Or.inr ⟨x, (h x).mp h1, h2, h3, fun o ho => h4 o ((h o).mpr ho), fun o ho => h5 o ((h o).mpr ho)⟩
theorem mQ_none {T : MT} {n : Nat} {E : (Nat → Nat) → Prop} {s : MS} (h : ∀ o, E o → s.1 ≤ T.1 o) : mQ T n E s s := Or.inl ⟨h, rfl⟩
theorem mQ_two {T : MT} {n : Nat} {E1 E2 : (Nat → Nat) → Prop} {s s1 s2 : MS} (hl : ∀ a b, E1 a → E2 b → ¬ lexL n b a) (h1 : mQ T n E1 s s1) (h2 : mQ T n E2 s1 s2) : mQ T n (fun o => E1 o ∨ E2 o) s s2 := by
  rcases h1 with ⟨a1, a2⟩ | ⟨x, a1, a2, a3, a4, a5⟩
  · subst a2
    rcases h2 with ⟨b1, b2⟩ | ⟨y, b1, b2, b3, b4, b5⟩
    · exact Or.inl ⟨fun o ho => ho.elim (a1 o) (b1 o), b2⟩
    · refine Or.inr ⟨y, Or.inr b1, b2, b3, fun o ho => ?_, fun o ho hlx => ?_⟩
      · rcases ho with ho | ho
        · have := a1 o ho; omega
        · exact b4 o ho
      · rcases ho with ho | ho
        · have := a1 o ho; omega
        · exact b5 o ho hlx
  · subst a3
    rcases h2 with ⟨b1, b2⟩ | ⟨y, b1, b2, b3, b4, b5⟩
    · refine Or.inr ⟨x, Or.inl a1, a2, b2, fun o ho => ho.elim (a4 o) (b1 o), fun o ho hlx => ?_⟩
      rcases ho with ho | ho
      · exact a5 o ho hlx
      · exact absurd hlx (hl x o a1 ho)
    · have b2' : T.1 y < T.1 x := b2
      refine Or.inr ⟨y, Or.inr b1, by omega, b3, fun o ho => ?_, fun o ho hlx => ?_⟩
      · rcases ho with ho | ho
        · have := a4 o ho; omega
        · exact b4 o ho
      · rcases ho with ho | ho
        · have := a4 o ho; omega
        · exact b5 o ho hlx
/-- some may be left out -/
theorem mQ_more {T : MT} {n : Nat} {E E' : (Nat → Nat) → Prop} {s s' : MS} (hsub : ∀ o, E o → E' o) (hd : ∀ o, E' o → ∃ x, E x ∧ (x = o ∨ T.1 x < T.1 o ∨ (T.1 x ≤ T.1 o ∧ lexL n x o))) (h : mQ T n E s s') : mQ T n E' s s' := by
  rcases h with ⟨h1, h2⟩ | ⟨x, h1, h2, h3, h4, h5⟩
  · refine Or.inl ⟨fun o ho => ?_, h2⟩
    obtain ⟨y, y1, y2⟩ := hd o ho
    have := h1 y y1
    rcases y2 with e | e | e
    · subst e; exact this
    · omega
    · omega
  · refine Or.inr ⟨x, hsub x h1, h2, h3, fun o ho => ?_, fun o ho hl => ?_⟩
    · obtain ⟨y, y1, y2⟩ := hd o ho
      have := h4 y y1
      rcases y2 with e | e | e
      · subst e; exact this
      · omega
      · omega
    · obtain ⟨y, y1, y2⟩ := hd o ho
      have h4y := h4 y y1
      rcases y2 with e | e | e
      · subst e; exact h5 y y1 hl
      · omega
      · have := h5 y y1 (lex_tr e.2 hl)
        omega
theorem mQ_uniq {T : MT} {n : Nat} {E : (Nat → Nat) → Prop} {s s' s'' : MS} (hT : ∀ a b, (∀ j, j < n → a j = b j) → T.1 a = T.1 b ∧ T.2.1 a = T.2.1 b ∧ T.2.2 a = T.2.2 b) (h1 : mQ T n E s s') (h2 : mQ T n E s s'') : s' = s'' := by
  rcases h1 with ⟨a1, a2⟩ | ⟨x, a1, a2, a3, a4, a5⟩
  · rcases h2 with ⟨b1, b2⟩ | ⟨y, b1, b2, b3, b4, b5⟩
    · rw [a2, b2]
    · have := a1 y b1; omega
  · rcases h2 with ⟨b1, b2⟩ | ⟨y, b1, b2, b3, b4, b5⟩
    · have := b1 x a1; omega
    · have e1 := a4 y b1
      have e2 := b4 x a1
      rcases lex_or x y n with h | h | h
      · have := hT x y h
        rw [a3, b3, this.1, this.2.1, this.2.2]
      · have := b5 x a1 h; omega
      · have := a5 y b1 h; omega
/-- the completions, choice by choice -/
def exE (may : Nat → Nat → Bool) (n t : Nat) (o : Nat → Nat) (c : Nat) (o' : Nat → Nat) : Prop := may t c = true ∧ ext may n (t + 1) (upN o t c) o'
theorem exE_all {may : Nat → Nat → Bool} {n t : Nat} (ht : t < n) {o o' : Nat → Nat} : ((exE may n t o 0 o' ∨ exE may n t o 1 o') ∨ exE may n t o 2 o') ↔ ext may n t o o' := by
  constructor
  · rintro ((h | h) | h)
    · exact ext_up h.1 (by omega) h.2
    · exact ext_up h.1 (by omega) h.2
    · exact ext_up h.1 (by omega) h.2
  · intro h
    have hm := h.2 t (Nat.le_refl _) ht
    have h2 := ext_dn h
    have : o' t = 0 ∨ o' t = 1 ∨ o' t = 2 := by omega
    rcases this with e | e | e <;> rw [e] at hm h2
    · exact Or.inl (Or.inl ⟨hm.1, h2⟩)
    · exact Or.inl (Or.inr ⟨hm.1, h2⟩)
    · exact Or.inr ⟨hm.1, h2⟩
theorem exE_at {may : Nat → Nat → Bool} {n t c : Nat} {o o' : Nat → Nat} (h : exE may n t o c o') : o' t = c ∧ ∀ j, j < t → o' j = o j := by
  refine ⟨by rw [h.2.1 t (by omega), upN_at], fun j hj => by rw [h.2.1 j (by omega), upN_lt hj]⟩
theorem exE_lex {may : Nat → Nat → Bool} {n t c d : Nat} {o a b : Nat → Nat} (hcd : c < d) (ha : exE may n t o c a) (hb : exE may n t o d b) : ¬ lexL n b a := by
  rintro ⟨j, h1, h2, h3⟩
  have a1 := exE_at ha
  have b1 := exE_at hb
  rcases Nat.lt_trichotomy j t with e | e | e
  · rw [a1.2 j e, b1.2 j e] at h3; omega
  · subst e; omega
  · have := h2 t e; omega
theorem pG_mQ {may : Nat → Nat → Bool} {T : MT} {n : Nat} (hT : ∀ a b, (∀ j, j < n → a j = b j) → T.1 a = T.1 b ∧ T.2.1 a = T.2.1 b ∧ T.2.2 a = T.2.2 b) : ∀ (r t : Nat) (o : Nat → Nat) (s : MS), t + r = n → mQ T n (ext may n t o) s (pG may (fun o s => if T.1 o < s.1 then (T.1 o, T.2.1 o, T.2.2 o) else s) r t o s)
  | 0, t, o, s, ht => by
    have e : t = n := by omega
    subst e
    show mQ T t (ext may t t o) s (if T.1 o < s.1 then (T.1 o, T.2.1 o, T.2.2 o) else s)
    have hsame : ∀ o', ext may t t o o' → T.1 o' = T.1 o := fun o' he => (hT o' o he.1).1
    by_cases c : T.1 o < s.1
    · rw [if_pos c]
      refine Or.inr ⟨o, ⟨fun _ _ => rfl, fun j h1 h2 => by omega⟩, c, rfl, fun o' he => by rw [hsame o' he]; exact Int.le_refl _, fun o' he hl => ?_⟩
      obtain ⟨j, h1, h2, h3⟩ := hl
      rw [he.1 j h1] at h3; omega
    · rw [if_neg c]
      exact mQ_none (fun o' he => by rw [hsame o' he]; omega)
  | r + 1, t, o, s, ht => by
    have key : ∀ c s, mQ T n (exE may n t o c) s (pGc may (fun o s => if T.1 o < s.1 then (T.1 o, T.2.1 o, T.2.2 o) else s) r t o c s) := by
      intro c s
      unfold pGc
      by_cases m : may t c = true
      · rw [if_pos m]
        exact mQ_cg (fun o' => ⟨fun h => ⟨m, h⟩, fun h => h.2⟩) (pG_mQ hT r (t + 1) (upN o t c) s (by omega))
      · rw [if_neg m]
        exact mQ_none (fun o' h => absurd h.1 m)
    rw [pG_s]
    refine mQ_cg (fun o' => exE_all (by omega)) (mQ_two (fun a b ha hb => ?_) (mQ_two (fun a b ha hb => exE_lex (by omega) ha hb) (key 0 s) (key 1 _)) (key 2 _))
    rcases ha with ha | ha
    · exact exE_lex (by omega) ha hb
    · exact exE_lex (by omega) ha hb
end
