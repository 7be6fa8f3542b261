/-! PAINTINGS: all of them, and whole blocks at once -/
section
def upN (o : Nat → Nat) (t c : Nat) : Nat → Nat := fun j => if j = t then c else o j
theorem upN_lt {o : Nat → Nat} {t c j : Nat} (h : j < t) : upN o t c j = o j := if_neg (by omega)
theorem upN_at (o : Nat → Nat) (t c : Nat) : upN o t c t = c := if_pos rfl
/-- all PAINTINGS, in their order -/
def pG {σ : Type} (may : Nat → Nat → Bool) (leaf : (Nat → Nat) → σ → σ) : Nat → Nat → (Nat → Nat) → σ → σ
  | 0, _, o, s => leaf o s
  | r + 1, t, o, s => (fun (f : Nat → σ → σ) => f 2 (f 1 (f 0 s))) (fun c s => if may t c = true then pG may leaf r (t + 1) (upN o t c) s else s)
abbrev pGc {σ : Type} (may : Nat → Nat → Bool) (leaf : (Nat → Nat) → σ → σ) (r t : Nat) (o : Nat → Nat) (c : Nat) (s : σ) : σ := if may t c = true then pG may leaf r (t + 1) (upN o t c) s else s
theorem pG_s {σ : Type} (may : Nat → Nat → Bool) (leaf : (Nat → Nat) → σ → σ) (r t : Nat) (o : Nat → Nat) (s : σ) : pG may leaf (r + 1) t o s = pGc may leaf r t o 2 (pGc may leaf r t o 1 (pGc may leaf r t o 0 s)) := rfl
/-- o' goes on from o at t -/
def ext (may : Nat → Nat → Bool) (n t : Nat) (o o' : Nat → Nat) : Prop := (∀ j, j < t → o' j = o j) ∧ ∀ j, t ≤ j → j < n → may j (o' j) = true ∧ o' j < 3
theorem ext_up {may : Nat → Nat → Bool} {n t c : Nat} {o o' : Nat → Nat} (hm : may t c = true) (hc : c < 3) (h : ext may n (t + 1) (upN o t c) o') : ext may n t o o' := by
  refine ⟨fun j hj => ?_, fun j h1 h2 => ?_⟩
  · rw [h.1 j (by omega), upN_lt hj]
  · by_cases e : j = t
    · subst e
      rw [h.1 j (by omega), upN_at]
      exact ⟨hm, hc⟩
    · exact h.2 j (by omega) h2
theorem ext_dn {may : Nat → Nat → Bool} {n t : Nat} {o o' : Nat → Nat} (h : ext may n t o o') : ext may n (t + 1) (upN o t (o' t)) o' := by
  refine ⟨fun j hj => ?_, fun j h1 h2 => h.2 j (by omega) h2⟩
  by_cases e : j = t
  · subst e; rw [upN_at]
  · rw [upN_lt (by omega)]; exact h.1 j (by omega)
/-- leaves that do nothing -/
theorem pG_dead {σ : Type} {may : Nat → Nat → Bool} {leaf : (Nat → Nat) → σ → σ} {n : Nat} : ∀ (r t : Nat) (o : Nat → Nat) (s : σ), t + r = n → (∀ o', ext may n t o o' → leaf o' s = s) → pG may leaf r t o s = s
  | 0, t, o, s, ht, h => h o ⟨fun _ _ => rfl, fun j h1 h2 => by omega⟩
  | r + 1, t, o, s, ht, h => by
    have key : ∀ c, c < 3 → pGc may leaf r t o c s = s := by
      intro c hc
      unfold pGc
      by_cases m : may t c = true
      · rw [if_pos m]
        exact pG_dead r (t + 1) _ s (by omega) (fun o' h' => h o' (ext_up m hc h'))
      · rw [if_neg m]
    rw [pG_s, key 0 (by omega), key 1 (by omega), key 2 (by omega)]
/-- leaves that are alike -/
theorem pG_cg {σ : Type} {may : Nat → Nat → Bool} {leaf leaf' : (Nat → Nat) → σ → σ} {n : Nat} : ∀ (r t : Nat) (o : Nat → Nat) (s : σ), t + r = n → (∀ o' s, ext may n t o o' → leaf o' s = leaf' o' s) → pG may leaf r t o s = pG may leaf' r t o s
  | 0, t, o, s, ht, h => h o s ⟨fun _ _ => rfl, fun j h1 h2 => by omega⟩
  | r + 1, t, o, s, ht, h => by
    have key : ∀ c s, c < 3 → pGc may leaf r t o c s = pGc may leaf' r t o c s := by
      intro c s hc
      unfold pGc
      by_cases m : may t c = true
      · rw [if_pos m, if_pos m]
        exact pG_cg r (t + 1) _ s (by omega) (fun o' s' h' => h o' s' (ext_up m hc h'))
      · rw [if_neg m, if_neg m]
    rw [pG_s, pG_s, key 0 _ (by omega), key 1 _ (by omega), key 2 _ (by omega)]
/-- a part of the state -/
theorem pG_proj {σ τ : Type} {may : Nat → Nat → Bool} {leaf : (Nat → Nat) → σ → σ} {leaf' : (Nat → Nat) → τ → τ} {f : σ → τ} (h : ∀ o s, f (leaf o s) = leaf' o (f s)) : ∀ (r t : Nat) (o : Nat → Nat) (s : σ), f (pG may leaf r t o s) = pG may leaf' r t o (f s)
  | 0, _, o, s => h o s
  | r + 1, t, o, s => by
    have key : ∀ c s, f (pGc may leaf r t o c s) = pGc may leaf' r t o c (f s) := by
      intro c s
      unfold pGc
      split
      · exact pG_proj h r (t + 1) _ s
      · rfl
    rw [pG_s, pG_s, key, key, key]
/-- a sum over the first THINGS -/
def vs (g : Nat → Nat → Int) (o : Nat → Nat) : Nat → Int
  | 0 => 0
  | t + 1 => vs g o t + g t (o t)
theorem vs_cg {g : Nat → Nat → Int} {o o' : Nat → Nat} : ∀ {t : Nat}, (∀ j, j < t → o j = o' j) → vs g o t = vs g o' t
  | 0, _ => rfl
  | t + 1, h => by
    show vs g o t + g t (o t) = vs g o' t + g t (o' t)
    rw [vs_cg (fun j hj => h j (by omega)), h t (by omega)]
theorem vs_up (g : Nat → Nat → Int) (o : Nat → Nat) (t c : Nat) : vs g (upN o t c) (t + 1) = vs g o t + g t c := by
  show vs g (upN o t c) t + g t (upN o t c t) = _
  rw [vs_cg (fun j hj => upN_lt hj), upN_at]
abbrev BS := Int × Int × (Nat → Nat)
def upB (T p : Int) (f : Nat → Nat) (s : BS) : BS := if 0 < s.1 ∧ p < s.2.1 then s else if 0 < s.1 ∧ p = s.2.1 then (s.1 + T, s.2.1, s.2.2) else (T, p, f)
theorem upB_two {T1 T2 p1 p2 : Int} {f1 f2 : Nat → Nat} {s : BS} (h1 : 0 < T1) : upB T2 p2 f2 (upB T1 p1 f1 s) = upB (if p1 < p2 then T2 else if p1 = p2 then T1 + T2 else T1) (max p1 p2) (if p1 < p2 then f2 else f1) s := by
  obtain ⟨b, v, f⟩ := s
  unfold upB
  by_cases hb : 0 < b
  · rcases Int.lt_trichotomy p1 v with a | a | a
    · rw [if_pos (show 0 < (b, v, f).1 ∧ p1 < (b, v, f).2.1 from ⟨hb, a⟩)]
      rcases Int.lt_trichotomy p2 v with c | c | c
      · rw [if_pos (show 0 < (b, v, f).1 ∧ p2 < (b, v, f).2.1 from ⟨hb, c⟩), if_pos (show 0 < (b, v, f).1 ∧ max p1 p2 < (b, v, f).2.1 from ⟨hb, by show max p1 p2 < v; omega⟩)]
      · have e : max p1 p2 = p2 := by omega
        rw [e, if_pos (show p1 < p2 by omega), if_pos (show p1 < p2 by omega)]
      · have e : max p1 p2 = p2 := by omega
        rw [e, if_pos (show p1 < p2 by omega), if_pos (show p1 < p2 by omega)]
    · rw [if_neg (show ¬ (0 < (b, v, f).1 ∧ p1 < (b, v, f).2.1) from fun z => by have : p1 < v := z.2; omega), if_pos (show 0 < (b, v, f).1 ∧ p1 = (b, v, f).2.1 from ⟨hb, a⟩)]
      rcases Int.lt_trichotomy p2 v with c | c | c
      · have e : max p1 p2 = p1 := by omega
        rw [if_pos (show 0 < b + T1 ∧ p2 < v from ⟨by omega, c⟩), e, if_neg (show ¬ (0 < (b, v, f).1 ∧ p1 < (b, v, f).2.1) from fun z => by have : p1 < v := z.2; omega), if_pos (show 0 < (b, v, f).1 ∧ p1 = (b, v, f).2.1 from ⟨hb, a⟩), if_neg (show ¬ p1 < p2 by omega), if_neg (show ¬ p1 = p2 by omega)]
      · have e : max p1 p2 = p1 := by omega
        rw [if_neg (show ¬ (0 < b + T1 ∧ p2 < v) from fun z => by omega), if_pos (show 0 < b + T1 ∧ p2 = v from ⟨by omega, c⟩), e, if_neg (show ¬ (0 < (b, v, f).1 ∧ p1 < (b, v, f).2.1) from fun z => by have : p1 < v := z.2; omega), if_pos (show 0 < (b, v, f).1 ∧ p1 = (b, v, f).2.1 from ⟨hb, a⟩), if_neg (show ¬ p1 < p2 by omega), if_pos (show p1 = p2 by omega), Int.add_assoc]
      · have e : max p1 p2 = p2 := by omega
        rw [if_neg (show ¬ (0 < b + T1 ∧ p2 < v) from fun z => by omega), if_neg (show ¬ (0 < b + T1 ∧ p2 = v) from fun z => by omega), e, if_neg (show ¬ (0 < (b, v, f).1 ∧ p2 < (b, v, f).2.1) from fun z => by have : p2 < v := z.2; omega), if_neg (show ¬ (0 < (b, v, f).1 ∧ p2 = (b, v, f).2.1) from fun z => by have : p2 = v := z.2; omega), if_pos (show p1 < p2 by omega), if_pos (show p1 < p2 by omega)]
    · rw [if_neg (show ¬ (0 < (b, v, f).1 ∧ p1 < (b, v, f).2.1) from fun z => by have : p1 < v := z.2; omega), if_neg (show ¬ (0 < (b, v, f).1 ∧ p1 = (b, v, f).2.1) from fun z => by have : p1 = v := z.2; omega)]
      have hm : ∀ p, p1 ≤ p → ¬ (0 < (b, v, f).1 ∧ p < (b, v, f).2.1) ∧ ¬ (0 < (b, v, f).1 ∧ p = (b, v, f).2.1) := fun p hp => ⟨fun z => by have : p < v := z.2; omega, fun z => by have : p = v := z.2; omega⟩
      rw [if_neg (hm (max p1 p2) (by omega)).1, if_neg (hm (max p1 p2) (by omega)).2]
      rcases Int.lt_trichotomy p2 p1 with c | c | c
      · have e : max p1 p2 = p1 := by omega
        rw [if_pos (show 0 < T1 ∧ p2 < p1 from ⟨h1, c⟩), e, if_neg (show ¬ p1 < p2 by omega), if_neg (show ¬ p1 = p2 by omega), if_neg (show ¬ p1 < p2 by omega)]
      · have e : max p1 p2 = p1 := by omega
        rw [if_neg (show ¬ (0 < T1 ∧ p2 < p1) from fun z => by omega), if_pos (show 0 < T1 ∧ p2 = p1 from ⟨h1, c⟩), e, if_neg (show ¬ p1 < p2 by omega), if_pos (show p1 = p2 by omega), if_neg (show ¬ p1 < p2 by omega)]
      · have e : max p1 p2 = p2 := by omega
        rw [if_neg (show ¬ (0 < T1 ∧ p2 < p1) from fun z => by omega), if_neg (show ¬ (0 < T1 ∧ p2 = p1) from fun z => by omega), e, if_pos (show p1 < p2 by omega), if_pos (show p1 < p2 by omega)]
  · have h0 : ∀ p, ¬ (0 < (b, v, f).1 ∧ p < (b, v, f).2.1) ∧ ¬ (0 < (b, v, f).1 ∧ p = (b, v, f).2.1) := fun p => ⟨fun z => hb z.1, fun z => hb z.1⟩
    rw [if_neg (h0 p1).1, if_neg (h0 p1).2, if_neg (h0 (max p1 p2)).1, if_neg (h0 (max p1 p2)).2]
    rcases Int.lt_trichotomy p2 p1 with c | c | c
    · have e : max p1 p2 = p1 := by omega
      rw [if_pos (show 0 < T1 ∧ p2 < p1 from ⟨h1, c⟩), e, if_neg (show ¬ p1 < p2 by omega), if_neg (show ¬ p1 = p2 by omega), if_neg (show ¬ p1 < p2 by omega)]
    · have e : max p1 p2 = p1 := by omega
      rw [if_neg (show ¬ (0 < T1 ∧ p2 < p1) from fun z => by omega), if_pos (show 0 < T1 ∧ p2 = p1 from ⟨h1, c⟩), e, if_neg (show ¬ p1 < p2 by omega), if_pos (show p1 = p2 by omega), if_neg (show ¬ p1 < p2 by omega)]
    · have e : max p1 p2 = p2 := by omega
      rw [if_neg (show ¬ (0 < T1 ∧ p2 < p1) from fun z => by omega), if_neg (show ¬ (0 < T1 ∧ p2 = p1) from fun z => by omega), e, if_pos (show p1 < p2 by omega), if_pos (show p1 < p2 by omega)]
/-- a block of GOOD ones: how many, how many of the best, their VALUE, the first, the least of three tallies -/
abbrev Blk := Int × Int × Int × (Nat → Nat) × Int × Int × Int
abbrev SA := Int × BS × Int × Int × Int
def addB (e : Blk) (s : SA) : SA := (s.1 + e.1, upB e.2.1 e.2.2.1 e.2.2.2.1 s.2.1, min s.2.2.1 e.2.2.2.2.1, min s.2.2.2.1 e.2.2.2.2.2.1, min s.2.2.2.2 e.2.2.2.2.2.2)
def mrg (x y : Blk) : Blk := (x.1 + y.1, (if x.2.2.1 < y.2.2.1 then y.2.1 else if x.2.2.1 = y.2.2.1 then x.2.1 + y.2.1 else x.2.1), max x.2.2.1 y.2.2.1, (if x.2.2.1 < y.2.2.1 then y.2.2.2.1 else x.2.2.2.1), min x.2.2.2.2.1 y.2.2.2.2.1, min x.2.2.2.2.2.1 y.2.2.2.2.2.1, min x.2.2.2.2.2.2 y.2.2.2.2.2.2)
theorem addB_two {x y : Blk} {s : SA} (h : 0 < x.2.1) : addB y (addB x s) = addB (mrg x y) s := by
  unfold addB mrg
  refine Prod.ext (by show s.1 + x.1 + y.1 = s.1 + (x.1 + y.1); omega) (Prod.ext (upB_two h) (Prod.ext ?_ (Prod.ext ?_ ?_)))
  · show min (min s.2.2.1 x.2.2.2.2.1) y.2.2.2.2.1 = min s.2.2.1 (min x.2.2.2.2.1 y.2.2.2.2.1); omega
  · show min (min s.2.2.2.1 x.2.2.2.2.2.1) y.2.2.2.2.2.1 = min s.2.2.2.1 (min x.2.2.2.2.2.1 y.2.2.2.2.2.1); omega
  · show min (min s.2.2.2.2 x.2.2.2.2.2.2) y.2.2.2.2.2.2 = min s.2.2.2.2 (min x.2.2.2.2.2.2 y.2.2.2.2.2.2); omega
end
