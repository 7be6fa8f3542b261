/-! the class's search against the model's -/
section
variable {w : Wd} {d : Nat} {i : IM} {l : LM}
theorem ext_wk {may : Nat → Nat → Bool} {n t : Nat} {o o' : Nat → Nat} (h : ext may n t o o') : ∀ j, t ≤ j → j < n → may j (o' j) = true ∧ o' j < 3 := h.2
theorem pG_rel {σ τ : Type} {may may' : Nat → Nat → Bool} {leaf : (Nat → Nat) → σ → σ} {leaf' : (Nat → Nat) → τ → τ} {n : Nat} {R : σ → τ → Prop} (hm : ∀ t c, t < n → c < 3 → may t c = may' t c) : ∀ (r t : Nat) (o : Nat → Nat) (s : σ) (s' : τ), t + r = n → (∀ o' s s', ext may n t o o' → R s s' → R (leaf o' s) (leaf' o' s')) → R s s' → R (pG may leaf r t o s) (pG may' leaf' r t o s')
  | 0, t, o, s, s', ht, h, hr => h o s s' ⟨fun _ _ => rfl, fun j h1 h2 => by omega⟩ hr
  | r + 1, t, o, s, s', ht, h, hr => by
    have key : ∀ c s s', c < 3 → R s s' → R (pGc may leaf r t o c s) (pGc may' leaf' r t o c s') := by
      intro c s s' hc hr
      unfold pGc
      rw [← hm t c (by omega) hc]
      by_cases m : may t c = true
      · rw [if_pos m, if_pos m]
        exact pG_rel hm r (t + 1) _ s s' (by omega) (fun o' s s' h' => h o' s s' (ext_up m hc h')) hr
      · rw [if_neg m, if_neg m]; exact hr
    rw [pG_s, pG_s]
    exact key 2 _ _ (by omega) (key 1 _ _ (by omega) (key 0 _ _ (by omega) hr))
/-- what holds of all that was seen -/
theorem pG_ind {σ : Type} {may : Nat → Nat → Bool} {leaf : (Nat → Nat) → σ → σ} {n : Nat} {I : ((Nat → Nat) → Prop) → σ → Prop} (hcg : ∀ E E' s, (∀ x, E x ↔ E' x) → I E s → I E' s) : ∀ (r t : Nat) (o : Nat → Nat) (E : (Nat → Nat) → Prop) (s : σ), t + r = n → (∀ o' E s, ext may n t o o' → I E s → I (fun x => E x ∨ ∀ j, j < n → x j = o' j) (leaf o' s)) → I E s → I (fun x => E x ∨ ext may n t o x) (pG may leaf r t o s)
  | 0, t, o, E, s, ht, h, hi => by
    refine hcg _ _ _ (fun x => ?_) (h o E s ⟨fun _ _ => rfl, fun j h1 h2 => by omega⟩ hi)
    refine or_congr Iff.rfl ⟨fun h => ⟨fun j hj => h j (by omega), fun j h1 h2 => by omega⟩, fun h j hj => h.1 j (by omega)⟩
  | r + 1, t, o, E, s, ht, h, hi => by
    have key : ∀ c (E : (Nat → Nat) → Prop) s, c < 3 → I E s → I (fun x => E x ∨ exE may n t o c x) (pGc may leaf r t o c s) := by
      intro c E s hc hi
      unfold pGc
      by_cases m : may t c = true
      · rw [if_pos m]
        refine hcg _ _ _ (fun x => ?_) (pG_ind hcg r (t + 1) (upN o t c) E s (by omega) (fun o' E s h' => h o' E s (ext_up m hc h')) hi)
        exact or_congr Iff.rfl ⟨fun h => ⟨m, h⟩, fun h => h.2⟩
      · rw [if_neg m]
        exact hcg _ _ _ (fun x => ⟨Or.inl, fun h => h.elim id (fun h => absurd h.1 m)⟩) hi
    rw [pG_s]
    refine hcg _ _ _ (fun x => ?_) (key 2 _ _ (by omega) (key 1 _ _ (by omega) (key 0 E s (by omega) hi)))
    rw [← exE_all (may := may) (n := n) (t := t) (by omega) (o := o) (o' := x)]
    constructor
    · rintro (((h | h) | h) | h)
      · exact Or.inl h
      · exact Or.inr (Or.inl (Or.inl h))
      · exact Or.inr (Or.inl (Or.inr h))
      · exact Or.inr (Or.inr h)
    · rintro (h | ((h | h) | h))
      · exact Or.inl (Or.inl (Or.inl h))
      · exact Or.inl (Or.inl (Or.inr h))
      · exact Or.inl (Or.inr h)
      · exact Or.inr h
theorem vhGo_cg (i : IM) (cs : List Cla) (n : Nat) (months eased : Int) {o o' : Nat → Nat} (h : ∀ j, j < n → o j = o' j) (v : Nat) : ∀ m, vhGo i cs n months eased o v m = vhGo i cs n months eased o' v m
  | 0 => rfl
  | m + 1 => by unfold vhGo; rw [vhGo_cg i cs n months eased h v m, mvw_cg i cs v (m : Int) n h]
theorem flN_cg (i : IM) (cs : List Cla) (n : Nat) (months eased : Int) {o o' : Nat → Nat} (h : ∀ j, j < n → o j = o' j) (k : Nat) : flN i cs n months eased o k = flN i cs n months eased o' k := by
  unfold flN vh
  apply bfGo_cg
  intro v _
  rw [vhGo_cg i cs n months eased h v 12]
theorem nat0_bits {a : Nat} (h : ∀ v, a.testBit v = false) : a = 0 := by
  apply Nat.eq_of_testBit_eq
  intro v
  rw [h v, Nat.zero_testBit]
/-- all kept WINDOWS hold -/
theorem moOK_vh {cs : List Cla} {n k : Nat} {months eased : Int} {o : Nat → Nat} : (∀ mo, msI months 12 mo → moOK i cs n k eased o mo) ↔ ∀ v, v < (i 101 308).toNat → k.testBit v = true → vh i cs n months eased o v = true := by
  constructor
  · intro h v hv hb
    rw [vhGo_iff]
    intro m hm hin
    exact h (m : Int) ⟨⟨by omega, by omega⟩, hin⟩ v hv hb
  · intro h mo hmo v hv hb
    have := (vhGo_iff i cs n months eased o v 12).mp (h v hv hb) mo.toNat (by omega)
    have e : ((mo.toNat : Nat) : Int) = mo := by omega
    unfold inMo at this
    rw [e] at this
    exact this hmo.2
theorem moOK_fl {cs : List Cla} {n k : Nat} {months eased : Int} {o : Nat → Nat} : (∀ mo, msI months 12 mo → moOK i cs n k eased o mo) ↔ flN i cs n months eased o (i 101 308).toNat &&& k = 0 := by
  rw [moOK_vh]
  constructor
  · intro h
    apply nat0_bits
    intro v
    rw [Nat.testBit_and]
    by_cases c : (flN i cs n months eased o (i 101 308).toNat).testBit v = true
    · have := (flN_bit i cs n months eased o _ v).mp c
      by_cases c2 : k.testBit v = true
      · exact absurd (h v this.1 c2) this.2
      · rw [Bool.not_eq_true] at c2; rw [c2, Bool.and_false]
    · rw [Bool.not_eq_true] at c; rw [c, Bool.false_and]
  · intro h v hv hb
    by_cases c : vh i cs n months eased o v = true
    · exact c
    · exfalso
      have h1 := (flN_bit i cs n months eased o (i 101 308).toNat v).mpr ⟨hv, c⟩
      have : (flN i cs n months eased o (i 101 308).toNat &&& k).testBit v = true := by rw [Nat.testBit_and, h1, hb]; rfl
      rw [h, Nat.zero_testBit] at this
      cases this
theorem flN_255 {cs : List Cla} {n W : Nat} (hW : W ≤ 8) {months eased : Int} {o : Nat → Nat} : flN i cs n months eased o W &&& 255 = flN i cs n months eased o W := by
  have hlt : flN i cs n months eased o W < 2 ^ W := bfGo_lt _ W
  have h2k : 2 ^ W ≤ 2 ^ 8 := Nat.pow_le_pow_right (by omega) (by omega)
  exact and255 _ (by omega)
theorem vs_at {g g' : Nat → Nat → Int} {o : Nat → Nat} : ∀ n, (∀ t, t < n → g t (o t) = g' t (o t)) → vs g o n = vs g' o n
  | 0, _ => rfl
  | n + 1, h => by
    show vs g o n + g n (o n) = vs g' o n + g' n (o n)
    rw [vs_at n (fun t ht => h t (by omega)), h n (by omega)]
/-- GOOD ones: the class's tally against the model's -/
def RA (n : Nat) (s s' : SA) : Prop := 0 ≤ s.1 ∧ s.1 = s'.1 ∧ s.2.1.1 = s'.2.1.1 ∧ (0 < s.1 → 0 < s.2.1.1 ∧ s.2.1.2.1 = s'.2.1.2.1 ∧ (∀ j, j < n → s.2.1.2.2 j = s'.2.1.2.2 j) ∧ s.2.2 = s'.2.2) ∧ (s.1 = 0 → s.2.1.1 = 0 ∧ s.2.2 = (255, 255, 255) ∧ s'.2.2 = (1000000, 1000000, 1000000))
theorem RA_add {n : Nat} {s s' : SA} {x y : Int} {f f' : Nat → Nat} {a b c : Int} (h : RA n s s') (hxy : x = y) (hf : ∀ j, j < n → f j = f' j) (ha : a ≤ 10) (hb : b ≤ 10) (hc : c ≤ 10) : RA n (addB (1, 1, x, f, a, b, c) s) (addB (1, 1, y, f', a, b, c) s') := by
  subst hxy
  obtain ⟨h0, h1, h2, h3, h4⟩ := h
  obtain ⟨g, ⟨bs, v, o⟩, a1, b1, c1⟩ := s
  obtain ⟨g', ⟨bs', v', o'⟩, a1', b1', c1'⟩ := s'
  simp only at h0 h1 h2 h3 h4
  subst h1
  subst h2
  unfold addB
  refine ⟨by show 0 ≤ g + 1; omega, rfl, ?_, fun _ => ?_, fun z => by have : g + 1 = 0 := z; omega⟩
  · show (upB 1 x f (bs, v, o)).1 = (upB 1 x f' (bs, v', o')).1
    unfold upB
    by_cases c0 : 0 < g
    · obtain ⟨e1, e2, e3, e4⟩ := h3 c0
      subst e2
      simp only
      split
      · rfl
      · split <;> rfl
    · have := h4 (by omega)
      have e : bs = 0 := this.1
      subst e
      simp
  · show 0 < (upB 1 x f (bs, v, o)).1 ∧ (upB 1 x f (bs, v, o)).2.1 = (upB 1 x f' (bs, v', o')).2.1 ∧ (∀ j, j < n → (upB 1 x f (bs, v, o)).2.2 j = (upB 1 x f' (bs, v', o')).2.2 j) ∧ (min a1 a, min b1 b, min c1 c) = (min a1' a, min b1' b, min c1' c)
    unfold upB
    by_cases c0 : 0 < g
    · obtain ⟨e1, e2, e3, e4⟩ := h3 c0
      subst e2
      obtain ⟨rfl, rfl, rfl⟩ : a1 = a1' ∧ b1 = b1' ∧ c1 = c1' := by
        have := Prod.mk.inj e4
        exact ⟨this.1, (Prod.mk.inj this.2).1, (Prod.mk.inj this.2).2⟩
      simp only
      split
      · exact ⟨by omega, rfl, e3, trivial⟩
      · split
        · exact ⟨by show 0 < bs + 1; omega, rfl, e3, trivial⟩
        · exact ⟨by show (0 : Int) < 1; omega, rfl, hf, trivial⟩
    · obtain ⟨e1, e2, e3⟩ := h4 (by omega)
      subst e1
      obtain ⟨rfl, rfl, rfl⟩ : a1 = 255 ∧ b1 = 255 ∧ c1 = 255 := by
        have := Prod.mk.inj e2
        exact ⟨this.1, (Prod.mk.inj this.2).1, (Prod.mk.inj this.2).2⟩
      obtain ⟨rfl, rfl, rfl⟩ : a1' = 1000000 ∧ b1' = 1000000 ∧ c1' = 1000000 := by
        have := Prod.mk.inj e3
        exact ⟨this.1, (Prod.mk.inj this.2).1, (Prod.mk.inj this.2).2⟩
      have nz : ∀ (p : Int) (q : Nat → Nat), ¬ (0 < ((0 : Int), p, q).1) := fun _ _ z => absurd (show (0 : Int) < 0 from z) (by decide)
      rw [if_neg (fun z => nz _ _ z.1), if_neg (fun z => nz _ _ z.1), if_neg (fun z => nz _ _ z.1), if_neg (fun z => nz _ _ z.1)]
      refine ⟨by show (0 : Int) < 1; omega, rfl, hf, ?_⟩
      have q1 : min (255 : Int) a = min 1000000 a := by omega
      have q2 : min (255 : Int) b = min 1000000 b := by omega
      have q3 : min (255 : Int) c = min 1000000 c := by omega
      rw [q1, q2, q3]
end
