/-! ONE CALL on both sides: thing, street, same -/
section
variable {w : Wd} {d k : Nat} {i : IM} {l : LM}
/-- eight numbers of a THING -/
def cTh (i : IM) (t p0 p1 p2 p3 p4 : Int) : IM := u2 (u2 (u2 (u2 (u2 (u2 (u2 (u2 (u2 i 8 (t * 8 + 0) p0) 8 (t * 8 + 1) p1) 8 (t * 8 + 2) p2) 8 (t * 8 + 3) p3) 8 (t * 8 + 4) p4) 8 (t * 8 + 5) 0) 8 (t * 8 + 6) 0) 8 (t * 8 + 7) 0) 7 8 (t + 1)
def mTh (i : IM) (t p0 p1 p2 p3 p4 : Int) : IM := u2 (u2 (u2 (u2 (u2 (u2 (u2 (u2 i 101 (t * 8 + 0) p0) 101 (t * 8 + 1) p1) 101 (t * 8 + 2) p2) 101 (t * 8 + 3) p3) 101 (t * 8 + 4) p4) 101 (t * 8 + 5) 0) 101 (t * 8 + 6) 0) 101 (t * 8 + 7) 0
def thK (K : Int → Int) (t p0 p1 p2 p3 p4 : Int) : Int → Int := upK (upK (upK (upK (upK (upK (upK (upK K (t * 8 + 0) p0) (t * 8 + 1) p1) (t * 8 + 2) p2) (t * 8 + 3) p3) (t * 8 + 4) p4) (t * 8 + 5) 0) (t * 8 + 6) 0) (t * 8 + 7) 0
theorem mTh_101 (t p0 p1 p2 p3 p4 : Int) : mTh i t p0 p1 p2 p3 p4 101 = thK (i 101) t p0 p1 p2 p3 p4 := by
  unfold mTh thK
  rw [u2_101, u2_101, u2_101, u2_101, u2_101, u2_101, u2_101, u2_101]
theorem thK_hi {K : Int → Int} {t p0 p1 p2 p3 p4 x : Int} (ht : 0 ≤ t ∧ t < 10) (hx : 80 ≤ x) : thK K t p0 p1 p2 p3 p4 x = K x := by
  unfold thK
  rw [upK_ne (by omega), upK_ne (by omega), upK_ne (by omega), upK_ne (by omega), upK_ne (by omega), upK_ne (by omega), upK_ne (by omega), upK_ne (by omega)]
theorem st_thing (hd : 90 ≤ d) (hk : k ≤ 100000) (hI : Inv w k i l) {p0 p1 p2 p3 p4 : Int} (h0 : rg p0) (h1 : rg p1) (h2 : rg p2) (h3 : rg p3) (h4 : rg p4) : BoC w k d X_X11_thing X_X12_thing [vI p0, vI p1, vI p2, vI p3, vI p4] i l := by
  obtain ⟨A, hA⟩ := hI
  obtain ⟨d, rfl, hd1⟩ := d_pos (k := 89) hd
  have tw := hA.1.1
  have t7 := tw.1.2.2.2.2.2.2
  have kp : KP (i 101) := hA.1.2.1
  have h307 := kp.1.1.1
  have hc := chg_rg hA hk
  have e8 : i 7 8 = i 101 307 := t7.1
  refine e_X11_thing (s_X11_thing _ _ _ _ _ (by omega) ⟨h0, fun _ => h1, fun _ _ => h2, fun _ _ _ => h3, fun _ _ _ _ => h4, fun z => ?_, fun z => ?_, fun z => ?_⟩)
  · refine sp_X11_refuse (by omega) r1 (ref_rg hA hk r1) ?_
    have hf := ref2 (d := d) hA hk (by omega) r1
    generalize cRef i (-1) 0 = J at hf ⊢
    exact e_X12_thing (s_X12_thing _ _ _ _ _ (by omega) ⟨h0, fun _ => h1, fun _ _ => h2, fun _ _ _ => h3, fun _ _ _ _ => h4, fun y => by omega, fun _ => hf⟩)
  · obtain ⟨d, rfl, hd2⟩ := d_pos (k := 88) hd1
    have main : cI w (d + 1) X_X11_changed [vR (some 6), vI (i 7 8 + 1 - 1)] (cTh i (i 7 8) p0 p1 p2 p3 p4) l (fun v i1 l1 => cI w (d + 1 + 1) X_X12_thing [vR (some 99), vI p0, vI p1, vI p2, vI p3, vI p4] i1 l1 (fun v' i2 l2 => v' = v ∧ Inv w (k + 1) i2 l2)) := by
      rw [e8] at z
      rw [e8]
      refine sp_X11_changed (by omega) ⟨by omega, by omega⟩ (by show rg (i 7 15 + 1); exact hc.1) ?_
      have hj : cChg (cTh i (i 101 307) p0 p1 p2 p3 p4) 101 = i 101 := rfl
      have h99 : cChg (cTh i (i 101 307) p0 p1 p2 p3 p4) 99 = i 99 := rfl
      have hce := fun i3 => chg_end2 (i3 := i3) (i1 := cTh i (i 101 307) p0 p1 p2 p3 p4) hA (fun a ha => by unfold cTh; rw [u2_other _ _ _ (by omega), u2_other _ _ _ (by omega), u2_other _ _ _ (by omega), u2_other _ _ _ (by omega), u2_other _ _ _ (by omega), u2_other _ _ _ (by omega), u2_other _ _ _ (by omega), u2_other _ _ _ (by omega), u2_other _ _ _ (by omega)]) rfl rfl
      generalize cChg (cTh i (i 101 307) p0 p1 p2 p3 p4) = J at hj h99 hce ⊢
      have hfin : cI w (d + 1) X_X12_good [vR (some 99), vI (i 101 307)] (u2 (mTh J (i 101 307) p0 p1 p2 p3 p4) 101 307 (i 101 307 + 1)) l (fun v' i2 l2 => v' = i 101 307 + 1 - 1 ∧ Inv w (k + 1) i2 l2) := by
        refine sp_X12_good (by omega) ⟨by omega, by omega⟩ (by show rg (J 99 1 + 1); rw [h99]; exact hc.2) ⟨by omega, ?_⟩
        have e3 : u2 (mTh J (i 101 307) p0 p1 p2 p3 p4) 101 307 (i 101 307 + 1) 101 = upK (thK (i 101) (i 101 307) p0 p1 p2 p3 p4) 307 (i 101 307 + 1) := by rw [u2_101, mTh_101, hj]
        refine hce _ (fun a ha => by unfold mTh; rw [u2_other _ _ _ ha, u2_other _ _ _ ha, u2_other _ _ _ ha, u2_other _ _ _ ha, u2_other _ _ _ ha, u2_other _ _ _ ha, u2_other _ _ _ ha, u2_other _ _ _ ha, u2_other _ _ _ ha]) ?_ ?_ ?_ ?_
        · rw [e3]
          exact TWg_f (Or.inl ⟨rfl, rfl⟩) (TWg_u1 ⟨by omega, by omega⟩ (TWg_u1 ⟨by omega, by omega⟩ (TWg_u1 ⟨by omega, by omega⟩ (TWg_u1 ⟨by omega, by omega⟩ (TWg_u1 ⟨by omega, by omega⟩ (TWg_u1 ⟨by omega, by omega⟩ (TWg_u1 ⟨by omega, by omega⟩ (TWg_u1 ⟨by omega, by omega⟩ tw))))))))
        · rw [e3]
          have kt := fun x hx => kTr (t := i 101 307) (x := x) ⟨by omega, by omega⟩ hx
          have b0 : kLo (i 101 307 * 8 + 0) = 0 ∧ kHi (i 101 307 * 8 + 0) = 3 := by have := kt 0 (by omega); rw [show 8 * i 101 307 + 0 = i 101 307 * 8 + 0 by omega] at this; exact this
          have b1 : kLo (i 101 307 * 8 + 1) = 0 ∧ kHi (i 101 307 * 8 + 1) = 7 := by have := kt 1 (by omega); rw [show 8 * i 101 307 + 1 = i 101 307 * 8 + 1 by omega] at this; exact this
          have b2 : kLo (i 101 307 * 8 + 2) = 0 ∧ kHi (i 101 307 * 8 + 2) = 7 := by have := kt 2 (by omega); rw [show 8 * i 101 307 + 2 = i 101 307 * 8 + 2 by omega] at this; exact this
          have b3 : kLo (i 101 307 * 8 + 3) = 0 ∧ kHi (i 101 307 * 8 + 3) = 99 := by have := kt 3 (by omega); rw [show 8 * i 101 307 + 3 = i 101 307 * 8 + 3 by omega] at this; exact this
          have b4 : kLo (i 101 307 * 8 + 4) = 0 ∧ kHi (i 101 307 * 8 + 4) = 99 := by have := kt 4 (by omega); rw [show 8 * i 101 307 + 4 = i 101 307 * 8 + 4 by omega] at this; exact this
          have b5 : kLo (i 101 307 * 8 + 5) = 0 ∧ kHi (i 101 307 * 8 + 5) = 1 := by have := kt 5 (by omega); rw [show 8 * i 101 307 + 5 = i 101 307 * 8 + 5 by omega] at this; exact this
          have b6 : kLo (i 101 307 * 8 + 6) = 0 ∧ kHi (i 101 307 * 8 + 6) = 4095 := by have := kt 6 (by omega); rw [show 8 * i 101 307 + 6 = i 101 307 * 8 + 6 by omega] at this; exact this
          have b7 : kLo (i 101 307 * 8 + 7) = 0 ∧ kHi (i 101 307 * 8 + 7) = 7 := by have := kt 7 (by omega); rw [show 8 * i 101 307 + 7 = i 101 307 * 8 + 7 by omega] at this; exact this
          unfold thK
          refine KP_up (KP_up (KP_up (KP_up (KP_up (KP_up (KP_up (KP_up (KP_up kp (by omega) (by omega) (by omega) (by omega)) (by omega) (by omega) (by omega) (by omega)) (by omega) (by omega) (by omega) (by omega)) (by omega) (by omega) (by omega) (by omega)) (by omega) (by omega) (by omega) (by omega)) (by omega) (by omega) (by omega) (by omega)) (by omega) (by omega) (by omega) (by omega)) (by omega) (by omega) (by omega) (by omega)) (by omega) (by omega) (by omega) ?_
          show 0 ≤ i 101 307 + 1 ∧ i 101 307 + 1 ≤ 10
          omega
        · rw [e3, upK_ne (by omega), thK_hi (by omega) (by omega)]
        · intro p hp; rw [e3, upK_ne (by omega), thK_hi (by omega) (by omega)]
      have hfin2 : ∀ P : Int → IM → LM → Prop, (∀ v' i2 l2, (v' = i 101 307 + 1 - 1 ∧ Inv w (k + 1) i2 l2) → P v' i2 l2) → True := fun _ _ => trivial
      refine e_X12_thing (s_X12_thing _ _ _ _ _ (by omega) ⟨h0, fun _ => h1, fun _ _ => h2, fun _ _ _ => h3, fun _ _ _ _ => h4, fun _ => ⟨fun y => by rw [hj] at y; omega, fun _ => ?_⟩, fun y => by omega⟩)
      rw [hj]
      rw [show 0 + 8 * i 101 307 = i 101 307 * 8 + 0 by omega, show i 101 307 * 8 + 0 + 1 = i 101 307 * 8 + 1 by omega, show i 101 307 * 8 + 0 + 2 = i 101 307 * 8 + 2 by omega, show i 101 307 * 8 + 0 + 3 = i 101 307 * 8 + 3 by omega, show i 101 307 * 8 + 0 + 4 = i 101 307 * 8 + 4 by omega]
      refine ⟨⟨by omega, by omega⟩, ⟨by omega, by omega⟩, h1, ⟨by omega, by omega⟩, h2, ⟨by omega, by omega⟩, h3, ⟨by omega, by omega⟩, h4, ?_⟩
      refine s_X12_thing_133 _ _ _ ⟨rg_lit rfl, fun y => by omega, fun _ => ⟨⟨by omega, by omega⟩, ?_⟩⟩
      refine s_X12_thing_133 _ _ _ ⟨rg_lit rfl, fun y => by omega, fun _ => ⟨⟨by omega, by omega⟩, ?_⟩⟩
      refine s_X12_thing_133 _ _ _ ⟨rg_lit rfl, fun y => by omega, fun _ => ⟨⟨by omega, by omega⟩, ?_⟩⟩
      rw [show i 101 307 * 8 + 0 + 5 = i 101 307 * 8 + 5 by omega, show i 101 307 * 8 + 0 + (5 + 1) = i 101 307 * 8 + 6 by omega, show i 101 307 * 8 + 0 + (5 + 1 + 1) = i 101 307 * 8 + 7 by omega]
      refine s_X12_thing_133 _ _ _ ⟨rg_lit rfl, fun _ => ?_, fun y => by omega⟩
      show rg (mTh J (i 101 307) p0 p1 p2 p3 p4 101 307 + 1) ∧ cI w (d + 1) X_X12_good [vR (some 99), vI (i 101 307)] (u2 (mTh J (i 101 307) p0 p1 p2 p3 p4) 101 307 (mTh J (i 101 307) p0 p1 p2 p3 p4 101 307 + 1)) l _
      rw [show mTh J (i 101 307) p0 p1 p2 p3 p4 101 307 = i 101 307 by rw [mTh_101, thK_hi (by omega) (by omega), hj]]
      exact ⟨⟨by omega, by omega⟩, hfin⟩
    refine e_X9_addThing (s_X9_addThing _ _ _ _ _ ?_)
    exact ⟨⟨by omega, by omega⟩, h0, ⟨by omega, by omega⟩, h1, ⟨by omega, by omega⟩, h2, ⟨by omega, by omega⟩, h3, ⟨by omega, by omega⟩, h4, ⟨by omega, by omega⟩, ⟨by omega, by omega⟩, ⟨by omega, by omega⟩, (show rg (i 7 8 + 1) from ⟨by omega, by omega⟩), (show rg (i 7 8 + 1 - 1) from ⟨by omega, by omega⟩), main⟩
  · rw [e8] at z
    refine sp_X11_refuse (by omega) r5 (ref_rg hA hk r5) ?_
    have hf := ref2 (d := d) hA hk (by omega) r5
    have hj : cRef i (-5) 3 101 = i 101 := rfl
    generalize cRef i (-5) 3 = J at hf hj ⊢
    exact e_X12_thing (s_X12_thing _ _ _ _ _ (by omega) ⟨h0, fun _ => h1, fun _ _ => h2, fun _ _ _ => h3, fun _ _ _ _ => h4, fun _ => ⟨fun _ => hf, fun y => by rw [hj] at y; omega⟩, fun y => by omega⟩)
/-! bits set and taken -/
def stB (x b : Nat) (t : Int) : Nat := if t = 1 then x ||| 2 ^ b else x &&& (1023 ^^^ 2 ^ b)
theorem jn_all : ∀ x : Fin 1024, ∀ b : Fin 10, ior (iand ((x.val : Nat) : Int) (ixor (ishl 1 ((b.val : Nat) : Int)) (-1))) (ishl 1 ((b.val : Nat) : Int)) = ((x.val ||| 2 ^ b.val : Nat) : Int) ∧ ior (iand ((x.val : Nat) : Int) (ixor (ishl 1 ((b.val : Nat) : Int)) (-1))) (ishl 0 ((b.val : Nat) : Int)) = ((x.val &&& (1023 ^^^ 2 ^ b.val) : Nat) : Int) ∧ iand ((x.val : Nat) : Int) (ixor (ishl 1 ((b.val : Nat) : Int)) (-1)) = ((x.val &&& (1023 ^^^ 2 ^ b.val) : Nat) : Int) ∧ ior ((x.val : Nat) : Int) (ishl 1 ((b.val : Nat) : Int)) = ((x.val ||| 2 ^ b.val : Nat) : Int) := by decide +kernel
theorem jn {x b : Nat} (hx : x < 1024) (hb : b < 10) : ior (iand (x : Int) (ixor (ishl 1 (b : Int)) (-1))) (ishl 1 (b : Int)) = ((x ||| 2 ^ b : Nat) : Int) ∧ ior (iand (x : Int) (ixor (ishl 1 (b : Int)) (-1))) (ishl 0 (b : Int)) = ((x &&& (1023 ^^^ 2 ^ b) : Nat) : Int) ∧ iand (x : Int) (ixor (ishl 1 (b : Int)) (-1)) = ((x &&& (1023 ^^^ 2 ^ b) : Nat) : Int) ∧ ior (x : Int) (ishl 1 (b : Int)) = ((x ||| 2 ^ b : Nat) : Int) := jn_all ⟨x, hx⟩ ⟨b, hb⟩
theorem jnM {x b : Nat} (hx : x < 1024) (hb : b < 10) {t : Int} (ht : t = 0 ∨ t = 1) : ior (iand (x : Int) (ixor (ishl 1 (b : Int)) (-1))) (ishl t (b : Int)) = ((stB x b t : Nat) : Int) := by
  rcases ht with rfl | rfl
  · exact (jn hx hb).2.1
  · exact (jn hx hb).1
theorem stB_bit (x b : Nat) (t : Int) {c : Nat} (hc : c < 10) : (stB x b t).testBit c = if c = b then decide (t = 1) else x.testBit c := by
  unfold stB
  by_cases ht : t = 1
  · rw [if_pos ht, Nat.testBit_or, Nat.testBit_two_pow]
    by_cases e : c = b
    · subst e; rw [if_pos rfl]; simp [ht]
    · rw [if_neg e]
      have : ¬ b = c := fun z => e z.symm
      simp [this]
  · have h1 : (1023 : Nat).testBit c = true := by
      have h : ∀ c : Fin 10, (1023 : Nat).testBit c.val = true := by decide
      exact h ⟨c, hc⟩
    rw [if_neg ht, Nat.testBit_and, Nat.testBit_xor, Nat.testBit_two_pow, h1]
    by_cases e : c = b
    · subst e; rw [if_pos rfl]; simp [ht]
    · rw [if_neg e]
      have : ¬ b = c := fun z => e z.symm
      simp [this]
theorem stB_lt {x b : Nat} (t : Int) {n : Nat} (hn : n ≤ 10) (hx : x < 2 ^ n) (hb : b < n) : stB x b t < 2 ^ n := by
  unfold stB
  split
  · exact Nat.or_lt_two_pow hx (Nat.pow_lt_pow_right (by omega) hb)
  · exact Nat.lt_of_le_of_lt Nat.and_le_left hx
/-- two bits, one of each, are set or taken -/
def swS (S : Nat → Nat) (a b : Nat) (t : Int) : Nat → Nat := fun x => if x = b then stB (S b) a t else if x = a then stB (S a) b t else S x
theorem swS_sym {S : Nat → Nat} {a b n : Nat} {t : Int} (hn : n ≤ 10) (ha : a < n) (hb : b < n) (hab : a ≠ b) (h : ∀ x y, x < n → y < n → ((S x).testBit y = true ↔ (S y).testBit x = true)) : ∀ x y, x < n → y < n → ((swS S a b t x).testBit y = true ↔ (swS S a b t y).testBit x = true) := by
  have key : ∀ x y, x < n → y < n → ((swS S a b t x).testBit y = true ↔ ((x = a ∧ y = b) ∨ (x = b ∧ y = a)) ∧ t = 1 ∨ ¬ ((x = a ∧ y = b) ∨ (x = b ∧ y = a)) ∧ (S x).testBit y = true) := by
    intro x y hx hy
    unfold swS
    by_cases c1 : x = b
    · subst c1
      rw [if_pos rfl, stB_bit _ _ _ (by omega)]
      by_cases c2 : y = a
      · subst c2
        rw [if_pos rfl, decide_eq_true_iff]
        constructor
        · intro q; exact Or.inl ⟨Or.inr ⟨rfl, rfl⟩, q⟩
        · rintro (q | q)
          · exact q.2
          · exact absurd (Or.inr ⟨rfl, rfl⟩) q.1
      · rw [if_neg c2]
        have : ¬ ((x = a ∧ y = x) ∨ (x = x ∧ y = a)) := by rintro (q | q); exact hab q.1.symm; exact c2 q.2
        constructor
        · intro q; exact Or.inr ⟨this, q⟩
        · rintro (q | q)
          · exact absurd q.1 this
          · exact q.2
    · rw [if_neg c1]
      by_cases c2 : x = a
      · subst c2
        rw [if_pos rfl, stB_bit _ _ _ (by omega)]
        by_cases c3 : y = b
        · subst c3
          rw [if_pos rfl, decide_eq_true_iff]
          constructor
          · intro q; exact Or.inl ⟨Or.inl ⟨rfl, rfl⟩, q⟩
          · rintro (q | q)
            · exact q.2
            · exact absurd (Or.inl ⟨rfl, rfl⟩) q.1
        · rw [if_neg c3]
          have : ¬ ((x = x ∧ y = b) ∨ (x = b ∧ y = x)) := by rintro (q | q); exact c3 q.2; exact c1 q.1
          constructor
          · intro q; exact Or.inr ⟨this, q⟩
          · rintro (q | q)
            · exact absurd q.1 this
            · exact q.2
      · rw [if_neg c2]
        have : ¬ ((x = a ∧ y = b) ∨ (x = b ∧ y = a)) := by rintro (q | q); exact c2 q.1; exact c1 q.1
        constructor
        · intro q; exact Or.inr ⟨this, q⟩
        · rintro (q | q)
          · exact absurd q.1 this
          · exact q.2
  intro x y hx hy
  rw [key x y hx hy, key y x hy hx, h x y hx hy]
  have e : ((x = a ∧ y = b) ∨ (x = b ∧ y = a)) ↔ ((y = a ∧ x = b) ∨ (y = b ∧ x = a)) := by omega
  rw [e]
end
