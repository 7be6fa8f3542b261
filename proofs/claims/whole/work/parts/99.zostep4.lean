/-! ONE CALL on both sides: street, same -/
section
variable {w : Wd} {d k : Nat} {i : IM} {l : LM}
def jnI (i : IM) (c a b : Nat) (x y : Nat) : IM := u2 (u2 i c (a : Int) (x : Int)) c (b : Int) (y : Int)
theorem sp_joinS (hd : 1 ≤ d) {P : IM → LM → Prop} {a b : Nat} (ha : a < 10) (hb : b < 10) (hab : a ≠ b) {t : Int} (ht : t = 0 ∨ t = 1) {x y : Nat} (hx : x < 1024) (hy : y < 1024) (ex : i 11 (a : Int) = (x : Int)) (ey : i 11 (b : Int) = (y : Int)) (hP : P (jnI i 11 a b (stB x b t) (stB y a t)) l) : cVd w d X_X9_join [vR (some 7), vR (some 11), vI (a : Int), vI (b : Int), vI t] i l P := by
  obtain ⟨d, rfl, hd1⟩ := d_pos hd
  have eb : ∀ v, u2 i 11 (a : Int) v 11 (b : Int) = (y : Int) := fun v => by rw [u2_at, if_neg (by omega), ey]
  refine e_X9_joinS (s_X9_joinS _ _ _ ⟨by rcases ht with rfl | rfl <;> exact rg_lit rfl, fun z => ⟨⟨by omega, by omega⟩, ⟨by omega, by omega⟩, ?_⟩, fun z => ⟨⟨by omega, by omega⟩, ⟨by omega, by omega⟩, ?_⟩⟩)
  · rw [eb, ex, (jn hx hb).2.2.2, (jn hy ha).2.2.2]
    unfold jnI stB at hP
    rw [if_pos z, if_pos z] at hP
    exact hP
  · rw [eb, ex, (jn hx hb).2.2.1, (jn hy ha).2.2.1]
    unfold jnI stB at hP
    rw [if_neg z, if_neg z] at hP
    exact hP
theorem sp_joinT (hd : 1 ≤ d) {P : IM → LM → Prop} {a b : Nat} (ha : a < 8) (hb : b < 8) (hab : a ≠ b) {t : Int} (ht : t = 0 ∨ t = 1) {x y : Nat} (hx : x < 1024) (hy : y < 1024) (ex : i 12 (a : Int) = (x : Int)) (ey : i 12 (b : Int) = (y : Int)) (hP : P (jnI i 12 a b (stB x b t) (stB y a t)) l) : cVd w d X_X9_join [vR (some 7), vR (some 12), vI (a : Int), vI (b : Int), vI t] i l P := by
  obtain ⟨d, rfl, hd1⟩ := d_pos hd
  have eb : ∀ v, u2 i 12 (a : Int) v 12 (b : Int) = (y : Int) := fun v => by rw [u2_at, if_neg (by omega), ey]
  refine e_X9_joinT (s_X9_joinT _ _ _ ⟨by rcases ht with rfl | rfl <;> exact rg_lit rfl, fun z => ⟨⟨by omega, by omega⟩, ⟨by omega, by omega⟩, ?_⟩, fun z => ⟨⟨by omega, by omega⟩, ⟨by omega, by omega⟩, ?_⟩⟩)
  · rw [eb, ex, (jn hx (by omega)).2.2.2, (jn hy (by omega)).2.2.2]
    unfold jnI stB at hP
    rw [if_pos z, if_pos z] at hP
    exact hP
  · rw [eb, ex, (jn hx (by omega)).2.2.1, (jn hy (by omega)).2.2.1]
    unfold jnI stB at hP
    rw [if_neg z, if_neg z] at hP
    exact hP
/-- what is kept, with two of a row's numbers changed -/
def jnK (K : Int → Int) (o : Int) (a b x y : Nat) : Int → Int := upK (upK K (o + (a : Int)) (x : Int)) (o + (b : Int)) (y : Int)
theorem jnK_at {K : Int → Int} {o : Int} {a b : Nat} {t : Int} (c : Nat) : (jnK K o a b (stB (K (o + (a : Int))).toNat b t) (stB (K (o + (b : Int))).toNat a t) (o + (c : Int))).toNat = swS (fun x => (K (o + (x : Int))).toNat) a b t c := by
  unfold jnK swS
  by_cases c1 : c = b
  · subst c1; rw [upK_self, if_pos rfl, Int.toNat_natCast]
  · rw [upK_ne (by omega), if_neg c1]
    by_cases c2 : c = a
    · subst c2; rw [upK_self, if_pos rfl, Int.toNat_natCast]
    · rw [upK_ne (by omega), if_neg c2]
theorem kStr {a : Nat} (ha : a < 10) : kLo (104 + (a : Int)) = 0 ∧ kHi (104 + (a : Int)) = 1023 := by
  unfold kLo kHi
  exact ⟨if_neg (by omega), by rw [if_neg (by omega), if_neg (by omega), if_pos (by omega)]⟩
theorem kSam {a : Nat} (ha : a < 8) : kLo (119 + (a : Int)) = 0 ∧ kHi (119 + (a : Int)) = 255 := by
  unfold kLo kHi
  exact ⟨if_neg (by omega), by rw [if_neg (by omega), if_neg (by omega), if_neg (by omega), if_neg (by omega), if_pos (by omega)]⟩
theorem st_street (hd : 90 ≤ d) (hk : k ≤ 100000) (hI : Inv w k i l) {p0 p1 p2 : Int} (h0 : rg p0) (h1 : rg p1) (h2 : rg p2) : BoC w k d X_X11_street X_X12_street [vI p0, vI p1, vI p2] i l := by
  obtain ⟨A, hA⟩ := hI
  obtain ⟨d, rfl, hd1⟩ := d_pos (k := 89) hd
  have tw := hA.1.1
  have kp : KP (i 101) := hA.1.2.1
  have hc := chg_rg hA hk
  refine e_X11_street (s_X11_street _ _ _ (by omega) ⟨h0, fun _ => h1, fun _ _ => h2, fun z => ?_, fun z => ⟨⟨by omega, by omega⟩, ?_⟩, fun z => ?_⟩)
  · refine sp_X11_refuse (by omega) r1 (ref_rg hA hk r1) ?_
    have hf := ref2 (d := d) hA hk (by omega) r1
    generalize cRef i (-1) 0 = J at hf ⊢
    exact e_X12_street (s_X12_street _ _ _ (by omega) ⟨h0, fun _ => h1, fun _ _ => h2, fun _ => hf, fun y => by omega, fun y => by omega⟩)
  · obtain ⟨a, rfl⟩ := Int.eq_ofNat_of_zero_le z.1.1
    obtain ⟨b, rfl⟩ := Int.eq_ofNat_of_zero_le z.2.1.1
    have ha : a < 10 := by omega
    have hb : b < 10 := by omega
    have hab : a ≠ b := by omega
    have ht : p2 = 0 ∨ p2 = 1 := by omega
    have ra := kp.1.2.2.2.1 (a : Int) (by omega) (by omega)
    have rb := kp.1.2.2.2.1 (b : Int) (by omega) (by omega)
    have ea : i 11 (a : Int) = i 101 (104 + (a : Int)) := tw.1.2.2.2.1 (a : Int) (by omega) (by omega)
    have eb : i 11 (b : Int) = i 101 (104 + (b : Int)) := tw.1.2.2.2.1 (b : Int) (by omega) (by omega)
    have ka : i 101 (104 + (a : Int)) = (((i 101 (104 + (a : Int))).toNat : Nat) : Int) := by omega
    have kb : i 101 (104 + (b : Int)) = (((i 101 (104 + (b : Int))).toNat : Nat) : Int) := by omega
    refine sp_joinS (by omega) ha hb hab ht (x := (i 101 (104 + (a : Int))).toNat) (y := (i 101 (104 + (b : Int))).toNat) (by omega) (by omega) (by omega) (by omega) ?_
    have hbit : rg (iand (ishr (i 11 (a : Int)) (b : Int)) 1) := rg_iand _ _
    refine sp_X11_changed (by omega) hbit (by show rg (i 7 15 + 1); exact hc.1) ?_
    have hj : cChg (jnI i 11 a b (stB (i 101 (104 + (a : Int))).toNat b p2) (stB (i 101 (104 + (b : Int))).toNat a p2)) 101 = i 101 := rfl
    have h99 : cChg (jnI i 11 a b (stB (i 101 (104 + (a : Int))).toNat b p2) (stB (i 101 (104 + (b : Int))).toNat a p2)) 99 = i 99 := rfl
    have hce := fun i3 => chg_end2 (i3 := i3) (i1 := jnI i 11 a b (stB (i 101 (104 + (a : Int))).toNat b p2) (stB (i 101 (104 + (b : Int))).toNat a p2)) hA (fun a ha => by unfold jnI; rw [u2_other _ _ _ (by omega), u2_other _ _ _ (by omega)]) rfl rfl
    generalize cChg (jnI i 11 a b (stB (i 101 (104 + (a : Int))).toNat b p2) (stB (i 101 (104 + (b : Int))).toNat a p2)) = J at hj h99 hce ⊢
    refine e_X12_street (s_X12_street _ _ _ (by omega) ⟨h0, fun _ => h1, fun _ _ => h2, fun y => by omega, fun _ => ⟨⟨by omega, by omega⟩, ⟨by omega, by omega⟩, ?_⟩, fun y => absurd y.2.2.2 z.2.2.2⟩)
    have f1 : ior (iand (J 101 (104 + (a : Int))) (ixor (ishl 1 (b : Int)) (-1))) (ishl p2 (b : Int)) = ((stB (i 101 (104 + (a : Int))).toNat b p2 : Nat) : Int) := by
      rw [hj]
      have := jnM (x := (i 101 (104 + (a : Int))).toNat) (by omega) hb ht
      rw [← ka] at this
      exact this
    have f2 : ∀ v, ior (iand (u2 J 101 (104 + (a : Int)) v 101 (104 + (b : Int))) (ixor (ishl 1 (a : Int)) (-1))) (ishl p2 (a : Int)) = ((stB (i 101 (104 + (b : Int))).toNat a p2 : Nat) : Int) := by
      intro v
      rw [u2_at, if_neg (by omega), hj]
      have := jnM (x := (i 101 (104 + (b : Int))).toNat) (by omega) ha ht
      rw [← kb] at this
      exact this
    rw [f2, f1]
    refine sp_X12_good (by omega) (rg_iand _ _) (by show rg (J 99 1 + 1); rw [h99]; exact hc.2) ⟨by rw [hj, ea], ?_⟩
    have la : stB (i 101 (104 + (a : Int))).toNat b p2 < 1024 := stB_lt p2 (n := 10) (by omega) (by omega) hb
    have lb : stB (i 101 (104 + (b : Int))).toNat a p2 < 1024 := stB_lt p2 (n := 10) (by omega) (by omega) ha
    have e3 : u2 (u2 J 101 (104 + (a : Int)) ((stB (i 101 (104 + (a : Int))).toNat b p2 : Nat) : Int)) 101 (104 + (b : Int)) ((stB (i 101 (104 + (b : Int))).toNat a p2 : Nat) : Int) 101 = jnK (i 101) 104 a b (stB (i 101 (104 + (a : Int))).toNat b p2) (stB (i 101 (104 + (b : Int))).toNat a p2) := by
      rw [u2_101, u2_101, hj]; rfl
    refine hce _ (fun a ha => by rw [u2_other _ _ _ ha, u2_other _ _ _ ha]) ?_ ?_ ?_ ?_
    · rw [e3]; exact TWg_u4 ⟨by omega, by omega⟩ (TWg_u4 ⟨by omega, by omega⟩ tw)
    · rw [e3]
      have va := kStr ha
      have vb := kStr hb
      refine ⟨kOK_of (kBd_up (kBd_up (kBd_of kp.1) (by omega)) (by omega)), ⟨?_, ?_⟩, ?_⟩
      · intro x y hx hy
        have := swS_sym (t := p2) (n := 10) (by omega) ha hb hab kp.2.1.1 x y hx hy
        show (jnK (i 101) 104 a b _ _ (104 + (x : Int))).toNat.testBit y = true ↔ (jnK (i 101) 104 a b _ _ (104 + (y : Int))).toNat.testBit x = true
        rw [jnK_at, jnK_at]
        exact this
      · intro x y hx hy hbit
        have hbit' : (jnK (i 101) 104 a b (stB (i 101 (104 + (a : Int))).toNat b p2) (stB (i 101 (104 + (b : Int))).toNat a p2) (119 + (x : Int))).toNat.testBit y = true := hbit
        show (jnK (i 101) 104 a b (stB (i 101 (104 + (a : Int))).toNat b p2) (stB (i 101 (104 + (b : Int))).toNat a p2) (119 + (y : Int))).toNat.testBit x = true
        unfold jnK at hbit' ⊢
        rw [upK_ne (by omega), upK_ne (by omega)] at hbit' ⊢
        exact kp.2.1.2 x y hx hy hbit'
      · unfold FrK jnK
        rw [upK_ne (by omega), upK_ne (by omega), upK_ne (by omega), upK_ne (by omega)]
        exact kp.2.2
    · rw [e3]; unfold jnK; rw [upK_ne (by omega), upK_ne (by omega)]
    · intro p hp; rw [e3]; unfold jnK; rw [upK_ne (by omega), upK_ne (by omega)]
  · refine sp_X11_refuse (by omega) r3 (ref_rg hA hk r3) ?_
    have hf := ref2 (d := d) hA hk (by omega) r3
    generalize cRef i (-3) 2 = J at hf ⊢
    exact e_X12_street (s_X12_street _ _ _ (by omega) ⟨h0, fun _ => h1, fun _ _ => h2, fun y => by omega, fun y => by omega, fun _ => hf⟩)
theorem stB_or {x a b : Nat} {t : Int} (hx : x < 256) (ha : a < 8) (hb : b < 8) (hab : a ≠ b) : stB x b t ||| 2 ^ a = stB (x ||| 2 ^ a) b t := by
  have ha2 : 2 ^ a < 2 ^ 8 := Nat.pow_lt_pow_right (by omega) ha
  have hx2 : x ||| 2 ^ a < 2 ^ 8 := Nat.or_lt_two_pow hx ha2
  apply Nat.eq_of_testBit_eq
  intro c
  by_cases hc : c < 10
  · rw [Nat.testBit_or, stB_bit _ _ _ hc, stB_bit _ _ _ hc, Nat.testBit_or, Nat.testBit_two_pow]
    by_cases e : c = b
    · subst e
      rw [if_pos rfl, if_pos rfl]
      simp [hab]
    · rw [if_neg e, if_neg e]
  · have h1 : stB x b t ||| 2 ^ a < 2 ^ c := Nat.lt_of_lt_of_le (Nat.or_lt_two_pow (stB_lt t (n := 8) (by omega) hx hb) ha2) (Nat.pow_le_pow_right (by omega) (by omega))
    have h2 : stB (x ||| 2 ^ a) b t < 2 ^ c := Nat.lt_of_lt_of_le (stB_lt t (n := 8) (by omega) hx2 hb) (Nat.pow_le_pow_right (by omega) (by omega))
    rw [Nat.testBit_lt_two_pow h1, Nat.testBit_lt_two_pow h2]
theorem bit_own {x a b : Nat} (hx : x < 256) (ha : a < 8) (hb : b < 8) (hab : a ≠ b) : iand (ishr ((x ||| 2 ^ a : Nat) : Int) (b : Int)) 1 = iand (ishr (x : Int) (b : Int)) 1 := by
  have ha2 : 2 ^ a < 2 ^ 8 := Nat.pow_lt_pow_right (by omega) ha
  have hx2 : x ||| 2 ^ a < 2 ^ 8 := Nat.or_lt_two_pow hx ha2
  rw [ibit_nat (by omega) (by omega), ibit_nat (by omega) (by omega), bit_div, bit_div, Nat.testBit_or, Nat.testBit_two_pow]
  simp [hab]
theorem st_same (hd : 90 ≤ d) (hk : k ≤ 100000) (hI : Inv w k i l) {p0 p1 p2 : Int} (h0 : rg p0) (h1 : rg p1) (h2 : rg p2) : BoC w k d X_X11_same X_X12_same [vI p0, vI p1, vI p2] i l := by
  obtain ⟨A, hA⟩ := hI
  obtain ⟨d, rfl, hd1⟩ := d_pos (k := 89) hd
  have tw := hA.1.1
  have kp : KP (i 101) := hA.1.2.1
  have hc := chg_rg hA hk
  refine e_X11_same (s_X11_same _ _ _ (by omega) ⟨h0, fun _ => h1, fun _ _ => h2, fun z => ?_, fun z => ⟨⟨by omega, by omega⟩, ?_⟩, fun z => ?_⟩)
  · refine sp_X11_refuse (by omega) r1 (ref_rg hA hk r1) ?_
    have hf := ref2 (d := d) hA hk (by omega) r1
    generalize cRef i (-1) 0 = J at hf ⊢
    exact e_X12_same (s_X12_same _ _ _ (by omega) ⟨h0, fun _ => h1, fun _ _ => h2, fun _ => hf, fun y => by omega, fun y => by omega⟩)
  · obtain ⟨a, rfl⟩ := Int.eq_ofNat_of_zero_le z.1.1
    obtain ⟨b, rfl⟩ := Int.eq_ofNat_of_zero_le z.2.1.1
    have ha : a < 8 := by omega
    have hb : b < 8 := by omega
    have hab : a ≠ b := by omega
    have ht : p2 = 0 ∨ p2 = 1 := by omega
    have ra := kp.1.2.2.2.2.2.1 (a : Int) (by omega) (by omega)
    have rb := kp.1.2.2.2.2.2.1 (b : Int) (by omega) (by omega)
    have la := tw.2 a ha
    have lb := tw.2 b hb
    have la1 : 0 ≤ i 12 (a : Int) ∧ i 12 (a : Int) < 256 := la.1
    have lb1 : 0 ≤ i 12 (b : Int) ∧ i 12 (b : Int) < 256 := lb.1
    have la2 : (i 101 (119 + (a : Int))).toNat = (i 12 (a : Int)).toNat ||| 2 ^ a := la.2
    have lb2 : (i 101 (119 + (b : Int))).toNat = (i 12 (b : Int)).toNat ||| 2 ^ b := lb.2
    have ka : i 101 (119 + (a : Int)) = (((i 101 (119 + (a : Int))).toNat : Nat) : Int) := by omega
    have kb : i 101 (119 + (b : Int)) = (((i 101 (119 + (b : Int))).toNat : Nat) : Int) := by omega
    have xa : i 12 (a : Int) = (((i 12 (a : Int)).toNat : Nat) : Int) := by omega
    have xb : i 12 (b : Int) = (((i 12 (b : Int)).toNat : Nat) : Int) := by omega
    refine sp_joinT (by omega) ha hb hab ht (x := (i 12 (a : Int)).toNat) (y := (i 12 (b : Int)).toNat) (by omega) (by omega) xa xb ?_
    -- what is kept on the other side
    have la' : stB (i 101 (119 + (a : Int))).toNat b p2 < 256 := stB_lt p2 (n := 8) (by omega) (by omega) hb
    have lb' : stB (i 101 (119 + (b : Int))).toNat a p2 < 256 := stB_lt p2 (n := 8) (by omega) (by omega) ha
    have ma' : stB (i 12 (a : Int)).toNat b p2 < 256 := stB_lt p2 (n := 8) (by omega) (by omega) hb
    have mb' : stB (i 12 (b : Int)).toNat a p2 < 256 := stB_lt p2 (n := 8) (by omega) (by omega) ha
    have kSame : ∀ c : Nat, c < 8 → mSame (fun _ => jnK (i 101) 119 a b (stB (i 101 (119 + (a : Int))).toNat b p2) (stB (i 101 (119 + (b : Int))).toNat a p2)) c = swS (fun x => (i 101 (119 + (x : Int))).toNat) a b p2 c := fun c _ => jnK_at c
    have kS8 : ∀ c : Nat, c < 8 → swS (fun x => (i 101 (119 + (x : Int))).toNat) a b p2 c < 256 := fun c hc8 => by
      unfold swS
      have := kp.1.2.2.2.2.2.1 (c : Int) (by omega) (by omega)
      split
      · exact lb'
      · split
        · exact la'
        · simp only; omega
    have symI : ∀ x y : Nat, x < 8 → y < 8 → (((i 101 (119 + (x : Int))).toNat).testBit y = true ↔ ((i 101 (119 + (y : Int))).toNat).testBit x = true) := fun x y hx hy => ⟨kp.2.1.2 x y hx hy, kp.2.1.2 y x hy hx⟩
    have symK : Symm (mSame (fun _ => jnK (i 101) 119 a b (stB (i 101 (119 + (a : Int))).toNat b p2) (stB (i 101 (119 + (b : Int))).toNat a p2))) := fun x y hx hy hq => by
      rw [kSame x hx] at hq
      rw [kSame y hy]
      exact (swS_sym (S := fun x => (i 101 (119 + (x : Int))).toNat) (t := p2) (n := 8) (by omega) ha hb hab symI x y hx hy).mp hq
    have toldAt : ∀ c : Nat, c < 8 → (0 ≤ jnI i 12 a b (stB (i 12 (a : Int)).toNat b p2) (stB (i 12 (b : Int)).toNat a p2) 12 (c : Int) ∧ jnI i 12 a b (stB (i 12 (a : Int)).toNat b p2) (stB (i 12 (b : Int)).toNat a p2) 12 (c : Int) < 256) ∧ mSame (fun _ => jnK (i 101) 119 a b (stB (i 101 (119 + (a : Int))).toNat b p2) (stB (i 101 (119 + (b : Int))).toNat a p2)) c = (jnI i 12 a b (stB (i 12 (a : Int)).toNat b p2) (stB (i 12 (b : Int)).toNat a p2) 12 (c : Int)).toNat ||| 2 ^ c := by
      intro c hc8
      rw [kSame c hc8]
      unfold swS jnI
      rw [u2_at, u2_at]
      by_cases c1 : c = b
      · subst c1
        rw [if_pos rfl, if_pos rfl, Int.toNat_natCast, stB_or (by omega) hb ha (fun e => hab e.symm)]
        refine ⟨⟨by omega, by omega⟩, ?_⟩
        show stB (i 101 (119 + (c : Int))).toNat a p2 = _
        rw [lb2]
      · rw [if_neg c1, if_neg (show ¬ (c : Int) = (b : Int) by omega)]
        by_cases c2 : c = a
        · subst c2
          rw [if_pos rfl, if_pos rfl, Int.toNat_natCast, stB_or (by omega) ha hb hab]
          refine ⟨⟨by omega, by omega⟩, ?_⟩
          show stB (i 101 (119 + (c : Int))).toNat b p2 = _
          rw [la2]
        · rw [if_neg c2, if_neg (show ¬ (c : Int) = (a : Int) by omega)]
          exact tw.2 c hc8
    have jO : ∀ c, c ≠ 12 → jnI i 12 a b (stB (i 12 (a : Int)).toNat b p2) (stB (i 12 (b : Int)).toNat a p2) c = i c := fun c hc => by unfold jnI; rw [u2_other _ _ _ hc, u2_other _ _ _ hc]
    generalize hJ : jnI i 12 a b (stB (i 12 (a : Int)).toNat b p2) (stB (i 12 (b : Int)).toNat a p2) = J0 at toldAt jO ⊢
    generalize hKe : jnK (i 101) 119 a b (stB (i 101 (119 + (a : Int))).toNat b p2) (stB (i 101 (119 + (b : Int))).toNat a p2) = K' at kSame symK toldAt
    have hg := sp_X9_gather (w := w) (d := d) (i := J0) (l := l) (by omega) (S := mSame (fun _ => K')) (fun c hc8 => by rw [kSame c hc8]; exact kS8 c hc8) symK (fun c c0 c1 => by
      obtain ⟨n, rfl⟩ := Int.eq_ofNat_of_zero_le c0
      exact (toldAt n (by omega)).1) (fun c hc8 => (toldAt c hc8).2)
    refine Cn_mono hg ?_
    rintro r δ' i' l' ⟨h1', h2', rfl, rfl⟩
    refine ⟨h1', h2', ?_⟩
    have low6 : ∀ c : Nat, c ≠ 13 → lowA J0 (fun z => ((lwS (mSame (fun _ => K')) z.toNat : Nat) : Int)) c = J0 c := fun c hc => funext fun x => if_neg (fun y => hc y.1)
    have low13 : ∀ c : Int, 0 ≤ c → c < 8 → lowA J0 (fun z => ((lwS (mSame (fun _ => K')) z.toNat : Nat) : Int)) 13 c = mLow (fun _ => K') c := fun c c0 c1 => lowA_at _ _ ⟨c0, c1⟩
    generalize lowA J0 (fun z => ((lwS (mSame (fun _ => K')) z.toNat : Nat) : Int)) = J1 at low6 low13 ⊢
    have h7 : J1 7 = i 7 := by rw [low6 7 (by decide), jO 7 (by decide)]
    refine sp_X11_changed (by omega) (rg_iand _ _) (by rw [h7]; exact hc.1) ?_
    have hj : cChg J1 101 = i 101 := by
      have : cChg J1 101 = J1 101 := rfl
      rw [this, low6 101 (by decide), jO 101 (by decide)]
    have h99 : cChg J1 99 = i 99 := by
      have : cChg J1 99 = J1 99 := rfl
      rw [this, low6 99 (by decide), jO 99 (by decide)]
    have hce := fun i3 => chg_end2 (l := l') (i3 := i3) (i1 := J1) hA (fun c hc16 => by rw [low6 c (by omega), jO c (by omega)]) (by rw [low6 6 (by decide), jO 6 (by decide)]) (by rw [h7])
    refine e_X12_same (s_X12_same _ _ _ (by omega) ⟨h0, fun _ => h1, fun _ _ => h2, fun y => by omega, fun _ => ⟨⟨by omega, by omega⟩, ⟨by omega, by omega⟩, ?_⟩, fun y => absurd y.2.2.2 z.2.2.2⟩)
    have f1 : ior (iand (cChg J1 101 (119 + (a : Int))) (ixor (ishl 1 (b : Int)) (-1))) (ishl p2 (b : Int)) = ((stB (i 101 (119 + (a : Int))).toNat b p2 : Nat) : Int) := by
      rw [hj]
      have := jnM (x := (i 101 (119 + (a : Int))).toNat) (b := b) (by omega) (by omega) ht
      rw [← ka] at this
      exact this
    have f2 : ∀ v, ior (iand (u2 (cChg J1) 101 (119 + (a : Int)) v 101 (119 + (b : Int))) (ixor (ishl 1 (a : Int)) (-1))) (ishl p2 (a : Int)) = ((stB (i 101 (119 + (b : Int))).toNat a p2 : Nat) : Int) := by
      intro v
      rw [u2_at, if_neg (by omega), hj]
      have := jnM (x := (i 101 (119 + (b : Int))).toNat) (b := a) (by omega) (by omega) ht
      rw [← kb] at this
      exact this
    rw [f2, f1]
    have ebit : iand (ishr (cChg J1 101 (119 + (a : Int))) (b : Int)) 1 = iand (ishr (i 12 (a : Int)) (b : Int)) 1 := by
      rw [hj, ka, la2, bit_own (by omega) ha hb hab, ← xa]
    refine sp_X12_good (by omega) (rg_iand _ _) (by show rg (cChg J1 99 1 + 1); rw [h99]; exact hc.2) ⟨ebit, ?_⟩
    have e3 : u2 (u2 (cChg J1) 101 (119 + (a : Int)) ((stB (i 101 (119 + (a : Int))).toNat b p2 : Nat) : Int)) 101 (119 + (b : Int)) ((stB (i 101 (119 + (b : Int))).toNat a p2 : Nat) : Int) 101 = K' := by
      rw [u2_101, u2_101, hj]; exact hKe
    have kne : ∀ p : Int, (p < 119 ∨ 127 ≤ p) → K' p = i 101 p := fun p hp => by
      rw [← hKe]; unfold jnK; rw [upK_ne (by omega), upK_ne (by omega)]
    refine hce _ (fun c hc => by rw [u2_other _ _ _ hc, u2_other _ _ _ hc]) ?_ ?_ ?_ ?_
    · rw [e3]
      obtain ⟨⟨t1, t2, t3, t4, t5, t6, t7⟩, -⟩ := tw
      have o : ∀ c, c ≠ 13 → c ≠ 12 → J1 c = i c := fun c c1 c2 => by rw [low6 c c1, jO c c2]
      refine ⟨⟨fun j j0 j1 => ?_, fun j j0 j1 => ?_, fun j j0 j1 => ?_, fun j j0 j1 => ?_, low13, fun j j0 j1 => ?_, ?_⟩, fun c hc8 => ?_⟩
      · rw [kne j (by omega), o (7 + 1) (by decide) (by decide)]; exact t1 j j0 j1
      · rw [kne _ (by omega), o (7 + 2) (by decide) (by decide)]; exact t2 j j0 j1
      · rw [kne _ (by omega), o (7 + 3) (by decide) (by decide)]; exact t3 j j0 j1
      · rw [kne _ (by omega), o (7 + 4) (by decide) (by decide)]; exact t4 j j0 j1
      · rw [kne _ (by omega), o (7 + 7) (by decide) (by decide)]; exact t6 j j0 j1
      · rw [kne _ (by omega), kne _ (by omega), kne _ (by omega), kne _ (by omega), kne _ (by omega), kne _ (by omega), kne _ (by omega), h7]; exact t7
      · rw [low6 (7 + 5) (by decide)]
        exact toldAt c hc8
    · rw [e3]
      have va := kSam ha
      have vb := kSam hb
      refine ⟨?_, ⟨fun x y hx hy => ?_, symK⟩, ?_⟩
      · rw [← hKe]
        exact kOK_of (kBd_up (kBd_up (kBd_of kp.1) (by omega)) (by omega))
      · show (K' (104 + (x : Int))).toNat.testBit y = true ↔ (K' (104 + (y : Int))).toNat.testBit x = true
        rw [kne _ (by omega), kne _ (by omega)]
        exact kp.2.1.1 x y hx hy
      · unfold FrK; rw [kne _ (by omega), kne _ (by omega)]; exact kp.2.2
    · rw [e3]; exact kne _ (by omega)
    · intro p hp; rw [e3]; exact kne _ (by omega)
  · refine sp_X11_refuse (by omega) r3 (ref_rg hA hk r3) ?_
    have hf := ref2 (d := d) hA hk (by omega) r3
    generalize cRef i (-3) 2 = J at hf ⊢
    exact e_X12_same (s_X12_same _ _ _ (by omega) ⟨h0, fun _ => h1, fun _ _ => h2, fun y => by omega, fun y => by omega, fun _ => hf⟩)
end
