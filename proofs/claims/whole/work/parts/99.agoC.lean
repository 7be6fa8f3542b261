/-! PAINTER in memory: go, sums, start -/
section
variable {w : Wd} {d : Nat} {i : IM} {l : LM}
theorem lp_go {P : IM → LM → Prop} {a : Nat} (ha : a = 63 ∨ a = 73) (hd : 17 ≤ d) {n : Nat} {b : Bool} (hcv : cvOK i n) (hsx : SxM i a n) (h0 : ∀ q : Nat, q < (rwM i l a).1 → l (a + 1) (q : Int) = 0) {s : SA} (hps : pS i a n b s) (hb1 : 0 ≤ s.1 ∧ s.1 ≤ 100) (hb2 : 0 ≤ s.2.1.1 ∧ s.2.1.1 ≤ 100) (hP : ∀ i' l', efr a 0 i i' → lfr a 0 l l' → pS i' a n b (goX (pcM i) (rwM i l a) (i a 15) (l a 16) n s) → P i' l') : ∀ r q : Nat, q + r = (rwM i l a).1 → gV w d X_X5_go P i l 4 [(0, vR (some a)), (1, vI ((opGo (rwM i l a) q : Nat) : Int)), (2, vI (q : Int))] [] := by
  have hR := hcv.2.2.1
  have hn := hcv.1
  have eR : (rwM i l a).1 = (i 51 13).toNat := rfl
  have h3 := pow3_le n hn
  have h3p : (0 : Int) ≤ 3 ^ n := Int.pow_nonneg (by omega)
  intro r
  induction r with
  | zero =>
    intro q hq
    have e : q = (rwM i l a).1 := by omega
    rw [e]
    have hlt := opGo_lt (rwM i l a) (rwM i l a).1
    have h12 : 2 ^ (rwM i l a).1 ≤ 2 ^ 12 := Nat.pow_le_pow_right (by omega) (by omega)
    unfold goX at hP
    refine s_X5_go_4 _ _ ha (by omega) ⟨⟨by omega, by omega⟩, fun _ => ⟨by omega, by omega⟩, fun z => by omega, fun z => by omega, fun z => ?_, fun z => ?_, fun z => by omega, fun z => by omega⟩
    · have z2 : ¬ opGo (rwM i l a) (rwM i l a).1 = 0 := by have := z.2; omega
      rw [if_neg z2] at hP
      have := sp_X5_explore (w := w) ha (n := n) (b := b) n d 0 o0 (opGo (rwM i l a) (rwM i l a).1) s i l P (by omega) (Nat.zero_add _) hcv hsx (by omega) (fun j hj => by omega) (fun y hy _ => by
        have := h0 y hy
        rw [show (((0 : Nat) : Int) * 12 + (y : Int)) = (y : Int) by omega]
        exact this) hps ⟨hb1.1, by omega⟩ ⟨hb2.1, by omega⟩ hP
      exact this
    · have z2 : opGo (rwM i l a) (rwM i l a).1 = 0 := by have := z.2; omega
      rw [if_pos z2] at hP
      have := sp_X5_record (w := w) (l := l) (P := P) (d := d) ha (by omega) hcv hsx (t := 0) (Nat.zero_le _) (o := o0) (fun j hj => by omega) hps ⟨⟨by omega, by omega⟩, ⟨by omega, by omega⟩⟩ (fun i' hi' hp' => hP i' l (efr_p hi') (lfr_rf a 0 l) (by rw [Nat.sub_zero] at hp'; exact hp'))
      exact this
  | succ r ih =>
    intro q hq
    have hnx := ih (q + 1) (by omega)
    have hlt := opGo_lt (rwM i l a) q
    have h12 : 2 ^ q ≤ 2 ^ 11 := Nat.pow_le_pow_right (by omega) (by omega)
    unfold opGo at hnx
    have em : mayF l (q : Int) 0 (l (a + 2) (q : Int)) (l (a + 2) (q : Int)) = mfL (rwM i l a) 0 q 0 ((rwM i l a).2.2.1 q) ((rwM i l a).2.2.1 q) := mayF_eq (i := i) (a := a) (t := 0) (q := q) (by omega)
    refine s_X5_go_4 _ _ ha (by omega) ⟨⟨by omega, by omega⟩, fun z => by omega, fun _ => ⟨by omega, by omega⟩, fun _ => ⟨by omega, by omega⟩, fun z => by omega, fun z => by omega, fun z => ?_, fun z => ?_⟩
    · have z2 := z.2
      rw [em] at z2
      rw [if_pos z2] at hnx
      exact hnx
    · have z2 := z.2
      rw [em] at z2
      rw [if_neg z2] at hnx
      rw [ishl_one (by omega), ior_nat (by omega) (by omega)]
      exact hnx
theorem sp_X5_go {P : IM → LM → Prop} {a : Nat} (ha : a = 63 ∨ a = 73) (hd : 18 ≤ d) {n : Nat} {b : Bool} (hcv : cvOK i n) (hsx : SxM i a n) (h0 : ∀ q : Nat, q < (rwM i l a).1 → l (a + 1) (q : Int) = 0) {s : SA} (hps : pS i a n b s) (hb1 : 0 ≤ s.1 ∧ s.1 ≤ 100) (hb2 : 0 ≤ s.2.1.1 ∧ s.2.1.1 ≤ 100) (hP : ∀ i' l', efr a 0 i i' → lfr a 0 l l' → pS i' a n b (goX (pcM i) (rwM i l a) (i a 15) (l a 16) n s) → P i' l') : cVd w d X_X5_go [vR (some a)] i l P := by
  obtain ⟨d, rfl, hd1⟩ := d_pos hd
  exact e_X5_go (s_X5_go ha (lp_go ha hd1 hcv hsx h0 hps hb1 hb2 hP _ 0 (Nat.zero_add _)))
/-- the sums, from a THING on -/
def SxP (i : IM) (a n t0 : Nat) : Prop := (∀ t : Nat, t0 ≤ t → t ≤ n → i (a + 4) (t : Int) = (sx (pcM i) (n - t) t).1 ∧ i (a + 5) (t : Int) = (sx (pcM i) (n - t) t).2.1 ∧ i (a + 6) (t : Int) = (sx (pcM i) (n - t) t).2.2.1 ∧ i (a + 7) (t : Int) = pk3 (sx (pcM i) (n - t) t).2.2.2.1 (sx (pcM i) (n - t) t).2.2.2.2.1 (sx (pcM i) (n - t) t).2.2.2.2.2) ∧ ∀ t : Nat, t0 ≤ t → t < n → i (a + 8) (t : Int) = (((loc (pcM i) t).2.2.2.1 : Nat) : Int)
/-- what sums change -/
def sfrm (a : Nat) (i i' : IM) : Prop := ∀ c, c ≠ a + 4 → c ≠ a + 5 → c ≠ a + 6 → c ≠ a + 7 → c ≠ a + 8 → i' c = i c
theorem pcM_s {a : Nat} (ha : a = 63 ∨ a = 73) {i i' : IM} (h : sfrm a i i') : pcM i' = pcM i := by
  unfold pcM
  rw [h 52 (by omega) (by omega) (by omega) (by omega) (by omega), h 54 (by omega) (by omega) (by omega) (by omega) (by omega), h 55 (by omega) (by omega) (by omega) (by omega) (by omega)]
theorem cvOK_s {a n : Nat} (ha : a = 63 ∨ a = 73) {i i' : IM} (h : sfrm a i i') (hc : cvOK i n) : cvOK i' n := by
  unfold cvOK
  rw [pcM_s ha h, h 7 (by omega) (by omega) (by omega) (by omega) (by omega), h 51 (by omega) (by omega) (by omega) (by omega) (by omega), h 52 (by omega) (by omega) (by omega) (by omega) (by omega), h 53 (by omega) (by omega) (by omega) (by omega) (by omega), h 54 (by omega) (by omega) (by omega) (by omega) (by omega), h 55 (by omega) (by omega) (by omega) (by omega) (by omega)]
  exact hc
def enL (x : Option LEl) : Int × Int × Int × Int := match x with
  | none => (0, 0, 0, 0)
  | some x => (x.1, x.2.1, x.2.2.1, pk3 x.2.2.2.2.1 x.2.2.2.2.2.1 x.2.2.2.2.2.2)
theorem lp_sumUp {P : IM → LM → Prop} {a : Nat} (ha : a = 63 ∨ a = 73) (hd : 2 ≤ d) {n : Nat} (hcv : cvOK i n) {t : Nat} (ht : t < n) (hsx : SxP i a n (t + 1)) (hP : ∀ i', sfrm a i i' → SxP i' a n t → P i' l) : ∀ r c : Nat, c + r = 3 → ∀ i', (∀ k, k ≠ a + 8 → i' k = i k) → (∀ j : Int, j ≠ (t : Int) → i' (a + 8) j = i (a + 8) j) → (∀ x, sumL (pcM i) t c = some x → i' (a + 8) (t : Int) = ((x.2.2.2.1 : Nat) : Int)) → gV w d X_X5_sumUp P i' l 13 [(0, vR (some a)), (1, vI (t : Int)), (2, vI (enL (sumL (pcM i) t c)).1), (3, vI (enL (sumL (pcM i) t c)).2.1), (4, vI (enL (sumL (pcM i) t c)).2.2.1), (5, vI (enL (sumL (pcM i) t c)).2.2.2), (6, vI (c : Int))] [] := by
  have hn := hcv.1
  have hbd : ∀ c x, c ≤ 3 → sumL (pcM i) t c = some x → _ := fun c x hc hx => sumL_bd (lo := -99) (hi := 99) (pcM_bd hcv ht) c x hc hx
  intro r
  induction r with
  | zero =>
    intro c hc i' h1 h2 h8
    have e : c = 3 := by omega
    subst e
    have hl := (loc_pos hcv.2.2.2.1 ht).1
    have h8' := h8 _ hl
    rw [hl]
    obtain ⟨l1, l4, l5, l6, l7⟩ := loc_bd hcv ht
    obtain ⟨s1, s4, s5, s6, s7⟩ := sx_bd hcv (n - (t + 1)) (t + 1) (by omega)
    obtain ⟨x4, x5, x6, x7⟩ := hsx.1 (t + 1) (by omega) (by omega)
    have hp := pow3_le (n - (t + 1)) (by omega)
    have ec : ((t + 1 : Nat) : Int) = (t : Int) + 1 := by omega
    rw [ec] at x4 x5 x6 x7
    have en : n - t = (n - (t + 1)) + 1 := by omega
    have m1 : 0 ≤ (sx (pcM i) (n - (t + 1)) (t + 1)).1 * (loc (pcM i) t).1 ∧ (sx (pcM i) (n - (t + 1)) (t + 1)).1 * (loc (pcM i) t).1 ≤ 59049 * 3 := ⟨Int.mul_nonneg (by omega) (by omega), Int.mul_le_mul (by omega) (by omega) (by omega) (by omega)⟩
    have m2 : 0 ≤ (sx (pcM i) (n - (t + 1)) (t + 1)).2.1 * (loc (pcM i) t).2.1 ∧ (sx (pcM i) (n - (t + 1)) (t + 1)).2.1 * (loc (pcM i) t).2.1 ≤ 59049 * 3 := ⟨Int.mul_nonneg (by omega) (by omega), Int.mul_le_mul (by omega) (by omega) (by omega) (by omega)⟩
    have y4 : i' (a + 4) ((t : Int) + 1) = (sx (pcM i) (n - (t + 1)) (t + 1)).1 := by rw [h1 _ (by omega), x4]
    have y5 : ∀ v, u2 i' (a + 4) (t : Int) v (a + 5) ((t : Int) + 1) = (sx (pcM i) (n - (t + 1)) (t + 1)).2.1 := fun v => by rw [u2_other _ _ _ (by omega), h1 _ (by omega), x5]
    have y6 : ∀ v v', u2 (u2 i' (a + 4) (t : Int) v) (a + 5) (t : Int) v' (a + 6) ((t : Int) + 1) = (sx (pcM i) (n - (t + 1)) (t + 1)).2.2.1 := fun v v' => by rw [u2_other _ _ _ (by omega), u2_other _ _ _ (by omega), h1 _ (by omega), x6]
    have y7 : ∀ v v' v'', u2 (u2 (u2 i' (a + 4) (t : Int) v) (a + 5) (t : Int) v') (a + 6) (t : Int) v'' (a + 7) ((t : Int) + 1) = pk3 (sx (pcM i) (n - (t + 1)) (t + 1)).2.2.2.1 (sx (pcM i) (n - (t + 1)) (t + 1)).2.2.2.2.1 (sx (pcM i) (n - (t + 1)) (t + 1)).2.2.2.2.2 := fun v v' v'' => by rw [u2_other _ _ _ (by omega), u2_other _ _ _ (by omega), u2_other _ _ _ (by omega), h1 _ (by omega), x7]
    refine s_X5_sumUp_13 _ _ _ _ _ _ ha hd ⟨⟨by omega, by omega⟩, fun q => by omega, fun _ => ?_, fun q => by omega, fun q => by omega⟩
    rw [y4, y5, y6, y7]
    refine ⟨⟨by omega, by omega⟩, ⟨by omega, by omega⟩, ?_, ?_, ?_, ?_, ?_⟩
    · show rg ((sx (pcM i) (n - (t + 1)) (t + 1)).1 * (loc (pcM i) t).1); exact ⟨by omega, by omega⟩
    · show rg ((sx (pcM i) (n - (t + 1)) (t + 1)).2.1 * (loc (pcM i) t).2.1); exact ⟨by omega, by omega⟩
    · show rg ((sx (pcM i) (n - (t + 1)) (t + 1)).2.2.1 + (loc (pcM i) t).2.2.1); exact ⟨by omega, by omega⟩
    · show rg (pk3 (sx (pcM i) (n - (t + 1)) (t + 1)).2.2.2.1 (sx (pcM i) (n - (t + 1)) (t + 1)).2.2.2.2.1 (sx (pcM i) (n - (t + 1)) (t + 1)).2.2.2.2.2 + pk3 (loc (pcM i) t).2.2.2.2.1 (loc (pcM i) t).2.2.2.2.2.1 (loc (pcM i) t).2.2.2.2.2.2)
      unfold pk3; exact ⟨by omega, by omega⟩
    · generalize hJ : u2 (u2 (u2 (u2 i' (a + 4) (t : Int) _) (a + 5) (t : Int) _) (a + 6) (t : Int) _) (a + 7) (t : Int) _ = J
      have hf : sfrm a i J := by
        intro k k1 k2 k3 k4 k5
        rw [← hJ, u2_other _ _ _ k4, u2_other _ _ _ k3, u2_other _ _ _ k2, u2_other _ _ _ k1]
        exact h1 k k5
      have epc := pcM_s ha hf
      refine hP J hf ⟨fun x hx1 hx2 => ?_, fun x hx1 hx2 => ?_⟩
      · rw [epc]
        by_cases e : x = t
        · subst e
          rw [en]
          refine ⟨?_, ?_, ?_, ?_⟩
          · rw [← hJ, u2_other _ _ _ (by omega), u2_other _ _ _ (by omega), u2_other _ _ _ (by omega), u2_self]; rfl
          · rw [← hJ, u2_other _ _ _ (by omega), u2_other _ _ _ (by omega), u2_self]; rfl
          · rw [← hJ, u2_other _ _ _ (by omega), u2_self]; rfl
          · rw [← hJ, u2_self]
            show pk3 (sx (pcM i) (n - (x + 1)) (x + 1)).2.2.2.1 (sx (pcM i) (n - (x + 1)) (x + 1)).2.2.2.2.1 (sx (pcM i) (n - (x + 1)) (x + 1)).2.2.2.2.2 + pk3 (loc (pcM i) x).2.2.2.2.1 (loc (pcM i) x).2.2.2.2.2.1 (loc (pcM i) x).2.2.2.2.2.2 = pk3 ((sx (pcM i) (n - (x + 1)) (x + 1)).2.2.2.1 + (loc (pcM i) x).2.2.2.2.1) ((sx (pcM i) (n - (x + 1)) (x + 1)).2.2.2.2.1 + (loc (pcM i) x).2.2.2.2.2.1) ((sx (pcM i) (n - (x + 1)) (x + 1)).2.2.2.2.2 + (loc (pcM i) x).2.2.2.2.2.2)
            unfold pk3; omega
        · have ho := hsx.1 x (by omega) hx2
          have nE : ∀ (j : IM) (k : Nat) (v : Int), u2 j k (t : Int) v k (x : Int) = j k (x : Int) := fun j k v => if_neg (fun z => e (by have := z.2; omega))
          refine ⟨?_, ?_, ?_, ?_⟩
          · rw [← hJ, u2_other _ _ _ (by omega), u2_other _ _ _ (by omega), u2_other _ _ _ (by omega), nE, h1 _ (by omega)]; exact ho.1
          · rw [← hJ, u2_other _ _ _ (by omega), u2_other _ _ _ (by omega), nE, u2_other _ _ _ (by omega), h1 _ (by omega)]; exact ho.2.1
          · rw [← hJ, u2_other _ _ _ (by omega), nE, u2_other _ _ _ (by omega), u2_other _ _ _ (by omega), h1 _ (by omega)]; exact ho.2.2.1
          · rw [← hJ, nE, u2_other _ _ _ (by omega), u2_other _ _ _ (by omega), u2_other _ _ _ (by omega), h1 _ (by omega)]; exact ho.2.2.2
      · rw [epc, ← hJ, u2_other _ _ _ (by omega), u2_other _ _ _ (by omega), u2_other _ _ _ (by omega), u2_other _ _ _ (by omega)]
        by_cases e : x = t
        · subst e; exact h8'
        · rw [h2 _ (by omega)]; exact hsx.2 x (by omega) hx2
  | succ r ih =>
    intro c hc i' h1 h2 h8
    have hc3 : c < 3 := by omega
    have hcv' : ∀ j, i' 52 j = i 52 j := fun j => by rw [h1 52 (by omega)]
    have e54 : i' 54 ((t : Int) * 3 + (c : Int)) = (pcM i).2.1 t c := by rw [h1 54 (by omega)]; rfl
    have e55 : i' 55 ((t : Int) * 3 + (c : Int)) = pk3 ((pcM i).2.2.1 t c) ((pcM i).2.2.2.1 t c) ((pcM i).2.2.2.2 t c) := by
      rw [h1 55 (by omega)]
      have h5 := (hcv.2.2.2.2.2 t c ht hc3).2.2
      show i 55 ((t : Int) * 3 + (c : Int)) = i 55 ((t : Int) * 3 + (c : Int)) % 256 + 256 * (i 55 ((t : Int) * 3 + (c : Int)) / 256 % 256) + 65536 * (i 55 ((t : Int) * 3 + (c : Int)) / 65536 % 256)
      omega
    have hcb := pcM_bd hcv ht c hc3
    have hmay := pcM_no hcv ht hc3
    have hst : sumL (pcM i) t (c + 1) = joinL ((pcM i).1 t c) (lE (pcM i) t c) (sumL (pcM i) t c) := rfl
    have hnx := ih (c + 1) (by omega)
    rw [hst] at hnx
    refine s_X5_sumUp_13 _ _ _ _ _ _ ha hd ⟨⟨by omega, by omega⟩, fun q => ⟨by omega, by omega⟩, fun q => by omega, fun q => ?_, fun q => ?_⟩
    · have hm : (pcM i).1 t c = true := by
        cases z : (pcM i).1 t c with
        | true => rfl
        | false =>
          have := hmay.mpr z
          have := q.2
          rw [hcv'] at this
          contradiction
      rw [e54, e55]
      cases hs : sumL (pcM i) t c with
      | none =>
        rw [hs, joinL_n, if_pos hm] at hnx
        refine ⟨⟨by omega, by omega⟩, rg_lit rfl, rg_lit rfl, fun z => absurd rfl z, fun _ => ?_, fun z => absurd (Or.inl rfl) z⟩
        refine s_X5_sumUp_100 _ _ _ _ _ ha ⟨⟨by omega, by omega⟩, ⟨by omega, by omega⟩, ⟨by omega, by omega⟩, ?_⟩
        have := hnx (u2 i' (a + 8) (t : Int) (c : Int)) (fun k hk => by rw [u2_other _ _ _ hk]; exact h1 k hk) (fun j hj => by
          show (if a + 8 = a + 8 ∧ j = (t : Int) then (c : Int) else i' (a + 8) j) = _
          rw [if_neg (fun z => hj z.2)]; exact h2 j hj) (fun x hx => by cases hx; exact u2_self ..)
        rw [bI_t rfl]
        exact this
      | some y =>
        have hy := hbd c y (by omega) hs
        obtain ⟨⟨y1, y2, y3⟩, y4, y5, y6, y7⟩ := hy
        rw [hs, joinL_s, if_pos hm] at hnx
        have elow : leastI (pk3 y.2.2.2.2.1 y.2.2.2.2.2.1 y.2.2.2.2.2.2) (pk3 ((pcM i).2.2.1 t c) ((pcM i).2.2.2.1 t c) ((pcM i).2.2.2.2 t c)) = pk3 (min y.2.2.2.2.1 ((pcM i).2.2.1 t c)) (min y.2.2.2.2.2.1 ((pcM i).2.2.2.1 t c)) (min y.2.2.2.2.2.2 ((pcM i).2.2.2.2 t c)) := by
          obtain ⟨f1, e1⟩ := Int.eq_ofNat_of_zero_le y5.1
          obtain ⟨f2, e2⟩ := Int.eq_ofNat_of_zero_le y6.1
          obtain ⟨f3, e3⟩ := Int.eq_ofNat_of_zero_le y7.1
          obtain ⟨g1, k1⟩ := Int.eq_ofNat_of_zero_le hcb.2.1.1
          obtain ⟨g2, k2⟩ := Int.eq_ofNat_of_zero_le hcb.2.2.1.1
          obtain ⟨g3, k3⟩ := Int.eq_ofNat_of_zero_le hcb.2.2.2.1
          rw [e1, e2, e3, k1, k2, k3, leastI_pk (by omega) (by omega) (by omega) (by omega) (by omega) (by omega)]
          unfold pk3
          omega
        have hy0 : ¬ y.1 = 0 := by omega
        show _ ∧ (rg y.1 ∧ rg y.1 ∧ (¬ y.1 = 0 → rg y.2.2.1) ∧ ((y.1 = 0 ∨ ¬ (pcM i).2.1 t c ≤ y.2.2.1) → gV w d X_X5_sumUp P i' l 100 [(0, vR (some a)), (1, vI (t : Int)), (2, vI y.1), (5, vI (if y.1 = 0 then pk3 ((pcM i).2.2.1 t c) ((pcM i).2.2.2.1 t c) ((pcM i).2.2.2.2 t c) else leastI (pk3 y.2.2.2.2.1 y.2.2.2.2.2.1 y.2.2.2.2.2.2) (pk3 ((pcM i).2.2.1 t c) ((pcM i).2.2.2.1 t c) ((pcM i).2.2.2.2 t c)))), (6, vI (c : Int)), (7, vI ((pcM i).2.1 t c))] []) ∧ (¬ (y.1 = 0 ∨ ¬ (pcM i).2.1 t c ≤ y.2.2.1) → (rg y.2.2.1 ∧ gV w d X_X5_sumUp P i' l 13 [(0, vR (some a)), (1, vI (t : Int)), (2, vI (y.1 + 1)), (3, vI (y.2.1 + bI ((pcM i).2.1 t c = y.2.2.1))), (4, vI y.2.2.1), (5, vI (if y.1 = 0 then pk3 ((pcM i).2.2.1 t c) ((pcM i).2.2.2.1 t c) ((pcM i).2.2.2.2 t c) else leastI (pk3 y.2.2.2.2.1 y.2.2.2.2.2.1 y.2.2.2.2.2.2) (pk3 ((pcM i).2.2.1 t c) ((pcM i).2.2.2.1 t c) ((pcM i).2.2.2.2 t c)))), (6, vI ((c : Int) + 1))] [])))
        rw [if_neg hy0, elow]
        refine ⟨⟨by omega, by omega⟩, ⟨by omega, by omega⟩, ⟨by omega, by omega⟩, fun _ => ⟨by omega, by omega⟩, fun z => ?_, fun z => ⟨⟨by omega, by omega⟩, ?_⟩⟩
        · have hlt : y.2.2.1 < (pcM i).2.1 t c := by omega
          refine s_X5_sumUp_100 _ _ _ _ _ ha ⟨⟨by omega, by omega⟩, ⟨by omega, by omega⟩, ⟨by omega, by omega⟩, ?_⟩
          have em : mrgL y (lE (pcM i) t c) = (y.1 + 1, 1, (pcM i).2.1 t c, c, min y.2.2.2.2.1 ((pcM i).2.2.1 t c), min y.2.2.2.2.2.1 ((pcM i).2.2.2.1 t c), min y.2.2.2.2.2.2 ((pcM i).2.2.2.2 t c)) := by
            unfold mrgL
            refine Prod.ext rfl (Prod.ext (if_pos hlt) (Prod.ext ?_ (Prod.ext (if_pos hlt) rfl)))
            show max y.2.2.1 ((pcM i).2.1 t c) = (pcM i).2.1 t c
            omega
          have := hnx (u2 i' (a + 8) (t : Int) (c : Int)) (fun k hk => by rw [u2_other _ _ _ hk]; exact h1 k hk) (fun j hj => by
            show (if a + 8 = a + 8 ∧ j = (t : Int) then (c : Int) else i' (a + 8) j) = _
            rw [if_neg (fun z => hj z.2)]; exact h2 j hj) (fun x hx => by rw [em] at hx; cases hx; exact u2_self ..)
          rw [em] at this
          rw [bI_t rfl]
          exact this
        · have hge : ¬ y.2.2.1 < (pcM i).2.1 t c := by omega
          have em : mrgL y (lE (pcM i) t c) = (y.1 + 1, y.2.1 + bI ((pcM i).2.1 t c = y.2.2.1), y.2.2.1, y.2.2.2.1, min y.2.2.2.2.1 ((pcM i).2.2.1 t c), min y.2.2.2.2.2.1 ((pcM i).2.2.2.1 t c), min y.2.2.2.2.2.2 ((pcM i).2.2.2.2 t c)) := by
            unfold mrgL
            refine Prod.ext rfl (Prod.ext ?_ (Prod.ext ?_ (Prod.ext (if_neg hge) rfl)))
            · show (if y.2.2.1 < (pcM i).2.1 t c then (1 : Int) else if y.2.2.1 = (pcM i).2.1 t c then y.2.1 + 1 else y.2.1) = y.2.1 + bI ((pcM i).2.1 t c = y.2.2.1)
              rw [if_neg hge]
              by_cases e : y.2.2.1 = (pcM i).2.1 t c
              · rw [if_pos e, bI_t e.symm]
              · rw [if_neg e, bI_f (fun z => e z.symm), Int.add_zero]
            · show max y.2.2.1 ((pcM i).2.1 t c) = y.2.2.1
              omega
          have := hnx i' h1 h2 (fun x hx => by rw [em] at hx; cases hx; exact h8 y hs)
          rw [em] at this
          exact this
    · have hm : (pcM i).1 t c = false := by
        have := q.2
        rw [hcv'] at this
        exact hmay.mp this
      cases hs : sumL (pcM i) t c with
      | none =>
        rw [hs, joinL_n, if_neg (by rw [hm]; decide)] at hnx
        exact hnx i' h1 h2 (fun x hx => by cases hx)
      | some y =>
        rw [hs, joinL_s, if_neg (by rw [hm]; decide)] at hnx
        exact hnx i' h1 h2 (fun x hx => by cases hx; exact h8 y hs)
end
