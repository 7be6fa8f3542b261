/-! PAINTER in memory: looks, and what is outdone -/
section
variable {w : Wd} {d : Nat} {i : IM} {l : LM}
/-- longs: only what is seen behind a THING -/
def lfr (a t : Nat) (l l' : LM) : Prop := (∀ k, k ≠ a + 1 → l' k = l k) ∧ ∀ j : Int, j < ((t : Int) + 1) * 12 → l' (a + 1) j = l (a + 1) j
theorem lfr_rf (a t : Nat) (l : LM) : lfr a t l l := ⟨fun _ _ => rfl, fun _ _ => rfl⟩
theorem lfr_tr {a t : Nat} {l l' l'' : LM} (h1 : lfr a t l l') (h2 : lfr a t l' l'') : lfr a t l l'' := ⟨fun k h => (h2.1 k h).trans (h1.1 k h), fun j h => (h2.2 j h).trans (h1.2 j h)⟩
theorem lfr_up {a t : Nat} {l l' : LM} (h : lfr a (t + 1) l l') : lfr a t l l' := ⟨h.1, fun j hj => h.2 j (by omega)⟩
theorem rwM_l {a t : Nat} (ha : a = 63 ∨ a = 73 ∨ a = 83) {l l' : LM} (h : lfr a t l l') : rwM i l' a = rwM i l a := by
  unfold rwM
  rw [h.1 56 (by omega), h.1 57 (by omega), h.1 58 (by omega), h.1 (a + 2) (by omega)]
theorem mayF_eq {a t q : Nat} {x load left : Int64} {p : Int} (hp : p = ((t : Int) * 12 + (q : Int))) : mayF l p x load left = mfL (rwM i l a) t q x load left := by
  subst hp
  rfl
theorem mayF_l {a t : Nat} (ha : a = 63 ∨ a = 73 ∨ a = 83) {l l' : LM} (h : lfr a t l l') (p : Int) (x load left : Int64) : mayF l' p x load left = mayF l p x load left := by
  unfold mayF
  rw [h.1 57 (by omega), h.1 58 (by omega)]
theorem lp_look {P : Int → IM → LM → Prop} {a : Nat} (ha : a = 63 ∨ a = 73) (hd : 3 ≤ d) (hR : 0 ≤ i 51 13 ∧ i 51 13 ≤ 12) {t c : Nat} (ht : t < 10) (hc : c < 3) {o : Nat → Nat} {op : Nat} (hop : op < 4096) {l : LM} (hsn : ∀ q : Nat, q < (rwM i l a).1 → op.testBit q = true → l (a + 1) ((t : Int) * 12 + (q : Int)) = vw (rwM i l a) o q t) (hno : lk (rwM i l a) t c o op = none → ∀ l', lfr a t l l' → P (-1) i l') (hyes : ∀ x, lk (rwM i l a) t c o op = some x → ∀ l', lfr a t l l' → (∀ q : Nat, q < (rwM i l a).1 → op.testBit q = true → l' (a + 1) (((t : Int) + 1) * 12 + (q : Int)) = vw (rwM i l a) o q t ||| (rwM i l a).2.1 t c q) → P (x : Int) i l') : ∀ r q x : Nat, q + r = (rwM i l a).1 → lkGo (rwM i l a) t c o op q = some x → ∀ l', lfr a t l l' → (∀ y : Nat, y < q → op.testBit y = true → l' (a + 1) (((t : Int) + 1) * 12 + (y : Int)) = vw (rwM i l a) o y t ||| (rwM i l a).2.1 t c y) → gI w d X_X5_look P i l' 19 [(0, vR (some a)), (2, vI ((t : Int) * 3 + (c : Int))), (3, vI (op : Int)), (4, vI ((t : Int) * 12)), (5, vI ((t : Int) * 12 + 12)), (6, vI (x : Int)), (7, vI (q : Int))] [] := by
  have eR : (rwM i l a).1 = (i 51 13).toNat := rfl
  intro r
  induction r with
  | zero =>
    intro q x hq hx l' hl hw
    have e : q = (rwM i l a).1 := by omega
    rw [e] at hx hw
    have hxl := (lkGo_some _ _ hx).1
    have h12 : 2 ^ (rwM i l a).1 ≤ 2 ^ 12 := Nat.pow_le_pow_right (by omega) (by omega)
    exact s_X5_look_19 _ _ _ _ _ _ ha (by omega) ⟨⟨by omega, by omega⟩, fun _ => ⟨⟨by omega, by omega⟩, hyes x hx l' hl hw⟩, fun z => by omega, fun z => by omega⟩
  | succ r ih =>
    intro q x hq hx l' hl hw
    have hq12 : q < 12 := by omega
    have hxl := (lkGo_some _ _ hx).1
    have h12 : 2 ^ q ≤ 2 ^ 11 := Nat.pow_le_pow_right (by omega) (by omega)
    have hbit : iand (ishr (op : Int) (q : Int)) 1 = ((if op.testBit q = true then 1 else 0 : Nat) : Int) := by rw [ibit_nat (by omega) (by omega), bit_div]
    have hstep : lkGo (rwM i l a) t c o op (q + 1) = (if op.testBit q = true then (if ovr (rwM i l a) (vw (rwM i l a) o q t ||| (rwM i l a).2.1 t c q) q = true then none else if mfL (rwM i l a) (t + 1) q (vw (rwM i l a) o q t ||| (rwM i l a).2.1 t c q) (ldL (rwM i l a) (vw (rwM i l a) o q t ||| (rwM i l a).2.1 t c q) q) ((rwM i l a).2.2.1 q) = 0 then some x else some (x ||| 2 ^ q)) else some x) := by
      show (match lkGo (rwM i l a) t c o op q with
        | none => none
        | some l0 => if op.testBit q = true then (if ovr (rwM i l a) (vw (rwM i l a) o q t ||| (rwM i l a).2.1 t c q) q = true then none else if mfL (rwM i l a) (t + 1) q (vw (rwM i l a) o q t ||| (rwM i l a).2.1 t c q) (ldL (rwM i l a) (vw (rwM i l a) o q t ||| (rwM i l a).2.1 t c q) q) ((rwM i l a).2.2.1 q) = 0 then some l0 else some (l0 ||| 2 ^ q)) else some l0) = _
      rw [hx]
    refine s_X5_look_19 _ _ _ _ _ _ ha (by omega) ⟨⟨by omega, by omega⟩, fun z => by omega, fun z => ?_, fun z => ?_⟩
    · have z2 := z.2
      rw [hbit] at z2
      have hnb : ¬ op.testBit q = true := fun y => z2 (by rw [if_pos y]; rfl)
      rw [if_neg hnb] at hstep
      exact ih (q + 1) x (by omega) hstep l' hl (fun y hy hyo => hw y (by
        by_cases e : y = q
        · subst e; exact absurd hyo hnb
        · omega) hyo)
    · have z2 := z.2
      rw [hbit] at z2
      have hnb : op.testBit q = true := by
        by_cases y : op.testBit q = true
        · exact y
        · rw [if_neg y] at z2; exact absurd z2 (by decide)
      rw [if_pos hnb] at hstep
      have e1 : l' (a + 1) ((t : Int) * 12 + (q : Int)) = vw (rwM i l a) o q t := by
        rw [hl.2 _ (by omega)]; exact hsn q (by omega) hnb
      have e2 : l' 56 (((t : Int) * 3 + (c : Int)) * 12 + (q : Int)) = (rwM i l a).2.1 t c q := by rw [hl.1 56 (by omega)]; rfl
      have e3 : l' (a + 2) (q : Int) = (rwM i l a).2.2.1 q := by rw [hl.1 (a + 2) (by omega)]; rfl
      refine ⟨⟨by omega, by omega⟩, ⟨by omega, by omega⟩, ⟨by omega, by omega⟩, ?_⟩
      rw [e1, e2, e3]
      generalize hV : vw (rwM i l a) o q t ||| (rwM i l a).2.1 t c q = V at *
      have hl2 : lfr a t l (u2l l' (a + 1) ((t : Int) * 12 + 12 + (q : Int)) V) := ⟨fun k hk => by rw [u2l_other _ _ _ hk]; exact hl.1 k hk, fun j hj => by
        show (if a + 1 = a + 1 ∧ j = (t : Int) * 12 + 12 + (q : Int) then V else l' (a + 1) j) = _
        rw [if_neg (fun z => by have := z.2; omega)]
        exact hl.2 j hj⟩
      have hw2 : ∀ y : Nat, y < q + 1 → op.testBit y = true → u2l l' (a + 1) ((t : Int) * 12 + 12 + (q : Int)) V (a + 1) (((t : Int) + 1) * 12 + (y : Int)) = vw (rwM i l a) o y t ||| (rwM i l a).2.1 t c y := by
        intro y hy hyo
        show (if a + 1 = a + 1 ∧ ((t : Int) + 1) * 12 + (y : Int) = (t : Int) * 12 + 12 + (q : Int) then V else l' (a + 1) (((t : Int) + 1) * 12 + (y : Int))) = _
        by_cases e : y = q
        · subst e; rw [if_pos ⟨rfl, by omega⟩, hV]
        · rw [if_neg (fun z => e (by omega))]; exact hw y (by omega) hyo
      refine ⟨fun z3 => ?_, fun z3 => ?_⟩
      · have hov : ¬ ovr (rwM i l a) V q = true := by
          unfold ovr
          rw [decide_eq_true_iff]
          exact fun y => y z3
        rw [if_neg hov] at hstep
        have e4 : u2l l' (a + 1) ((t : Int) * 12 + 12 + (q : Int)) V (a + 2) (q : Int) = (rwM i l a).2.2.1 q := by
          rw [u2l_other _ _ _ (by omega)]; exact e3
        refine ⟨⟨by omega, by omega⟩, ⟨by omega, by omega⟩, ?_⟩
        rw [e4, mayF_l (a := a) (t := t) (by omega) hl2, mayF_eq (i := i) (a := a) (t := t + 1) (q := q) (by omega)]
        refine ⟨fun z4 => ?_, fun z4 => ?_⟩
        · rw [if_pos z4] at hstep
          exact ih (q + 1) x (by omega) hstep _ hl2 hw2
        · rw [if_neg z4] at hstep
          have := ih (q + 1) (x ||| 2 ^ q) (by omega) hstep _ hl2 hw2
          rw [ishl_one (by omega), ior_nat (by omega) (by omega)]
          exact this
      · have hov : ovr (rwM i l a) V q = true := by
          unfold ovr
          rw [decide_eq_true_iff]
          exact z3
        rw [if_pos hov] at hstep
        refine hno ?_ l' hl
        have hall : ∀ k, lkGo (rwM i l a) t c o op (q + 1 + k) = none := by
          intro k
          induction k with
          | zero => exact hstep
          | succ k ihk =>
            show (match lkGo (rwM i l a) t c o op (q + 1 + k) with
              | none => none
              | some l0 => if op.testBit (q + 1 + k) = true then (if ovr (rwM i l a) (vw (rwM i l a) o (q + 1 + k) t ||| (rwM i l a).2.1 t c (q + 1 + k)) (q + 1 + k) = true then none else if mfL (rwM i l a) (t + 1) (q + 1 + k) (vw (rwM i l a) o (q + 1 + k) t ||| (rwM i l a).2.1 t c (q + 1 + k)) (ldL (rwM i l a) (vw (rwM i l a) o (q + 1 + k) t ||| (rwM i l a).2.1 t c (q + 1 + k)) (q + 1 + k)) ((rwM i l a).2.2.1 (q + 1 + k)) = 0 then some l0 else some (l0 ||| 2 ^ (q + 1 + k))) else some l0) = none
            rw [ihk]
        have := hall r
        rw [show q + 1 + r = (rwM i l a).1 by omega] at this
        exact this
theorem sp_X5_look {P : Int → IM → LM → Prop} {a : Nat} (ha : a = 63 ∨ a = 73) (hd : 4 ≤ d) (hR : 0 ≤ i 51 13 ∧ i 51 13 ≤ 12) {t c : Nat} (ht : t < 10) (hc : c < 3) {o : Nat → Nat} {op : Nat} (hop : op < 4096) (hsn : ∀ q : Nat, q < (rwM i l a).1 → op.testBit q = true → l (a + 1) ((t : Int) * 12 + (q : Int)) = vw (rwM i l a) o q t) (hno : lk (rwM i l a) t c o op = none → ∀ l', lfr a t l l' → P (-1) i l') (hyes : ∀ x, lk (rwM i l a) t c o op = some x → ∀ l', lfr a t l l' → (∀ q : Nat, q < (rwM i l a).1 → op.testBit q = true → l' (a + 1) (((t : Int) + 1) * 12 + (q : Int)) = vw (rwM i l a) o q t ||| (rwM i l a).2.1 t c q) → P (x : Int) i l') : cI w d X_X5_look [vR (some a), vI (t : Int), vI ((t : Int) * 3 + (c : Int)), vI (op : Int)] i l P := by
  obtain ⟨d, rfl, hd1⟩ := d_pos hd
  exact e_X5_look (s_X5_look _ _ _ ha (lp_look ha hd1 hR ht hc hop hsn hno hyes _ 0 0 (Nat.zero_add _) rfl l (lfr_rf a t l) (fun y h => by omega)))
theorem lp_snm {P : Int → IM → LM → Prop} {a : Nat} (ha : a = 63 ∨ a = 73 ∨ a = 83) (hR : 0 ≤ i 51 13 ∧ i 51 13 ≤ 12) {t x y : Nat} (ht : t < 10) (hx : x < 3) (hy : y < 3) {o : Nat → Nat} {op : Nat} (hop : op < 4096) {M : Int64} (hsn : ∀ q : Nat, q < (rwM i l a).1 → op.testBit q = true → l (a + 1) ((t : Int) * 12 + (q : Int)) = vw (rwM i l a) o q t) (h1 : nm (rwM i l a) t x y o op M = true → P 1 i l) (h0 : ¬ nm (rwM i l a) t x y o op M = true → P 0 i l) : ∀ r q : Nat, q + r = (rwM i l a).1 → nmGo (rwM i l a) t x y o op M q = true → gI w d X_X1_showsNoMore P i l 3 [(0, vR (some 51)), (1, vI ((t : Int) * 3 + (x : Int))), (2, vI ((t : Int) * 3 + (y : Int))), (3, vR (some (a + 1))), (4, vI ((t : Int) * 12)), (5, vI (op : Int)), (6, vL M), (8, vI (q : Int))] [] := by
  have hsn2 : a + 1 = 64 ∨ a + 1 = 74 ∨ a + 1 = 84 := by omega
  have eR : (rwM i l a).1 = (i 51 13).toNat := rfl
  intro r
  induction r with
  | zero =>
    intro q hq hg
    have e : q = (rwM i l a).1 := by omega
    rw [e] at hg
    exact s_X1_showsNoMore_3 _ _ _ _ _ _ hsn2 ⟨⟨by omega, by omega⟩, fun _ => h1 hg, fun z => by omega, fun z => by omega⟩
  | succ r ih =>
    intro q hq hg
    have hbit : iand (ishr (op : Int) (q : Int)) 1 = ((if op.testBit q = true then 1 else 0 : Nat) : Int) := by rw [ibit_nat (by omega) (by omega), bit_div]
    have hst : nmGo (rwM i l a) t x y o op M (q + 1) = (!op.testBit q || decide (((rwM i l a).2.1 t x q &&& ((vw (rwM i l a) o q t ||| (rwM i l a).2.1 t y q) ^^^ (-1))) &&& M = 0)) := by
      show (nmGo (rwM i l a) t x y o op M q && _) = _
      rw [hg, Bool.true_and]
    refine s_X1_showsNoMore_3 _ _ _ _ _ _ hsn2 ⟨⟨by omega, by omega⟩, fun z => by omega, fun z => ?_, fun z => ?_⟩
    · have z2 := z.2
      rw [hbit] at z2
      have hnb : op.testBit q = false := by
        cases c : op.testBit q with
        | false => rfl
        | true => rw [if_pos c] at z2; exact absurd rfl z2
      exact ih (q + 1) (by omega) (by rw [hst, hnb]; rfl)
    · have z2 := z.2
      rw [hbit] at z2
      have hnb : op.testBit q = true := by
        by_cases c : op.testBit q = true
        · exact c
        · rw [if_neg c] at z2; exact absurd z2 (by decide)
      have e1 := hsn q (by omega) hnb
      refine ⟨⟨by omega, by omega⟩, ⟨by omega, by omega⟩, ⟨by omega, by omega⟩, ?_⟩
      rw [e1]
      refine ⟨fun z3 => ih (q + 1) (by omega) ?_, fun z3 => h0 (fun y => z3 ?_)⟩
      · rw [hst]
        have : decide (((rwM i l a).2.1 t x q &&& ((vw (rwM i l a) o q t ||| (rwM i l a).2.1 t y q) ^^^ (-1))) &&& M = 0) = true := decide_eq_true z3
        rw [this, Bool.or_true]
      · exact (nmGo_iff _ _ _ _ _ _ _ _).mp y q (by omega) hnb
theorem sp_showsNoMore {P : Int → IM → LM → Prop} {a : Nat} (hd : 1 ≤ d) (ha : a = 63 ∨ a = 73 ∨ a = 83) (hR : 0 ≤ i 51 13 ∧ i 51 13 ≤ 12) {t x y : Nat} (ht : t < 10) (hx : x < 3) (hy : y < 3) {o : Nat → Nat} {op : Nat} (hop : op < 4096) {M : Int64} (hsn : ∀ q : Nat, q < (rwM i l a).1 → op.testBit q = true → l (a + 1) ((t : Int) * 12 + (q : Int)) = vw (rwM i l a) o q t) (h1 : nm (rwM i l a) t x y o op M = true → P 1 i l) (h0 : ¬ nm (rwM i l a) t x y o op M = true → P 0 i l) : cI w d X_X1_showsNoMore [vR (some 51), vI ((t : Int) * 3 + (x : Int)), vI ((t : Int) * 3 + (y : Int)), vR (some (a + 1)), vI ((t : Int) * 12), vI (op : Int), vL M] i l P := by
  obtain ⟨d, rfl, hd1⟩ := d_pos hd
  have hsn2 : a + 1 = 64 ∨ a + 1 = 74 ∨ a + 1 = 84 := by omega
  exact e_X1_showsNoMore (s_X1_showsNoMore _ _ _ _ _ hsn2 (lp_snm ha hR ht hx hy hop hsn h1 h0 _ 0 (Nat.zero_add _) rfl))
end
