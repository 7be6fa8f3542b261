section
variable {w : Wd} {d : Nat} {i : IM} {l : LM}
def toldOK (i : IM) : Prop := ∀ c : Int, 0 ≤ c → c < 8 → 0 ≤ i 12 c ∧ i 12 c < 256
def tTold (i : IM) (k : Nat) : Nat := (i 12 (k : Int)).toNat
theorem tTold_lt (hs : toldOK i) : ∀ k, k < 8 → tTold i k < 256 ∧ i 12 (k : Int) = (tTold i k : Nat) := by
  intro k hk
  obtain ⟨h1, h2⟩ := hs k (by omega) (by omega)
  unfold tTold
  omega
theorem lpA15 (hs : toldOK i) {P : Int → IM → LM → Prop} {b r : Nat} (hb : b < 256) (hk : gI w d X_X9_allWith P i l 6 [(0, vR (some 7)), (2, vI (gsRound (tTold i) b 8 : Nat)), (3, vI ((r : Int) + 1))] []) : ∀ m k, k + m = 8 → gI w d X_X9_allWith P i l 15 [(0, vR (some 7)), (2, vI (gsRound (tTold i) b k : Nat)), (3, vI r), (4, vI k)] [] := by
  intro m
  induction m with
  | zero =>
    intro k h1
    have e : k = 8 := by omega
    subst e
    exact s_X9_allWith_15 _ _ _ ⟨rg_lit rfl, fun _ => hk, fun h => absurd (by decide) h.1, fun h => absurd (by decide) h.1⟩
  | succ m ih =>
    intro k h1
    have hr := gsRound_lt (S := tTold i) hb k (fun j hj => (tTold_lt hs j (by omega)).1)
    have hbit := ib1 (a := gsRound (tTold i) b k) (k := k) (by omega) (by omega)
    obtain ⟨hm1, hm2⟩ := tTold_lt hs k (by omega)
    have h := ih (k + 1) (by omega)
    refine s_X9_allWith_15 _ _ _ ⟨⟨by omega, by omega⟩, fun h => absurd h (by omega), fun h2 => ?_, fun h2 => ⟨⟨by omega, by omega⟩, ?_⟩⟩
    · have e : gsRound (tTold i) b (k + 1) = gsRound (tTold i) b k := by
        show (if _ then _ else _) = _
        rw [if_neg (fun z => h2.2 (hbit.mpr z))]
      rw [e] at h
      exact h
    · have e : gsRound (tTold i) b (k + 1) = gsRound (tTold i) b k ||| tTold i k := by
        show (if _ then _ else _) = _
        rw [if_pos (hbit.mp h2.2)]
      rw [e] at h
      rw [hm2, ior_nat (by omega) (by omega)]
      exact h
theorem lpA6 (hs : toldOK i) {P : Int → IM → LM → Prop} {b : Nat} (hb : b < 256) (hP : P (gsIter (tTold i) b 8 : Nat) i l) : ∀ m r, r + m = 8 → gI w d X_X9_allWith P i l 6 [(0, vR (some 7)), (2, vI (gsIter (tTold i) b r : Nat)), (3, vI r)] [] := by
  have hlt := fun n => gsIter_lt (S := tTold i) (b := b) hb (fun k hk => (tTold_lt hs k hk).1) n
  intro m
  induction m with
  | zero =>
    intro r h1
    have e : r = 8 := by omega
    subst e
    have := hlt 8
    exact s_X9_allWith_6 _ _ ⟨rg_lit rfl, fun _ => ⟨⟨by omega, by omega⟩, hP⟩, fun h => absurd (by decide) h⟩
  | succ m ih =>
    intro r h1
    refine s_X9_allWith_6 _ _ ⟨⟨by omega, by omega⟩, fun h => absurd h (by omega), fun _ => ?_⟩
    exact lpA15 hs (b := gsIter (tTold i) b r) (hlt r) (ih (r + 1) (by omega)) 8 0 rfl
theorem sp_X9_allWith (hd : 1 ≤ d) {c : Nat} (hc : c < 8) (hs : toldOK i) : cI w d X_X9_allWith [vR (some 7), vI c] i l (fun x i' l' => x = (gsIter (tTold i) (2 ^ c) 8 : Nat) ∧ i' = i ∧ l' = l) := by
  obtain ⟨d, rfl, hd1⟩ := d_pos hd
  have hp : 2 ^ c < 2 ^ 8 := Nat.pow_lt_pow_right (by omega) hc
  refine e_X9_allWith (s_X9_allWith _ ?_)
  rw [ishl_one (by omega)]
  exact lpA6 hs hp ⟨rfl, rfl, rfl⟩ 8 0 rfl
/-- the row of lowest colours as f tells -/
def lowA (i : IM) (f : Int → Int) : IM := fun a k => if a = 13 ∧ 0 ≤ k ∧ k < 8 then f k else i a k
theorem lowA_at (i : IM) (f : Int → Int) {k : Int} (h : 0 ≤ k ∧ k < 8) : lowA i f 13 k = f k := if_pos ⟨rfl, h⟩
theorem lowA_congr {i : IM} {f g : Int → Int} (h : ∀ k : Nat, k < 8 → f k = g k) : lowA i f = lowA i g := by
  funext a k
  unfold lowA
  by_cases e : a = 13 ∧ 0 ≤ k ∧ k < 8
  · rw [if_pos e, if_pos e]
    obtain ⟨n, rfl⟩ := Int.eq_ofNat_of_zero_le e.2.1
    exact h n (by omega)
  · rw [if_neg e, if_neg e]
theorem lowA_u2 (i : IM) (f : Int → Int) {k v : Int} (h : 0 ≤ k ∧ k < 8) : u2 (lowA i f) 13 k v = lowA i (fun z => if z = k then v else f z) := by
  funext a z
  unfold u2 lowA
  by_cases e1 : a = 13
  · subst e1
    by_cases e2 : z = k
    · rw [if_pos ⟨rfl, e2⟩, if_pos ⟨rfl, by omega⟩]
      exact (if_pos e2).symm
    · have q3 : (fun z => if z = k then v else f z) z = f z := if_neg e2
      rw [if_neg (fun q => e2 q.2), q3]
  · rw [if_neg (fun q => e1 q.1), if_neg (fun q => e1 q.1), if_neg (fun q => e1 q.1)]
theorem lowA_told (i : IM) (f : Int → Int) : tTold (lowA i f) = tTold i := by
  funext k
  unfold tTold lowA
  rw [if_neg (fun q => by omega)]
theorem lowA_toldOK {i : IM} {f : Int → Int} (h : toldOK i) : toldOK (lowA i f) := by
  intro c h0 h8
  have e : lowA i f 12 c = i 12 c := if_neg (fun q => by omega)
  rw [e]
  exact h c h0 h8
theorem lpG34 {P : IM → LM → Prop} {n : Nat} (hn : n < 8) {F : Nat} (hF : F < 256) {f : Int → Int} (hk : gV w d X_X9_gather P (lowA i (fun z => if n ≤ z ∧ F.testBit z.toNat = true then (n : Int) else f z)) l 10 [(0, vR (some 7)), (1, vI ((n : Int) + 1))] []) : ∀ m k : Nat, k + m = 8 → n ≤ k → gV w d X_X9_gather P (lowA i (fun z => if n ≤ z ∧ z < k ∧ F.testBit z.toNat = true then (n : Int) else f z)) l 34 [(0, vR (some 7)), (1, vI n), (2, vI F), (3, vI k)] [] := by
  intro m
  induction m with
  | zero =>
    intro k h1 h2
    have e : k = 8 := by omega
    subst e
    refine s_X9_gather_34 _ _ _ ⟨rg_lit rfl, fun _ => ?_, fun h => absurd (by decide) h.1, fun h => absurd (by decide) h.1⟩
    rw [lowA_congr (g := fun z => if n ≤ z ∧ F.testBit z.toNat = true then (n : Int) else f z)]
    · exact hk
    · intro z hz
      have hz' : (z : Int) < ((8 : Nat) : Int) := by omega
      simp only [hz', true_and]
  | succ m ih =>
    intro k h1 h2
    have h := ih (k + 1) (by omega) (by omega)
    have hbit := ib1 (a := F) (k := k) (by omega) (by omega)
    refine s_X9_gather_34 _ _ _ ⟨⟨by omega, by omega⟩, fun h => absurd h (by omega), fun h3 => ?_, fun h3 => ⟨⟨by omega, by omega⟩, ⟨by omega, by omega⟩, ?_⟩⟩
    · rw [lowA_congr (g := fun z => if n ≤ z ∧ z < ((k + 1 : Nat) : Int) ∧ F.testBit z.toNat = true then (n : Int) else f z)]
      · exact h
      · intro z hz
        by_cases e : z = k
        · subst e
          rw [if_neg (fun q => by omega), if_neg (fun q => h3.2 (hbit.mpr q.2.2))]
        · by_cases e2 : (n : Int) ≤ z ∧ (z : Int) < k ∧ F.testBit (z : Int).toNat = true
          · rw [if_pos e2, if_pos ⟨e2.1, by omega, e2.2.2⟩]
          · rw [if_neg e2, if_neg (fun q => e2 ⟨q.1, by omega, q.2.2⟩)]
    · rw [lowA_u2 _ _ ⟨by omega, by omega⟩, lowA_congr (g := fun z => if n ≤ z ∧ z < ((k + 1 : Nat) : Int) ∧ F.testBit z.toNat = true then (n : Int) else f z)]
      · exact h
      · intro z hz
        by_cases e : (z : Int) = k
        · have e' : z = k := by omega
          subst e'
          rw [if_pos e, if_pos ⟨by omega, by omega, hbit.mp h3.2⟩]
        · rw [if_neg e]
          by_cases e2 : (n : Int) ≤ z ∧ (z : Int) < k ∧ F.testBit (z : Int).toNat = true
          · rw [if_pos e2, if_pos ⟨e2.1, by omega, e2.2.2⟩]
          · rw [if_neg e2, if_neg (fun q => e2 ⟨q.1, by omega, q.2.2⟩)]
theorem lpG10 (hd : 1 ≤ d) {S : Nat → Nat} (hS : ∀ k, k < 8 → S k < 256) (hy : Symm S) (ht : toldOK i) (hST : ∀ k, k < 8 → S k = tTold i k ||| 2 ^ k) {P : IM → LM → Prop} (hP : P (lowA i (fun z => (lwS S z.toNat : Nat))) l) : ∀ m n : Nat, n + m = 8 → gV w d X_X9_gather P (lowA i (fun z => if lwS S z.toNat < n then ((lwS S z.toNat : Nat) : Int) else -1)) l 10 [(0, vR (some 7)), (1, vI n)] [] := by
  intro m
  induction m with
  | zero =>
    intro n h1
    have e : n = 8 := by omega
    subst e
    refine s_X9_gather_10 _ ⟨rg_lit rfl, fun h => absurd (by decide) h, fun _ => ?_, fun h => absurd (by decide) h.1, fun h => absurd (by decide) h.1⟩
    rw [lowA_congr (g := fun z => ((lwS S z.toNat : Nat) : Int))]
    · exact hP
    · intro z hz
      have := (lwS_hit (S := S) hz).2
      rw [Int.toNat_natCast, if_pos (by omega)]
  | succ m ih =>
    intro n h1
    have hn : n < 8 := by omega
    have h := ih (n + 1) (by omega)
    have hle := (lwS_hit (S := S) hn).2
    have hat : lowA i (fun z => if lwS S z.toNat < n then ((lwS S z.toNat : Nat) : Int) else -1) 13 n = if lwS S n < n then ((lwS S n : Nat) : Int) else -1 := by
      rw [lowA_at _ _ ⟨by omega, by omega⟩, Int.toNat_natCast]
    refine s_X9_gather_10 _ ⟨⟨by omega, by omega⟩, fun _ => ⟨by omega, by omega⟩, fun h => absurd h (by omega), fun h3 => ?_, fun h3 => ?_⟩
    · have h4 : lwS S n < n := by
        apply Nat.lt_of_not_le
        intro q
        apply h3.2
        rw [hat, if_neg (by omega)]
      rw [lowA_congr (g := fun z => if lwS S z.toNat < n + 1 then ((lwS S z.toNat : Nat) : Int) else -1)]
      · exact h
      · intro z hz
        rw [Int.toNat_natCast]
        have hne : lwS S z ≠ n := by
          intro e
          have h5 := lwS_same hS hy hz (lwS_hit (S := S) hz).1
          rw [e] at h5
          omega
        by_cases e : lwS S z < n
        · rw [if_pos e, if_pos (by omega)]
        · rw [if_neg e, if_neg (by omega)]
    · have h4 : lwS S n = n := by
        apply Nat.le_antisymm hle
        apply Nat.le_of_not_lt
        intro q
        have h5 := h3.2
        rw [hat, if_pos q] at h5
        omega
      obtain ⟨d, rfl, hd1⟩ := d_pos hd
      refine CI_mono (sp_X9_allWith (i := lowA i (fun z => if lwS S z.toNat < n then ((lwS S z.toNat : Nat) : Int) else -1)) (Nat.le_add_left 1 d) hn (lowA_toldOK ht)) (fun x i' l' _ q => ?_)
      obtain ⟨rfl, rfl, rfl⟩ := q
      rw [lowA_told, gs_cl hS hST hn]
      have key := lpG34 (w := w) (d := d + 1) (i := i) (l := l') (P := P) hn (clSet_lt hS hn) (f := fun z => if lwS S z.toNat < n then ((lwS S z.toNat : Nat) : Int) else -1) ?_ (8 - n) n (by omega) (Nat.le_refl _)
      · rw [lowA_congr (g := fun z => if lwS S z.toNat < n then ((lwS S z.toNat : Nat) : Int) else -1)] at key
        · exact key
        · intro z hz
          rw [if_neg (fun q => by omega)]
      · rw [lowA_congr (g := fun z => if lwS S z.toNat < n + 1 then ((lwS S z.toNat : Nat) : Int) else -1)]
        · exact h
        · intro z hz
          rw [Int.toNat_natCast]
          have hz1 := lwS_hit (S := S) hz
          by_cases e : lwS S z = n
          · have h6 := clSet_symm hS hy hz (show (clSet S z).testBit n = true by rw [← e]; exact hz1.1)
            rw [if_pos ⟨by omega, h6⟩, if_pos (by omega), e]
          · have h6 : ¬ ((n : Int) ≤ (z : Int) ∧ (clSet S n).testBit z = true) := by
              intro q
              have h7 := lwS_same hS hy hn q.2
              omega
            rw [if_neg h6]
            by_cases e2 : lwS S z < n
            · rw [if_pos e2, if_pos (by omega)]
            · rw [if_neg e2, if_neg (by omega)]
theorem sp_X9_gather (hd : 2 ≤ d) {S : Nat → Nat} (hS : ∀ k, k < 8 → S k < 256) (hy : Symm S) (ht : toldOK i) (hST : ∀ k, k < 8 → S k = tTold i k ||| 2 ^ k) : cVd w d X_X9_gather [vR (some 7)] i l (fun i' l' => i' = lowA i (fun z => (lwS S z.toNat : Nat)) ∧ l' = l) := by
  obtain ⟨d, rfl, hd1⟩ := d_pos hd
  refine e_X9_gather (s_X9_gather hd1 ?_)
  have h := lpG10 (w := w) (l := l) hd1 hS hy ht hST (P := fun i' l' => i' = lowA i (fun z => (lwS S z.toNat : Nat)) ∧ l' = l) ⟨rfl, rfl⟩ 8 0 rfl
  have e : fillA i 13 8 (-1) = lowA i (fun z => if lwS S z.toNat < 0 then ((lwS S z.toNat : Nat) : Int) else -1) := by
    funext a k
    unfold fillA lowA
    by_cases e : a = 13 ∧ 0 ≤ k ∧ k < 8
    · rw [if_pos e, if_pos e]
      exact (if_neg (Nat.not_lt_zero _)).symm
    · rw [if_neg e, if_neg e]
  rw [e]
  exact h
theorem lp_placeAt (hr : ∀ a j, rg (i a j)) {P : Int → IM → LM → Prop} {p m : Int} (hp : rg p) (hm : rg m) {N : Nat} (hN : i 7 11 = N) (h60 : N ≤ 60) (hP : P (whGo (i 14) p m N).1 i l) : ∀ r n : Nat, n + r = N → gI w d X_X9_placeAt P i l 8 [(0, vR (some 7)), (1, vI p), (2, vI m), (3, vI (whGo (i 14) p m n).1), (4, vI (whGo (i 14) p m n).2), (5, vI (3 * (n : Int)))] [] := by
  intro r
  induction r with
  | zero =>
    intro n h1
    have e : n = N := by omega
    subst e
    have hg := whGo_rg (W := i 14) (fun j => hr _ _) p m n
    exact s_X9_placeAt_8 _ _ _ _ _ ⟨⟨by omega, by omega⟩, ⟨by omega, by omega⟩, fun h => absurd (by omega) h, fun h => absurd (by omega) h, fun h => absurd (by omega) h, fun h => absurd (by omega) h, fun h => absurd (by omega) h, fun _ => ⟨hg.1, hP⟩, fun h => absurd (by omega) h.1, fun h => absurd (by omega) h.1⟩
  | succ r ih =>
    intro n h1
    have hg := whGo_rg (W := i 14) (fun j => hr _ _) p m n
    have h := ih (n + 1) (by omega)
    have e0 : 3 * ((n + 1 : Nat) : Int) = 3 * (n : Int) + 3 := by omega
    rw [e0] at h
    refine s_X9_placeAt_8 _ _ _ _ _ ⟨⟨by omega, by omega⟩, ⟨by omega, by omega⟩, fun _ => ⟨by omega, by omega⟩, fun _ => hp, fun _ _ => ⟨by omega, by omega⟩, fun _ _ => hm, fun _ _ _ => hg.2, fun h => absurd h (by omega), fun h2 => ?_, fun h2 => ⟨⟨by omega, by omega⟩, ⟨by omega, by omega⟩, ?_⟩⟩
    · have e : whGo (i 14) p m (n + 1) = whGo (i 14) p m n := by
        show (if _ then _ else _) = _
        rw [if_neg (fun z => by omega)]
      rw [e] at h
      exact h
    · have e : whGo (i 14) p m (n + 1) = (i 14 (3 * (n : Int) + 2), i 14 (3 * (n : Int) + 1)) := by
        show (if _ then _ else _) = _
        rw [if_pos ⟨h2.2.1, by omega, by omega⟩]
      rw [e] at h
      exact h
theorem sp_X9_placeAt (hd : 1 ≤ d) {p m : Int} (hp : rg p) (hm : rg m) (h : 0 ≤ i 7 11 ∧ i 7 11 ≤ 60) : cI w d X_X9_placeAt [vR (some 7), vI p, vI m] i l (fun x i' l' => x = (whGo (i 14) p m (i 7 11).toNat).1 ∧ i' = i ∧ l' = l) := by
  obtain ⟨d, rfl, hd1⟩ := d_pos hd
  refine e_X9_placeAt (g_rg (fun hr => s_X9_placeAt _ _ ?_))
  exact lp_placeAt hr hp hm (N := (i 7 11).toNat) (by omega) (by omega) ⟨rfl, rfl, rfl⟩ _ 0 (Nat.zero_add _)
end
