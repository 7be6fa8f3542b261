/-! THE CLASS READS: a CLAUSE -/
section
def clf (i i' : IM) : Prop := ∀ a, a ≠ 37 → a ≠ 38 → a ≠ 39 → a ≠ 40 → i' a = i a
theorem clf_tr {i j k : IM} (h1 : clf i j) (h2 : clf j k) : clf i k := fun a x y z t => (h2 a x y z t).trans (h1 a x y z t)
theorem clf_rd {u : Nat} {i i' : IM} (h : rdf u i i') : clf i i' := fun a x y _ _ => h.1 a x y
def clR (j u : Nat) (c : Cla) (i i' : IM) : Prop := (i' 39 (4 * (j : Int)) = (c.1 : Int) ∧ i' 39 (4 * (j : Int) + 1) = (u : Int) ∧ i' 39 (4 * (j : Int) + 2) = ((u + c.2.2.1.length : Nat) : Int) ∧ i' 39 (4 * (j : Int) + 3) = ((u + c.2.2.1.length + c.2.2.2.1.length : Nat) : Int)) ∧ atC i' 38 u (c.2.2.1 ++ c.2.2.2.1) ∧ (∀ y : Int, i' 40 y = if y = (c.1 : Int) then (((max (i 40 (c.1 : Int)) 0).toNat ||| c.2.1 : Nat) : Int) else i 40 y) ∧ (∀ y : Int, y < (u : Int) → i' 38 y = i 38 y) ∧ (∀ y : Int, y < 4 * (j : Int) → i' 39 y = i 39 y)
theorem CS_o {i : IM} {B : Nat → Int} {n k lv u m a : Nat} {x v : Int} (ha : a = 39 ∨ a = 40) (h : CS B n k lv u m i) : CS B n k lv u m (u2 i a x v) := by
  obtain ⟨hB, h4, hr, h9, h10, h11⟩ := h
  have e37 : u2 i a x v 37 = i 37 := u2_other _ _ _ (by omega)
  refine ⟨?_, ?_, ?_, ?_, ?_, ?_⟩
  · rw [← hB]; funext j'; show u2 i a x v 35 _ = i 35 _; rw [u2_other _ _ _ (by omega)]
  · rw [e37, h4]
  · unfold Rd1
    rw [e37]
    exact hr
  · rw [e37, h9]
  · rw [e37, h10]
  · rw [e37, h11]
def CSx (B : Nat → Int) (n k lv u : Nat) (i : IM) : Prop := BT i = B ∧ i 37 4 = (n : Int) ∧ Rd1 B n (poT B n k) i ∧ i 37 9 = (u : Int) ∧ i 37 10 = (lv : Int)
theorem CS_x {i : IM} {B : Nat → Int} {n k lv u m : Nat} (h : CS B n k lv u m i) : CSx B n k lv u i := ⟨h.1, h.2.1, h.2.2.1, h.2.2.2.1, h.2.2.2.2.1⟩
theorem CSx_mn {i : IM} {B : Nat → Int} {n k lv u : Nat} (h : CSx B n k lv u i) : CS B n k lv u 0 (u2 i 37 11 0) := by
  obtain ⟨hB, h4, hr, h9, h10⟩ := h
  refine ⟨?_, ?_, ?_, ?_, ?_, ?_⟩
  · rw [← hB]; funext j; show u2 i 37 11 _ 35 _ = i 35 _; rw [u2_other _ _ _ (by decide)]
  · rw [u2_at, if_neg (by decide), h4]
  · unfold Rd1
    rw [u2_at, if_neg (by decide), u2_at, if_neg (by decide), u2_at, if_neg (by decide), u2_at, if_neg (by decide)]
    exact hr
  · rw [u2_at, if_neg (by decide), h9]
  · rw [u2_at, if_neg (by decide), h10]
  · rw [u2_self]; rfl
theorem rd_clause {B : Nat → Int} {n : Nat} (hC : CT B n) {w : Wd} {d : Nat} {P : Int → IM → LM → Prop} {i : IM} {l : LM} {k lv u j : Nat} (hd : 40 ≤ d) (hj : j < 12) (hk : k ≤ nT B n) (hlv : lv ≤ 50) (hu : u ≤ k) (hS : CSx B n k lv u i) (h40 : ∀ h : Nat, h < 4 → -1 ≤ i 40 (h : Int) ∧ i 40 (h : Int) < 512) (hF : ∀ q i', pClause (tT B n) k lv u = .inl q → i' 37 5 = (poT B n q : Int) → clf i i' → P 0 i' l) (hO : ∀ r i' m', pClause (tT B n) k lv u = .inr r → CS B n r.1 r.2.1 (u + claLen r.2.2) m' i' → clf i i' → clR j u r.2.2 i i' → r.2.2.2.1 < 512 → P 1 i' l) : cI w d X_X7_readClause [vR (some 37), vI (4 * (j : Int))] i l P := by
  obtain ⟨d, rfl, hd1⟩ := d_pos hd
  have hok := tkOK_CT hC
  have hS' := CSx_mn hS
  have hT := CS_tok hC hk hS'
  rw [u2_at, if_neg (by decide)] at hT
  unfold cmT at hT
  have hn4 := nT_le B n
  have h400 := hC.1
  have hsum : RdC B n X_X7_readSum 33 0 (pSum (tT B n) 8) := rd_sum hC 8 (Nat.le_refl _)
  have htest : RdC B n X_X7_readTest 36 0 (pTest (tT B n) 8) := rd_test hC 8 (Nat.le_refl _)
  refine e_X7_readClause (s_X7_readClause _ ⟨⟨by omega, by omega⟩, fun z => hF k i ?_ hS.2.2.1.1 (fun _ _ _ _ _ => rfl), fun z => ⟨⟨by omega, by omega⟩, ⟨by omega, by omega⟩, ⟨by omega, by omega⟩, ?_⟩⟩)
  · have eH : pHead (tT B n) k lv u = .inl k := by unfold pHead; rw [if_neg (by omega), if_neg (by omega)]
    unfold pClause; rw [eH]
  obtain ⟨h, hh⟩ := Int.eq_ofNat_of_zero_le (show 0 ≤ (tT B n).1 k - 1 by omega)
  have e7 : i 37 7 - 309 = (h : Int) := by omega
  have hk1 : k < nT B n := tk_lt hok hk (by omega)
  rw [e7]
  have e9 : (u2 (u2 i 37 11 0) 39 (4 * (j : Int)) (h : Int)) 37 9 = (u : Int) := by
    rw [u2_other _ _ _ (by decide), u2_at, if_neg (by decide)]; exact hS.2.2.2.1
  rw [e9]
  have hS0 : CS B n k lv u 0 (u2 (u2 (u2 i 37 11 0) 39 (4 * (j : Int)) (h : Int)) 39 (4 * (j : Int) + 1) (u : Int)) := CS_o (Or.inl rfl) (CS_o (Or.inl rfl) hS')
  have g39 : ∀ y : Int, (u2 (u2 (u2 i 37 11 0) 39 (4 * (j : Int)) (h : Int)) 39 (4 * (j : Int) + 1) (u : Int)) 39 y = if y = 4 * (j : Int) + 1 then (u : Int) else if y = 4 * (j : Int) then (h : Int) else i 39 y := fun y => by
    rw [u2_at, u2_at, u2_other _ _ _ (by decide)]
  have go : ∀ a, a ≠ 37 → a ≠ 39 → (u2 (u2 (u2 i 37 11 0) 39 (4 * (j : Int)) (h : Int)) 39 (4 * (j : Int) + 1) (u : Int)) a = i a := fun a x y => by
    rw [u2_other _ _ _ y, u2_other _ _ _ y, u2_other _ _ _ x]
  generalize u2 (u2 (u2 i 37 11 0) 39 (4 * (j : Int)) (h : Int)) 39 (4 * (j : Int) + 1) (u : Int) = I1 at hS0 g39 go ⊢
  -- the end of it
  have fin : ∀ (r : Nat × Nat × Cla) (i5 : IM), pClause (tT B n) k lv u = .inr r → r.2.2.1 = h → r.2.2.2.1 < 512 → CS B n r.1 r.2.1 (u + claLen r.2.2) r.2.2.2.1 i5 → rdf u I1 (fun a y => if a = 39 then I1 39 y else i5 a y) → (∀ y : Int, y < 4 * (j : Int) + 2 → i5 39 y = I1 39 y) → i5 39 (4 * (j : Int) + 2) = ((u + r.2.2.2.2.1.length : Nat) : Int) → atC i5 38 u (r.2.2.2.2.1 ++ r.2.2.2.2.2.1) → gI w d X_X7_readClause P i5 l 103 [(0, vR (some 37)), (1, vI (4 * (j : Int))), (2, vI (h : Int))] [] := fun r i5 e eh hm hS5 f5 f39 e2 hat => by
    have h4 : h < 4 := by omega
    have f40 : i5 40 = i 40 := by
      have := f5.1 40 (by decide) (by decide)
      have e : (fun y => if 40 = 39 then I1 39 y else i5 40 y) = i5 40 := by funext y; exact if_neg (by decide)
      rw [← go 40 (by decide) (by decide), ← this]
      exact e.symm
    have ea : ∀ a, a ≠ 37 → a ≠ 38 → a ≠ 39 → i5 a = i a := fun a a1 a2 a3 => by
      have := f5.1 a a1 a2
      rw [← go a a1 a3, ← this]
      funext y
      exact (if_neg a3).symm
    have ev : ior (max ((u2 i5 39 (4 * (j : Int) + 3) (i5 37 9)) 40 (h : Int)) 0) ((u2 i5 39 (4 * (j : Int) + 3) (i5 37 9)) 37 11) = (((max (i 40 (h : Int)) 0).toNat ||| r.2.2.2.1 : Nat) : Int) := by
      have hb := h40 h h4
      rw [u2_other _ _ _ (by decide), u2_other _ _ _ (by decide), f40, hS5.2.2.2.2.2]
      have em : max (i 40 (h : Int)) 0 = (((max (i 40 (h : Int)) 0).toNat : Nat) : Int) := by omega
      rw [em, ior_nat (by omega) (by omega)]
      rfl
    refine s_X7_readClause_103 _ _ (by omega) ⟨⟨by omega, by omega⟩, ⟨by omega, by omega⟩, ?_⟩
    rw [ev]
    refine hO r _ r.2.2.2.1 e (CS_o (Or.inr rfl) (CS_o (Or.inl rfl) hS5)) (fun a a1 a2 a3 a4 => ?_) ⟨⟨?_, ?_, ?_, ?_⟩, ?_, fun y => ?_, fun y hy => ?_, fun y hy => ?_⟩ hm
    · rw [u2_other _ _ _ a4, u2_other _ _ _ a3, ea a a1 a2 a3]
    · rw [u2_other _ _ _ (by decide), u2_at, if_neg (by omega), f39 _ (by omega), g39, if_neg (by omega), if_pos rfl, eh]
    · rw [u2_other _ _ _ (by decide), u2_at, if_neg (by omega), f39 _ (by omega), g39, if_pos rfl]
    · rw [u2_other _ _ _ (by decide), u2_at, if_neg (by omega), e2]
    · rw [u2_other _ _ _ (by decide), u2_self, hS5.2.2.2.1]
      unfold claLen
      rw [Nat.add_assoc]
    · intro q hq
      rw [u2_other _ _ _ (by decide), u2_other _ _ _ (by decide)]
      exact hat q hq
    · rw [u2_at, eh, u2_other _ _ _ (by decide), f40]
    · rw [u2_other _ _ _ (by decide), u2_other _ _ _ (by decide)]
      have := f5.2 y hy
      rw [← show I1 38 y = i 38 y by rw [go 38 (by decide) (by decide)], ← this]
      exact (if_neg (by decide)).symm
    · rw [u2_other _ _ _ (by decide), u2_at, if_neg (by omega), f39 _ (by omega), g39, if_neg (by omega), if_neg (by omega)]
  -- behind the head
  have head : ∀ (r : PD) (i2 : IM), pHead (tT B n) k lv u = .inr r → CS B n r.1 r.2.1 (u + r.2.2.2.1.length) r.2.2.1 i2 → rdf u I1 i2 → atC i2 38 u r.2.2.2.1 → gI w d X_X7_readClause P i2 l 67 [(0, vR (some 37)), (1, vI (4 * (j : Int))), (2, vI (h : Int))] [] := fun r i2 e hS2 f2 hat => by
    obtain ⟨p1, p2, p3, p4, p5, p6, -⟩ := pHead_ok hok hk hlv hu e
    have hrn : r.1 ≤ nT B n := p3
    have hT2 := CS_tok hC hrn hS2
    unfold cmT at hT2
    have hS3 : CS B n r.1 r.2.1 (u + r.2.2.2.1.length) r.2.2.1 (u2 i2 39 (4 * (j : Int) + 2) (i2 37 9)) := CS_o (Or.inl rfl) hS2
    have e37 : (u2 i2 39 (4 * (j : Int) + 2) (i2 37 9)) 37 7 = i2 37 7 := by rw [u2_other _ _ _ (by decide)]
    have i39 : i2 39 = I1 39 := f2.1 39 (by decide) (by decide)
    have q39 : ∀ y : Int, y < 4 * (j : Int) + 2 → (u2 i2 39 (4 * (j : Int) + 2) (i2 37 9)) 39 y = I1 39 y := fun y hy => by rw [u2_at, if_neg (by omega), i39]
    have q2 : (u2 i2 39 (4 * (j : Int) + 2) (i2 37 9)) 39 (4 * (j : Int) + 2) = ((u + r.2.2.2.1.length : Nat) : Int) := by rw [u2_self]; exact hS2.2.2.2.1
    have qo : ∀ a, a ≠ 39 → (u2 i2 39 (4 * (j : Int) + 2) (i2 37 9)) a = i2 a := fun a ha => u2_other _ _ _ ha
    refine s_X7_readClause_67 _ _ ⟨⟨by omega, by omega⟩, fun z => ?_, fun z => ?_⟩
    · rw [e37] at z
      have h5 : (tT B n).1 r.1 = 5 := by omega
      have hr1 : r.1 < nT B n := tk_lt hok hrn (by omega)
      generalize u2 i2 39 (4 * (j : Int) + 2) (i2 37 9) = I3 at hS3 q39 q2 qo ⊢
      refine stp_CS (by omega) hC hS3 (fun i3 h3 f3 => ?_)
      refine htest w d _ i3 l (r.1 + 1) r.2.1 (u + r.2.2.2.1.length) r.2.2.1 (by omega) hr1 p4 (by omega) p6 h3 (fun q i4 e4 a4 f4 => ⟨fun _ => hF q i4 ?_ a4 (fun a a1 a2 a3 a4 => ?_), fun y => absurd rfl y⟩) (fun s i4 e4 h4 f4 c4 => ⟨fun y => absurd y (by decide), fun _ => ?_⟩)
      · unfold pClause; rw [e]; simp only [if_pos h5, e4]
      · rw [f4.1 a a1 a2, f3.1 a a1, qo a a3, f2.1 a a1 a2, go a a1 a3]
      · have gs := (sg_test hok 8 (r.1 + 1) r.2.1 (u + r.2.2.2.1.length) s hr1 p4 (by omega) e4).1
        refine fin (s.1, s.2.1, ((tT B n).1 k - 1).toNat, r.2.2.1 ||| s.2.2.1, r.2.2.2.1, s.2.2.2.1, r.2.2.2.2, s.2.2.2.2) i4 ?_ ?_ (or512 p6 gs.2.2.2.2.2) ?_ ⟨fun a a1 a2 => ?_, fun y hy => ?_⟩ (fun y hy => ?_) ?_ (atC_app (fun x hx => ?_) c4)
        · unfold pClause; rw [e]; simp only [if_pos h5, e4]
        · show ((tT B n).1 k - 1).toNat = h
          rw [hh]; rfl
        · show CS B n s.1 s.2.1 (u + (r.2.2.2.1.length + s.2.2.2.1.length)) (r.2.2.1 ||| s.2.2.1) i4
          rw [← Nat.add_assoc]
          exact h4
        · funext y
          by_cases c : a = 39
          · subst c; exact if_pos rfl
          · show (if a = 39 then _ else i4 a y) = _
            rw [if_neg c, f4.1 a a1 a2, f3.1 a a1, qo a c, f2.1 a a1 a2]
        · show (if 38 = 39 then _ else i4 38 y) = _
          rw [if_neg (by decide), f4.2 y (by omega), f3.1 38 (by decide), qo 38 (by decide), f2.2 y hy]
        · rw [f4.1 39 (by decide) (by decide), f3.1 39 (by decide)]
          exact q39 y hy
        · rw [f4.1 39 (by decide) (by decide), f3.1 39 (by decide)]
          exact q2
        · have hx' : x < r.2.2.2.1.length := hx
          rw [f4.2 _ (by omega), f3.1 38 (by decide), qo 38 (by decide)]
          exact hat x hx
    · rw [e37] at z
      have h5 : ¬ (tT B n).1 r.1 = 5 := by omega
      refine fin (r.1, r.2.1, ((tT B n).1 k - 1).toNat, r.2.2.1, r.2.2.2.1, [], r.2.2.2.2, fun _ => some 1) _ ?_ ?_ p6 ?_ ⟨fun a a1 a2 => ?_, fun y hy => ?_⟩ (fun y hy => ?_) ?_ ?_
      · unfold pClause; rw [e]; simp only [if_neg h5]
      · show ((tT B n).1 k - 1).toNat = h
        rw [hh]; rfl
      · exact hS3
      · funext y
        by_cases c : a = 39
        · subst c; exact if_pos rfl
        · show (if a = 39 then _ else _) = _
          rw [if_neg c, qo a c, f2.1 a a1 a2]
      · show (if 38 = 39 then _ else _) = _
        rw [if_neg (by decide), qo 38 (by decide), f2.2 y hy]
      · exact q39 y hy
      · exact q2
      · show atC _ 38 u (r.2.2.2.1 ++ [])
        rw [List.append_nil]
        intro x hx
        rw [qo 38 (by decide)]
        exact hat x hx
  refine stp_CS (by omega) hC hS0 (fun i1 h1 f1 => ⟨fun z => ?_, fun z => ?_⟩)
  · have hc : (tT B n).1 k = 1 ∨ (tT B n).1 k = 2 := by omega
    have eH : pHead (tT B n) k lv u = pSum (tT B n) 8 (k + 1) lv u := by unfold pHead; rw [if_pos hc]
    refine s_X7_readClause_57 _ _ ?_
    refine hsum w d _ i1 l (k + 1) lv u 0 (by omega) hk1 hlv (by omega) (by omega) h1 (fun q i2 e a5 fr => ⟨fun _ => hF q i2 ?_ a5 (fun a a1 a2 a3 a4 => ?_), fun y => absurd rfl y⟩) (fun r i2 e h2 fr c2 => ⟨fun y => absurd y (by decide), fun _ => head r i2 (by rw [eH]; exact e) ?_ (rdf_tr (rdf_st u f1) fr (Nat.le_refl _)) c2⟩)
    · unfold pClause; rw [eH, e]
    · rw [fr.1 a a1 a2, f1.1 a a1, go a a1 a3]
    · rw [Nat.zero_or] at h2
      exact h2
  · have hc : (tT B n).1 k = 3 ∨ (tT B n).1 k = 4 := by omega
    have eH : pHead (tT B n) k lv u = .inr (k + 1, lv, 0, [], fun _ => some 1) := by unfold pHead; rw [if_neg (by omega), if_pos hc]
    exact head _ i1 eH h1 (rdf_st u f1) (atC_nil i1 38 u)
end
