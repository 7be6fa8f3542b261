/-! CANVAS: a row, and whether it is there already -/
section
variable {w : Wd} {d : Nat} {i : IM} {l : LM}
/-- two rows are alike, in the first k slots -/
def twK (i : IM) (l : LM) (x q k : Nat) : Prop := l 60 (x : Int) = l 60 (q : Int) ∧ l 57 (x : Int) = l 57 (q : Int) ∧ ∀ s : Nat, s < k → iand (ishr (i 52 (((s / 3 : Nat) : Int))) ((s % 3 : Nat) : Int)) 1 = 1 → l 56 ((s : Int) * 12 + (x : Int)) = l 56 ((s : Int) * 12 + (q : Int))
theorem lp_tw2 {P : Int → IM → LM → Prop} {n : Nat} (hn : n ≤ 10) (h7 : i 7 8 = (n : Int)) {x q : Nat} (hx : x < q) (hq : q < 12) (h1 : twK i l x q (n * 3) → P 1 i l) (hno : ¬ twK i l x q (n * 3) → gI w d X_X1_isTwice P i l 2 [(0, vR (some 51)), (1, vI (q : Int)), (2, vI ((x : Int) + 1))] []) : ∀ r k : Nat, k + r = n * 3 → twK i l x q k → gI w d X_X1_isTwice P i l 48 [(0, vR (some 51)), (1, vI (q : Int)), (2, vI (x : Int)), (3, vI 1), (4, vI (k : Int))] [] := by
  intro r
  induction r with
  | zero =>
    intro k hk ht
    have e : k = n * 3 := by omega
    subst e
    refine s_X1_isTwice_48 _ _ _ _ ⟨⟨by omega, by omega⟩, by rw [h7]; exact ⟨by omega, by omega⟩, fun _ => rg_lit rfl, fun _ => ⟨rg_lit rfl, fun z => absurd z (by decide), fun _ => h1 ht⟩, fun z => absurd (Or.inl (by rw [h7]; omega)) z⟩
  | succ r ih =>
    intro k hk ht
    have ed : Int.tdiv (k : Int) 3 = ((k / 3 : Nat) : Int) := by rw [tdiv_n (by omega)]; omega
    have em : Int.tmod (k : Int) 3 = ((k % 3 : Nat) : Int) := by rw [tmod_n (by omega)]; omega
    refine s_X1_isTwice_48 _ _ _ _ ⟨⟨by omega, by omega⟩, by rw [h7]; exact ⟨by omega, by omega⟩, fun _ => rg_lit rfl, fun z => ?_, fun z => ⟨⟨by omega, by omega⟩, by rw [ed]; exact ⟨by omega, by omega⟩, fun _ => ⟨by omega, by omega⟩, fun _ => ⟨by omega, by omega⟩, ?_⟩⟩
    · exfalso
      rcases z with z | z
      · rw [h7] at z; omega
      · exact absurd z (by decide)
    · rw [ed, em]
      by_cases c : ¬ iand (ishr (i 52 ((k / 3 : Nat) : Int)) ((k % 3 : Nat) : Int)) 1 = 1 ∨ l 56 ((k : Int) * 12 + (x : Int)) = l 56 ((k : Int) * 12 + (q : Int))
      · rw [bI_t c]
        refine ih (k + 1) (by omega) ⟨ht.1, ht.2.1, fun s hs hb => ?_⟩
        by_cases e : s = k
        · subst e
          rcases c with c | c
          · exact absurd hb c
          · exact c
        · exact ht.2.2 s (by omega) hb
      · rw [bI_f c]
        have hn2 : ¬ twK i l x q (n * 3) := fun z => c (by
          by_cases b : iand (ishr (i 52 ((k / 3 : Nat) : Int)) ((k % 3 : Nat) : Int)) 1 = 1
          · exact Or.inr (z.2.2 k (by omega) b)
          · exact Or.inl b)
        exact s_X1_isTwice_48 _ _ _ _ ⟨⟨by omega, by omega⟩, by rw [h7]; exact ⟨by omega, by omega⟩, fun _ => rg_lit rfl, fun _ => ⟨rg_lit rfl, fun _ => hno hn2, fun z => absurd rfl z⟩, fun z => absurd (Or.inr rfl) z⟩
theorem lp_tw1 {P : Int → IM → LM → Prop} {n : Nat} (hn : n ≤ 10) (h7 : i 7 8 = (n : Int)) {q : Nat} (hq : q < 12) (h1 : (∃ x, x < q ∧ twK i l x q (n * 3)) → P 1 i l) (h0 : (∀ x, x < q → ¬ twK i l x q (n * 3)) → P 0 i l) : ∀ r x : Nat, x + r = q → (∀ y, y < x → ¬ twK i l y q (n * 3)) → gI w d X_X1_isTwice P i l 2 [(0, vR (some 51)), (1, vI (q : Int)), (2, vI (x : Int))] [] := by
  intro r
  induction r with
  | zero =>
    intro x hx hno
    have e : x = q := by omega
    subst e
    exact s_X1_isTwice_2 _ _ ⟨⟨by omega, by omega⟩, ⟨by omega, by omega⟩, fun z => by omega, fun z => by omega, fun _ => h0 hno, fun z => by omega, fun z => by omega⟩
  | succ r ih =>
    intro x hx hno
    have hnx : ¬ twK i l x q (n * 3) → gI w d X_X1_isTwice P i l 2 [(0, vR (some 51)), (1, vI (q : Int)), (2, vI ((x : Int) + 1))] [] := by
      intro hn2
      refine ih (x + 1) (by omega) (fun y hy => ?_)
      by_cases e : y = x
      · subst e; exact hn2
      · exact hno y (by omega)
    have hz : ¬ twK i l x q (n * 3) → gI w d X_X1_isTwice P i l 48 [(0, vR (some 51)), (1, vI (q : Int)), (2, vI (x : Int)), (3, vI 0), (4, vI 0)] [] := fun hn2 =>
      s_X1_isTwice_48 _ _ _ _ ⟨rg_lit rfl, by rw [h7]; exact ⟨by omega, by omega⟩, fun _ => rg_lit rfl, fun _ => ⟨rg_lit rfl, fun _ => hnx hn2, fun z => absurd rfl z⟩, fun z => absurd (Or.inr rfl) z⟩
    refine s_X1_isTwice_2 _ _ ⟨⟨by omega, by omega⟩, ⟨by omega, by omega⟩, fun _ => ⟨by omega, by omega⟩, fun _ => ⟨by omega, by omega⟩, fun z => by omega, fun z => hz (fun y => z.2 y.1), fun z => ⟨⟨by omega, by omega⟩, ⟨by omega, by omega⟩, ?_⟩⟩
    by_cases c : l 57 (x : Int) = l 57 (q : Int)
    · rw [bI_t c]
      exact lp_tw2 hn h7 (by omega) hq (fun y => h1 ⟨x, by omega, y⟩) hnx _ 0 (Nat.zero_add _) ⟨z.2, c, fun s hs => by omega⟩
    · rw [bI_f c]
      exact hz (fun y => c y.2.1)
theorem sp_X1_isTwice {P : Int → IM → LM → Prop} (hd : 1 ≤ d) {n : Nat} (hn : n ≤ 10) (h7 : i 7 8 = (n : Int)) {q : Nat} (hq : q < 12) (h1 : (∃ x, x < q ∧ twK i l x q (n * 3)) → P 1 i l) (h0 : (∀ x, x < q → ¬ twK i l x q (n * 3)) → P 0 i l) : cI w d X_X1_isTwice [vR (some 51), vI (q : Int)] i l P := by
  obtain ⟨d, rfl, hd1⟩ := d_pos hd
  exact e_X1_isTwice (s_X1_isTwice _ (lp_tw1 hn h7 hq h1 h0 q 0 (Nat.zero_add _) (fun y hy => by omega)))
theorem lp_row2 {P : IM → LM → Prop} (hd : 6 ≤ d) {cs : List Cla} {i : IM} (hx : Cx w i cs) (hch : ChK i) {mo : Int} (hmo : 0 ≤ mo ∧ mo < 12) {q : Nat} (hq : q < 12) (h51 : i 51 13 = (q : Int)) {lim : Int64} {l0 : LM} (hdrop : ∀ i' l', vofr i i' → rofl q l0 l' → KnI i' l' cs mo → l' 60 (q : Int) = lim → rowP i l' cs mo q 0 → (mayF l' (q : Int) 0 lim lim = 0 ∨ ∃ x, x < q ∧ twK i l' x q ((i 101 307).toNat * 3)) → P i' l') (hnew : ∀ i' l', vofr i i' → rofl q l0 l' → KnI i' l' cs mo → l' 60 (q : Int) = lim → rowP i l' cs mo q 0 → ¬ mayF l' (q : Int) 0 lim lim = 0 → P (u2 i' 51 13 ((q : Int) + 1)) l') : ∀ t : Nat, (t : Int) ≤ i 101 307 → ∀ i' l', vofr i i' → rofl q l0 l' → KnI i' l' cs mo → l' 60 (q : Int) = lim → rowP i l' cs mo q t → gV w d X_X1_layRow P i' l' 106 [(0, vR (some 51)), (1, vI mo), (2, vI (q : Int)), (3, vL lim), (5, vI ((t : Int) - 1))] [] := by
  have h307 := hx.2.1.1.1
  have h7 := Cx_7 hx
  intro t
  induction t with
  | zero =>
    intro _ i' l' hi hl hkn h60 hrow
    have e7 : i' 7 8 = (((i 101 307).toNat : Nat) : Int) := by rw [hi 7 (by decide) (by decide) (by decide), h7.1]; omega
    have e51 : i' 51 13 = (q : Int) := by rw [hi 51 (by decide) (by decide) (by decide), h51]
    have e52 : i' 52 = i 52 := hi 52 (by decide) (by decide) (by decide)
    have etw : ∀ x, twK i' l' x q ((i 101 307).toNat * 3) ↔ twK i l' x q ((i 101 307).toNat * 3) := fun x => by unfold twK; rw [e52]
    refine s_X1_layRow_106 _ _ _ _ (by omega) ⟨⟨by omega, by omega⟩, fun _ => ⟨by omega, by omega⟩, fun z => hdrop i' l' hi hl hkn h60 hrow (Or.inl z.2), fun z => ?_, fun z => by omega⟩
    refine sp_X1_isTwice (by omega) (by omega) e7 hq (fun y => ⟨fun y2 => absurd y2 (by decide), fun _ => ?_⟩) (fun y => ⟨fun _ => ⟨by rw [e51]; exact ⟨by omega, by omega⟩, ?_⟩, fun y2 => absurd rfl y2⟩)
    · obtain ⟨x, x1, x2⟩ := y
      exact hdrop i' l' hi hl hkn h60 hrow (Or.inr ⟨x, x1, (etw x).mp x2⟩)
    · rw [e51]
      exact hnew i' l' hi hl hkn h60 hrow z.2
  | succ t ih =>
    intro ht i' l' hi hl hkn h60 hrow
    have e1 : ((t + 1 : Nat) : Int) - 1 = (t : Int) := by omega
    rw [e1]
    refine s_X1_layRow_106 _ _ _ _ (by omega) ⟨⟨by omega, by omega⟩, fun z => by omega, fun z => by omega, fun z => by omega, fun _ => ?_⟩
    refine lp_row3 hd hx hch hmo hq (t := t) (by omega) (l0 := l') (fun x i2 l2 hi2 hl2 hkn2 h57 h58 h602 h56 hxb hsh => ?_) 3 0 rfl 0 i' l' hi ⟨fun _ _ _ _ _ _ _ => rfl, fun _ _ _ => ⟨rfl, rfl, rfl⟩, fun _ _ => rfl⟩ hkn rfl rfl rfl (fun _ _ => rfl) (fun v hv => (Bt_lit v hv).2.2.2.2.2.2.1) (fun y hy => by omega)
    have hm1 : ((t : Int) * 12 + (q : Int)) % 12 = (q : Int) := by omega
    have e2 : (t : Int) + (-1) = ((t : Int) - 1) := by omega
    rw [e2]
    have hl3 := rofl_tr (rofl_tr (rofl_tr hl hl2) (rofl_u (q := q) (a := 57) (l := l2) (k := (t : Int) * 12 + (q : Int)) (x := x ||| l2 57 ((t : Int) * 12 + (q : Int) + 12)) (Or.inr (Or.inl rfl)) hm1)) (rofl_u (q := q) (a := 58) (k := (t : Int) * 12 + (q : Int)) (x := l2 58 ((t : Int) * 12 + (q : Int) + 12) + ((lushr (cntL x + 9187201950435737471) 7) &&& 72340172838076673)) (Or.inr (Or.inr rfl)) hm1)
    have ei : (t : Int) * 12 + (q : Int) + 12 = ((t + 1 : Nat) : Int) * 12 + (q : Int) := by omega
    have hnt : (i 101 307).toNat - t = ((i 101 307).toNat - (t + 1)) + 1 := by omega
    have hr1 := fun v hv => hrow.2 (t + 1) v (Nat.le_refl _) (by omega) hv
    refine ih (by omega) i2 _ hi2 hl3 (fun t' c' ht' hc' => by rw [u2l_other _ _ _ (by decide), u2l_other _ _ _ (by decide)]; exact hkn2 t' c' ht' hc') (by rw [u2l_other _ _ _ (by decide), u2l_other _ _ _ (by decide), h602]; exact h60) ⟨fun t' c' h1 h2 hc' hm' => ?_, fun t' v h1 h2 hv => ?_⟩
    · rw [u2l_other _ _ _ (show (56 : Nat) ≠ 58 by decide), u2l_other _ _ _ (show (56 : Nat) ≠ 57 by decide)]
      by_cases e : t' = t
      · subst e; exact hsh c' hc' hm'
      · rw [h56 _ (by omega)]
        exact hrow.1 t' c' (by omega) h2 hc' hm'
    · by_cases e : t' = t
      · subst e
        have f57 : u2l (u2l l2 57 ((t' : Int) * 12 + (q : Int)) (x ||| l2 57 ((t' : Int) * 12 + (q : Int) + 12))) 58 ((t' : Int) * 12 + (q : Int)) (l2 58 ((t' : Int) * 12 + (q : Int) + 12) + ((lushr (cntL x + 9187201950435737471) 7) &&& 72340172838076673)) 57 ((t' : Int) * 12 + (q : Int)) = x ||| l2 57 ((t' : Int) * 12 + (q : Int) + 12) := by
          rw [u2l_other _ _ _ (show (57 : Nat) ≠ 58 by decide)]; exact if_pos ⟨rfl, rfl⟩
        have f58 : u2l (u2l l2 57 ((t' : Int) * 12 + (q : Int)) (x ||| l2 57 ((t' : Int) * 12 + (q : Int) + 12))) 58 ((t' : Int) * 12 + (q : Int)) (l2 58 ((t' : Int) * 12 + (q : Int) + 12) + ((lushr (cntL x + 9187201950435737471) 7) &&& 72340172838076673)) 58 ((t' : Int) * 12 + (q : Int)) = l2 58 ((t' : Int) * 12 + (q : Int) + 12) + ((lushr (cntL x + 9187201950435737471) 7) &&& 72340172838076673) := if_pos ⟨rfl, rfl⟩
        rw [f57, f58, h57, h58, ei, hnt]
        refine ⟨?_, ?_⟩
        · rw [Bt_or, hxb v hv, (hr1 v hv).1]; rfl
        · rw [Bt_add (fun u hu => by
            rw [(hr1 u hu).2, Bt_nz x hu]
            have := moreB_le (i := i) cs mo u ((i 101 307).toNat - (t' + 1)) (t' + 1)
            split <;> omega) v hv, (hr1 v hv).2, Bt_nz x hv, hxb v hv]
          rfl
      · have nE : ∀ (l : LM) (a : Nat) (y : Int64), u2l l a ((t : Int) * 12 + (q : Int)) y a ((t' : Int) * 12 + (q : Int)) = l a ((t' : Int) * 12 + (q : Int)) := fun l a y => if_neg (fun z => e (by have := z.2; omega))
        rw [u2l_other _ _ _ (show (57 : Nat) ≠ 58 by decide), nE, nE, u2l_other _ _ _ (show (58 : Nat) ≠ 57 by decide), h57, h58]
        exact hrow.2 t' v (by omega) h2 hv
/-- a row is laid; it is dropped if no PAINTING could break it or if it is there already -/
theorem sp_X1_layRow {P : IM → LM → Prop} (hd : 7 ≤ d) {cs : List Cla} (hx : Cx w i cs) (hch : ChK i) {mo : Int} (hmo : 0 ≤ mo ∧ mo < 12) {q : Nat} (hq : q < 12) (h51 : i 51 13 = (q : Int)) (hkn : KnI i l cs mo) (hdrop : ∀ i' l' lim, vofr i i' → rofl q l l' → KnI i' l' cs mo → l' 60 (q : Int) = lim → spB i cs mo lim → rowP i l' cs mo q 0 → (mayF l' (q : Int) 0 lim lim = 0 ∨ ∃ x, x < q ∧ twK i l' x q ((i 101 307).toNat * 3)) → P i' l') (hnew : ∀ i' l' lim, vofr i i' → rofl q l l' → KnI i' l' cs mo → l' 60 (q : Int) = lim → spB i cs mo lim → rowP i l' cs mo q 0 → ¬ mayF l' (q : Int) 0 lim lim = 0 → P (u2 i' 51 13 ((q : Int) + 1)) l') : cVd w d X_X1_layRow [vR (some 51), vI mo] i l P := by
  obtain ⟨d, rfl, hd1⟩ := d_pos hd
  have h307 := hx.2.1.1.1
  refine e_X1_layRow (s_X1_layRow _ ?_)
  rw [h51]
  refine lp_row1 (by omega) hx hmo hq (fun x i' l' hi hl hsp => ?_) _ 0 (Nat.zero_add _) 0 i l (cscr_rf i) (psc_rf l) (fun v hv => by rw [if_neg (by omega)]; exact (Bt_lit v hv).2.2.2.2.2.2.1)
  obtain ⟨n, hn⟩ := Int.eq_ofNat_of_zero_le h307.1
  have hi' := vofr_c hi
  have e101 := hi' 101 (by decide) (by decide) (by decide)
  have e62 : i' 62 = i 62 := cscr_c hi (by decide) (by decide)
  have hm1 : (i 101 307 * 12 + (q : Int)) % 12 = (q : Int) := by omega
  have hbase : rofl q l (u2l (u2l (u2l l' 60 (q : Int) x) 57 (i 101 307 * 12 + (q : Int)) 0) 58 (i 101 307 * 12 + (q : Int)) 0) := by
    refine rofl_tr (rofl_tr (rofl_tr (rofl_v (vofl_p hl)) ⟨fun a _ _ _ _ h5 _ => u2l_other _ _ _ h5, fun y _ _ => ⟨by rw [u2l_other _ _ _ (by decide)], by rw [u2l_other _ _ _ (by decide)], by rw [u2l_other _ _ _ (by decide)]⟩, fun y hy => if_neg (fun z => hy z.2)⟩) (rofl_u (a := 57) (Or.inr (Or.inl rfl)) hm1)) (rofl_u (a := 58) (Or.inr (Or.inr rfl)) hm1)
  have hg := lp_row2 (w := w) (d := d) (P := P) (lim := x) (l0 := l) (by omega) hx hch hmo hq h51 (fun i2 l2 a1 a2 a3 a4 a5 a6 => hdrop i2 l2 x a1 a2 a3 a4 hsp a5 a6) (fun i2 l2 a1 a2 a3 a4 a5 a6 => hnew i2 l2 x a1 a2 a3 a4 hsp a5 a6) n (by omega) i' (u2l (u2l (u2l l' 60 (q : Int) x) 57 (i 101 307 * 12 + (q : Int)) 0) 58 (i 101 307 * 12 + (q : Int)) 0) hi' hbase (fun t' c' ht' hc' => ?_) ?_ ⟨fun t' c' h1 h2 => by omega, fun t' v h1 h2 hv => ?_⟩
  · rw [← hn] at hg
    exact hg
  · have hvwK : ∀ a b y, vwB i' cs (i' 101 308).toNat a b mo y ↔ vwB i cs (i 101 308).toNat a b mo y := by
      intro a b y
      unfold vwB
      rw [e101, vB_K e101]
    have := hkn t' c' ht' hc'
    rw [hvwK, e62, u2l_other _ _ _ (show (61 : Nat) ≠ 58 by decide), u2l_other _ _ _ (show (61 : Nat) ≠ 57 by decide), u2l_other _ _ _ (show (61 : Nat) ≠ 60 by decide), hl 61 (by decide)]
    exact this
  · rw [u2l_other _ _ _ (show (60 : Nat) ≠ 58 by decide), u2l_other _ _ _ (show (60 : Nat) ≠ 57 by decide)]
    exact if_pos (c := (60 : Nat) = 60 ∧ (q : Int) = (q : Int)) ⟨rfl, rfl⟩
  · have e : (t' : Int) = i 101 307 := by omega
    have e2 : (i 101 307).toNat - t' = 0 := by omega
    rw [e2, e]
    have f58 : u2l (u2l (u2l l' 60 (q : Int) x) 57 (i 101 307 * 12 + (q : Int)) 0) 58 (i 101 307 * 12 + (q : Int)) 0 58 (i 101 307 * 12 + (q : Int)) = 0 := if_pos ⟨rfl, rfl⟩
    have f57 : u2l (u2l (u2l l' 60 (q : Int) x) 57 (i 101 307 * 12 + (q : Int)) 0) 58 (i 101 307 * 12 + (q : Int)) 0 57 (i 101 307 * 12 + (q : Int)) = 0 := by
      rw [u2l_other _ _ _ (show (57 : Nat) ≠ 58 by decide)]; exact if_pos ⟨rfl, rfl⟩
    rw [f57, f58]
    exact ⟨(Bt_lit v hv).2.2.2.2.2.2.1, (Bt_lit v hv).2.2.2.2.2.2.1⟩
end
