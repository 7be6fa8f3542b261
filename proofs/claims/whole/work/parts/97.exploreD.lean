/-! PAINTER in memory: the search, the whole -/
section
variable {w : Wd}
theorem pow3_le : ∀ k : Nat, k ≤ 10 → (3 : Int) ^ k ≤ 59049 := by decide
theorem pS_e {a n : Nat} {b : Bool} {s : SA} {i i' : IM} (ha : i' a = i a) (h9 : i' (a + 9) = i (a + 9)) (h : pS i a n b s) : pS i' a n b s := by
  unfold pS
  rw [ha, h9]
  exact h
theorem exC_bd {i : IM} {n : Nat} (hc : cvOK i n) {Z : RW} {aim : Int} {M : Int64} {r t : Nat} (ht : t + (r + 1) = n) {o : Nat → Nat} {op : Nat} (c : Nat) (s : SA) (h1 : 0 ≤ s.1) (h2 : 0 ≤ s.2.1.1) : (0 ≤ (exC (pcM i) Z aim M r t o op c s).1 ∧ (exC (pcM i) Z aim M r t o op c s).1 ≤ s.1 + (3 : Int) ^ r) ∧ (0 ≤ (exC (pcM i) Z aim M r t o op c s).2.1.1 ∧ (exC (pcM i) Z aim M r t o op c s).2.1.1 ≤ s.2.1.1 + (3 : Int) ^ r) := by
  have h3 : (0 : Int) ≤ 3 ^ r := Int.pow_nonneg (by omega)
  have hsx := (sx_bd hc r (t + 1) (by omega)).1
  unfold exC
  split
  · omega
  · split
    · omega
    · cases hl : lk Z t c o op with
      | none => show (0 ≤ s.1 ∧ s.1 ≤ s.1 + 3 ^ r) ∧ (0 ≤ s.2.1.1 ∧ s.2.1.1 ≤ s.2.1.1 + 3 ^ r); omega
      | some x =>
        show (0 ≤ (if x = 0 then addB (blk (pcM i) r (t + 1) (upN o t c)) s else exX (pcM i) Z aim M r (t + 1) (upN o t c) x s).1 ∧ (if x = 0 then addB (blk (pcM i) r (t + 1) (upN o t c)) s else exX (pcM i) Z aim M r (t + 1) (upN o t c) x s).1 ≤ s.1 + 3 ^ r) ∧ (0 ≤ (if x = 0 then addB (blk (pcM i) r (t + 1) (upN o t c)) s else exX (pcM i) Z aim M r (t + 1) (upN o t c) x s).2.1.1 ∧ (if x = 0 then addB (blk (pcM i) r (t + 1) (upN o t c)) s else exX (pcM i) Z aim M r (t + 1) (upN o t c) x s).2.1.1 ≤ s.2.1.1 + 3 ^ r)
        by_cases z : x = 0
        · rw [if_pos z]
          have e1 : (addB (blk (pcM i) r (t + 1) (upN o t c)) s).1 = s.1 + (sx (pcM i) r (t + 1)).1 := rfl
          have e2 := upB_bd (T := (sx (pcM i) r (t + 1)).2.1) (p := (blk (pcM i) r (t + 1) (upN o t c)).2.2.1) (f := (blk (pcM i) r (t + 1) (upN o t c)).2.2.2.1) h2 (by omega)
          have e3 : (addB (blk (pcM i) r (t + 1) (upN o t c)) s).2.1 = upB (sx (pcM i) r (t + 1)).2.1 (blk (pcM i) r (t + 1) (upN o t c)).2.2.1 (blk (pcM i) r (t + 1) (upN o t c)).2.2.2.1 s.2.1 := rfl
          rw [e1, e3]
          omega
        · rw [if_neg z]
          exact exX_bd hc r (t + 1) _ x s (by omega) h1 h2
theorem sp_X5_explore {a : Nat} (ha : a = 63 ∨ a = 73) {n : Nat} {b : Bool} : ∀ (r d t : Nat) (o : Nat → Nat) (op : Nat) (s : SA) (i : IM) (l : LM) (P : IM → LM → Prop), r + 5 ≤ d → t + r = n → cvOK i n → SxM i a n → op < 4096 → (∀ j : Nat, j < t → i (a + 3) (j : Int) = ((o j : Nat) : Int) ∧ o j < 3) → (∀ q : Nat, q < (rwM i l a).1 → op.testBit q = true → l (a + 1) ((t : Int) * 12 + (q : Int)) = vw (rwM i l a) o q t) → pS i a n b s → (0 ≤ s.1 ∧ s.1 + (3 : Int) ^ r ≤ 1000000) → (0 ≤ s.2.1.1 ∧ s.2.1.1 + (3 : Int) ^ r ≤ 1000000) → (∀ i' l', efr a t i i' → lfr a t l l' → pS i' a n b (exX (pcM i) (rwM i l a) (i a 15) (l a 16) r t o op s) → P i' l') → cVd w d X_X5_explore [vR (some a), vI (t : Int), vI (vs (pcM i).2.1 o t), vI (pk3 (vs (pcM i).2.2.1 o t) (vs (pcM i).2.2.2.1 o t) (vs (pcM i).2.2.2.2 o t)), vI (op : Int)] i l P := by
  intro r
  induction r with
  | zero =>
    intro d t o op s i l P hd ht hcv hsx hop hch hsn hps hb1 hb2 hP
    obtain ⟨d, rfl, hd1⟩ := d_pos (show 4 + 1 ≤ d by omega)
    have e7 := hcv.2.1
    exact e_X5_explore (s_X5_explore _ _ _ _ ha ⟨⟨by omega, by have := hcv.1; omega⟩, fun q => by rw [e7] at q; omega, fun _ => hP i l (efr_rf a t i) (lfr_rf a t l) hps⟩)
  | succ r ih =>
    intro d t o op s i l P hd ht hcv hsx hop hch hsn hps hb1 hb2 hP
    obtain ⟨d, rfl, hd1⟩ := d_pos (show (r + 5) + 1 ≤ d by omega)
    have e7 := hcv.2.1
    have hn := hcv.1
    have h3r : (0 : Int) ≤ 3 ^ r := Int.pow_nonneg (by omega)
    have e3 : (3 : Int) ^ (r + 1) = 3 ^ r * 3 := Int.pow_succ ..
    refine e_X5_explore (s_X5_explore _ _ _ _ ha ⟨⟨by omega, by omega⟩, fun _ => ?_, fun q => absurd (by rw [e7]; omega) q⟩)
    rw [exX_s] at hP
    -- one choice
    have step : ∀ (c : Nat) (s : SA) (i' : IM) (l' : LM), c < 3 → efr a t i i' → lfr a t l l' → pS i' a n b s → (0 ≤ s.1 ∧ s.1 + (3 : Int) ^ r ≤ 1000000) → (0 ≤ s.2.1.1 ∧ s.2.1.1 + (3 : Int) ^ r ≤ 1000000) → (∀ i2 l2, efr a t i i2 → lfr a t l l2 → pS i2 a n b (exC (pcM i) (rwM i l a) (i a 15) (l a 16) r t o op c s) → gV w d X_X5_explore P i2 l2 15 [(0, vR (some a)), (1, vI (t : Int)), (2, vI (vs (pcM i).2.1 o t)), (3, vI (pk3 (vs (pcM i).2.2.1 o t) (vs (pcM i).2.2.2.1 o t) (vs (pcM i).2.2.2.2 o t))), (4, vI (op : Int)), (5, vI ((c : Int) + 1))] []) → gV w d X_X5_explore P i' l' 15 [(0, vR (some a)), (1, vI (t : Int)), (2, vI (vs (pcM i).2.1 o t)), (3, vI (pk3 (vs (pcM i).2.2.1 o t) (vs (pcM i).2.2.2.1 o t) (vs (pcM i).2.2.2.2 o t))), (4, vI (op : Int)), (5, vI (c : Int))] [] := by
      intro c s i' l' hc hi hl hps hb1 hb2 hnext
      have hcv' := cvOK_e ha hi hcv
      have hsx' := SxM_e ha hi hsx
      have epc := pcM_e ha hi
      have erw : rwM i' l' a = rwM i l a := by rw [rwM_e ha hi, rwM_l (by omega) hl]
      have e15 : i' a 15 = i a 15 := hi.2.1 15 (by decide) (by decide) (by decide) (by decide)
      have e16 : l' a 16 = l a 16 := by rw [hl.1 a (by omega)]
      have hch' : ∀ j : Nat, j < t → i' (a + 3) (j : Int) = ((o j : Nat) : Int) ∧ o j < 3 := fun j hj => ⟨by rw [hi.2.2 _ (by omega)]; exact (hch j hj).1, (hch j hj).2⟩
      have hsn' : ∀ q : Nat, q < (rwM i' l' a).1 → op.testBit q = true → l' (a + 1) ((t : Int) * 12 + (q : Int)) = vw (rwM i' l' a) o q t := by
        rw [erw]
        intro q hq hqo
        have : (rwM i l a).1 = (i 51 13).toNat := rfl
        have := hcv.2.2.1
        rw [hl.2 _ (by omega)]; exact hsn q hq hqo
      have hmay := pcM_no hcv' (show t < n by omega) hc
      rw [epc] at hmay
      have hg : i' 54 ((t : Int) * 3 + (c : Int)) = (pcM i).2.1 t c := by rw [← epc]; rfl
      have htl : i' 55 ((t : Int) * 3 + (c : Int)) = pk3 ((pcM i).2.2.1 t c) ((pcM i).2.2.2.1 t c) ((pcM i).2.2.2.2 t c) := by
        rw [← epc]
        have h5 := (hcv'.2.2.2.2.2 t c (by omega) hc).2.2
        show i' 55 ((t : Int) * 3 + (c : Int)) = i' 55 ((t : Int) * 3 + (c : Int)) % 256 + 256 * (i' 55 ((t : Int) * 3 + (c : Int)) / 256 % 256) + 65536 * (i' 55 ((t : Int) * 3 + (c : Int)) / 65536 % 256)
        omega
      have x6 : i' (a + 6) ((t : Int) + 1) = (sx (pcM i) r (t + 1)).2.2.1 := by
        have := (hsx'.1 (t + 1) (by omega)).2.2.1
        rw [show n - (t + 1) = r by omega, epc] at this
        exact this
      have hbdx := sx_bd hcv r (t + 1) (by omega)
      have vg := vs_bd (g := (pcM i).2.1) (o := o) (lo := -99) (hi := 99) t (fun j hj => (pcM_bd hcv (show j < n by omega) _ (hch j hj).2).1)
      have hgc := (pcM_bd hcv (show t < n by omega) c hc).1
      obtain ⟨p11, p12, p13, p14, p15, p16⟩ := hps
      have hskip : ∀ (z : exC (pcM i) (rwM i l a) (i a 15) (l a 16) r t o op c s = s) (l2 : LM), lfr a t l l2 → gV w d X_X5_explore P i' l2 15 [(0, vR (some a)), (1, vI (t : Int)), (2, vI (vs (pcM i).2.1 o t)), (3, vI (pk3 (vs (pcM i).2.2.1 o t) (vs (pcM i).2.2.2.1 o t) (vs (pcM i).2.2.2.2 o t))), (4, vI (op : Int)), (5, vI ((c : Int) + 1))] [] := fun z l2 hl2 => hnext i' l2 hi hl2 (by rw [z]; exact ⟨p11, p12, p13, p14, p15, p16⟩)
      refine s_X5_explore_15 _ _ _ _ _ ha ⟨⟨by omega, by omega⟩, fun _ => ⟨by omega, by omega⟩, fun q => by omega, fun q => ?_, fun q => ?_⟩
      · refine hskip ?_ l' hl
        unfold exC
        refine if_pos ?_
        rcases q.2 with z | z
        · exact Or.inl (hmay.mp z)
        · refine Or.inr ⟨by rw [← e15]; exact z.1, ?_⟩
          have := z.2
          rw [p11] at this; omega
      · obtain ⟨-, q1, q2⟩ := q
        have hm1 : ¬ (pcM i).1 t c = false := fun z => q1 (hmay.mpr z)
        have hm2 : (pcM i).1 t c = true := by simpa using hm1
        have hn1 : ¬ ((pcM i).1 t c = false ∨ (i a 15 = 1 ∧ 0 < s.1)) := by
          rintro (z | z)
          · exact hm1 z
          · rcases q2 with q2 | q2
            · exact q2 (by rw [e15]; exact z.1)
            · rw [p11] at q2; omega
        -- what is left to do: look, then record or go on
        have rest : ¬ ((i a 15 = 2 ∧ vs (pcM i).2.1 o t + (pcM i).2.1 t c + (sx (pcM i) r (t + 1)).2.2.1 ≤ s.2.1.2.1) ∨ (i a 15 ≠ 0 ∧ od (pcM i) (rwM i l a) (i a 15) t c o op (l a 16) = true)) → gV w d X_X5_explore P i' l' 126 [(0, vR (some a)), (1, vI (t : Int)), (2, vI (vs (pcM i).2.1 o t)), (3, vI (pk3 (vs (pcM i).2.2.1 o t) (vs (pcM i).2.2.2.1 o t) (vs (pcM i).2.2.2.2 o t))), (4, vI (op : Int)), (5, vI (c : Int)), (6, vI ((t : Int) * 3 + (c : Int))), (7, vI (vs (pcM i).2.1 o t + (pcM i).2.1 t c))] [] := by
          intro hn2
          have hex : ∀ x, lk (rwM i l a) t c o op = some x → exC (pcM i) (rwM i l a) (i a 15) (l a 16) r t o op c s = if x = 0 then addB (blk (pcM i) r (t + 1) (upN o t c)) s else exX (pcM i) (rwM i l a) (i a 15) (l a 16) r (t + 1) (upN o t c) x s := by
            intro x hx
            unfold exC
            rw [if_neg hn1, if_neg hn2, hx]
          refine s_X5_explore_126 _ _ _ _ _ _ _ ha (sp_X5_look ha (by omega) hcv'.2.2.1 (by omega) hc hop hsn' (fun hno l2 hl2 => ?_) (fun x hx l2 hl2 hw2 => ?_))
          · rw [erw] at hno
            refine ⟨fun _ => hskip ?_ l2 (lfr_tr hl hl2), fun z => absurd rfl z⟩
            unfold exC
            rw [if_neg hn1, if_neg hn2, hno]
          · rw [erw] at hx
            have hx4 := (lkGo_some _ _ hx).1
            have h12 : 2 ^ (rwM i l a).1 ≤ 2 ^ 12 := Nat.pow_le_pow_right (by omega) (by
              have : (rwM i l a).1 = (i 51 13).toNat := rfl
              have := hcv.2.2.1
              omega)
            have hi2 : efr a t i (u2 i' (a + 3) (t : Int) (c : Int)) := ⟨fun k h1 h2 h3 => by rw [u2_other _ _ _ h2]; exact hi.1 k h1 h2 h3, fun k h1 h2 h3 h4 => by rw [u2_other _ _ _ (show a ≠ a + 3 by omega)]; exact hi.2.1 k h1 h2 h3 h4, fun j hj => by
              show (if a + 3 = a + 3 ∧ j = (t : Int) then (c : Int) else i' (a + 3) j) = _
              rw [if_neg (fun z => by have := z.2; omega)]
              exact hi.2.2 j hj⟩
            have hl3 := lfr_tr hl hl2
            have epc2 := pcM_e ha hi2
            have hch2 : ∀ j : Nat, j < t + 1 → u2 i' (a + 3) (t : Int) (c : Int) (a + 3) (j : Int) = ((upN o t c j : Nat) : Int) ∧ upN o t c j < 3 := by
              intro j hj
              show (if a + 3 = a + 3 ∧ (j : Int) = (t : Int) then (c : Int) else i' (a + 3) (j : Int)) = _ ∧ _
              by_cases e : j = t
              · subst e; rw [if_pos ⟨rfl, rfl⟩, upN_at]; exact ⟨rfl, hc⟩
              · rw [if_neg (fun z => e (by omega)), upN_lt (by omega)]; exact hch' j (by omega)
            have hps2 : pS (u2 i' (a + 3) (t : Int) (c : Int)) a n b s := pS_e (u2_other _ _ _ (by omega)) (u2_other _ _ _ (by omega)) ⟨p11, p12, p13, p14, p15, p16⟩
            have et : pk3 (vs (pcM i).2.2.1 o t) (vs (pcM i).2.2.2.1 o t) (vs (pcM i).2.2.2.2 o t) + u2 i' (a + 3) (t : Int) (c : Int) 55 ((t : Int) * 3 + (c : Int)) = pk3 (vs (pcM i).2.2.1 (upN o t c) (t + 1)) (vs (pcM i).2.2.2.1 (upN o t c) (t + 1)) (vs (pcM i).2.2.2.2 (upN o t c) (t + 1)) := by
              rw [u2_other _ _ _ (by omega), htl, vs_up, vs_up, vs_up]
              unfold pk3
              omega
            have eg : vs (pcM i).2.1 o t + (pcM i).2.1 t c = vs (pcM i).2.1 (upN o t c) (t + 1) := (vs_up _ _ _ _).symm
            refine ⟨fun z => by omega, fun _ => ⟨⟨by omega, by omega⟩, ⟨by omega, by omega⟩, fun z => ⟨⟨by omega, by omega⟩, ?_⟩, fun z => ⟨⟨by omega, by omega⟩, ?_⟩⟩⟩
            · have z0 : x = 0 := by omega
              have hE := hex x hx
              rw [if_pos z0] at hE
              rw [et, eg, ← epc2]
              refine sp_X5_record ha (by omega) (cvOK_e ha hi2 hcv) (SxM_e ha hi2 hsx) (t := t + 1) (by omega) hch2 hps2 ⟨⟨by omega, by omega⟩, ⟨by omega, by omega⟩⟩ (fun i3 hi3 hps3 => ?_)
              rw [epc2] at hps3 ⊢
              rw [show n - (t + 1) = r by omega] at hps3
              exact hnext i3 l2 (efr_tr hi2 (efr_p hi3)) hl3 (by rw [hE]; exact hps3)
            · have z0 : ¬ x = 0 := by omega
              have hE := hex x hx
              rw [if_neg z0] at hE
              have erw2 : rwM (u2 i' (a + 3) (t : Int) (c : Int)) l2 a = rwM i l a := by rw [rwM_e ha hi2, rwM_l (by omega) hl3]
              rw [et, eg, ← epc2]
              refine ih d (t + 1) (upN o t c) x s (u2 i' (a + 3) (t : Int) (c : Int)) l2 _ hd1 (by omega) (cvOK_e ha hi2 hcv) (SxM_e ha hi2 hsx) (by omega) hch2 (fun q hq hqo => ?_) hps2 hb1 hb2 (fun i3 l3 hi3 hl4 hps3 => ?_)
              · rw [erw2] at hq ⊢
                have hqop : op.testBit q = true := ((lkGo_some _ _ hx).2 q hq |>.2.mp hqo).1
                have := hw2 q (by rw [erw]; exact hq) hqop
                rw [erw] at this
                rw [vw_up]
                exact this
              · rw [epc2, erw2] at hps3
                rw [epc2]
                have e15b : u2 i' (a + 3) (t : Int) (c : Int) a 15 = i a 15 := by rw [u2_other _ _ _ (show a ≠ a + 3 by omega)]; exact e15
                have e16b : l2 a 16 = l a 16 := by rw [hl3.1 a (by omega)]
                rw [e15b, e16b] at hps3
                exact hnext i3 l3 (efr_tr hi2 (efr_up hi3)) (lfr_tr hl3 (lfr_up hl4)) (by rw [hE]; exact hps3)
        refine s_X5_explore_56 _ _ _ _ _ ha ⟨⟨by omega, by omega⟩, fun _ => ⟨by omega, by omega⟩, fun _ => by rw [hg, x6]; exact ⟨by omega, by omega⟩, fun z => ?_, fun z => ?_⟩
        · rw [hg, x6, e15, p13] at z
          refine hskip ?_ l' hl
          unfold exC
          rw [if_neg hn1]
          exact if_pos (Or.inl z)
        · rw [hg, x6, e15, p13] at z
          rw [hg]
          refine s_X5_explore_104 _ _ _ _ _ _ _ ha ⟨fun z2 => ?_, fun z2 => ?_⟩
          · rw [e15] at z2
            exact rest (by rintro (y | y); exact z y; exact y.1 z2)
          · rw [e15] at z2
            refine sp_X5_isOutdone ha (by omega) hcv' (by omega) hc hop hsn' (fun y => ⟨fun y2 => absurd y2 (by decide), fun _ => ?_⟩) (fun y => ⟨fun _ => ?_, fun y2 => absurd rfl y2⟩)
            · rw [epc, erw, e15, e16] at y
              refine hskip ?_ l' hl
              unfold exC
              rw [if_neg hn1]
              exact if_pos (Or.inr ⟨z2, y⟩)
            · rw [epc, erw, e15, e16] at y
              exact rest (by rintro (y2 | y2); exact z y2; rw [y] at y2; exact absurd y2.2 (by decide))
    have hb := fun c s (h1 : 0 ≤ s.1) (h2 : 0 ≤ s.2.1.1) => (show (0 ≤ (exC (pcM i) (rwM i l a) (i a 15) (l a 16) r t o op c s).1 ∧ (exC (pcM i) (rwM i l a) (i a 15) (l a 16) r t o op c s).1 ≤ s.1 + (3 : Int) ^ r) ∧ (0 ≤ (exC (pcM i) (rwM i l a) (i a 15) (l a 16) r t o op c s).2.1.1 ∧ (exC (pcM i) (rwM i l a) (i a 15) (l a 16) r t o op c s).2.1.1 ≤ s.2.1.1 + (3 : Int) ^ r) from exC_bd hcv (by omega) c s h1 h2)
    have k0 := hb 0 s hb1.1 hb2.1
    have k1 := hb 1 _ k0.1.1 k0.2.1
    refine step 0 s i l (by omega) (efr_rf a t i) (lfr_rf a t l) hps ⟨by omega, by omega⟩ ⟨by omega, by omega⟩ (fun i2 l2 hi2 hl2 hps2 => ?_)
    refine step 1 _ i2 l2 (by omega) hi2 hl2 hps2 ⟨by omega, by omega⟩ ⟨by omega, by omega⟩ (fun i3 l3 hi3 hl3 hps3 => ?_)
    refine step 2 _ i3 l3 (by omega) hi3 hl3 hps3 ⟨by omega, by omega⟩ ⟨by omega, by omega⟩ (fun i4 l4 hi4 hl4 hps4 => ?_)
    exact s_X5_explore_15 _ _ _ _ _ ha ⟨⟨by omega, by omega⟩, fun q => by omega, fun _ => hP i4 l4 hi4 hl4 hps4, fun q => by omega, fun q => by omega⟩
end
