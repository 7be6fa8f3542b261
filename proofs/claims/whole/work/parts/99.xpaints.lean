/-! the model goes through all PAINTINGS, second part -/
section
variable {w : Wd} {d : Nat} {l : LM}
theorem lp_pon54 {P : IM → LM → Prop} (hd : 2 ≤ d) {i0 : IM} {cs : List Cla} {n W : Nat} {months eased : Int} (hk : kOK (i0 101)) (hl : laid i0 cs n W months eased) {o : Nat → Nat} {t c : Nat} (ht : t < n) (hc : c < 3) (hm : mMay i0 (t : Int) (c : Int) = true) {x2 x3 x4 : Int} {s : ES} (hnext : ∀ i', pnI i0 i' cs n W months (upN o t c) (t + 1) s → cVd w d X_X12_paintsOn [vR (some 99), vI ((t : Int) + 1), vI (x2 + fPr i0 cs t c), vI (x3 + fWo i0 t c), vI (x4 + fGr i0 t c + 16 * fPt i0 t c + 256 * fOf i0 t c)] i' l (fun i76 l76 => gV w d X_X12_paintsOn P i76 l76 20 [(0, vR (some 99)), (1, vI (t : Int)), (2, vI x2), (3, vI x3), (4, vI x4), (5, vI ((c : Int) + 1))] [])) : ∀ r v : Nat, v + r = W → ∀ i', pnI i0 i' cs n W months o t s → i' 116 (t : Int) = (c : Int) → (∀ v' m' : Nat, v' < v → m' < 12 → inMo months m' → i' 113 ((96 * ((t : Int) + 1) + 12 * (v' : Int)) + (m' : Int)) = ((mvw i0 cs (upN o t c) v' (m' : Int) (t + 1) : Nat) : Int)) → gV w d X_X12_paintsOn P i' l 54 [(0, vR (some 99)), (1, vI (t : Int)), (2, vI x2), (3, vI x3), (4, vI x4), (5, vI (c : Int)), (6, vI (v : Int))] [] := by
  have k7 := hk.1.1
  have k8 := hk.1.2.1
  intro r
  induction r with
  | zero =>
    intro v hvr i' hi h6 hvw
    have e : v = W := by omega
    subst e
    have e101 : i' 101 = i0 101 := pnf_c hi.1 (by decide) (by decide) (by decide) (by decide) (by decide) (by decide)
    have e114 : i' 114 = i0 114 := pnf_c hi.1 (by decide) (by decide) (by decide) (by decide) (by decide) (by decide)
    have l7 := hl.1
    have l8 := hl.2.1
    have l4 := hl.2.2.2.1
    refine s_X12_paintsOn_54 _ _ _ _ _ _ hd ⟨⟨by omega, by omega⟩, fun _ => ⟨⟨by omega, by omega⟩, ⟨by omega, by omega⟩, ⟨by omega, by omega⟩, ⟨by omega, by omega⟩, fun _ => ⟨by omega, by omega⟩, ⟨by omega, by omega⟩, ?_⟩, fun z => by rw [e101, l8] at z; omega⟩
    rw [mColour_K e101, e101, e114, (l4 t c ht hc).2]
    have e4 : ((x4 + (bI (mColour i0 (t : Int) (c : Int) = 0))) + (if ((c : Int) = 0) then (0 : Int) else 16)) + (if (mColour i0 (t : Int) (c : Int) = i0 101 (8 * (t : Int) + 2)) then (0 : Int) else 256) = x4 + fGr i0 t c + 16 * fPt i0 t c + 256 * fOf i0 t c := by
      show _ = x4 + (if mColour i0 (t : Int) (c : Int) = 0 then 1 else 0) + 16 * (if (c : Int) = 0 then 0 else 1) + 256 * (if mColour i0 (t : Int) (c : Int) = i0 101 (8 * (t : Int) + 2) then 0 else 1)
      unfold bI
      split <;> split <;> split <;> omega
    rw [e4]
    refine hnext i' ⟨hi.1, ?_, ?_, hi.2.2.2⟩
    · intro t' v' m' h1 h2 h3 h4
      by_cases e : t' = t + 1
      · subst e; exact hvw v' m' h2 h3 h4
      · rw [hi.2.1 t' v' m' (by omega) h2 h3 h4, mvw_cg i0 cs v' (m' : Int) t' (fun j hj => (upN_lt (o := o) (t := t) (c := c) (by omega)).symm)]
    · intro j hj
      by_cases e : j = t
      · subst e; rw [upN_at]; exact h6
      · rw [upN_lt (by omega)]; exact hi.2.2.1 j (by omega)
  | succ r ih =>
    intro v hvr i' hi h6 hvw
    have e101 : i' 101 = i0 101 := pnf_c hi.1 (by decide) (by decide) (by decide) (by decide) (by decide) (by decide)
    have l8 := hl.2.1
    refine s_X12_paintsOn_54 _ _ _ _ _ _ hd ⟨⟨by omega, by omega⟩, fun z => by rw [e101, hl.2.1] at z; omega, fun _ => ?_⟩
    exact lp_pon66 (by omega) hk hl ht hc hm (by omega) (fun i2 hi2 h62 hvw2 => ih (v + 1) (by omega) i2 hi2 h62 hvw2) 12 0 (by omega) i' hi h6 (fun v' m' h1 h2 h3 => hvw v' m' (by omega) h2 h3)
theorem pnI_dn {i0 i : IM} {cs : List Cla} {n W : Nat} {months : Int} {o : Nat → Nat} {t c : Nat} {s : ES} (h : pnI i0 i cs n W months (upN o t c) (t + 1) s) : pnI i0 i cs n W months o t s := by
  refine ⟨h.1, fun t' v m h1 h2 h3 h4 => ?_, fun j hj => ?_, h.2.2.2⟩
  · rw [h.2.1 t' v m (by omega) h2 h3 h4, mvw_cg i0 cs v (m : Int) t' (fun j hj => upN_lt (by omega))]
  · rw [h.2.2.1 j (by omega), upN_lt hj]
theorem sp_X12_paintsOn {i0 : IM} {cs : List Cla} {n W : Nat} {months eased : Int} (hk : kOK (i0 101)) (hl : laid i0 cs n W months eased) : ∀ (r d t : Nat) (o : Nat → Nat) (s : ES) (i : IM) (P : IM → LM → Prop), r + 4 ≤ d → t + r = n → pnI i0 i cs n W months o t s → s.1.1 + (3 : Int) ^ r ≤ 1000000 → (∀ i', pnI i0 i' cs n W months o t (pG (fMy i0) (lfN i0 cs n W months eased) r t o s) → P i' l) → cVd w d X_X12_paintsOn [vR (some 99), vI (t : Int), vI (vs (fPr i0 cs) o t), vI (vs (fWo i0) o t), vI (vs (fGr i0) o t + 16 * vs (fPt i0) o t + 256 * vs (fOf i0) o t)] i l P := by
  have k7 := hk.1.1
  have k8 := hk.1.2.1
  have l7 := hl.1
  have l8 := hl.2.1
  intro r
  induction r with
  | zero =>
    intro d t o s i P hd ht hi hb hP
    obtain ⟨d, rfl⟩ : ∃ d', d = d' + 1 := ⟨d - 1, by omega⟩
    have e : t = n := by omega
    subst e
    have e101 : i 101 = i0 101 := pnf_c hi.1 (by decide) (by decide) (by decide) (by decide) (by decide) (by decide)
    have e112 : i 112 = i0 112 := pnf_c hi.1 (by decide) (by decide) (by decide) (by decide) (by decide) (by decide)
    have e43 : i 99 43 = months := by rw [hi.1 99 43 (by decide) (by decide) (by decide) (by decide) (by decide) (by omega)]; exact hl.2.2.1
    have r1 := vs_rg (g := fPr i0 cs) (b := 99) o t (fun x hx => mPr_rg hk cs ⟨by omega, by omega⟩)
    have r2 := vs_rg (g := fWo i0) (b := 99) o t (fun x hx => by
      have := (hk.2.1 (x : Int) (by omega) (by omega)).2.2.2.2.1
      show 0 ≤ (if mColour i0 (x : Int) ((o x : Nat) : Int) = i0 101 (8 * (x : Int) + 2) then i0 101 (8 * (x : Int) + 4) else 0) ∧ (if mColour i0 (x : Int) ((o x : Nat) : Int) = i0 101 (8 * (x : Int) + 2) then i0 101 (8 * (x : Int) + 4) else 0) ≤ 99
      split
      · exact this
      · omega)
    have r3 := vs_rg (g := fGr i0) (b := 1) o t (fun x hx => by
      show 0 ≤ (if mColour i0 (x : Int) ((o x : Nat) : Int) = 0 then (1 : Int) else 0) ∧ (if mColour i0 (x : Int) ((o x : Nat) : Int) = 0 then (1 : Int) else 0) ≤ 1
      split <;> omega)
    have r4 := vs_rg (g := fPt i0) (b := 1) o t (fun x hx => by
      show 0 ≤ (if ((o x : Nat) : Int) = 0 then (0 : Int) else 1) ∧ (if ((o x : Nat) : Int) = 0 then (0 : Int) else 1) ≤ 1
      split <;> omega)
    have r5 := vs_rg (g := fOf i0) (b := 1) o t (fun x hx => by
      show 0 ≤ (if mColour i0 (x : Int) ((o x : Nat) : Int) = i0 101 (8 * (x : Int) + 2) then (0 : Int) else 1) ∧ (if mColour i0 (x : Int) ((o x : Nat) : Int) = i0 101 (8 * (x : Int) + 2) then (0 : Int) else 1) ≤ 1
      split <;> omega)
    have hb1 : s.1.1 < 1000000 := by
      have : (3 : Int) ^ 0 = 1 := rfl
      omega
    refine e_X12_paintsOn (s_X12_paintsOn _ _ _ _ (by omega) ⟨⟨by omega, by omega⟩, fun _ => ?_, fun z => absurd (by rw [e101, l7]) z⟩)
    refine sp_X12_ends (by omega) (n := t) (W := W) (by rw [e101]; exact hk) (by rw [e101]; exact l7) (by rw [e101]; exact l8) (cs := cs) (months := months) (eased := eased) (o := o) e43 ?_ hi.2.2.1 ⟨r1.1, by omega⟩ ⟨r2.1, by omega⟩ ⟨r3.1, by omega⟩ ⟨r4.1, by omega⟩ ⟨r5.1, by omega⟩ hi.2.2.2 hb1 (fun i2 hi2 hs2 => ?_)
    · intro v m h1 h2 h3
      rw [e112, mvw_K e101]
      exact ⟨hl.2.2.2.2.2 v m h1 h2 h3, hi.2.1 t v m (by omega) h1 h2 h3⟩
    · rw [shN_K e101, flN_K e101] at hs2
      refine hP i2 ⟨pnf_tr hi.1 (pnf_e hi2), fun t' v m h1 h2 h3 h4 => ?_, fun j hj => ?_, hs2⟩
      · rw [hi2 113 _ (by decide) (by decide) (by decide) (Or.inl (by decide))]; exact hi.2.1 t' v m h1 h2 h3 h4
      · rw [hi2 116 _ (by decide) (by decide) (by decide) (Or.inl (by decide))]; exact hi.2.2.1 j hj
  | succ r ih =>
    intro d t o s i P hd ht hi hb hP
    obtain ⟨d, rfl⟩ : ∃ d', d = d' + 1 := ⟨d - 1, by omega⟩
    have e101 : i 101 = i0 101 := pnf_c hi.1 (by decide) (by decide) (by decide) (by decide) (by decide) (by decide)
    have h3 : (3 : Int) ^ (r + 1) = 3 ^ r * 3 := Int.pow_succ ..
    refine e_X12_paintsOn (s_X12_paintsOn _ _ _ _ (by omega) ⟨⟨by omega, by omega⟩, fun z => by rw [e101, l7] at z; omega, fun _ => ?_⟩)
    have step : ∀ (c : Nat) (s : ES) (i : IM), c < 3 → pnI i0 i cs n W months o t s → s.1.1 + (3 : Int) ^ r ≤ 1000000 → (∀ i', pnI i0 i' cs n W months o t (pGc (fMy i0) (lfN i0 cs n W months eased) r t o c s) → gV w d X_X12_paintsOn P i' l 20 [(0, vR (some 99)), (1, vI (t : Int)), (2, vI (vs (fPr i0 cs) o t)), (3, vI (vs (fWo i0) o t)), (4, vI (vs (fGr i0) o t + 16 * vs (fPt i0) o t + 256 * vs (fOf i0) o t)), (5, vI ((c : Int) + 1))] []) → gV w d X_X12_paintsOn P i l 20 [(0, vR (some 99)), (1, vI (t : Int)), (2, vI (vs (fPr i0 cs) o t)), (3, vI (vs (fWo i0) o t)), (4, vI (vs (fGr i0) o t + 16 * vs (fPt i0) o t + 256 * vs (fOf i0) o t)), (5, vI (c : Int))] [] := by
      intro c s i hc hi hb hnext
      have e115 : i 115 = i0 115 := pnf_c hi.1 (by decide) (by decide) (by decide) (by decide) (by decide) (by decide)
      have ey := (hl.2.2.2.1 t c (by omega) hc).1
      unfold pGc at hnext
      by_cases my : mMay i0 (t : Int) (c : Int) = true
      · rw [bI_t my] at ey
        rw [if_pos (show fMy i0 t c = true from my)] at hnext
        refine s_X12_paintsOn_20 _ _ _ _ _ ⟨⟨by omega, by omega⟩, fun _ => ⟨by omega, by omega⟩, fun z => by omega, fun _ => ⟨⟨by omega, by omega⟩, ⟨by omega, by omega⟩, ?_⟩, fun z => by rw [e115, ey] at z; omega⟩
        refine lp_pon54 (by omega) hk hl (o := o) (by omega) hc my (s := s) (fun i2 hi2 => ?_) W 0 (by omega) _ ⟨pnf_tr hi.1 (pnf_u (by omega)), ?_, ?_, ?_⟩ (u2_self ..) (fun v' m' h => by omega)
        · have eq : (vs (fGr i0) o t + 16 * vs (fPt i0) o t + 256 * vs (fOf i0) o t) + fGr i0 t c + 16 * fPt i0 t c + 256 * fOf i0 t c = vs (fGr i0) (upN o t c) (t + 1) + 16 * vs (fPt i0) (upN o t c) (t + 1) + 256 * vs (fOf i0) (upN o t c) (t + 1) := by
            rw [vs_up, vs_up, vs_up]; omega
          have hh := ih d (t + 1) (upN o t c) s i2 (fun i76 l76 => gV w d X_X12_paintsOn P i76 l76 20 [(0, vR (some 99)), (1, vI (t : Int)), (2, vI (vs (fPr i0 cs) o t)), (3, vI (vs (fWo i0) o t)), (4, vI (vs (fGr i0) o t + 16 * vs (fPt i0) o t + 256 * vs (fOf i0) o t)), (5, vI ((c : Int) + 1))] []) (by omega) (by omega) hi2 hb (fun i3 hi3 => hnext i3 (pnI_dn hi3))
          rw [eq, ← vs_up (fPr i0 cs), ← vs_up (fWo i0)]
          exact hh
        · intro t' v' m' h1 h2 h3 h4
          rw [u2_other _ _ _ (by decide)]; exact hi.2.1 t' v' m' h1 h2 h3 h4
        · intro j hj
          have : u2 i 116 (t : Int) (c : Int) 116 (j : Int) = i 116 (j : Int) := if_neg (fun z => by have := z.2; omega)
          rw [this]; exact hi.2.2.1 j hj
        · exact eS_cg (u2_other _ _ _ (by decide)) (u2_other _ _ _ (by decide)) (u2_other _ _ _ (by decide)) (u2_other _ _ _ (by decide)) hi.2.2.2
      · rw [bI_f my] at ey
        rw [if_neg (show ¬ fMy i0 t c = true from my)] at hnext
        refine s_X12_paintsOn_20 _ _ _ _ _ ⟨⟨by omega, by omega⟩, fun _ => ⟨by omega, by omega⟩, fun z => by omega, fun z => absurd (by rw [e115, ey]) z.2, fun _ => hnext i hi⟩
    have hgr : ∀ c s, (pGc (fMy i0) (lfN i0 cs n W months eased) r t o c s).1.1 ≤ s.1.1 + (3 : Int) ^ r := by
      intro c s
      unfold pGc
      split
      · exact pG_grow (f := fun s : ES => s.1.1) (lfN_grow i0 cs n W months eased) r (t + 1) _ s
      · have : (0 : Int) ≤ 3 ^ r := Int.le_of_lt (Int.pow_pos (by decide))
        omega
    have hpos : (0 : Int) < 3 ^ r := Int.pow_pos (by decide)
    refine step 0 s i (by omega) hi (by omega) (fun i1 hi1 => ?_)
    have g0 := hgr 0 s
    refine step 1 _ i1 (by omega) hi1 (by omega) (fun i2 hi2 => ?_)
    have g1 := hgr 1 (pGc (fMy i0) (lfN i0 cs n W months eased) r t o 0 s)
    refine step 2 _ i2 (by omega) hi2 (by omega) (fun i3 hi3 => ?_)
    exact s_X12_paintsOn_20 _ _ _ _ _ ⟨⟨by omega, by omega⟩, fun z => absurd (by omega) z, fun _ => hP i3 (by rw [pG_s]; exact hi3), fun z => absurd (by omega) z.1, fun z => absurd (by omega) z.1⟩
end
