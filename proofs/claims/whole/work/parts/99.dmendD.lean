/-! MENDER in memory: the search -/
section
variable {w : Wd}
def mS (i : IM) (l : LM) (n : Nat) (s : MS) : Prop := i 83 8 = s.1 ∧ (s.1 < 1000000 → l 83 9 = s.2.1 ∧ ∀ j : Nat, j < n → i 89 (j : Int) = ((s.2.2 j : Nat) : Int))
def CpM (i : IM) (n : Nat) : Prop := (∀ t : Nat, t ≤ n → i 87 (t : Int) = ch (pcM i).1 (prM i n) (n - t) t) ∧ ∀ t : Nat, t < n → i 88 (t : Int) = (((cpG (pcM i).1 (prM i n) t 3).2 : Nat) : Int)
def efM (t : Nat) (i i' : IM) : Prop := (∀ c, c ≠ 83 → c ≠ 86 → c ≠ 89 → i' c = i c) ∧ (∀ k : Int, k ≠ 8 → i' 83 k = i 83 k) ∧ ∀ j : Int, j < (t : Int) → i' 86 j = i 86 j
def lfM (t : Nat) (l l' : LM) : Prop := (∀ k, k ≠ 83 → k ≠ 84 → l' k = l k) ∧ ∀ j : Int, j < ((t : Int) + 1) * 12 → l' 84 j = l 84 j
theorem efM_rf (t : Nat) (i : IM) : efM t i i := ⟨fun _ _ _ _ => rfl, fun _ _ => rfl, fun _ _ => rfl⟩
theorem efM_tr {t : Nat} {i j k : IM} (h1 : efM t i j) (h2 : efM t j k) : efM t i k := ⟨fun c x y z => (h2.1 c x y z).trans (h1.1 c x y z), fun c p => (h2.2.1 c p).trans (h1.2.1 c p), fun x h => (h2.2.2 x h).trans (h1.2.2 x h)⟩
theorem efM_up {t : Nat} {i i' : IM} (h : efM (t + 1) i i') : efM t i i' := ⟨h.1, h.2.1, fun j hj => h.2.2 j (by omega)⟩
theorem lfM_rf (t : Nat) (l : LM) : lfM t l l := ⟨fun _ _ _ => rfl, fun _ _ => rfl⟩
theorem lfM_tr {t : Nat} {l l' l'' : LM} (h1 : lfM t l l') (h2 : lfM t l' l'') : lfM t l l'' := ⟨fun k x y => (h2.1 k x y).trans (h1.1 k x y), fun j h => (h2.2 j h).trans (h1.2 j h)⟩
theorem lfM_up {t : Nat} {l l' : LM} (h : lfM (t + 1) l l') : lfM t l l' := ⟨h.1, fun j hj => h.2 j (by omega)⟩
theorem lfM_of {t : Nat} {l l' : LM} (h : lfr 83 t l l') : lfM t l l' := ⟨fun k _ y => h.1 k y, h.2⟩
theorem pcM_m {t : Nat} {i i' : IM} (h : efM t i i') : pcM i' = pcM i := by
  unfold pcM
  rw [h.1 52 (by decide) (by decide) (by decide), h.1 54 (by decide) (by decide) (by decide), h.1 55 (by decide) (by decide) (by decide)]
theorem prM_m {t n : Nat} {i i' : IM} (h : efM t i i') : prM i' n = prM i n := by
  funext x c
  unfold prM
  rw [h.1 53 (by decide) (by decide) (by decide)]
theorem cvOK_m {t n : Nat} {i i' : IM} (h : efM t i i') (hc : cvOK i n) : cvOK i' n := by
  unfold cvOK
  rw [pcM_m h, h.1 7 (by decide) (by decide) (by decide), h.1 51 (by decide) (by decide) (by decide), h.1 52 (by decide) (by decide) (by decide), h.1 53 (by decide) (by decide) (by decide), h.1 54 (by decide) (by decide) (by decide), h.1 55 (by decide) (by decide) (by decide)]
  exact hc
theorem CpM_m {t n : Nat} {i i' : IM} (h : efM t i i') (hc : CpM i n) : CpM i' n := by
  unfold CpM
  rw [pcM_m h, prM_m h, h.1 87 (by decide) (by decide) (by decide), h.1 88 (by decide) (by decide) (by decide)]
  exact hc
theorem rwM_m {t t' : Nat} {i i' : IM} {l l' : LM} (h : efM t i i') (hl : lfM t' l l') : rwM i' l' 83 = rwM i l 83 := by
  unfold rwM
  rw [h.1 51 (by decide) (by decide) (by decide), hl.1 56 (by decide) (by decide), hl.1 57 (by decide) (by decide), hl.1 58 (by decide) (by decide), hl.1 85 (by decide) (by decide)]
/-- WINDOWS and what walling them up costs -/
def shK (i : IM) (W : Nat) : Prop := W ≤ 8 ∧ i 7 9 = (W : Int) ∧ ∀ v : Nat, v < W → 0 ≤ i 9 ((v : Int) * 3 + 2) ∧ i 9 ((v : Int) * 3 + 2) ≤ 99
abbrev shF (i : IM) (W : Nat) : Int64 → Int := fun F => shGo (fun v => i 9 (v * 3 + 2)) F W
theorem shK_m {t W : Nat} {i i' : IM} (h : efM t i i') (hk : shK i W) : shK i' W := by
  unfold shK
  rw [h.1 7 (by decide) (by decide) (by decide), h.1 9 (by decide) (by decide) (by decide)]
  exact hk
theorem lp_recM {d : Nat} {l : LM} {P : IM → LM → Prop} {n : Nat} {i : IM} (hn : n ≤ 10) (h7 : i 7 8 = (n : Int)) {t : Nat} (ht : t ≤ n) {f : Nat → Nat} (hf : ∀ j : Nat, j < n → (if j < t then i 86 (j : Int) else i 88 (j : Int)) = ((f j : Nat) : Int)) (hP : ∀ i', (∀ c, c ≠ 89 → i' c = i c) → (∀ j : Nat, j < n → i' 89 (j : Int) = ((f j : Nat) : Int)) → P i' l) : ∀ r k : Nat, k + r = n → ∀ i', (∀ c, c ≠ 89 → i' c = i c) → (∀ j : Nat, j < k → i' 89 (j : Int) = ((f j : Nat) : Int)) → gV w d X_X3_record P i' l 13 [(0, vR (some 83)), (1, vI (t : Int)), (5, vI (k : Int))] [] := by
  intro r
  induction r with
  | zero =>
    intro k hk i' hi hj
    have e : k = n := by omega
    subst e
    have e7 : i' 7 8 = (k : Int) := by rw [hi 7 (by decide), h7]
    exact s_X3_record_13 _ _ ⟨⟨by omega, by omega⟩, fun _ => hP i' hi hj, fun q => by rw [e7] at q; omega⟩
  | succ r ih =>
    intro k hk i' hi hj
    have e7 : i' 7 8 = (n : Int) := by rw [hi 7 (by decide), h7]
    refine s_X3_record_13 _ _ ⟨⟨by omega, by omega⟩, fun q => by rw [e7] at q; omega, fun q => ⟨⟨by omega, by omega⟩, ⟨by omega, by omega⟩, fun _ => ⟨by omega, by omega⟩, fun _ => ⟨by omega, by omega⟩, ⟨by omega, by omega⟩, ?_⟩⟩
    have hv : (if (t : Int) ≤ (k : Int) then i' 88 (k : Int) else i' 86 (k : Int)) = ((f k : Nat) : Int) := by
      rw [hi 88 (by decide), hi 86 (by decide), ← hf k (by omega)]
      by_cases c : k < t
      · rw [if_pos c, if_neg (by omega)]
      · rw [if_neg c, if_pos (by omega)]
    rw [hv]
    refine ih (k + 1) (by omega) _ (fun c hc => by rw [u2_other _ _ _ hc, hi c hc]) (fun j hj2 => ?_)
    show (if (89 : Nat) = 89 ∧ (j : Int) = (k : Int) then ((f k : Nat) : Int) else i' 89 (j : Int)) = _
    by_cases c : j = k
    · subst c; rw [if_pos ⟨rfl, rfl⟩]
    · rw [if_neg (fun z => c (by omega))]; exact hj j (by omega)
theorem sp_X3_record {d : Nat} {i : IM} {l : LM} {P : IM → LM → Prop} (hd : 1 ≤ d) {n : Nat} (hcv : cvOK i n) (hcp : CpM i n) {t : Nat} (ht : t ≤ n) {o : Nat → Nat} (ho : ∀ j : Nat, j < t → i 86 (j : Int) = ((o j : Nat) : Int)) {sum : Int} (hs : 0 ≤ sum ∧ sum ≤ 100000) {F : Int64} (hP : ∀ i' l', efM t i i' → lfM t l l' → mS i' l' n (sum, F, kpM (pcM i) (prM i n) t o) → P i' l') : cVd w d X_X3_record [vR (some 83), vI (t : Int), vI sum, vL F] i l P := by
  obtain ⟨d, rfl, hd1⟩ := d_pos hd
  have hn := hcv.1
  refine e_X3_record (s_X3_record _ _ _ ⟨⟨by omega, by omega⟩, ?_⟩)
  refine lp_recM (i := u2 i 83 8 sum) hn (by rw [u2_other _ _ _ (by decide)]; exact hcv.2.1) ht (f := kpM (pcM i) (prM i n) t o) (fun j hj => ?_) (fun i' hi' hf' => ?_) n 0 (Nat.zero_add _) _ (fun _ _ => rfl) (fun j hj => by omega)
  · rw [u2_other _ _ _ (by decide), u2_other _ _ _ (by decide)]
    by_cases c : j < t
    · rw [if_pos c, ho j c]
      show _ = (((if j < t then o j else _ : Nat)) : Int)
      rw [if_pos c]
    · rw [if_neg c, hcp.2 j hj]
      show _ = (((if j < t then o j else _ : Nat)) : Int)
      rw [if_neg c]
  · refine hP i' _ ⟨fun c h1 h2 h3 => by rw [hi' c h3, u2_other _ _ _ h1], fun k hk => ?_, fun j hj => by rw [hi' 86 (by decide), u2_other _ _ _ (by decide)]⟩ ⟨fun k h1 h2 => u2l_other _ _ _ h1, fun j hj => by rw [u2l_other _ _ _ (by decide)]⟩ ⟨?_, fun _ => ⟨?_, hf'⟩⟩
    · rw [hi' 83 (by decide)]; exact if_neg (fun z => hk z.2)
    · rw [hi' 83 (by decide), u2_self]
    · exact if_pos (c := (83 : Nat) = 83 ∧ (9 : Int) = 9) ⟨rfl, rfl⟩
theorem ch_bd {i : IM} {n : Nat} (hcv : cvOK i n) : ∀ r t, t + r = n → 0 ≤ ch (pcM i).1 (prM i n) r t ∧ ch (pcM i).1 (prM i n) r t ≤ 99 * (r : Int)
  | 0, _, _ => ⟨Int.le_refl _, Int.le_refl _⟩
  | r + 1, t, ht => by
    have ih := ch_bd hcv r (t + 1) (by omega)
    have hk := cp_ok (prM_ok hcv) (may := (pcM i).1) (n := n) (t := t) hcv.2.2.2.1 (by omega)
    have hp := (hcv.2.2.2.2.2 t (cpG (pcM i).1 (prM i n) t 3).2 (by omega) hk.2.1).2.1
    rw [prM_at (i := i) (show t < n by omega) hk.2.1, hk.2.2.1] at hp
    show 0 ≤ ch (pcM i).1 (prM i n) r (t + 1) + (cpG (pcM i).1 (prM i n) t 3).1 ∧ ch (pcM i).1 (prM i n) r (t + 1) + (cpG (pcM i).1 (prM i n) t 3).1 ≤ 99 * ((r + 1 : Nat) : Int)
    omega
theorem sp_X3_explore {n W : Nat} : ∀ (r d t : Nat) (o : Nat → Nat) (F : Int64) (op : Nat) (s : MS) (i : IM) (l : LM) (P : IM → LM → Prop), r + 5 ≤ d → t + r = n → cvOK i n → CpM i n → shK i W → op < 4096 → (∀ j : Nat, j < t → i 86 (j : Int) = ((o j : Nat) : Int) ∧ o j < 3) → (∀ q : Nat, q < (rwM i l 83).1 → op.testBit q = true → l 84 ((t : Int) * 12 + (q : Int)) = vw (rwM i l 83) o q t) → mS i l n s → (∀ i' l', efM t i i' → lfM t l l' → mS i' l' n (exM (pcM i) (prM i n) (rwM i l 83) (shF i W) r t o F op s) → P i' l') → cVd w d X_X3_explore [vR (some 83), vI (t : Int), vI (vs (prM i n) o t), vL F, vI (op : Int)] i l P := by
  intro r
  induction r with
  | zero =>
    intro d t o F op s i l P hd ht hcv hcp hsk hop hch hsn hms hP
    obtain ⟨d, rfl, hd1⟩ := d_pos (show 4 + 1 ≤ d by omega)
    have e7 := hcv.2.1
    exact e_X3_explore (s_X3_explore _ _ _ _ ⟨⟨by omega, by have := hcv.1; omega⟩, fun q => by rw [e7] at q; omega, fun _ => hP i l (efM_rf t i) (lfM_rf t l) hms⟩)
  | succ r ih =>
    intro d t o F op s i l P hd ht hcv hcp hsk hop hch hsn hms hP
    obtain ⟨d, rfl, hd1⟩ := d_pos (show (r + 5) + 1 ≤ d by omega)
    have e7 := hcv.2.1
    have hn := hcv.1
    refine e_X3_explore (s_X3_explore _ _ _ _ ⟨⟨by omega, by omega⟩, fun _ => ?_, fun q => absurd (by rw [e7]; omega) q⟩)
    rw [exM_s] at hP
    have vg := vs_bd (g := prM i n) (o := o) (lo := 0) (hi := 99) t (fun j hj => by
      rw [← prM_at (i := i) (show j < n by omega) (hch j hj).2]
      exact (hcv.2.2.2.2.2 j (o j) (by omega) (hch j hj).2).2.1)
    have hchb := ch_bd hcv r (t + 1) (by omega)
    have step : ∀ (c : Nat) (s : MS) (i' : IM) (l' : LM), c < 3 → efM t i i' → lfM t l l' → mS i' l' n s → (∀ i2 l2, efM t i i2 → lfM t l l2 → mS i2 l2 n (exMc (pcM i) (prM i n) (rwM i l 83) (shF i W) r t o F op c s) → gV w d X_X3_explore P i2 l2 15 [(0, vR (some 83)), (1, vI (t : Int)), (2, vI (vs (prM i n) o t)), (3, vL F), (5, vI (op : Int)), (6, vI ((c : Int) + 1))] []) → gV w d X_X3_explore P i' l' 15 [(0, vR (some 83)), (1, vI (t : Int)), (2, vI (vs (prM i n) o t)), (3, vL F), (5, vI (op : Int)), (6, vI (c : Int))] [] := by
      intro c s i' l' hc hi hl hms hnext
      have hcv' := cvOK_m hi hcv
      have epc := pcM_m hi
      have epr := prM_m (n := n) hi
      have erw := rwM_m hi hl
      have hsn' : ∀ q : Nat, q < (rwM i' l' 83).1 → op.testBit q = true → l' 84 ((t : Int) * 12 + (q : Int)) = vw (rwM i' l' 83) o q t := by
        rw [erw]
        intro q hq hqo
        have : (rwM i l 83).1 = (i 51 13).toNat := rfl
        have := hcv.2.2.1
        rw [hl.2 _ (by omega)]; exact hsn q hq hqo
      have hmay := pcM_no hcv' (show t < n by omega) hc
      rw [epc] at hmay
      have hpc : i' 53 ((t : Int) * 3 + (c : Int)) = prM i n t c := by rw [← epr]; exact prM_at (by omega) hc
      have hpb := prM_ok hcv t c
      have hpb99 : prM i n t c ≤ 99 := by
        have := (hcv.2.2.2.2.2 t c (by omega) hc).2.1
        rw [prM_at (i := i) (show t < n by omega) hc] at this
        omega
      have x87 : i' 87 ((t : Int) + 1) = ch (pcM i).1 (prM i n) r (t + 1) := by
        have := (CpM_m hi hcp).1 (t + 1) (by omega)
        rw [show n - (t + 1) = r by omega, epc, epr] at this
        exact this
      have hskip : ∀ (z : exMc (pcM i) (prM i n) (rwM i l 83) (shF i W) r t o F op c s = s) (l2 : LM), lfM t l l2 → l2 83 = l' 83 → gV w d X_X3_explore P i' l2 15 [(0, vR (some 83)), (1, vI (t : Int)), (2, vI (vs (prM i n) o t)), (3, vL F), (5, vI (op : Int)), (6, vI ((c : Int) + 1))] [] := fun z l2 hl2 h83 => hnext i' l2 hi hl2 (by rw [z]; exact ⟨hms.1, fun y => by rw [h83]; exact hms.2 y⟩)
      refine s_X3_explore_15 _ _ _ _ _ ⟨⟨by omega, by omega⟩, fun q => by omega, fun q => ⟨⟨by omega, by omega⟩, ⟨by omega, by omega⟩, fun _ => ⟨by omega, by omega⟩, fun _ => by rw [hpc, x87]; exact ⟨by omega, by omega⟩, fun z => ?_, fun z => ?_⟩⟩
      · rw [hpc, x87, hms.1] at z
        refine hskip ?_ l' hl rfl
        unfold exMc
        refine if_pos ?_
        rcases z with z | z
        · exact Or.inl (hmay.mp z)
        · exact Or.inr z
      · rw [hpc, x87, hms.1] at z
        have hn1 : ¬ ((pcM i).1 t c = false ∨ s.1 ≤ vs (prM i n) o t + prM i n t c + ch (pcM i).1 (prM i n) r (t + 1)) := by
          rintro (y | y)
          · exact z (Or.inl (hmay.mpr y))
          · exact z (Or.inr y)
        refine sp_X3_isOutdone (by omega) hcv' (by omega) hc hop hsn' (fun y => ⟨fun y2 => absurd y2 (by decide), fun _ => ?_⟩) (fun y => ⟨fun _ => ?_, fun y2 => absurd rfl y2⟩)
        · rw [epc, epr, erw] at y
          refine hskip ?_ l' hl rfl
          unfold exMc
          rw [if_neg hn1]
          exact if_pos y
        · rw [epc, epr, erw] at y
          have hn2 : ¬ odM (pcM i) (prM i n) (rwM i l 83) F t c o op = true := by rw [y]; decide
          refine sp_X3_look (by omega) hcv'.2.2.1 (by omega) hc hop hsn' (fun l2 hl2 hw2 => ⟨⟨by omega, by omega⟩, ?_⟩)
          rw [erw] at hw2 ⊢
          have hl3 := lfM_tr hl (lfM_of hl2)
          have h83 : l2 83 = l' 83 := hl2.1 83 (by decide)
          have hsk' := shK_m hi hsk
          have e9 : i' 9 = i 9 := hi.1 9 (by decide) (by decide) (by decide)
          generalize hG : F ||| lkM (rwM i l 83) t c o op (rwM i l 83).1 = G at *
          refine sp_X3_shutting (by omega) hsk'.1 hsk'.2.1 hsk'.2.2 ?_
          rw [e9, hpc, x87]
          have hsb := shGo_bd (p := fun v => i 9 (v * 3 + 2)) (F := G) W hsk.2.2
          have hW := hsk.1
          have hex : exMc (pcM i) (prM i n) (rwM i l 83) (shF i W) r t o F op c s = (if vs (prM i n) o t + prM i n t c + ch (pcM i).1 (prM i n) r (t + 1) + shGo (fun v => i 9 (v * 3 + 2)) G W < s.1 then (if soM (rwM i l 83) (t + 1) (upN o t c) G op (rwM i l 83).1 = 0 then (vs (prM i n) o t + prM i n t c + ch (pcM i).1 (prM i n) r (t + 1) + shGo (fun v => i 9 (v * 3 + 2)) G W, G, kpM (pcM i) (prM i n) (t + 1) (upN o t c)) else exM (pcM i) (prM i n) (rwM i l 83) (shF i W) r (t + 1) (upN o t c) G (soM (rwM i l 83) (t + 1) (upN o t c) G op (rwM i l 83).1) s) else s) := by
            unfold exMc
            rw [if_neg hn1, if_neg hn2, hG]
          refine ⟨⟨by omega, by omega⟩, fun z3 => ⟨⟨by omega, by omega⟩, ⟨by omega, by omega⟩, ?_⟩, fun z3 => ?_⟩
          · rw [hms.1] at z3
            rw [if_pos z3] at hex
            have hi2 : efM t i (u2 i' 86 (t : Int) (c : Int)) := ⟨fun k h1 h2 h3 => by rw [u2_other _ _ _ h2]; exact hi.1 k h1 h2 h3, fun k h1 => by rw [u2_other _ _ _ (show (83 : Nat) ≠ 86 by decide)]; exact hi.2.1 k h1, fun j hj => by
              show (if (86 : Nat) = 86 ∧ j = (t : Int) then (c : Int) else i' 86 j) = _
              rw [if_neg (fun z => by have := z.2; omega)]
              exact hi.2.2 j hj⟩
            have epc2 := pcM_m hi2
            have epr2 := prM_m (n := n) hi2
            have erw2 := rwM_m hi2 hl3
            have hch2 : ∀ j : Nat, j < t + 1 → u2 i' 86 (t : Int) (c : Int) 86 (j : Int) = ((upN o t c j : Nat) : Int) ∧ upN o t c j < 3 := by
              intro j hj
              show (if (86 : Nat) = 86 ∧ (j : Int) = (t : Int) then (c : Int) else i' 86 (j : Int)) = _ ∧ _
              by_cases e : j = t
              · subst e; rw [if_pos ⟨rfl, rfl⟩, upN_at]; exact ⟨rfl, hc⟩
              · rw [if_neg (fun z => e (by omega)), upN_lt (by omega), hi.2.2 _ (by omega)]; exact hch j (by omega)
            have hsn2 : ∀ q : Nat, q < (rwM (u2 i' 86 (t : Int) (c : Int)) l2 83).1 → op.testBit q = true → l2 84 (((t + 1 : Nat) : Int) * 12 + (q : Int)) = vw (rwM (u2 i' 86 (t : Int) (c : Int)) l2 83) (upN o t c) q (t + 1) := by
              rw [erw2]
              intro q hq hqo
              rw [vw_up]
              exact hw2 q hq hqo
            have hms2 : mS (u2 i' 86 (t : Int) (c : Int)) l2 n s := ⟨by rw [u2_other _ _ _ (by decide)]; exact hms.1, fun y => by rw [h83, u2_other _ _ _ (by decide)]; exact hms.2 y⟩
            have hso := soM_lt (rwM i l 83) (t + 1) (upN o t c) G op (rwM i l 83).1
            have h12 : 2 ^ (rwM i l 83).1 ≤ 2 ^ 12 := Nat.pow_le_pow_right (by omega) (by
              have : (rwM i l 83).1 = (i 51 13).toNat := rfl
              have := hcv.2.2.1
              omega)
            refine sp_X3_stillOpen (t := t + 1) (by omega) (cvOK_m hi2 hcv).2.2.1 (by omega) hop hsn2 ?_
            rw [erw2]
            refine ⟨fun z4 => ?_, fun z4 => ?_⟩
            · rw [if_pos (by omega)] at hex
              refine sp_X3_record (by omega) (cvOK_m hi2 hcv) (CpM_m hi2 hcp) (t := t + 1) (by omega) (fun j hj => (hch2 j hj).1) ⟨by omega, by omega⟩ (fun i3 l3 hi3 hl4 hms3 => ?_)
              rw [epc2, epr2] at hms3
              exact hnext i3 l3 (efM_tr hi2 (efM_up hi3)) (lfM_tr hl3 (lfM_up hl4)) (by rw [hex]; exact hms3)
            · rw [if_neg (by omega)] at hex
              have ev : vs (prM i n) o t + prM i n t c = vs (prM (u2 i' 86 (t : Int) (c : Int)) n) (upN o t c) (t + 1) := by rw [epr2, vs_up]
              rw [ev]
              refine ih d (t + 1) (upN o t c) G (soM (rwM i l 83) (t + 1) (upN o t c) G op (rwM i l 83).1) s (u2 i' 86 (t : Int) (c : Int)) l2 _ hd1 (by omega) (cvOK_m hi2 hcv) (CpM_m hi2 hcp) (shK_m hi2 hsk) (by omega) hch2 (fun q hq hqo => ?_) hms2 (fun i3 l3 hi3 hl4 hms3 => ?_)
              · rw [erw2] at hq
                exact hsn2 q (by rw [erw2]; exact hq) ((soM_bit (rwM i l 83) (t + 1) (upN o t c) G op (rwM i l 83).1 q hq).mp hqo).1
              · have e9b : u2 i' 86 (t : Int) (c : Int) 9 = i 9 := by rw [u2_other _ _ _ (by decide), e9]
                rw [epc2, epr2, erw2] at hms3
                unfold shF at hms3
                rw [e9b] at hms3
                exact hnext i3 l3 (efM_tr hi2 (efM_up hi3)) (lfM_tr hl3 (lfM_up hl4)) (by rw [hex]; exact hms3)
          · rw [hms.1] at z3
            rw [if_neg z3] at hex
            exact hskip hex l2 hl3 h83
    refine step 0 s i l (by omega) (efM_rf t i) (lfM_rf t l) hms (fun i2 l2 hi2 hl2 hms2 => ?_)
    refine step 1 _ i2 l2 (by omega) hi2 hl2 hms2 (fun i3 l3 hi3 hl3 hms3 => ?_)
    refine step 2 _ i3 l3 (by omega) hi3 hl3 hms3 (fun i4 l4 hi4 hl4 hms4 => ?_)
    exact s_X3_explore_15 _ _ _ _ _ ⟨⟨by omega, by omega⟩, fun _ => hP i4 l4 hi4 hl4 hms4, fun q => by omega⟩
end
