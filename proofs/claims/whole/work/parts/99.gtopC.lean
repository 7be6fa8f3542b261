/-! PAINTER: what it is asked -/
section
variable {w : Wd} {d : Nat} {i : IM} {l : LM}
theorem i2l_0 : nL (i2l ((0 : Nat) : Int) * 255) = 0 := by decide +kernel
theorem i2l_1 : nL (i2l ((1 : Nat) : Int) * 255) = 255 := by decide +kernel
theorem bytGo_B {k : Nat} (hk : k < 256) : ∀ m, m ≤ 8 → ∀ v, v < 8 → Bt (bytGo (k : Int) m) v = if v < m ∧ k.testBit v = true then 255 else 0
  | 0, _, v, hv => by
    rw [if_neg (by omega)]
    exact (Bt_lit v hv).2.2.2.2.2.2.1
  | m + 1, hm, v, hv => by
    have ih := bytGo_B hk m (by omega) v hv
    show Bt (bytGo (k : Int) m ||| lshl (i2l (iand (ishr (k : Int) (m : Int)) 1) * 255) (8 * (m : Int))) v = _
    rw [Bt_or, ih, ibit_nat (by omega) (by omega), bit_div]
    by_cases a : k.testBit m = true
    · rw [if_pos a, Bt_put (b := 255) (by omega) (by omega) i2l_1 hv]
      by_cases e : v = m
      · subst e; rw [if_neg (by omega), if_pos rfl, if_pos ⟨by omega, a⟩]; rfl
      · rw [if_neg e, Nat.or_zero]
        by_cases z : v < m ∧ k.testBit v = true
        · rw [if_pos z, if_pos ⟨by omega, z.2⟩]
        · rw [if_neg z, if_neg (fun y => z ⟨by omega, y.2⟩)]
    · rw [if_neg a, Bt_put (b := 0) (by omega) (by omega) i2l_0 hv]
      have e0 : (if v = m then 0 else 0) = 0 := by split <;> rfl
      rw [e0, Nat.or_zero]
      by_cases z : v < m ∧ k.testBit v = true
      · rw [if_pos z, if_pos ⟨by omega, z.2⟩]
      · rw [if_neg z, if_neg (fun y => z ⟨by
          by_cases e : v = m
          · subst e; exact absurd y.2 a
          · omega, y.2⟩)]
theorem bytL_B {k : Nat} (hk : k < 256) {v : Nat} (hv : v < 8) : Bt (bytL (k : Int)) v = if k.testBit v = true then 255 else 0 := by
  have := bytGo_B hk 8 (Nat.le_refl _) v hv
  unfold bytL
  rw [this]
  by_cases z : k.testBit v = true
  · rw [if_pos z, if_pos ⟨hv, z⟩]
  · rw [if_neg z, if_neg (fun y => z y.2)]
/-- rows, with what is spare for the kept WINDOWS, one of them eased -/
def rwK (i : IM) (l : LM) (kept eased : Int) : RW := ((i 51 13).toNat, fun t c q => l 56 (((t : Int) * 3 + (c : Int)) * 12 + (q : Int)), fun q => sparL l (q : Int) kept eased, fun t q => l 57 ((t : Int) * 12 + (q : Int)), fun t q => l 58 ((t : Int) * 12 + (q : Int)))
def zeq (Z Z' : RW) : Prop := Z.1 = Z'.1 ∧ Z.2.1 = Z'.2.1 ∧ (∀ q, q < Z.1 → Z.2.2.1 q = Z'.2.2.1 q) ∧ Z.2.2.2.1 = Z'.2.2.2.1 ∧ Z.2.2.2.2 = Z'.2.2.2.2
theorem zeq_sy {Z Z' : RW} (h : zeq Z Z') : zeq Z' Z := ⟨h.1.symm, h.2.1.symm, fun q hq => (h.2.2.1 q (by rw [h.1]; exact hq)).symm, h.2.2.2.1.symm, h.2.2.2.2.symm⟩
theorem vw_z {Z Z' : RW} (h : zeq Z Z') (o : Nat → Nat) (q : Nat) : ∀ t, vw Z o q t = vw Z' o q t
  | 0 => rfl
  | t + 1 => by
    show vw Z o q t ||| Z.2.1 t (o t) q = vw Z' o q t ||| Z'.2.1 t (o t) q
    rw [vw_z h o q t, h.2.1]
theorem rOK_z {Z Z' : RW} (h : zeq Z Z') (n : Nat) (o : Nat → Nat) {q : Nat} (hq : q < Z.1) : rOK Z n o q = rOK Z' n o q := by
  unfold rOK ovr ldL
  rw [vw_z h, h.2.2.1 q hq]
theorem gd_z {Z Z' : RW} (h : zeq Z Z') (n : Nat) (o : Nat → Nat) : gd Z n o = gd Z' n o := by
  have key : ∀ k, k ≤ Z.1 → gdN Z n o k = gdN Z' n o k := by
    intro k
    induction k with
    | zero => intro _; rfl
    | succ k ih => intro hk; unfold gdN; rw [ih (by omega), rOK_z h n o (by omega)]
  unfold gd
  rw [key Z.1 (Nat.le_refl _), h.1]
theorem FLs_z {Z Z' : RW} (h : zeq Z Z') (n : Nat) (o : Nat → Nat) : FLs Z n o = FLs Z' n o := by
  have key : ∀ k, k ≤ Z.1 → flGo Z n o k = flGo Z' n o k := by
    intro k
    induction k with
    | zero => intro _; rfl
    | succ k ih => intro hk; unfold flGo ldL; rw [ih (by omega), vw_z h, h.2.2.1 k (by omega)]
  unfold FLs
  rw [key Z.1 (Nat.le_refl _), h.1]
theorem RWok_z {C : PC} {Z Z' : RW} {n : Nat} (h : zeq Z Z') (hz : RWok C Z n) : RWok C Z' n := by
  obtain ⟨h1, h2, h3, h4, h5⟩ := hz
  obtain ⟨e1, e2, e3, e4, e5⟩ := h
  unfold RWok
  rw [← e1, ← e2, ← e4, ← e5]
  exact ⟨h1, fun q v hq hv => by rw [← e3 q hq]; exact h2 q v hq hv, h3, h4, h5⟩
theorem Mok_z {Z Z' : RW} {M : Int64} (h : zeq Z Z') (hz : Mok Z M) : Mok Z' M := by
  intro v hv
  rcases hz v hv with e | e
  · exact Or.inl e
  · exact Or.inr (fun q hq => by rw [← h.1] at hq; rw [← h.2.2.1 q hq]; exact e q hq)
/-- what PAINTER leaves as it is -/
def tfr (a : Nat) (i i' : IM) : Prop := ∀ c, (c < a ∨ a + 9 < c) → i' c = i c
def tfl (a : Nat) (l l' : LM) : Prop := ∀ c, (c < a ∨ a + 2 < c) → l' c = l c
abbrev sa0 (v : Int) : SA := (0, (0, v, o0), 255, 255, 255)
theorem b255 : (0 : Int) ≤ 255 ∧ (255 : Int) ≤ 255 := by decide
theorem b000 : (0 : Int) ≤ 0 ∧ (0 : Int) ≤ 100 := by decide
theorem b001 : (0 : Int) ≤ 1 ∧ (1 : Int) ≤ 100 := by decide
theorem start_go {P : IM → LM → Prop} {a : Nat} (ha : a = 63 ∨ a = 73) (hd : 18 ≤ d) {n : Nat} {b : Bool} (hcv : cvOK i n) {i1 : IM} {l1 : LM} {aim kept eased : Int} (h1 : ∀ c, c ≠ a → c ≠ a + 4 → c ≠ a + 5 → c ≠ a + 6 → c ≠ a + 7 → c ≠ a + 8 → i1 c = i c) (h15 : i1 a 15 = aim) (hsx : SxM i1 a n) (hl1 : ∀ c, c ≠ a → c ≠ a + 1 → c ≠ a + 2 → l1 c = l c) (h16 : l1 a 16 = bytL kept) (hw : ∀ q : Nat, q < (i 51 13).toNat → l1 (a + 2) (q : Int) = sparL l (q : Int) kept eased ∧ l1 (a + 1) (q : Int) = 0) {s : SA} (hps : pS i1 a n b s) (hb1 : 0 ≤ s.1 ∧ s.1 ≤ 100) (hb2 : 0 ≤ s.2.1.1 ∧ s.2.1.1 ≤ 100) (hP : ∀ i' l' Z, tfr a i i' → tfl a l l' → (∀ k : Int, k ≠ 11 → k ≠ 12 → k ≠ 13 → k ≠ 14 → i' a k = i1 a k) → zeq Z (rwK i l kept eased) → pS i' a n b (goX (pcM i) Z aim (bytL kept) n s) → P i' l') : cVd w d X_X5_go [vR (some a)] i1 l1 P := by
  have epc : pcM i1 = pcM i := by unfold pcM; rw [h1 52 (by omega) (by omega) (by omega) (by omega) (by omega) (by omega), h1 54 (by omega) (by omega) (by omega) (by omega) (by omega) (by omega), h1 55 (by omega) (by omega) (by omega) (by omega) (by omega) (by omega)]
  have hcv1 : cvOK i1 n := by
    unfold cvOK
    rw [epc, h1 7 (by omega) (by omega) (by omega) (by omega) (by omega) (by omega), h1 51 (by omega) (by omega) (by omega) (by omega) (by omega) (by omega), h1 52 (by omega) (by omega) (by omega) (by omega) (by omega) (by omega), h1 53 (by omega) (by omega) (by omega) (by omega) (by omega) (by omega), h1 54 (by omega) (by omega) (by omega) (by omega) (by omega) (by omega), h1 55 (by omega) (by omega) (by omega) (by omega) (by omega) (by omega)]
    exact hcv
  have e51 : i1 51 = i 51 := h1 51 (by omega) (by omega) (by omega) (by omega) (by omega) (by omega)
  have hz : zeq (rwM i1 l1 a) (rwK i l kept eased) := by
    unfold rwM rwK
    rw [e51, hl1 56 (by omega) (by omega) (by omega), hl1 57 (by omega) (by omega) (by omega), hl1 58 (by omega) (by omega) (by omega)]
    exact ⟨rfl, rfl, fun q hq => (hw q hq).1, rfl, rfl⟩
  refine sp_X5_go ha hd hcv1 hsx (fun q hq => (hw q (by have : (rwM i1 l1 a).1 = (i1 51 13).toNat := rfl; rw [this, e51] at hq; exact hq)).2) hps hb1 hb2 (fun i' l' hi' hl' hp' => ?_)
  rw [epc, h15, h16] at hp'
  exact hP i' l' _ (fun c hc => by rw [hi'.1 c (by omega) (by omega) (by omega), h1 c (by omega) (by omega) (by omega) (by omega) (by omega) (by omega)]) (fun c hc => by rw [hl'.1 c (by omega), hl1 c (by omega) (by omega) (by omega)]) (fun k k1 k2 k3 k4 => hi'.2.1 k k1 k2 k3 k4) hz hp'
theorem sp_X5_survey {P : IM → LM → Prop} {a : Nat} (ha : a = 63 ∨ a = 73) (hd : 20 ≤ d) {n : Nat} (hcv : cvOK i n) (hZ : RWok (pcM i) (rwK i l 255 (-1)) n) {months : Int} (hm : rg months) (hkeep : i a 18 = i 7 15 → i a 17 = months → P i l) (hP : ∀ i' l' v, tfr a i i' → tfl a l l' → (i' a 18 = i 7 15 ∧ i' a 17 = months) → pS i' a n true (pG (pcM i).1 (fun o s => if gd (rwK i l 255 (-1)) n o = true then addB (one (pcM i) n o) s else s) n 0 o0 (sa0 v)) → P i' l') : cVd w d X_X5_survey [vR (some a), vI months] i l P := by
  obtain ⟨d, rfl, hd1⟩ := d_pos hd
  refine e_X5_survey (s_X5_survey _ ha ⟨fun _ => hm, fun z => hkeep z.1 z.2, fun _ => s_X5_survey_23 _ ha ⟨hm, ?_⟩⟩)
  have hJ : ∀ c, c ≠ a → u2 (u2 i a 18 (i 7 15)) a 17 months c = i c := fun c hc => by rw [u2_other _ _ _ hc, u2_other _ _ _ hc]
  generalize hJe : u2 (u2 i a 18 (i 7 15)) a 17 months = J at hJ
  have j17 : J a 17 = months := by rw [← hJe]; exact u2_self ..
  have j18 : J a 18 = i 7 15 := by
    rw [← hJe]
    have : u2 (u2 i a 18 (i 7 15)) a 17 months a 18 = u2 i a 18 (i 7 15) a 18 := if_neg (fun z => absurd z.2 (by decide))
    rw [this, u2_self]
  have epc : pcM J = pcM i := by unfold pcM; rw [hJ 52 (by omega), hJ 54 (by omega), hJ 55 (by omega)]
  have hcv' : cvOK J n := by
    unfold cvOK
    rw [epc, hJ 7 (by omega), hJ 51 (by omega), hJ 52 (by omega), hJ 53 (by omega), hJ 54 (by omega), hJ 55 (by omega)]
    exact hcv
  have erk : rwK J l 255 (-1) = rwK i l 255 (-1) := by unfold rwK; rw [hJ 51 (by omega)]
  refine sp_X5_start ha (by omega) hcv' (aim := 0) (kept := 255) (eased := -1) (rg_lit rfl) (rg_lit rfl) (fun i1 l1 q1 q2 q3 q4 q5 q6 q7 => ?_)
  have nE : ∀ (j : IM) (k v x : Int), k ≠ x → u2 j a k v a x = j a x := fun j k v x h => if_neg (fun z => h z.2.symm)
  have hi12 : ∀ c, c ≠ a → u2 i1 a 12 0 c = i1 c := fun c hc => u2_other _ _ _ hc
  have epc1 : pcM (u2 i1 a 12 0) = pcM i1 := by unfold pcM; rw [hi12 52 (by omega), hi12 54 (by omega), hi12 55 (by omega)]
  refine start_go ha (by omega) hcv' (i1 := u2 i1 a 12 0) (l1 := l1) (aim := 0) (kept := 255) (eased := -1) (b := true) (s := sa0 (i1 a 13)) (fun c c0 c1 c2 c3 c4 c5 => by rw [hi12 c c0]; exact q1 c c0 c1 c2 c3 c4 c5) (by rw [nE _ _ _ _ (by decide)]; exact q3.2.2) ?_ q5 q6 q7 ⟨?_, ?_, ?_, ?_, ⟨b255, b255, b255⟩, fun _ h => absurd (show (0 : Int) < 0 from h) (by decide)⟩ b000 b000 (fun i' l' Z f1 f2 f3 hz hp => ?_)
  · unfold SxM
    rw [epc1, hi12 (a + 4) (by omega), hi12 (a + 5) (by omega), hi12 (a + 6) (by omega), hi12 (a + 7) (by omega), hi12 (a + 8) (by omega)]
    exact q4
  · rw [nE _ _ _ _ (by decide)]; exact q3.1
  · exact u2_self ..
  · rw [nE _ _ _ _ (by decide)]
  · rw [nE _ _ _ _ (by decide), q3.2.1]; rfl
  · rw [epc] at hp
    rw [erk] at hz
    rw [goX_all hcv.2.2.2.1 (RWok_z (zeq_sy hz) hZ)] at hp
    have hgd : (fun (o : Nat → Nat) (s : SA) => if gd Z n o = true then addB (one (pcM i) n o) s else s) = (fun o s => if gd (rwK i l 255 (-1)) n o = true then addB (one (pcM i) n o) s else s) := by
      funext o s
      rw [gd_z hz]
    rw [hgd] at hp
    refine hP i' l' _ (fun c hc => by rw [f1 c hc, hJ c (by omega)]) f2 ⟨?_, ?_⟩ hp
    · rw [f3 18 (by decide) (by decide) (by decide) (by decide), nE _ _ _ _ (by decide), q2 18 (by decide) (by decide) (by decide), j18]
    · rw [f3 17 (by decide) (by decide) (by decide) (by decide), nE _ _ _ _ (by decide), q2 17 (by decide) (by decide) (by decide), j17]
theorem sp_X5_finds {P : Int → IM → LM → Prop} {a : Nat} (ha : a = 63 ∨ a = 73) (hd : 20 ≤ d) {n : Nat} (hcv : cvOK i n) {k : Nat} (hk : k < 256) (hZ : RWok (pcM i) (rwK i l (k : Int) (-1)) n) (h1 : anP (pcM i) (rwK i l (k : Int) (-1)) n 0 o0 → ∀ i' l', tfr a i i' → tfl a l l' → P 1 i' l') (h0 : ¬ anP (pcM i) (rwK i l (k : Int) (-1)) n 0 o0 → ∀ i' l', tfr a i i' → tfl a l l' → P 0 i' l') : cI w d X_X5_finds [vR (some a), vI (k : Int)] i l P := by
  obtain ⟨d, rfl, hd1⟩ := d_pos hd
  refine e_X5_finds (s_X5_finds _ ha ?_)
  refine sp_X5_start ha (by omega) hcv (aim := 1) (kept := (k : Int)) (eased := -1) (rg_lit rfl) (rg_lit rfl) (fun i1 l1 q1 q2 q3 q4 q5 q6 q7 => ?_)
  have nE : ∀ (j : IM) (k v x : Int), k ≠ x → u2 j a k v a x = j a x := fun j k v x h => if_neg (fun z => h z.2.symm)
  have hi12 : ∀ c, c ≠ a → u2 i1 a 12 0 c = i1 c := fun c hc => u2_other _ _ _ hc
  have epc1 : pcM (u2 i1 a 12 0) = pcM i1 := by unfold pcM; rw [hi12 52 (by omega), hi12 54 (by omega), hi12 55 (by omega)]
  have hM2 : ∀ v, v < 8 → Bt (bytL (k : Int)) v = 255 ∨ Bt (bytL (k : Int)) v = 0 := by
    intro v hv
    rw [bytL_B hk hv]
    split
    · exact Or.inl rfl
    · exact Or.inr rfl
  have hM : Mok (rwK i l (k : Int) (-1)) (bytL (k : Int)) := by
    intro v hv
    rcases hM2 v hv with e | e
    · exact Or.inl e
    · refine Or.inr (fun q hq => ?_)
      show Bt (sparL l (q : Int) (k : Int) (-1)) v = 0
      unfold sparL
      rw [if_pos rfl, Bt_and, e, Nat.and_zero]
  refine start_go ha (by omega) hcv (i1 := u2 i1 a 12 0) (l1 := l1) (aim := 1) (kept := (k : Int)) (eased := -1) (b := false) (s := sa0 (i1 a 13)) (fun c c0 c1 c2 c3 c4 c5 => by rw [hi12 c c0]; exact q1 c c0 c1 c2 c3 c4 c5) (by rw [nE _ _ _ _ (by decide)]; exact q3.2.2) ?_ q5 q6 q7 ⟨?_, ?_, ?_, ?_, ⟨b255, b255, b255⟩, fun h => absurd h (by decide)⟩ b000 b000 (fun i' l' Z f1 f2 f3 hz hp => ?_)
  · unfold SxM
    rw [epc1, hi12 (a + 4) (by omega), hi12 (a + 5) (by omega), hi12 (a + 6) (by omega), hi12 (a + 7) (by omega), hi12 (a + 8) (by omega)]
    exact q4
  · rw [nE _ _ _ _ (by decide)]; exact q3.1
  · exact u2_self ..
  · rw [nE _ _ _ _ (by decide)]
  · rw [nE _ _ _ _ (by decide), q3.2.1]; rfl
  · have hg := goX_any (M := bytL (k : Int)) hcv.2.2.2.1 (RWok_z (zeq_sy hz) hZ) (Mok_z (zeq_sy hz) hM) hM2 (s := sa0 (i1 a 13)) (show (0 : Int) ≤ 0 by decide)
    rw [← hp.1] at hg
    have han : anP (pcM i) Z n 0 o0 ↔ anP (pcM i) (rwK i l (k : Int) (-1)) n 0 o0 := by
      unfold anP
      constructor
      · rintro ⟨o', e1, e2⟩; exact ⟨o', e1, by rw [← gd_z hz]; exact e2⟩
      · rintro ⟨o', e1, e2⟩; exact ⟨o', e1, by rw [gd_z hz]; exact e2⟩
    by_cases c : 0 < i' a 11
    · rw [bI_t (by omega)]
      refine h1 (han.mp ?_) i' l' f1 f2
      rcases hg.mp c with z | z
      · exact absurd (show (0 : Int) < 0 from z) (by decide)
      · exact z
    · rw [bI_f (by omega)]
      exact h0 (fun z => c (hg.mpr (Or.inr (han.mpr z)))) i' l' f1 f2
theorem sp_X5_highest {P : Int → IM → LM → Prop} {a : Nat} (ha : a = 63 ∨ a = 73) (hd : 20 ≤ d) {n : Nat} (hcv : cvOK i n) {eased least : Int} (he : rg eased) (hle : rg least) (hZ : RWok (pcM i) (rwK i l 255 eased) n) (hP : ∀ v i' l', tfr a i i' → tfl a l l' → hiP (pcM i) (rwK i l 255 eased) n 0 o0 least v → (∀ o', ext (pcM i).1 n 0 o0 o' → gd (rwK i l 255 eased) n o' = true → vs (pcM i).2.1 o' n ≤ v) → P v i' l') : cI w d X_X5_highest [vR (some a), vI eased, vI least] i l P := by
  obtain ⟨d, rfl, hd1⟩ := d_pos hd
  refine e_X5_highest (s_X5_highest _ _ ha ?_)
  refine sp_X5_start ha (by omega) hcv (aim := 2) (kept := 255) (eased := eased) (rg_lit rfl) he (fun i1 l1 q1 q2 q3 q4 q5 q6 q7 => ⟨hle, ?_⟩)
  have nE : ∀ (j : IM) (k v x : Int), k ≠ x → u2 j a k v a x = j a x := fun j k v x h => if_neg (fun z => h z.2.symm)
  have hi12 : ∀ c, c ≠ a → u2 (u2 i1 a 13 least) a 12 1 c = i1 c := fun c hc => by rw [u2_other _ _ _ hc, u2_other _ _ _ hc]
  have epc1 : pcM (u2 (u2 i1 a 13 least) a 12 1) = pcM i1 := by unfold pcM; rw [hi12 52 (by omega), hi12 54 (by omega), hi12 55 (by omega)]
  have h255 : ∀ v, v < 8 → Bt (bytL 255) v = 255 := by
    intro v hv
    have := bytL_B (k := 255) (by omega) hv
    have h : ∀ v, v < 8 → (255 : Nat).testBit v = true := by decide
    rw [if_pos (h v hv)] at this
    exact this
  refine start_go ha (by omega) hcv (i1 := u2 (u2 i1 a 13 least) a 12 1) (l1 := l1) (aim := 2) (kept := 255) (eased := eased) (b := false) (s := (0, (1, least, o0), 255, 255, 255)) (fun c c0 c1 c2 c3 c4 c5 => by rw [hi12 c c0]; exact q1 c c0 c1 c2 c3 c4 c5) (by rw [nE _ _ _ _ (by decide), nE _ _ _ _ (by decide)]; exact q3.2.2) ?_ q5 q6 q7 ⟨?_, ?_, ?_, ?_, ⟨b255, b255, b255⟩, fun h => absurd h (by decide)⟩ b000 b001 (fun i' l' Z f1 f2 f3 hz hp => ?_)
  · unfold SxM
    rw [epc1, hi12 (a + 4) (by omega), hi12 (a + 5) (by omega), hi12 (a + 6) (by omega), hi12 (a + 7) (by omega), hi12 (a + 8) (by omega)]
    exact q4
  · rw [nE _ _ _ _ (by decide), nE _ _ _ _ (by decide)]; exact q3.1
  · exact u2_self ..
  · rw [nE _ _ _ _ (by decide), u2_self]
  · rw [nE _ _ _ _ (by decide), nE _ _ _ _ (by decide), q3.2.1]; rfl
  · have hg := goX_high (M := bytL 255) hcv.2.2.2.1 (RWok_z (zeq_sy hz) hZ) (fun v hv => Or.inl (h255 v hv)) (fun v hv => Or.inl (h255 v hv)) (s := (0, (1, least, o0), 255, 255, 255)) (by show (0 : Int) < 1; decide)
    rw [← hp.2.2.1] at hg
    refine hP (i' a 13) i' l' f1 f2 ⟨hg.1.1, ?_⟩ (fun o' e1 e2 => hg.2 o' e1 (by rw [gd_z hz]; exact e2))
    rcases hg.1.2 with z | ⟨o', z1, z2, z3⟩
    · exact Or.inl z
    · exact Or.inr ⟨o', z1, by rw [← gd_z hz]; exact z2, z3⟩
end
