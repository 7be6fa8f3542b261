/-! refusals and changes on both sides -/
section
variable {w : Wd} {d k : Nat} {i : IM} {l : LM}
theorem u2_at (i : IM) (a : Nat) (j v p : Int) : u2 i a j v a p = if p = j then v else i a p := by
  unfold u2
  by_cases h : p = j
  · rw [if_pos ⟨rfl, h⟩, if_pos h]
  · rw [if_neg (fun z => h z.2), if_neg h]
def kHi (p : Int) : Int := if p < 80 then (if p % 8 = 0 then 3 else if p % 8 = 3 ∨ p % 8 = 4 then 99 else if p % 8 = 5 then 1 else if p % 8 = 6 then 4095 else 7) else if p < 104 then (if (p - 80) % 3 = 2 then 99 else 1023) else if p < 114 then 1023 else if p < 119 then 7 else if p < 127 then 255 else if p < 307 then (if (p - 127) % 3 = 0 then 4 else if (p - 127) % 3 = 1 then 119 else 9) else if p = 307 then 10 else if p = 308 then 8 else if p = 309 then 5 else if p = 310 then 60 else if p = 311 then 6 else 11
def kLo (p : Int) : Int := if 127 ≤ p ∧ p < 307 ∧ (p - 127) % 3 = 2 then -1 else 0
def kBd (K : Int → Int) : Prop := ∀ p : Int, 0 ≤ p → p < 314 → p ≠ 312 → kLo p ≤ K p ∧ K p ≤ kHi p
theorem kBd_of {K : Int → Int} (h : kOK K) : kBd K := by
  intro p p0 p1 p2
  obtain ⟨⟨a1, a2, a3, a4, a5, a6⟩, b, c, e, f, g, m⟩ := h
  have eq : ∀ {q : Int}, p = q → K p = K q := fun h => by rw [h]
  by_cases c1 : p < 80
  · have hb := b (p / 8) (by omega) (by omega)
    have h8 : p % 8 = 0 ∨ p % 8 = 1 ∨ p % 8 = 2 ∨ p % 8 = 3 ∨ p % 8 = 4 ∨ p % 8 = 5 ∨ p % 8 = 6 ∨ p % 8 = 7 := by omega
    unfold kLo kHi
    rw [if_neg (by omega), if_pos c1]
    rcases h8 with q | q | q | q | q | q | q | q
    · rw [eq (show p = 8 * (p / 8) + 0 by omega), if_pos (by omega)]; exact hb.1
    · have := hb.2.1; rw [eq (show p = 8 * (p / 8) + 1 by omega), if_neg (by omega), if_neg (by omega), if_neg (by omega), if_neg (by omega)]; omega
    · have := hb.2.2.1; rw [eq (show p = 8 * (p / 8) + 2 by omega), if_neg (by omega), if_neg (by omega), if_neg (by omega), if_neg (by omega)]; omega
    · have := hb.2.2.2.1; rw [eq (show p = 8 * (p / 8) + 3 by omega), if_neg (by omega), if_pos (by omega)]; omega
    · have := hb.2.2.2.2.1; rw [eq (show p = 8 * (p / 8) + 4 by omega), if_neg (by omega), if_pos (by omega)]; omega
    · have := hb.2.2.2.2.2.1; rw [eq (show p = 8 * (p / 8) + 5 by omega), if_neg (by omega), if_neg (by omega), if_pos (by omega)]; omega
    · have := hb.2.2.2.2.2.2.1; rw [eq (show p = 8 * (p / 8) + 6 by omega), if_neg (by omega), if_neg (by omega), if_neg (by omega), if_pos (by omega)]; omega
    · have := hb.2.2.2.2.2.2.2; rw [eq (show p = 8 * (p / 8) + 7 by omega), if_neg (by omega), if_neg (by omega), if_neg (by omega), if_neg (by omega)]; omega
  · by_cases c2 : p < 104
    · have hc := c ((p - 80) / 3) (by omega) (by omega)
      unfold kLo kHi
      rw [if_neg (by omega), if_neg c1, if_pos c2]
      have h3 : (p - 80) % 3 = 0 ∨ (p - 80) % 3 = 1 ∨ (p - 80) % 3 = 2 := by omega
      rcases h3 with q | q | q
      · rw [eq (show p = 80 + 3 * ((p - 80) / 3) + 0 by omega), if_neg (by omega)]; exact hc.1
      · rw [eq (show p = 80 + 3 * ((p - 80) / 3) + 1 by omega), if_neg (by omega)]; exact hc.2.1
      · rw [eq (show p = 80 + 3 * ((p - 80) / 3) + 2 by omega), if_pos (by omega)]; exact hc.2.2
    · by_cases c3 : p < 114
      · have he := e (p - 104) (by omega) (by omega)
        unfold kLo kHi
        rw [if_neg (by omega), if_neg c1, if_neg c2, if_pos c3, eq (show p = 104 + (p - 104) by omega)]
        exact he
      · by_cases c4 : p < 119
        · have hf := f (p - 114) (by omega) (by omega)
          unfold kLo kHi
          rw [if_neg (by omega), if_neg c1, if_neg c2, if_neg c3, if_pos c4, eq (show p = 114 + (p - 114) by omega)]
          omega
        · by_cases c5 : p < 127
          · have hg := g (p - 119) (by omega) (by omega)
            unfold kLo kHi
            rw [if_neg (by omega), if_neg c1, if_neg c2, if_neg c3, if_neg c4, if_pos c5, eq (show p = 119 + (p - 119) by omega)]
            omega
          · by_cases c6 : p < 307
            · have hm := m ((p - 127) / 3) (by omega) (by omega)
              unfold kLo kHi
              rw [if_neg c1, if_neg c2, if_neg c3, if_neg c4, if_neg c5, if_pos c6]
              have h3 : (p - 127) % 3 = 0 ∨ (p - 127) % 3 = 1 ∨ (p - 127) % 3 = 2 := by omega
              rcases h3 with q | q | q
              · rw [eq (show p = 127 + 3 * ((p - 127) / 3) by omega), if_neg (by omega), if_pos (by omega)]; omega
              · rw [eq (show p = 127 + (3 * ((p - 127) / 3) + 1) by omega), if_neg (by omega), if_neg (by omega), if_pos (by omega)]; omega
              · rw [eq (show p = 127 + (3 * ((p - 127) / 3) + 2) by omega), if_pos (by omega), if_neg (by omega), if_neg (by omega)]; omega
            · have h6 : p = 307 ∨ p = 308 ∨ p = 309 ∨ p = 310 ∨ p = 311 ∨ p = 313 := by omega
              rcases h6 with rfl | rfl | rfl | rfl | rfl | rfl
              · exact a1
              · exact a2
              · exact a3
              · exact a4
              · exact a5
              · exact ⟨a6.1, by show K 313 ≤ 11; omega⟩
theorem kOK_of {K : Int → Int} (h : kBd K) : kOK K := by
  refine ⟨⟨h 307 (by omega) (by omega) (by omega), h 308 (by omega) (by omega) (by omega), h 309 (by omega) (by omega) (by omega), h 310 (by omega) (by omega) (by omega), h 311 (by omega) (by omega) (by omega), ?_⟩, fun t t0 t1 => ⟨?_, ?_, ?_, ?_, ?_, ?_, ?_, ?_⟩, fun v v0 v1 => ⟨?_, ?_, ?_⟩, fun a a0 a1 => ?_, fun p p0 p1 => ?_, fun c c0 c1 => ?_, fun j j0 j1 => ⟨?_, ?_, ?_⟩⟩
  · have := h 313 (by omega) (by omega) (by omega)
    have e1 : kLo 313 = 0 := rfl
    have e2 : kHi 313 = 11 := rfl
    omega
  · have := h (8 * t + 0) (by omega) (by omega) (by omega)
    unfold kLo kHi at this
    rw [if_neg (by omega), if_pos (by omega), if_pos (by omega)] at this
    exact this
  · have := h (8 * t + 1) (by omega) (by omega) (by omega)
    unfold kLo kHi at this
    rw [if_neg (by omega), if_pos (by omega), if_neg (by omega), if_neg (by omega), if_neg (by omega), if_neg (by omega)] at this
    omega
  · have := h (8 * t + 2) (by omega) (by omega) (by omega)
    unfold kLo kHi at this
    rw [if_neg (by omega), if_pos (by omega), if_neg (by omega), if_neg (by omega), if_neg (by omega), if_neg (by omega)] at this
    omega
  · have := h (8 * t + 3) (by omega) (by omega) (by omega)
    unfold kLo kHi at this
    rw [if_neg (by omega), if_pos (by omega), if_neg (by omega), if_pos (by omega)] at this
    omega
  · have := h (8 * t + 4) (by omega) (by omega) (by omega)
    unfold kLo kHi at this
    rw [if_neg (by omega), if_pos (by omega), if_neg (by omega), if_pos (by omega)] at this
    omega
  · have := h (8 * t + 5) (by omega) (by omega) (by omega)
    unfold kLo kHi at this
    rw [if_neg (by omega), if_pos (by omega), if_neg (by omega), if_neg (by omega), if_pos (by omega)] at this
    omega
  · have := h (8 * t + 6) (by omega) (by omega) (by omega)
    unfold kLo kHi at this
    rw [if_neg (by omega), if_pos (by omega), if_neg (by omega), if_neg (by omega), if_neg (by omega), if_pos (by omega)] at this
    omega
  · have := h (8 * t + 7) (by omega) (by omega) (by omega)
    unfold kLo kHi at this
    rw [if_neg (by omega), if_pos (by omega), if_neg (by omega), if_neg (by omega), if_neg (by omega), if_neg (by omega)] at this
    omega
  · have := h (80 + 3 * v + 0) (by omega) (by omega) (by omega)
    unfold kLo kHi at this
    rw [if_neg (by omega), if_neg (by omega), if_pos (by omega), if_neg (by omega)] at this
    exact this
  · have := h (80 + 3 * v + 1) (by omega) (by omega) (by omega)
    unfold kLo kHi at this
    rw [if_neg (by omega), if_neg (by omega), if_pos (by omega), if_neg (by omega)] at this
    exact this
  · have := h (80 + 3 * v + 2) (by omega) (by omega) (by omega)
    unfold kLo kHi at this
    rw [if_neg (by omega), if_neg (by omega), if_pos (by omega), if_pos (by omega)] at this
    exact this
  · have := h (104 + a) (by omega) (by omega) (by omega)
    unfold kLo kHi at this
    rw [if_neg (by omega), if_neg (by omega), if_neg (by omega), if_pos (by omega)] at this
    exact this
  · have := h (114 + p) (by omega) (by omega) (by omega)
    unfold kLo kHi at this
    rw [if_neg (by omega), if_neg (by omega), if_neg (by omega), if_neg (by omega), if_pos (by omega)] at this
    omega
  · have := h (119 + c) (by omega) (by omega) (by omega)
    unfold kLo kHi at this
    rw [if_neg (by omega), if_neg (by omega), if_neg (by omega), if_neg (by omega), if_neg (by omega), if_pos (by omega)] at this
    omega
  · have := h (127 + 3 * j) (by omega) (by omega) (by omega)
    unfold kLo kHi at this
    rw [if_neg (by omega), if_neg (by omega), if_neg (by omega), if_neg (by omega), if_neg (by omega), if_neg (by omega), if_pos (by omega), if_pos (by omega)] at this
    omega
  · have := h (127 + (3 * j + 1)) (by omega) (by omega) (by omega)
    unfold kLo kHi at this
    rw [if_neg (by omega), if_neg (by omega), if_neg (by omega), if_neg (by omega), if_neg (by omega), if_neg (by omega), if_pos (by omega), if_neg (by omega), if_pos (by omega)] at this
    omega
  · have := h (127 + (3 * j + 2)) (by omega) (by omega) (by omega)
    unfold kLo kHi at this
    rw [if_pos (by omega), if_neg (by omega), if_neg (by omega), if_neg (by omega), if_neg (by omega), if_neg (by omega), if_pos (by omega), if_neg (by omega), if_neg (by omega)] at this
    omega
/-- one kept number is changed -/
def upK (K : Int → Int) (q v : Int) : Int → Int := fun p => if p = q then v else K p
theorem kBd_up {K : Int → Int} {q v : Int} (h : kBd K) (hv : kLo q ≤ v ∧ v ≤ kHi q) : kBd (upK K q v) := by
  intro p p0 p1 p2
  unfold upK
  by_cases e : p = q
  · rw [if_pos e, e]; exact hv
  · rw [if_neg e]; exact h p p0 p1 p2
theorem upK_self (K : Int → Int) (q v : Int) : upK K q v q = v := if_pos rfl
theorem upK_ne {K : Int → Int} {q v p : Int} (h : p ≠ q) : upK K q v p = K p := if_neg h
theorem u2_101 (i : IM) (a : Nat) (q v : Int) : u2 i a q v a = upK (i a) q v := funext fun p => u2_at i a q v p
/-- colours that count as one hang on what is kept of them alone -/
theorem clRound_cg {S T : Nat → Nat} (h : ∀ k, k < 8 → S k = T k) (b : Nat) : ∀ n, n ≤ 8 → clRound S b n = clRound T b n
  | 0, _ => rfl
  | n + 1, hn => by unfold clRound; rw [clRound_cg h b n (by omega), h n (by omega)]
theorem clIter_cg {S T : Nat → Nat} (h : ∀ k, k < 8 → S k = T k) (b : Nat) : ∀ n, clIter S b n = clIter T b n
  | 0 => rfl
  | n + 1 => by unfold clIter; rw [clIter_cg h b n, clRound_cg h _ 8 (Nat.le_refl _)]
theorem mLow_cg {K K' : Int → Int} (h : ∀ c : Int, 0 ≤ c → c < 8 → K' (119 + c) = K (119 + c)) (c : Int) : mLow (fun _ => K') c = mLow (fun _ => K) c := by
  unfold mLow clSet
  rw [clIter_cg (S := mSame (fun _ => K')) (T := mSame (fun _ => K)) (fun k hk => by show (K' (119 + (k : Int))).toNat = (K (119 + (k : Int))).toNat; rw [h (k : Int) (by omega) (by omega)])]
theorem tkOf_cg {K K' : Int → Int} (h : ∀ p : Int, 314 ≤ p → K' p = K p) (f : Nat) : tkOf K' f = tkOf K f := by
  unfold tkOf
  have h1 : ∀ k : Nat, K' (320 + ((400 * f + k : Nat) : Int)) = K (320 + ((400 * f + k : Nat) : Int)) := fun k => h _ (by omega)
  have h2 : ∀ k : Nat, K' (2720 + ((400 * f + k : Nat) : Int)) = K (2720 + ((400 * f + k : Nat) : Int)) := fun k => h _ (by omega)
  simp only [h (314 + (f : Int)) (by omega), h1, h2]
theorem lawM_cg {K K' : Int → Int} (h : ∀ p : Int, 314 ≤ p → K' p = K p) {f : Nat} {cs : List Cla} (hl : lawM K f cs) : lawM K' f cs := by
  unfold lawM
  rw [tkOf_cg h, h (314 + (f : Int)) (by omega)]
  exact hl
theorem SyK_cg {K K' : Int → Int} (h : ∀ p : Int, 104 ≤ p → (p < 114 ∨ 119 ≤ p) → p < 127 → K' p = K p) (hs : SyK K) : SyK K' := by
  refine ⟨fun a b ha hb => ?_, fun x y hx hy hb => ?_⟩
  · show (K' (104 + (a : Int))).toNat.testBit b = true ↔ (K' (104 + (b : Int))).toNat.testBit a = true
    rw [h _ (by omega) (by omega) (by omega), h _ (by omega) (by omega) (by omega)]
    exact hs.1 a b ha hb
  · have hb' : (K' (119 + (x : Int))).toNat.testBit y = true := hb
    show (K' (119 + (y : Int))).toNat.testBit x = true
    rw [h _ (by omega) (by omega) (by omega)] at hb' ⊢
    exact hs.2 x y hx hy hb'
/-- TWELVE things that a change of the TOWN leaves -/
theorem chg_end {A : Nat → List Cla} {J : IM} (hI : InA w k i l A) (hfr : ∀ a, 16 ≤ a → a ≠ 99 → a ≠ 101 → J a = i a) (h6 : J 6 18 = 0 ∧ J 6 14 = i 6 14 ∧ J 6 15 = i 6 15 ∧ J 6 16 = i 6 16 ∧ J 6 17 = i 6 17) (h7 : J 7 15 = i 7 15 + 1) (h99 : J 99 0 = 0 ∧ J 99 1 = i 99 1 + 1 ∧ ∀ x : Int, x ≠ 0 → x ≠ 1 → J 99 x = i 99 x) (hT : TWg 7 (J 101) J ∧ TLd 7 (J 101) J) (hK : kOK (J 101) ∧ SyK (J 101) ∧ FrK (J 101)) (h311 : J 101 311 = i 101 311) (h314 : ∀ p : Int, 314 ≤ p → J 101 p = i 101 p) : Inv w (k + 1) J l := by
  obtain ⟨r1, r2, r3, r4, r5, r6⟩ := hI.2.2
  refine ⟨A, InA_ch hI (fun a x => hfr a (by omega) (by omega) (by omega)) ⟨hT, hK, fun j hj => ?_⟩ h7 h99.2.1 (h99.2.2 32 (by decide) (by decide)) (h99.2.2 50 (by decide) (by decide)) (Img_eq h6.2.1 (fun a x => hfr a (by omega) (by omega) (by omega)) r1) (Tpe_eq h6.2.2.1 (h99.2.2 10 (by decide) (by decide)) (hfr 35 (by decide) (by decide) (by decide)) (hfr 105 (by decide) (by decide) (by decide)) r2) ⟨by rw [h6.1, h99.1], by rw [h6.2.2.2.2, h99.2.2 6 (by decide) (by decide)]; exact r4.2.1, by rw [h6.2.2.2.1, h99.2.2 11 (by decide) (by decide)]; exact r4.2.2⟩⟩
  rw [h311] at hj
  obtain ⟨⟨a, q1, q2⟩, q3⟩ := hI.1.2.2 j hj
  exact ⟨⟨a, q1, lawC_same (fun b hb => hfr b (by omega) (by omega) (by omega)) q2⟩, lawM_cg h314 q3⟩
/-! what the four little helpers do -/
def cRef (i : IM) (r ix : Int) : IM := u2 (u2 i 6 18 r) 36 ix (i 36 ix + 1)
def mRef (i : IM) (r : Int) : IM := u2 (u2 i 99 0 r) 100 (-r) (i 100 (-r) + 1)
def cChg (i : IM) : IM := u2 (u2 i 7 15 (i 7 15 + 1)) 6 18 0
def mGood (i : IM) : IM := u2 (u2 i 99 0 0) 99 1 (i 99 1 + 1)
def rIx (r ix : Int) : Prop := (r = -1 ∧ ix = 0) ∨ (r = -2 ∧ ix = 1) ∨ (r = -3 ∧ ix = 2) ∨ (r = -5 ∧ ix = 3) ∨ (r = -6 ∧ ix = 4)
theorem sp_X11_refuse (hd : 1 ≤ d) {P : Int → IM → LM → Prop} {r ix : Int} (hr : rIx r ix) (hb : rg (i 36 ix + 1)) (hP : P r (cRef i r ix) l) : cI w d X_X11_refuse [vR (some 6), vI r] i l P := by
  obtain ⟨d, rfl, hd1⟩ := d_pos hd
  have e : (if r < -3 then -r - 2 else -r - 1) = ix := by
    rcases hr with h | h | h | h | h <;> (obtain ⟨rfl, rfl⟩ := h; rfl)
  refine e_X11_refuse (s_X11_refuse _ ⟨?_, ?_⟩)
  · rcases hr with h | h | h | h | h <;> (obtain ⟨rfl, rfl⟩ := h; exact rg_lit rfl)
  · rw [e]
    refine ⟨?_, hb, hP⟩
    rcases hr with h | h | h | h | h <;> omega
theorem sp_X12_refuses (hd : 1 ≤ d) {P : Int → IM → LM → Prop} {r ix : Int} (hr : rIx r ix) (hb : rg (i 100 (-r) + 1)) (hP : P r (mRef i r) l) : cI w d X_X12_refuses [vR (some 99), vI r] i l P := by
  obtain ⟨d, rfl, hd1⟩ := d_pos hd
  refine e_X12_refuses (s_X12_refuses _ ⟨?_, ?_, hb, hP⟩)
  · rcases hr with h | h | h | h | h <;> (obtain ⟨rfl, rfl⟩ := h; exact rg_lit rfl)
  · rcases hr with h | h | h | h | h <;> omega
theorem sp_X11_granted (hd : 1 ≤ d) {P : Int → IM → LM → Prop} {v : Int} (hv : rg v) (hP : P v (u2 i 6 18 0) l) : cI w d X_X11_granted [vR (some 6), vI v] i l P := by
  obtain ⟨d, rfl, hd1⟩ := d_pos hd
  exact e_X11_granted (s_X11_granted _ ⟨hv, hP⟩)
theorem sp_X11_changed (hd : 2 ≤ d) {P : Int → IM → LM → Prop} {v : Int} (hv : rg v) (hb : rg (i 7 15 + 1)) (hP : P v (cChg i) l) : cI w d X_X11_changed [vR (some 6), vI v] i l P := by
  obtain ⟨d, rfl, hd1⟩ := d_pos hd
  exact e_X11_changed (s_X11_changed _ ⟨hb, sp_X11_granted hd1 hv hP⟩)
theorem sp_X12_good (hd : 1 ≤ d) {P : Int → IM → LM → Prop} {v : Int} (hv : rg v) (hb : rg (i 99 1 + 1)) (hP : P v (mGood i) l) : cI w d X_X12_good [vR (some 99), vI v] i l P := by
  obtain ⟨d, rfl, hd1⟩ := d_pos hd
  exact e_X12_good (s_X12_good _ ⟨hb, hv, hP⟩)
theorem sp_X12_replaces (hd : 2 ≤ d) {P : Int → IM → LM → Prop} {q v : Int} (hq : 0 ≤ q ∧ q < 5120) (hv : rg v) (hr : rg (i 101 q)) (hb : rg (i 99 1 + 1)) (hP : P (i 101 q) (mGood (u2 i 101 q v)) l) : cI w d X_X12_replaces [vR (some 99), vI q, vI v] i l P := by
  obtain ⟨d, rfl, hd1⟩ := d_pos hd
  exact e_X12_replaces (s_X12_replaces _ _ ⟨hq, hv, sp_X12_good hd1 hr hb hP⟩)
theorem Inv_ref {A : Nat → List Cla} (hI : InA w k i l A) {r ix : Int} (hr : rIx r ix) : Inv w (k + 1) (mRef (cRef i r ix) r) l := by
  obtain ⟨h1, ⟨g1, g2⟩, r1, r2, r3, r4, r5, r6⟩ := hI
  have fr : ∀ a, a ≠ 6 → a ≠ 36 → a ≠ 99 → a ≠ 100 → mRef (cRef i r ix) r a = i a := fun a a1 a2 a3 a4 => by
    unfold mRef cRef
    rw [u2_other _ _ _ a4, u2_other _ _ _ a3, u2_other _ _ _ a2, u2_other _ _ _ a1]
  have q6 : ∀ x : Int, mRef (cRef i r ix) r 6 x = if x = 18 then r else i 6 x := fun x => by
    show u2 i 6 18 r 6 x = _
    rw [u2_at]
  have q99 : ∀ x : Int, mRef (cRef i r ix) r 99 x = if x = 0 then r else i 99 x := fun x => by
    show u2 (cRef i r ix) 99 0 r 99 x = _
    rw [u2_at]
    rfl
  have q36 : ∀ x : Int, mRef (cRef i r ix) r 36 x = if x = ix then i 36 ix + 1 else i 36 x := fun x => by
    show u2 (u2 i 6 18 r) 36 ix (i 36 ix + 1) 36 x = _
    rw [u2_at]
    rfl
  have q100 : ∀ x : Int, mRef (cRef i r ix) r 100 x = if x = -r then i 100 (-r) + 1 else i 100 x := fun x => by
    show u2 (u2 (cRef i r ix) 99 0 r) 100 (-r) (cRef i r ix 100 (-r) + 1) 100 x = _
    rw [u2_at]
    rfl
  generalize mRef (cRef i r ix) r = J at fr q6 q99 q36 q100
  have e101 := fr 101 (by decide) (by decide) (by decide) (by decide)
  refine ⟨A, ?_, ⟨?_, ?_⟩, ?_, ?_, ?_, ?_, ?_, ?_⟩
  · rw [e101]
    exact TK_eq (fun a x => fr a (by omega) (by omega) (by omega) (by omega)) (fun x _ => by rw [fr 7 (by decide) (by decide) (by decide) (by decide)]) (fun a x => fr a (by omega) (by omega) (by omega) (by omega)) h1
  · rw [e101]
    exact CHs_eq (fun a x => fr a (by omega) (by omega) (by omega) (by omega)) (fun _ _ => rfl) g1
  · rw [e101]
    exact PnC_eq (fun x hx => by rw [q99, if_neg (by omega)]) (fun a x => fr a (by omega) (by omega) (by omega) (by omega)) g2
  · exact Img_eq (by rw [q6, if_neg (by decide)]) (fun a x => fr a (by omega) (by omega) (by omega) (by omega)) r1
  · exact Tpe_eq (by rw [q6, if_neg (by decide)]) (by rw [q99, if_neg (by decide)]) (fr 35 (by decide) (by decide) (by decide) (by decide)) (fr 105 (by decide) (by decide) (by decide) (by decide)) r2
  · obtain ⟨⟨c1, c2⟩, c3, c4, c5⟩ := r3
    refine ⟨⟨?_, ?_⟩, fun x x0 x5 => ?_, ?_, ?_⟩
    · rw [fr 7 (by decide) (by decide) (by decide) (by decide)]; omega
    · rw [q99, if_neg (by decide)]; omega
    · rw [q36]
      have := c3 x x0 x5
      split
      · next e => rw [← e]; omega
      · omega
    · rw [q36, q36, q36, q36, q36, q100, q100, q100, q100, q100]
      rcases hr with h | h | h | h | h <;> (obtain ⟨rfl, rfl⟩ := h; simp only [show (-(-1 : Int)) = 1 from rfl, show (-(-2 : Int)) = 2 from rfl, show (-(-3 : Int)) = 3 from rfl, show (-(-5 : Int)) = 5 from rfl, show (-(-6 : Int)) = 6 from rfl]; simp; omega)
    · have e : ((k + 1 : Nat) : Int) = (k : Int) + 1 := by omega
      rw [e]; exact limB_up (limB_eq (fr 112 (by decide) (by decide) (by decide) (by decide)) c5) (by omega)
  · refine ⟨by rw [q6, q99]; rfl, ?_, ?_⟩
    · rw [q6, q99, if_neg (by decide), if_neg (by decide)]; exact r4.2.1
    · rw [q6, q99, if_neg (by decide), if_neg (by decide)]; exact r4.2.2
  · exact Dy_eq (by rw [fr 94 (by decide) (by decide) (by decide) (by decide)]) (fr 95 (by decide) (by decide) (by decide) (by decide)) (by rw [q99, if_neg (by decide)]) (fr 124 (by decide) (by decide) (by decide) (by decide)) r5
  · unfold Wrd; rw [fr 104 (by decide) (by decide) (by decide) (by decide)]; exact r6
/-- the model refuses as the class did -/
theorem ref2 {A : Nat → List Cla} (hI : InA w k i l A) (hk : k ≤ 100000) (hd : 1 ≤ d) {r ix : Int} (hr : rIx r ix) : cI w d X_X12_refuses [vR (some 99), vI r] (cRef i r ix) l (fun v' i2 l2 => v' = r ∧ Inv w (k + 1) i2 l2) := by
  obtain ⟨c3, c4, -⟩ := hI.2.2.2.2.1.2
  have hx : 0 ≤ ix ∧ ix < 5 := by rcases hr with h | h | h | h | h <;> omega
  have h36 := c3 ix hx.1 hx.2
  refine sp_X12_refuses hd hr ?_ ⟨rfl, Inv_ref hI hr⟩
  show rg (i 100 (-r) + 1)
  have : i 100 (-r) = i 36 ix := by
    rcases hr with h | h | h | h | h <;> obtain ⟨rfl, rfl⟩ := h
    · exact c4.1.symm
    · exact c4.2.1.symm
    · exact c4.2.2.1.symm
    · exact c4.2.2.2.1.symm
    · exact c4.2.2.2.2.symm
  rw [this]
  exact ⟨by omega, by omega⟩
theorem ref_rg {A : Nat → List Cla} (hI : InA w k i l A) (hk : k ≤ 100000) {r ix : Int} (hr : rIx r ix) : rg (i 36 ix + 1) := by
  have hx : 0 ≤ ix ∧ ix < 5 := by rcases hr with h | h | h | h | h <;> omega
  have h36 := hI.2.2.2.2.1.2.1 ix hx.1 hx.2
  exact ⟨by omega, by omega⟩
theorem r1 : rIx (-1) 0 := Or.inl ⟨rfl, rfl⟩
theorem r2 : rIx (-2) 1 := Or.inr (Or.inl ⟨rfl, rfl⟩)
theorem r3 : rIx (-3) 2 := Or.inr (Or.inr (Or.inl ⟨rfl, rfl⟩))
theorem r5 : rIx (-5) 3 := Or.inr (Or.inr (Or.inr (Or.inl ⟨rfl, rfl⟩)))
theorem r6 : rIx (-6) 4 := Or.inr (Or.inr (Or.inr (Or.inr ⟨rfl, rfl⟩)))
theorem chg_rg {A : Nat → List Cla} (hI : InA w k i l A) (hk : k ≤ 100000) : rg (i 7 15 + 1) ∧ rg (i 99 1 + 1) := by
  have h := hI.2.2.2.2.1.1
  exact ⟨⟨by omega, by omega⟩, by omega, by omega⟩
end
