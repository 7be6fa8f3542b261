/-! the TOWN is changed on both sides -/
section
variable {w : Wd} {d k : Nat} {i : IM} {l : LM}
theorem TWg_eq7 {i i' : IM} {K : Int → Int} (h : ∀ a, 8 ≤ a → a ≤ 14 → i' a = i a) (h7 : ∀ x : Int, x ≠ 15 → i' 7 x = i 7 x) (hT : TWg 7 K i ∧ TLd 7 K i) : TWg 7 K i' ∧ TLd 7 K i' := by
  refine ⟨?_, ?_⟩
  · unfold TWg
    rw [h (7 + 1) (by omega) (by omega), h (7 + 2) (by omega) (by omega), h (7 + 3) (by omega) (by omega), h (7 + 4) (by omega) (by omega), h (7 + 6) (by omega) (by omega), h (7 + 7) (by omega) (by omega), h7 8 (by decide), h7 9 (by decide), h7 10 (by decide), h7 11 (by decide), h7 12 (by decide), h7 13 (by decide), h7 14 (by decide)]
    exact hT.1
  · unfold TLd
    rw [h (7 + 5) (by omega) (by omega)]
    exact hT.2
theorem chg_end2 {A : Nat → List Cla} {i1 i3 : IM} (hI : InA w k i l A) (fr1 : ∀ a, 16 ≤ a → i1 a = i a) (f6 : i1 6 = i 6) (f7 : i1 7 15 = i 7 15) (f3 : ∀ a, a ≠ 101 → i3 a = cChg i1 a) (hT : TWg 7 (i3 101) i1 ∧ TLd 7 (i3 101) i1) (hK : kOK (i3 101) ∧ SyK (i3 101) ∧ FrK (i3 101)) (h311 : i3 101 311 = i 101 311) (h314 : ∀ p : Int, 314 ≤ p → i3 101 p = i 101 p) : Inv w (k + 1) (mGood i3) l := by
  have g101 : mGood i3 101 = i3 101 := rfl
  have gg : ∀ a, a ≠ 99 → mGood i3 a = i3 a := fun a ha => by unfold mGood; rw [u2_other _ _ _ ha, u2_other _ _ _ ha]
  have cc : ∀ a, a ≠ 6 → a ≠ 7 → cChg i1 a = i1 a := fun a h6 h7 => by unfold cChg; rw [u2_other _ _ _ h6, u2_other _ _ _ h7]
  have c6 : ∀ x : Int, cChg i1 6 x = if x = 18 then 0 else i1 6 x := fun x => by unfold cChg; rw [u2_at]; rfl
  have c7 : ∀ x : Int, cChg i1 7 x = if x = 15 then i1 7 15 + 1 else i1 7 x := fun x => by
    show u2 i1 7 15 (i1 7 15 + 1) 7 x = _
    rw [u2_at]
  have j6 : ∀ x : Int, x ≠ 18 → mGood i3 6 x = i 6 x := fun x hx => by rw [gg 6 (by decide), f3 6 (by decide), c6, if_neg hx, f6]
  have j99 : ∀ x : Int, mGood i3 99 x = if x = 1 then i 99 1 + 1 else if x = 0 then 0 else i 99 x := fun x => by
    have e : i3 99 = i 99 := by rw [f3 99 (by decide), cc 99 (by decide) (by decide), fr1 99 (by decide)]
    unfold mGood
    rw [u2_at, u2_at, e]
  refine chg_end hI (fun a a1 a2 a3 => by rw [gg a a2, f3 a a3, cc a (by omega) (by omega), fr1 a a1]) ⟨by rw [gg 6 (by decide), f3 6 (by decide), c6]; rfl, j6 14 (by decide), j6 15 (by decide), j6 16 (by decide), j6 17 (by decide)⟩ (by rw [gg 7 (by decide), f3 7 (by decide), c7, if_pos rfl, f7]) ⟨by rw [j99]; rfl, by rw [j99]; rfl, fun x x0 x1 => by rw [j99, if_neg x1, if_neg x0]⟩ (TWg_eq7 (fun a a1 a2 => by rw [gg a (by omega), f3 a (by omega), cc a (by omega) (by omega)]) (fun x hx => by rw [gg 7 (by decide), f3 7 (by decide), c7, if_neg hx]) ?_) ?_ ?_ ?_
  · rw [g101]; exact hT
  · rw [g101]; exact hK
  · rw [g101]; exact h311
  · rw [g101]; exact h314
/-- one number of the TOWN and what is kept of it -/
theorem TLd_up {K K' : Int → Int} {i1 : IM} (h : ∀ c : Int, 0 ≤ c → c < 8 → K' (119 + c) = K (119 + c)) (e : i1 12 = i 12) (hT : TLd 7 K i) : TLd 7 K' i1 := by
  intro c hc
  show (0 ≤ i1 12 (c : Int) ∧ i1 12 (c : Int) < 256) ∧ (K' (119 + (c : Int))).toNat = (i1 12 (c : Int)).toNat ||| 2 ^ c
  rw [e, h (c : Int) (by omega) (by omega)]
  exact hT c hc
theorem TWg_u1 {K : Int → Int} {q v : Int} (hq : 0 ≤ q ∧ q < 80) (hT : TWg 7 K i ∧ TLd 7 K i) : TWg 7 (upK K q v) (u2 i 8 q v) ∧ TLd 7 (upK K q v) (u2 i 8 q v) := by
  obtain ⟨⟨t1, t2, t3, t4, t5, t6, t7⟩, h2⟩ := hT
  refine ⟨⟨fun j j0 j1 => ?_, fun j j0 j1 => ?_, fun j j0 j1 => ?_, fun j j0 j1 => ?_, fun c c0 c1 => ?_, fun j j0 j1 => ?_, ?_⟩, TLd_up (fun c c0 c1 => upK_ne (by omega)) rfl h2⟩
  · show u2 i 8 q v 8 j = _
    rw [u2_at]
    unfold upK
    split
    · rfl
    · exact t1 j j0 j1
  · rw [upK_ne (by omega)]; exact t2 j j0 j1
  · rw [upK_ne (by omega)]; exact t3 j j0 j1
  · rw [upK_ne (by omega)]; exact t4 j j0 j1
  · rw [mLow_cg (K := K) (fun c c0 c1 => upK_ne (by omega))]; exact t5 c c0 c1
  · rw [upK_ne (by omega)]; exact t6 j j0 j1
  · rw [upK_ne (by omega), upK_ne (by omega), upK_ne (by omega), upK_ne (by omega), upK_ne (by omega), upK_ne (by omega), upK_ne (by omega)]; exact t7
theorem TWg_u2 {K : Int → Int} {q v : Int} (hq : 0 ≤ q ∧ q < 24) (hT : TWg 7 K i ∧ TLd 7 K i) : TWg 7 (upK K (80 + q) v) (u2 i 9 q v) ∧ TLd 7 (upK K (80 + q) v) (u2 i 9 q v) := by
  obtain ⟨⟨t1, t2, t3, t4, t5, t6, t7⟩, h2⟩ := hT
  refine ⟨⟨fun j j0 j1 => ?_, fun j j0 j1 => ?_, fun j j0 j1 => ?_, fun j j0 j1 => ?_, fun c c0 c1 => ?_, fun j j0 j1 => ?_, ?_⟩, TLd_up (fun c c0 c1 => upK_ne (by omega)) rfl h2⟩
  · rw [upK_ne (by omega)]; exact t1 j j0 j1
  · show u2 i 9 q v 9 j = _
    rw [u2_at]
    unfold upK
    by_cases c : j = q
    · rw [if_pos c, if_pos (by omega)]
    · rw [if_neg c, if_neg (by omega)]; exact t2 j j0 j1
  · rw [upK_ne (by omega)]; exact t3 j j0 j1
  · rw [upK_ne (by omega)]; exact t4 j j0 j1
  · rw [mLow_cg (K := K) (fun c c0 c1 => upK_ne (by omega))]; exact t5 c c0 c1
  · rw [upK_ne (by omega)]; exact t6 j j0 j1
  · rw [upK_ne (by omega), upK_ne (by omega), upK_ne (by omega), upK_ne (by omega), upK_ne (by omega), upK_ne (by omega), upK_ne (by omega)]; exact t7
theorem TWg_u3 {K : Int → Int} {q v : Int} (hq : 0 ≤ q ∧ q < 5) (hT : TWg 7 K i ∧ TLd 7 K i) : TWg 7 (upK K (114 + q) v) (u2 i 10 q v) ∧ TLd 7 (upK K (114 + q) v) (u2 i 10 q v) := by
  obtain ⟨⟨t1, t2, t3, t4, t5, t6, t7⟩, h2⟩ := hT
  refine ⟨⟨fun j j0 j1 => ?_, fun j j0 j1 => ?_, fun j j0 j1 => ?_, fun j j0 j1 => ?_, fun c c0 c1 => ?_, fun j j0 j1 => ?_, ?_⟩, TLd_up (fun c c0 c1 => upK_ne (by omega)) rfl h2⟩
  · rw [upK_ne (by omega)]; exact t1 j j0 j1
  · rw [upK_ne (by omega)]; exact t2 j j0 j1
  · show u2 i 10 q v 10 j = _
    rw [u2_at]
    unfold upK
    by_cases c : j = q
    · rw [if_pos c, if_pos (by omega)]
    · rw [if_neg c, if_neg (by omega)]; exact t3 j j0 j1
  · rw [upK_ne (by omega)]; exact t4 j j0 j1
  · rw [mLow_cg (K := K) (fun c c0 c1 => upK_ne (by omega))]; exact t5 c c0 c1
  · rw [upK_ne (by omega)]; exact t6 j j0 j1
  · rw [upK_ne (by omega), upK_ne (by omega), upK_ne (by omega), upK_ne (by omega), upK_ne (by omega), upK_ne (by omega), upK_ne (by omega)]; exact t7
theorem TWg_u4 {K : Int → Int} {q v : Int} (hq : 0 ≤ q ∧ q < 10) (hT : TWg 7 K i ∧ TLd 7 K i) : TWg 7 (upK K (104 + q) v) (u2 i 11 q v) ∧ TLd 7 (upK K (104 + q) v) (u2 i 11 q v) := by
  obtain ⟨⟨t1, t2, t3, t4, t5, t6, t7⟩, h2⟩ := hT
  refine ⟨⟨fun j j0 j1 => ?_, fun j j0 j1 => ?_, fun j j0 j1 => ?_, fun j j0 j1 => ?_, fun c c0 c1 => ?_, fun j j0 j1 => ?_, ?_⟩, TLd_up (fun c c0 c1 => upK_ne (by omega)) rfl h2⟩
  · rw [upK_ne (by omega)]; exact t1 j j0 j1
  · rw [upK_ne (by omega)]; exact t2 j j0 j1
  · rw [upK_ne (by omega)]; exact t3 j j0 j1
  · show u2 i 11 q v 11 j = _
    rw [u2_at]
    unfold upK
    by_cases c : j = q
    · rw [if_pos c, if_pos (by omega)]
    · rw [if_neg c, if_neg (by omega)]; exact t4 j j0 j1
  · rw [mLow_cg (K := K) (fun c c0 c1 => upK_ne (by omega))]; exact t5 c c0 c1
  · rw [upK_ne (by omega)]; exact t6 j j0 j1
  · rw [upK_ne (by omega), upK_ne (by omega), upK_ne (by omega), upK_ne (by omega), upK_ne (by omega), upK_ne (by omega), upK_ne (by omega)]; exact t7
theorem TWg_u7 {K : Int → Int} {q v : Int} (hq : 0 ≤ q ∧ q < 180) (hT : TWg 7 K i ∧ TLd 7 K i) : TWg 7 (upK K (127 + q) v) (u2 i 14 q v) ∧ TLd 7 (upK K (127 + q) v) (u2 i 14 q v) := by
  obtain ⟨⟨t1, t2, t3, t4, t5, t6, t7⟩, h2⟩ := hT
  refine ⟨⟨fun j j0 j1 => ?_, fun j j0 j1 => ?_, fun j j0 j1 => ?_, fun j j0 j1 => ?_, fun c c0 c1 => ?_, fun j j0 j1 => ?_, ?_⟩, TLd_up (fun c c0 c1 => upK_ne (by omega)) rfl h2⟩
  · rw [upK_ne (by omega)]; exact t1 j j0 j1
  · rw [upK_ne (by omega)]; exact t2 j j0 j1
  · rw [upK_ne (by omega)]; exact t3 j j0 j1
  · rw [upK_ne (by omega)]; exact t4 j j0 j1
  · rw [mLow_cg (K := K) (fun c c0 c1 => upK_ne (by omega))]; exact t5 c c0 c1
  · show u2 i 14 q v 14 j = _
    rw [u2_at]
    unfold upK
    by_cases c : j = q
    · rw [if_pos c, if_pos (by omega)]
    · rw [if_neg c, if_neg (by omega)]; exact t6 j j0 j1
  · rw [upK_ne (by omega), upK_ne (by omega), upK_ne (by omega), upK_ne (by omega), upK_ne (by omega), upK_ne (by omega), upK_ne (by omega)]; exact t7
def fPos (f q : Int) : Prop := (f = 8 ∧ q = 307) ∨ (f = 9 ∧ q = 308) ∨ (f = 10 ∧ q = 309) ∨ (f = 11 ∧ q = 310) ∨ (f = 12 ∧ q = 311) ∨ (f = 13 ∧ q = 313) ∨ (f = 14 ∧ q = 312)
theorem TWg_f {K : Int → Int} {f q v : Int} (hq : fPos f q) (hT : TWg 7 K i ∧ TLd 7 K i) : TWg 7 (upK K q v) (u2 i 7 f v) ∧ TLd 7 (upK K q v) (u2 i 7 f v) := by
  have hb : 307 ≤ q := by rcases hq with h | h | h | h | h | h | h <;> omega
  obtain ⟨⟨t1, t2, t3, t4, t5, t6, t7⟩, h2⟩ := hT
  refine ⟨⟨fun j j0 j1 => ?_, fun j j0 j1 => ?_, fun j j0 j1 => ?_, fun j j0 j1 => ?_, fun c c0 c1 => ?_, fun j j0 j1 => ?_, ?_⟩, TLd_up (fun c c0 c1 => upK_ne (by omega)) rfl h2⟩
  · rw [upK_ne (by omega)]; exact t1 j j0 j1
  · rw [upK_ne (by omega)]; exact t2 j j0 j1
  · rw [upK_ne (by omega)]; exact t3 j j0 j1
  · rw [upK_ne (by omega)]; exact t4 j j0 j1
  · rw [mLow_cg (K := K) (fun c c0 c1 => upK_ne (by omega))]; exact t5 c c0 c1
  · rw [upK_ne (by omega)]; exact t6 j j0 j1
  · unfold upK
    rw [u2_at, u2_at, u2_at, u2_at, u2_at, u2_at, u2_at, t7.1, t7.2.1, t7.2.2.1, t7.2.2.2.1, t7.2.2.2.2.1, t7.2.2.2.2.2.1, t7.2.2.2.2.2.2]
    rcases hq with h | h | h | h | h | h | h <;> (obtain ⟨rfl, rfl⟩ := h; simp)
end
