/-! what a LAW tells, in the model -/
def clampI (lo hi v : Int) : Int := if v < lo then lo else if hi < v then hi else v
def claUpd (e : LEnv) (h lo hi : Int) (c : Cla) (x : Int) : Int := if (c.1 : Int) + 1 = h then match claTells e c with
  | some v => clampI lo hi v
  | none => x
  else x
def toldGo (e : LEnv) (h lo hi : Int) : List Cla → Int → Int
  | [], x => x
  | c :: cs, x => toldGo e h lo hi cs (claUpd e h lo hi c x)
theorem toldGo_eq (e : LEnv) (h : Nat) (lo hi : Int) : ∀ (cs : List Cla) (x : Int), toldGo e ((h : Int) + 1) lo hi cs x = match lawTells e h cs with
    | some v => clampI lo hi v
    | none => x
  | [], x => rfl
  | c :: cs, x => by
    have ih := toldGo_eq e h lo hi cs (claUpd e ((h : Int) + 1) lo hi c x)
    show toldGo e ((h : Int) + 1) lo hi cs (claUpd e ((h : Int) + 1) lo hi c x) = _
    rw [ih]
    have hc1 : lawTells e h (c :: cs) = match lawTells e h cs with
      | some v => some v
      | none => if c.1 = h then claTells e c else none := rfl
    rw [hc1]
    cases hl : lawTells e h cs with
    | some v => rfl
    | none =>
      simp only
      unfold claUpd
      by_cases hc : c.1 = h
      · rw [if_pos hc, if_pos (show (c.1 : Int) + 1 = (h : Int) + 1 by omega)]
      · rw [if_neg hc, if_neg (show ¬ (c.1 : Int) + 1 = (h : Int) + 1 by omega)]
theorem rg_clamp2 {lo hi v : Int} (h1 : rg lo) (h2 : rg hi) (hv : bd v) : rg (clampI lo hi v) := by
  unfold clampI bd at *
  split
  · exact h1
  · split
    · exact h2
    · exact ⟨by omega, by omega⟩
section
variable {w : Wd} {d : Nat} {P : Int → IM → LM → Prop} {i : IM} {l : LM} {B : Nat}
/-- the end of a CLAUSE -/
theorem told_end {x1 x2 x3 x5 x6 x9 b : Int} {x7 : Int64} {k : Nat} {c : Cla} {e : LEnv} (hk : B + k ≤ 2400) (hx1 : rg x1) (hx2 : rg x2) (hx3 : rg x3) (h6 : rg x6) (h9 : rg x9) (hyes : b = 0 → x9 = 0 → x6 = x1 → (c.1 : Int) + 1 = x1 ∧ ∃ v, claTells e c = some v ∧ x7 = Int64.ofInt v ∧ bd v) (hno : ¬ (b = 0 ∧ x9 = 0 ∧ x6 = x1) → ¬ (c.1 : Int) + 1 = x1 ∨ claTells e c = none)
    (hP : gI w d X_X12_told P (ev i ((B + (k + 1) : Nat) : Int) b) l 61 [(0, vR (some 99)), (1, vI x1), (2, vI x2), (3, vI x3), (5, vI (claUpd e x1 x2 x3 c x5))] []) : gI w d X_X12_told P (ev i ((B + k : Nat) : Int) b) l 141 [(0, vR (some 99)), (1, vI x1), (2, vI x2), (3, vI x3), (5, vI x5), (6, vI x6), (7, vL x7), (9, vI x9)] [] := by
  refine s_X12_told_141 _ _ _ _ _ _ _ ⟨fun _ => h9, fun _ _ => h6, fun _ _ => hx1, fun q => ?_, fun q => ?_⟩
  · rw [ev_brk] at q
    obtain ⟨e1, v, e2, e3, e4⟩ := hyes q.1 q.2.1 q.2.2
    rw [ev_u_go, ev_go]
    refine ⟨⟨by omega, by omega⟩, ?_⟩
    have hu : claUpd e x1 x2 x3 c x5 = clampI x2 x3 v := by
      unfold claUpd
      rw [if_pos e1, e2]
    have hv : (if i2l x2 ≤ x7 then if x7 ≤ i2l x3 then l2i x7 else x3 else x2) = clampI x2 x3 v := by
      unfold rg at hx2 hx3
      unfold bd at e4
      have c1 : i2l x2 ≤ x7 ↔ x2 ≤ v := by rw [i2l_L64 hx2, e3]; exact L64_le ⟨by omega, by omega⟩ ⟨by omega, by omega⟩
      have c2 : x7 ≤ i2l x3 ↔ v ≤ x3 := by rw [i2l_L64 hx3, e3]; exact L64_le ⟨by omega, by omega⟩ ⟨by omega, by omega⟩
      unfold clampI
      by_cases a1 : x2 ≤ v
      · rw [if_pos (c1.mpr a1), if_neg (show ¬ v < x2 by omega)]
        by_cases a2 : v ≤ x3
        · rw [if_pos (c2.mpr a2), if_neg (show ¬ x3 < v by omega), e3, l2i_L64 ⟨by omega, by omega⟩]
        · rw [if_neg (fun z => a2 (c2.mp z)), if_pos (show x3 < v by omega)]
      · rw [if_neg (fun z => a1 (c1.mp z)), if_pos (show v < x2 by omega)]
    rw [hv, ← hu]
    exact hP
  · rw [ev_brk] at q
    have hu : claUpd e x1 x2 x3 c x5 = x5 := by
      unfold claUpd
      rcases hno q with z | z
      · rw [if_neg z]
      · split
        · rw [z]
        · rfl
    refine s_X12_told_175 _ _ _ _ _ ?_
    rw [ev_u_go, ev_go]
    rw [hu] at hP
    exact ⟨⟨by omega, by omega⟩, hP⟩
theorem told_skip {x1 x2 x3 x5 b : Int} {x7 : Int64} {k : Nat} {c : Cla} {e : LEnv} (hk : B + k ≤ 2400) (hno : claTells e c = none)
    (hP : gI w d X_X12_told P (ev i ((B + (k + 1) : Nat) : Int) b) l 61 [(0, vR (some 99)), (1, vI x1), (2, vI x2), (3, vI x3), (5, vI (claUpd e x1 x2 x3 c x5))] []) : gI w d X_X12_told P (ev i ((B + k : Nat) : Int) b) l 175 [(0, vR (some 99)), (1, vI x1), (2, vI x2), (3, vI x3), (5, vI x5), (7, vL x7)] [] := by
  have hu : claUpd e x1 x2 x3 c x5 = x5 := by
    unfold claUpd
    split
    · rw [hno]
    · rfl
  refine s_X12_told_175 _ _ _ _ _ ?_
  rw [ev_u_go, ev_go]
  rw [hu] at hP
  exact ⟨⟨by omega, by omega⟩, hP⟩
/-- behind the sum: the test, if there is one -/
theorem told_test {t : Tk} (ht : tkOK t) (hT : TokAt i B t) (hE : envMOK i) (hd : 69 ≤ d) {x1 x2 x3 x5 b1 : Int} {x7 : Int64} {k lv u : Nat} {r : PD} {q : Nat × Nat × Cla} (hx1 : rg x1) (hx2 : rg x2) (hx3 : rg x3) (hb1 : l01 b1) (hk : t.1 k = 1 ∨ t.1 k = 2 ∨ t.1 k = 3 ∨ t.1 k = 4) (hr : r.1 ≤ t.2.2 ∧ r.2.1 ≤ 50 ∧ u + r.2.2.2.1.length ≤ r.1) (hfs : (r.2.2.2.2 (envM i) = none → b1 = 1) ∧ ∀ v, r.2.2.2.2 (envM i) = some v → b1 = 0 ∧ x7 = Int64.ofInt v ∧ bd v)
    (hq : (if t.1 r.1 = 5 then match pTest t 8 (r.1 + 1) r.2.1 (u + r.2.2.2.1.length) with
      | .inl q => (.inl q : CR1)
      | .inr s => .inr (s.1, s.2.1, (t.1 k - 1).toNat, r.2.2.1 ||| s.2.2.1, r.2.2.2.1, s.2.2.2.1, r.2.2.2.2, s.2.2.2.2)
    else .inr (r.1, r.2.1, (t.1 k - 1).toNat, r.2.2.1, r.2.2.2.1, [], r.2.2.2.2, fun _ => some 1)) = .inr q)
    (hP : ∀ b, gI w d X_X12_told P (ev i ((B + (q.1 + 1) : Nat) : Int) b) l 61 [(0, vR (some 99)), (1, vI x1), (2, vI x2), (3, vI x3), (5, vI (claUpd (envM i) x1 x2 x3 q.2.2 x5))] []) :
    cI w d X_X12_passes0 [vR (some 99), vI 5] (ev i ((B + r.1 : Nat) : Int) 0) l (fun r28 i28 l28 => (((r28 = 0) → gI w d X_X12_told P i28 l28 141 [(0, vR (some 99)), (1, vI x1), (2, vI x2), (3, vI x3), (5, vI x5), (6, vI (t.1 k)), (7, vL x7), (9, vI b1)] []) ∧ ((¬ (r28 = 0)) → cI w d X_X12_testOf [vR (some 99), vI 1] i28 l28 (fun r31 i31 l31 => (((r31 = 0) → gI w d X_X12_told P i31 l31 175 [(0, vR (some 99)), (1, vI x1), (2, vI x2), (3, vI x3), (5, vI x5), (7, vL x7)] []) ∧ ((¬ (r31 = 0)) → gI w d X_X12_told P i31 l31 141 [(0, vR (some 99)), (1, vI x1), (2, vI x2), (3, vI x3), (5, vI x5), (6, vI (t.1 k)), (7, vL x7), (9, vI b1)] [])))))) := by
  have h24 := hT.2.1
  refine sp_passes ht hT hr.1 (by omega) (rg_lit rfl) (fun h5 => ⟨fun z => absurd z (by decide), fun _ => ?_⟩) (fun h5 => ⟨fun _ => ?_, fun z => absurd rfl z⟩)
  · rw [if_pos h5] at hq
    have hk1 := tk_lt ht hr.1 (by omega)
    cases hs : pTest t 8 (r.1 + 1) r.2.1 (u + r.2.2.2.1.length) with
    | inl z => rw [hs] at hq; cases hq
    | inr s =>
      rw [hs] at hq
      simp only at hq
      cases hq
      have hsg := sg_test ht 8 (r.1 + 1) r.2.1 (u + r.2.2.2.1.length) s hk1 hr.2.1 (by omega) hs
      have hs2 := hsg.1.1.2
      refine ev_test ht 8 (r.1 + 1) r.2.1 (u + r.2.2.2.1.length) s hk1 hr.2.1 (by omega) hs w d _ i l B 1 0 (by omega) hT hE (Or.inr rfl) (Or.inl rfl) (fun y b hR => ?_)
      obtain ⟨g1, g2⟩ := hR.2.2.2.2 rfl rfl
      refine ⟨fun hy => ?_, fun hy => ?_⟩
      · refine told_skip (c := ((t.1 k - 1).toNat, r.2.2.1 ||| s.2.2.1, r.2.2.2.1, s.2.2.2.1, r.2.2.2.2, s.2.2.2.2)) (e := envM i) (by omega) ?_ (hP b)
        show (match r.2.2.2.2 (envM i), s.2.2.2.2 (envM i) with | some v, some b => if b = 0 then none else some v | _, _ => none) = none
        cases hf : r.2.2.2.2 (envM i) with
        | none => rfl
        | some v =>
          cases hg : s.2.2.2.2 (envM i) with
          | none => rfl
          | some z =>
            have := (g2 z hg).2
            show (if z = 0 then none else some v) = none
            rw [if_pos (by omega)]
      · refine told_end (c := ((t.1 k - 1).toNat, r.2.2.1 ||| s.2.2.1, r.2.2.2.1, s.2.2.2.1, r.2.2.2.2, s.2.2.2.2)) (e := envM i) (by omega) hx1 hx2 hx3 ⟨by omega, by omega⟩ (rg01 hb1) (fun e1 e2 e3 => ⟨?_, ?_⟩) (fun hn => ?_) (hP b)
        · show (((t.1 k - 1).toNat : Nat) : Int) + 1 = x1
          omega
        · cases hf : r.2.2.2.2 (envM i) with
          | none => have := hfs.1 hf; omega
          | some v =>
            obtain ⟨f1, f2, f3⟩ := hfs.2 v hf
            cases hg : s.2.2.2.2 (envM i) with
            | none => have := g1 hg; omega
            | some z =>
              have := (g2 z hg).2
              refine ⟨v, ?_, f2, f3⟩
              show (match r.2.2.2.2 (envM i), s.2.2.2.2 (envM i) with | some v, some b => if b = 0 then none else some v | _, _ => none) = some v
              rw [hf, hg]
              show (if z = 0 then none else some v) = some v
              rw [if_neg (by omega)]
        · by_cases e6 : t.1 k = x1
          · refine Or.inr ?_
            show (match r.2.2.2.2 (envM i), s.2.2.2.2 (envM i) with | some v, some b => if b = 0 then none else some v | _, _ => none) = none
            cases hf : r.2.2.2.2 (envM i) with
            | none => rfl
            | some v =>
              obtain ⟨f1, f2, f3⟩ := hfs.2 v hf
              cases hg : s.2.2.2.2 (envM i) with
              | none => rfl
              | some z => exact absurd ⟨(g2 z hg).1, f1, e6⟩ hn
          · refine Or.inl ?_
            show ¬ (((t.1 k - 1).toNat : Nat) : Int) + 1 = x1
            omega
  · rw [if_neg h5] at hq
    cases hq
    refine told_end (c := ((t.1 k - 1).toNat, r.2.2.1, r.2.2.2.1, [], r.2.2.2.2, fun _ => some 1)) (e := envM i) (by omega) hx1 hx2 hx3 ⟨by omega, by omega⟩ (rg01 hb1) (fun e1 e2 e3 => ⟨?_, ?_⟩) (fun hn => ?_) (hP 0)
    · show (((t.1 k - 1).toNat : Nat) : Int) + 1 = x1
      omega
    · cases hf : r.2.2.2.2 (envM i) with
      | none => have := hfs.1 hf; omega
      | some v =>
        obtain ⟨f1, f2, f3⟩ := hfs.2 v hf
        refine ⟨v, ?_, f2, f3⟩
        show (match r.2.2.2.2 (envM i), some (1 : Int) with | some v, some b => if b = 0 then none else some v | _, _ => none) = some v
        rw [hf]
        rfl
    · by_cases e6 : t.1 k = x1
      · refine Or.inr ?_
        show (match r.2.2.2.2 (envM i), some (1 : Int) with | some v, some b => if b = 0 then none else some v | _, _ => none) = none
        cases hf : r.2.2.2.2 (envM i) with
        | none => rfl
        | some v => exact absurd ⟨rfl, (hfs.2 v hf).1, e6⟩ hn
      · refine Or.inl ?_
        show ¬ (((t.1 k - 1).toNat : Nat) : Int) + 1 = x1
        omega
end
