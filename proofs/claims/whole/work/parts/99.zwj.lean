/-! THE MODEL READS: tests, clauses -/
section
theorem md_nots {B : Nat → Int} {n : Nat} (hC : CT B n) {w : Wd} {d : Nat} {P : IM → LM → Prop} {i : IM} {l : LM} {lv : Nat} {x : Int} (hd : 2 ≤ d) (hm : MkT B n i) : ∀ (f k : Nat), nT B n + 1 - k ≤ f → k ≤ nT B n → ∀ (i' : IM), mfr i i' → MSt k lv i' → (∀ i'', mfr i i'' → MSt (pNots (tT B n) f k).1 lv i'' → gV w d X_X12_readPlain P i'' l 2 [(0, vR (some 99)), (1, vI x), (2, vI 0)] []) → gV w d X_X12_readPlain P i' l 2 [(0, vR (some 99)), (1, vI x), (2, vI 1)] [] := by
  intro f
  induction f with
  | zero => intro k hf hk; omega
  | succ f ih =>
    intro k hf hk i' hfr hS hP
    refine s_X12_readPlain_2 _ _ (by omega) ⟨rg_lit rfl, fun z => absurd z.1 (by decide), fun z => absurd z.1 (by decide), fun _ => ?_⟩
    refine md_take hC hd (rg_lit rfl) (MkT_f hfr hm) hS hk (fun c i1 f1 m1 => ?_) (fun c => ?_)
    · have hk1 : k < nT B n := tk_lt (tkOK_CT hC) hk (by omega)
      have eN : (pNots (tT B n) (f + 1) k).1 = (pNots (tT B n) f (k + 1)).1 := by
        show (if (tT B n).1 k = 8 then _ else _ : Nat × Bool).1 = _
        rw [if_pos c]
      rw [eN] at hP
      exact ih (k + 1) (by omega) hk1 i1 (mfr_tr hfr f1) m1 hP
    · have eN : (pNots (tT B n) (f + 1) k).1 = k := by
        show (if (tT B n).1 k = 8 then _ else _ : Nat × Bool).1 = _
        rw [if_neg c]
      rw [eN] at hP
      exact hP i' hfr hS
theorem md_pos {B : Nat → Int} {n : Nat} (hC : CT B n) {x : Int} {q : Nat} {inner : Option Sub} {D' : Nat} (hx : x = 8 - (q : Int)) (hq : q ≤ 8) (hin : inner = none ↔ x = 8) (hi : ∀ s, inner = some s → SGt (tT B n) s ∧ RdM B n X_X12_readTest D' (x + 1) s) {w : Wd} {d : Nat} {P : IM → LM → Prop} {i : IM} {l : LM} {k lv u : Nat} (hd : 3 * q + 6 ≤ d) (hd' : inner ≠ none → D' ≤ d) (hm : MkT B n i) (hk : k ≤ nT B n) (hlv : lv ≤ 50) (hu : u ≤ k) (hS : MSt k lv i) (hF : ∀ q' i', pPos (tT B n) q inner k lv u = .inl q' → mfr i i' → i' 99 18 = (poT B n q' : Int) → P i' l) (hO : ∀ r i', pPos (tT B n) q inner k lv u = .inr r → mfr i i' → MSt r.1 r.2.1 i' → P i' l) : gV w d X_X12_readPlain P i l 2 [(0, vR (some 99)), (1, vI x), (2, vI 0)] [] := by
  have hn := nT_le B n
  have h400 := hC.1
  have hok := tkOK_CT hC
  have e16 := hS.1
  have e7 : i 107 (i 99 16) = (tT B n).1 k := by rw [e16]; exact (hm.2 k hk).1
  refine s_X12_readPlain_2 _ _ (by omega) ⟨rg_lit rfl, fun _ => ⟨⟨by omega, by omega⟩, fun _ => ⟨by omega, by omega⟩, fun z => ?_, fun z => ?_, fun z => ?_⟩, fun z => absurd hS.2.2 z.2, fun z => absurd rfl z⟩
  · rw [e7] at z
    have eP : pPos (tT B n) q inner k lv u = match pSum (tT B n) q k lv u with
      | .inl q' => .inl q'
      | .inr r => match opC ((tT B n).1 r.1) with
        | none => .inl r.1
        | some o => match pSum (tT B n) q (r.1 + 1) r.2.1 (u + r.2.2.2.1.length) with
          | .inl q' => .inl q'
          | .inr s => .inr (s.1, s.2.1, r.2.2.1 ||| s.2.2.1, r.2.2.2.1 ++ s.2.2.2.1 ++ [o.1], m2 r.2.2.2.2 s.2.2.2.2 o.2) := by
      unfold pPos; rw [if_neg z]; rfl
    have hsum := md_sum hC q hq
    rw [← hx] at hsum
    refine (hsum w d _ i l hd hm).2 k lv u hk hlv hu hS (fun q' i' e f' a' => ?_) (fun r i' e f' m' => ?_)
    · have hb := po_bad a'
      exact md_takeB (by omega) hb ⟨fun _ => md_takeB (by omega) hb ⟨fun _ => md_mustB (by omega) hb ((hsum w d _ i' l hd (MkT_f f' hm)).1 hb (hF q' i' (by rw [eP, e]) f' a')), fun y => absurd rfl y⟩, fun y => absurd rfl y⟩
    · have gp := sg_sum hok q k lv u r hk hlv hu e
      have hrn : r.1 ≤ nT B n := gp.1.2
      have hm' := MkT_f f' hm
      have hu1 : u + r.2.2.2.1.length ≤ r.1 := by have := gp.2.2.1; have := gp.1.1; omega
      have half : ∀ (o : Int × (Int → Int → Option Int)), opC ((tT B n).1 r.1) = some o → ∀ i1, mfr i i1 → MSt (r.1 + 1) r.2.1 i1 → cVd w d X_X12_readSum [vR (some 99), vI x] i1 l (fun i2 l2 => P i2 l2) := fun o ho i1 f1 m1 => by
        obtain ⟨hc0, -, -⟩ := opC_ok ho
        have hk1 : r.1 < nT B n := tk_lt hok hrn hc0
        exact (hsum w d _ i1 l hd (MkT_f f1 hm)).2 (r.1 + 1) r.2.1 (u + r.2.2.2.1.length) hk1 gp.2.1.2 (by omega) m1 (fun q' i2 e2 f2 a2 => hF q' i2 (by rw [eP, e]; simp only [ho, e2]) (mfr_tr f1 f2) a2) (fun s i2 e2 f2 ms => hO (s.1, s.2.1, r.2.2.1 ||| s.2.2.1, r.2.2.2.1 ++ s.2.2.2.1 ++ [o.1], m2 r.2.2.2.2 s.2.2.2.2 o.2) i2 (by rw [eP, e]; simp only [ho, e2]) (mfr_tr f1 f2) ms)
      refine md_take hC (by omega) (rg_lit rfl) hm' m' hrn (fun y i1 f1 m1 => ⟨fun z => absurd z (by decide), fun _ => half (6, fun a b => some (if a < b then 1 else 0)) ?_ i1 (mfr_tr f' f1) m1⟩) (fun y => ⟨fun _ => ?_, fun z => absurd rfl z⟩)
      · unfold opC; rw [if_pos y]
      refine md_take hC (by omega) (rg_lit rfl) hm' m' hrn (fun y2 i1 f1 m1 => ⟨fun z => absurd z (by decide), fun _ => half (7, fun a b => some (if b < a then 1 else 0)) ?_ i1 (mfr_tr f' f1) m1⟩) (fun y2 => ⟨fun _ => ?_, fun z => absurd rfl z⟩)
      · unfold opC; rw [if_neg y, if_pos y2]
      refine md_must hC (by omega) (rg_lit rfl) hm' m' hrn (fun y3 i1 f1 m1 => half (8, fun a b => some (if a = b then 1 else 0)) ?_ i1 (mfr_tr f' f1) m1) (fun y3 i1 f1 a1 => ?_)
      · unfold opC; rw [if_neg y, if_neg y2, if_pos y3]
      refine (hsum w d _ i1 l hd (MkT_f (mfr_tr f' f1) hm)).1 (po_bad a1) (hF r.1 i1 ?_ (mfr_tr f' f1) a1)
      have eo : opC ((tT B n).1 r.1) = none := by unfold opC; rw [if_neg y, if_neg y2, if_neg y3]
      rw [eP, e]
      simp only [eo]
  · rw [e7] at z
    have hk1 : k < nT B n := tk_lt hok hk (by omega)
    cases inner with
    | none => exact absurd (hin.mp rfl) z.2
    | some s =>
      obtain ⟨g1, g2⟩ := hi s rfl
      have hmd := hd' (fun e => by cases e)
      have eQ : pPos (tT B n) q (some s) k lv u = match s (k + 1) lv u with
        | .inl q => .inl q
        | .inr r => if (tT B n).1 r.1 = 141 then .inr (r.1 + 1, r.2) else .inl r.1 := by
        unfold pPos; rw [if_pos z.1]; rfl
      refine s_X12_readPlain_53 _ (by omega) ⟨fun _ => ⟨⟨by omega, by omega⟩, ?_⟩, fun y => absurd hS.2.2 y⟩
      have f1 : mfr i (u2 i 99 16 ((i 99 16) + 1)) := mfr_u (mfr_rf i) (by omega)
      refine (g2 w d _ _ l hmd (MkT_f f1 hm)).2 (k + 1) lv u hk1 hlv (by omega) (MSt_go hS) (fun q' i' e f' a' => ?_) (fun r i' e f' m' => ?_)
      · exact md_mustB (by omega) (po_bad a') (hF q' i' (by rw [eQ, e]) (mfr_tr f1 f') a')
      · have gp := (g1 (k + 1) lv u r hk1 hlv (by omega) e).1
        have hrn : r.1 ≤ nT B n := gp.1.2
        refine md_must hC (by omega) (rg_lit rfl) (MkT_f (mfr_tr f1 f') hm) m' hrn (fun y i2 f2 ms => hO (r.1 + 1, r.2) i2 ?_ (mfr_tr (mfr_tr f1 f') f2) ms) (fun y i2 f2 e2 => hF r.1 i2 ?_ (mfr_tr (mfr_tr f1 f') f2) e2)
        · rw [eQ, e]; exact if_pos y
        · rw [eQ, e]; exact if_neg y
  · rw [e7] at z
    have hnone := hin.mpr z.2
    subst hnone
    refine md_faults hC (by omega) hm hS hk (fun i' f' e' => ?_)
    exact s_X12_readPlain_53 _ (by omega) ⟨fun y => absurd y (po_bad e'), fun _ => hF k i' (by unfold pPos; rw [if_pos z.1]) f' e'⟩
theorem md_plain {B : Nat → Int} {n : Nat} (hC : CT B n) {x : Int} {q : Nat} {inner : Option Sub} {D D' : Nat} (hx : x = 8 - (q : Int)) (hq : q ≤ 8) (hin : inner = none ↔ x = 8) (hi : ∀ s, inner = some s → SGt (tT B n) s ∧ RdM B n X_X12_readTest D' (x + 1) s) (hD : 3 * q + 7 ≤ D) (hD' : inner ≠ none → D' + 1 ≤ D) : RdM B n X_X12_readPlain D x (pPlain (tT B n) q inner) := by
  intro w d P i l hd hm
  obtain ⟨d, rfl, hd1⟩ := d_pos (Nat.le_trans hD hd)
  have hok := tkOK_CT hC
  refine ⟨fun hb hP => e_X12_readPlain (s_X12_readPlain _ (s_X12_readPlain_2 _ _ (by omega) ⟨rg_lit rfl, fun z => absurd z.1 (by decide), fun z => absurd z.1 (by decide), fun _ => md_takeB (by omega) hb (s_X12_readPlain_2 _ _ (by omega) ⟨rg_lit rfl, fun z => absurd z.2 hb, fun _ => hP, fun z => absurd rfl z⟩)⟩)), fun k lv u hk hlv hu hS hF hO => ?_⟩
  refine e_X12_readPlain (s_X12_readPlain _ ?_)
  refine md_nots hC (by omega) hm ((tT B n).2.2 + 1 - k) k (Nat.le_refl _) hk i (mfr_rf i) hS (fun i1 f1 m1 => ?_)
  have hpn := pNots_le (tT B n) hok ((tT B n).2.2 + 1 - k) k hk
  have hpn2 : (pNots (tT B n) ((tT B n).2.2 + 1 - k) k).1 ≤ nT B n := hpn.2.1
  refine md_pos hC hx hq hin hi (by omega) (fun e => by have := hD' e; omega) (MkT_f f1 hm) hpn2 hlv (Nat.le_trans hu hpn.1) m1 (fun q' i' e f' a' => hF q' i' (by unfold pPlain; rw [e]) (mfr_tr f1 f') a') (fun r i' e f' m' => ?_)
  by_cases hb : (pNots (tT B n) ((tT B n).2.2 + 1 - k) k).2 = true
  · refine hO (r.1, r.2.1, r.2.2.1, r.2.2.2.1 ++ [9], mNot r.2.2.2.2) i' ?_ (mfr_tr f1 f') m'
    unfold pPlain
    rw [e]
    exact if_pos hb
  · refine hO r i' ?_ (mfr_tr f1 f') m'
    unfold pPlain
    rw [e]
    exact if_neg hb
theorem mdjB {B : Nat → Int} {n : Nat} (hC : CT B n) {x : Int} {p : Sub} {D : Nat} (hp : SGt (tT B n) p) (hr2 : RdM B n X_X12_readPlain D x p) (hD : 4 ≤ D) {w : Wd} {d : Nat} {P : IM → LM → Prop} {i : IM} {l : LM} {k lv u : Nat} (hd : D ≤ d) (hm : MkT B n i) (hu : u ≤ k) : ∀ (f : Nat) (r : PD), nT B n + 1 - r.1 ≤ f → PG (tT B n) k lv u r → ∀ (i' : IM), mfr i i' → MSt r.1 r.2.1 i' → (∀ q i', pJump (tT B n) p false f u r = .inl q → mfr i i' → i' 99 18 = (poT B n q : Int) → P i' l) → (∀ r' i', pJump (tT B n) p false f u r = .inr r' → mfr i i' → MSt r'.1 r'.2.1 i' → P i' l) → gV w d X_X12_readBoth P i' l 5 [(0, vR (some 99)), (1, vI x)] [] := by
  intro f
  induction f with
  | zero => intro r hf hr; have h1 : r.1 ≤ nT B n := hr.1.2; omega
  | succ f ih =>
    intro r hf hr i' hfr hS hF hO
    have hrn : r.1 ≤ nT B n := hr.1.2
    have hm' := MkT_f hfr hm
    have hu1 : u + r.2.2.2.1.length ≤ r.1 := by have := hr.2.2.1; have := hr.1.1; omega
    have hjt : jTok false = 7 := rfl
    refine s_X12_readBoth_5 _ (md_take hC (by omega) (rg_lit rfl) hm' hS hrn (fun y i1 f1 m1 => ⟨fun z => absurd z (by decide), fun _ => ?_⟩) (fun y => ⟨fun _ => ?_, fun z => absurd rfl z⟩))
    · have ho : (tT B n).1 r.1 = jTok false := by omega
      have hk1 : r.1 < nT B n := tk_lt (tkOK_CT hC) hrn (by omega)
      refine (hr2 w d _ i1 l hd (MkT_f (mfr_tr hfr f1) hm)).2 (r.1 + 1) r.2.1 (u + r.2.2.2.1.length + 1) hk1 hr.2.1.2 (by omega) m1 (fun q i2 e f2 a2 => s_X12_readBoth_5 _ (md_takeB (by omega) (po_bad a2) ⟨fun _ => hF q i2 ?_ (mfr_tr (mfr_tr hfr f1) f2) a2, fun z => absurd rfl z⟩)) (fun s i2 e f2 ms => ?_)
      · unfold pJump; rw [if_pos ho, e]
      · have hsg := (hp (r.1 + 1) r.2.1 (u + r.2.2.2.1.length + 1) s hk1 hr.2.1.2 (by omega) e).1
        have hs1 := hsg.1.1
        have hb := pg_jump (tkOK_CT hC) (b := false) hu hr hsg
        have eL : pJump (tT B n) p false (f + 1) u r = pJump (tT B n) p false f u (s.1, s.2.1, r.2.2.1 ||| s.2.2.1, r.2.2.2.1 ++ [jOrd false + 16 * ((u + r.2.2.2.1.length + 1 + s.2.2.2.1.length : Nat) : Int)] ++ s.2.2.2.1, mJump false r.2.2.2.2 s.2.2.2.2) := by
          rw [pJump, if_pos ho, e]
        exact ih (s.1, s.2.1, r.2.2.1 ||| s.2.2.1, r.2.2.2.1 ++ [jOrd false + 16 * ((u + r.2.2.2.1.length + 1 + s.2.2.2.1.length : Nat) : Int)] ++ s.2.2.2.1, mJump false r.2.2.2.2 s.2.2.2.2) (by show nT B n + 1 - s.1 ≤ f; omega) hb i2 (mfr_tr (mfr_tr hfr f1) f2) ms (fun q i3 e3 => hF q i3 (by rw [eL]; exact e3)) (fun r' i3 e3 => hO r' i3 (by rw [eL]; exact e3))
    · have ho : ¬ (tT B n).1 r.1 = jTok false := by omega
      exact hO r i' (by unfold pJump; rw [if_neg ho]) hfr hS
theorem md_both {B : Nat → Int} {n : Nat} (hC : CT B n) {x : Int} {p : Sub} {D : Nat} (hp : SGt (tT B n) p) (hr2 : RdM B n X_X12_readPlain D x p) (hD : 4 ≤ D) : RdM B n X_X12_readBoth (D + 1) x (pJumps (tT B n) p false) := by
  intro w d P i l hd hm
  obtain ⟨d, rfl, hd1⟩ := d_pos hd
  have badL : ∀ i2, ¬ i2 99 18 = -1 → P i2 l → gV w d X_X12_readBoth P i2 l 5 [(0, vR (some 99)), (1, vI x)] [] := fun i2 hb hP => s_X12_readBoth_5 _ (md_takeB (by omega) hb ⟨fun _ => hP, fun z => absurd rfl z⟩)
  refine ⟨fun hb hP => e_X12_readBoth (s_X12_readBoth _ ((hr2 w d _ i l hd1 hm).1 hb (badL i hb hP))), fun k lv u hk hlv hu hS hF hO => ?_⟩
  refine e_X12_readBoth (s_X12_readBoth _ ((hr2 w d _ i l hd1 hm).2 k lv u hk hlv hu hS (fun q i' e f' a' => badL i' (po_bad a') (hF q i' (by unfold pJumps; rw [e]) f' a')) (fun r i' e f' m' => ?_)))
  have hpg := (hp k lv u r hk hlv hu e).1
  have eC : pJumps (tT B n) p false k lv u = pJump (tT B n) p false (nT B n + 1 - r.1) u r := by unfold pJumps; rw [e]; rfl
  exact mdjB hC hp hr2 hD hd1 hm hu (nT B n + 1 - r.1) r (Nat.le_refl _) hpg i' f' m' (fun q i3 e3 => hF q i3 (by rw [eC]; exact e3)) (fun r' i3 e3 => hO r' i3 (by rw [eC]; exact e3))
theorem mdjT {B : Nat → Int} {n : Nat} (hC : CT B n) {x : Int} {p : Sub} {D : Nat} (hp : SGt (tT B n) p) (hr2 : RdM B n X_X12_readBoth D x p) (hD : 4 ≤ D) {w : Wd} {d : Nat} {P : IM → LM → Prop} {i : IM} {l : LM} {k lv u : Nat} (hd : D ≤ d) (hm : MkT B n i) (hu : u ≤ k) : ∀ (f : Nat) (r : PD), nT B n + 1 - r.1 ≤ f → PG (tT B n) k lv u r → ∀ (i' : IM), mfr i i' → MSt r.1 r.2.1 i' → (∀ q i', pJump (tT B n) p true f u r = .inl q → mfr i i' → i' 99 18 = (poT B n q : Int) → P i' l) → (∀ r' i', pJump (tT B n) p true f u r = .inr r' → mfr i i' → MSt r'.1 r'.2.1 i' → P i' l) → gV w d X_X12_readTest P i' l 5 [(0, vR (some 99)), (1, vI x)] [] := by
  intro f
  induction f with
  | zero => intro r hf hr; have h1 : r.1 ≤ nT B n := hr.1.2; omega
  | succ f ih =>
    intro r hf hr i' hfr hS hF hO
    have hrn : r.1 ≤ nT B n := hr.1.2
    have hm' := MkT_f hfr hm
    have hu1 : u + r.2.2.2.1.length ≤ r.1 := by have := hr.2.2.1; have := hr.1.1; omega
    have hjt : jTok true = 6 := rfl
    refine s_X12_readTest_5 _ (md_take hC (by omega) (rg_lit rfl) hm' hS hrn (fun y i1 f1 m1 => ⟨fun z => absurd z (by decide), fun _ => ?_⟩) (fun y => ⟨fun _ => ?_, fun z => absurd rfl z⟩))
    · have ho : (tT B n).1 r.1 = jTok true := by omega
      have hk1 : r.1 < nT B n := tk_lt (tkOK_CT hC) hrn (by omega)
      refine (hr2 w d _ i1 l hd (MkT_f (mfr_tr hfr f1) hm)).2 (r.1 + 1) r.2.1 (u + r.2.2.2.1.length + 1) hk1 hr.2.1.2 (by omega) m1 (fun q i2 e f2 a2 => s_X12_readTest_5 _ (md_takeB (by omega) (po_bad a2) ⟨fun _ => hF q i2 ?_ (mfr_tr (mfr_tr hfr f1) f2) a2, fun z => absurd rfl z⟩)) (fun s i2 e f2 ms => ?_)
      · unfold pJump; rw [if_pos ho, e]
      · have hsg := (hp (r.1 + 1) r.2.1 (u + r.2.2.2.1.length + 1) s hk1 hr.2.1.2 (by omega) e).1
        have hs1 := hsg.1.1
        have hb := pg_jump (tkOK_CT hC) (b := true) hu hr hsg
        have eL : pJump (tT B n) p true (f + 1) u r = pJump (tT B n) p true f u (s.1, s.2.1, r.2.2.1 ||| s.2.2.1, r.2.2.2.1 ++ [jOrd true + 16 * ((u + r.2.2.2.1.length + 1 + s.2.2.2.1.length : Nat) : Int)] ++ s.2.2.2.1, mJump true r.2.2.2.2 s.2.2.2.2) := by
          rw [pJump, if_pos ho, e]
        exact ih (s.1, s.2.1, r.2.2.1 ||| s.2.2.1, r.2.2.2.1 ++ [jOrd true + 16 * ((u + r.2.2.2.1.length + 1 + s.2.2.2.1.length : Nat) : Int)] ++ s.2.2.2.1, mJump true r.2.2.2.2 s.2.2.2.2) (by show nT B n + 1 - s.1 ≤ f; omega) hb i2 (mfr_tr (mfr_tr hfr f1) f2) ms (fun q i3 e3 => hF q i3 (by rw [eL]; exact e3)) (fun r' i3 e3 => hO r' i3 (by rw [eL]; exact e3))
    · have ho : ¬ (tT B n).1 r.1 = jTok true := by omega
      exact hO r i' (by unfold pJump; rw [if_neg ho]) hfr hS
theorem md_tests {B : Nat → Int} {n : Nat} (hC : CT B n) {x : Int} {p : Sub} {D : Nat} (hp : SGt (tT B n) p) (hr2 : RdM B n X_X12_readBoth D x p) (hD : 4 ≤ D) : RdM B n X_X12_readTest (D + 1) x (pJumps (tT B n) p true) := by
  intro w d P i l hd hm
  obtain ⟨d, rfl, hd1⟩ := d_pos hd
  have badL : ∀ i2, ¬ i2 99 18 = -1 → P i2 l → gV w d X_X12_readTest P i2 l 5 [(0, vR (some 99)), (1, vI x)] [] := fun i2 hb hP => s_X12_readTest_5 _ (md_takeB (by omega) hb ⟨fun _ => hP, fun z => absurd rfl z⟩)
  refine ⟨fun hb hP => e_X12_readTest (s_X12_readTest _ ((hr2 w d _ i l hd1 hm).1 hb (badL i hb hP))), fun k lv u hk hlv hu hS hF hO => ?_⟩
  refine e_X12_readTest (s_X12_readTest _ ((hr2 w d _ i l hd1 hm).2 k lv u hk hlv hu hS (fun q i' e f' a' => badL i' (po_bad a') (hF q i' (by unfold pJumps; rw [e]) f' a')) (fun r i' e f' m' => ?_)))
  have hpg := (hp k lv u r hk hlv hu e).1
  have eC : pJumps (tT B n) p true k lv u = pJump (tT B n) p true (nT B n + 1 - r.1) u r := by unfold pJumps; rw [e]; rfl
  exact mdjT hC hp hr2 hD hd1 hm hu (nT B n + 1 - r.1) r (Nat.le_refl _) hpg i' f' m' (fun q i3 e3 => hF q i3 (by rw [eC]; exact e3)) (fun r' i3 e3 => hO r' i3 (by rw [eC]; exact e3))
theorem md_test {B : Nat → Int} {n : Nat} (hC : CT B n) : ∀ (q : Nat), q ≤ 8 → RdM B n X_X12_readTest (3 * q + 9) (8 - (q : Int)) (pTest (tT B n) q)
  | 0, _ => by
    have hok := tkOK_CT hC
    have h1 : SGt (tT B n) (pPlain (tT B n) 0 none) := sg_plain hok (fun s e => by cases e)
    have h2 := md_plain hC (x := 8 - ((0 : Nat) : Int)) (q := 0) (inner := none) (D := 7) (D' := 0) rfl (by omega) ⟨fun _ => by omega, fun _ => rfl⟩ (fun s e => by cases e) (by omega) (fun e => absurd rfl e)
    exact md_tests hC (sg_jumps hok h1) (md_both hC h1 h2 (by omega)) (by omega)
  | q + 1, hq => by
    have hok := tkOK_CT hC
    have ih := md_test hC q (by omega)
    have hs := sg_test hok q
    have h1 : SGt (tT B n) (pPlain (tT B n) (q + 1) (some (pTest (tT B n) q))) := sg_plain hok (fun s e => by cases e; exact hs)
    have h2 := md_plain hC (x := 8 - ((q + 1 : Nat) : Int)) (q := q + 1) (inner := some (pTest (tT B n) q)) (D := 3 * q + 10) (D' := 3 * q + 9) rfl hq ⟨fun e => (by cases e), fun e => by omega⟩ (fun s e => by
      cases e
      refine ⟨hs, ?_⟩
      rw [show 8 - ((q + 1 : Nat) : Int) + 1 = 8 - (q : Int) by omega]
      exact ih) (by omega) (fun _ => by omega)
    exact md_tests hC (sg_jumps hok h1) (md_both hC h1 h2 (by omega)) (by omega)
/-- what the head of a CLAUSE leaves -/
theorem pHead_ok {t : Tk} (ht : tkOK t) {k lv u : Nat} {r : PD} (hk : k ≤ t.2.2) (hlv : lv ≤ 50) (hu : u ≤ k) (h : pHead t k lv u = .inr r) : (1 ≤ t.1 k ∧ t.1 k ≤ 4) ∧ k < r.1 ∧ r.1 ≤ t.2.2 ∧ r.2.1 ≤ 50 ∧ u + r.2.2.2.1.length + 1 ≤ r.1 ∧ r.2.2.1 < 512 ∧ ((t.1 k = 1 ∨ t.1 k = 2) → pSum t 8 (k + 1) lv u = .inr r) ∧ ((t.1 k = 3 ∨ t.1 k = 4) → r = (k + 1, lv, 0, [], fun _ => some 1)) := by
  unfold pHead at h
  split at h
  · next hc =>
    have hk1 := tk_lt ht hk (by omega)
    have g := sg_sum ht 8 (k + 1) lv u r hk1 hlv (by omega) h
    have g3 := g.2.2.1
    have g1 := g.1.1
    exact ⟨by omega, by omega, g.1.2, g.2.1.2, by omega, g.2.2.2.2.2, fun _ => h, fun z => by omega⟩
  · split at h
    · next hc =>
      have hk1 := tk_lt ht hk (by omega)
      cases h
      exact ⟨by omega, by show k < k + 1; omega, hk1, hlv, by show u + 0 + 1 ≤ k + 1; omega, by show 0 < 512; omega, fun z => by omega, fun _ => rfl⟩
    · cases h
theorem md_clause {B : Nat → Int} {n : Nat} (hC : CT B n) {w : Wd} {d : Nat} {P : IM → LM → Prop} {i : IM} {l : LM} (hd : 40 ≤ d) (hm : MkT B n i) {k lv u : Nat} (hk : k ≤ nT B n) (hlv : lv ≤ 50) (hu : u ≤ k) (hS : MSt k lv i) (hF : ∀ q i', pClause (tT B n) k lv u = .inl q → mfr i i' → i' 99 18 = (poT B n q : Int) → P i' l) (hO : ∀ r i', pClause (tT B n) k lv u = .inr r → mfr i i' → MSt r.1 r.2.1 i' → P i' l) : cVd w d X_X12_readClause [vR (some 99)] i l P := by
  obtain ⟨d, rfl, hd1⟩ := d_pos hd
  have hok := tkOK_CT hC
  have hsum : RdM B n X_X12_readSum 30 0 (pSum (tT B n) 8) := md_sum hC 8 (Nat.le_refl _)
  have htest : RdM B n X_X12_readTest 33 0 (pTest (tT B n) 8) := md_test hC 8 (Nat.le_refl _)
  have tailB : ∀ q i1, pClause (tT B n) k lv u = .inl q → mfr i i1 → i1 99 18 = (poT B n q : Int) → cI w d X_X12_takes0 [vR (some 99), vI 5] i1 l (fun r5 i5 l5 => (((r5 = 0) → P i5 l5) ∧ ((¬ (r5 = 0)) → cVd w d X_X12_readTest [vR (some 99), vI 0] i5 l5 (fun i8 l8 => P i8 l8)))) := fun q i1 e f1 a1 => md_takeB (by omega) (po_bad a1) ⟨fun _ => hF q i1 e f1 a1, fun z => absurd rfl z⟩
  have tail : ∀ r i1, pHead (tT B n) k lv u = .inr r → mfr i i1 → MSt r.1 r.2.1 i1 → cI w d X_X12_takes0 [vR (some 99), vI 5] i1 l (fun r5 i5 l5 => (((r5 = 0) → P i5 l5) ∧ ((¬ (r5 = 0)) → cVd w d X_X12_readTest [vR (some 99), vI 0] i5 l5 (fun i8 l8 => P i8 l8)))) := fun r i1 e f1 m1 => by
    obtain ⟨h1, h2, h3, h4, h5, -⟩ := pHead_ok hok hk hlv hu e
    have h3' : r.1 ≤ nT B n := h3
    refine md_take hC (by omega) (rg_lit rfl) (MkT_f f1 hm) m1 h3' (fun c i2 f2 ms => ⟨fun z => absurd z (by decide), fun _ => ?_⟩) (fun c => ⟨fun _ => ?_, fun z => absurd rfl z⟩)
    · have hk1 : r.1 < nT B n := tk_lt hok h3 (by omega)
      refine (htest w d _ i2 l (by omega) (MkT_f (mfr_tr f1 f2) hm)).2 (r.1 + 1) r.2.1 (u + r.2.2.2.1.length) hk1 h4 (by omega) ms (fun q i3 e3 f3 a3 => hF q i3 ?_ (mfr_tr (mfr_tr f1 f2) f3) a3) (fun s i3 e3 f3 ms3 => hO (s.1, s.2.1, ((tT B n).1 k - 1).toNat, r.2.2.1 ||| s.2.2.1, r.2.2.2.1, s.2.2.2.1, r.2.2.2.2, s.2.2.2.2) i3 ?_ (mfr_tr (mfr_tr f1 f2) f3) ms3)
      · unfold pClause; rw [e]; simp only [if_pos c, e3]
      · unfold pClause; rw [e]; simp only [if_pos c, e3]
    · refine hO (r.1, r.2.1, ((tT B n).1 k - 1).toNat, r.2.2.1, r.2.2.2.1, [], r.2.2.2.2, fun _ => some 1) i1 ?_ f1 m1
      unfold pClause; rw [e]; simp only [if_neg c]
  have sums : ((tT B n).1 k = 1 ∨ (tT B n).1 k = 2) → ∀ i1, mfr i i1 → MSt (k + 1) lv i1 → cVd w d X_X12_readSum [vR (some 99), vI 0] i1 l (fun i32 l32 => cI w d X_X12_takes0 [vR (some 99), vI 5] i32 l32 (fun r5 i5 l5 => (((r5 = 0) → P i5 l5) ∧ ((¬ (r5 = 0)) → cVd w d X_X12_readTest [vR (some 99), vI 0] i5 l5 (fun i8 l8 => P i8 l8))))) := fun hc i1 f1 m1 => by
    have hk1 : k < nT B n := tk_lt hok hk (by omega)
    have eH : pHead (tT B n) k lv u = pSum (tT B n) 8 (k + 1) lv u := by unfold pHead; rw [if_pos hc]
    refine (hsum w d _ i1 l (by omega) (MkT_f f1 hm)).2 (k + 1) lv u hk1 hlv (by omega) m1 (fun q i2 e f2 a2 => tailB q i2 ?_ (mfr_tr f1 f2) a2) (fun r i2 e f2 ms => tail r i2 (by rw [eH]; exact e) (mfr_tr f1 f2) ms)
    unfold pClause; rw [eH, e]
  have free : ((tT B n).1 k = 3 ∨ (tT B n).1 k = 4) → pHead (tT B n) k lv u = .inr (k + 1, lv, 0, [], fun _ => some 1) := fun hc => by
    unfold pHead; rw [if_neg (by omega), if_pos hc]
  refine e_X12_readClause (s_X12_readClause ?_)
  refine md_take hC (by omega) (rg_lit rfl) hm hS hk (fun c i1 f1 m1 => ⟨fun z => absurd z (by decide), fun _ => sums (Or.inl c) i1 f1 m1⟩) (fun c1 => ⟨fun _ => ?_, fun z => absurd rfl z⟩)
  refine md_take hC (by omega) (rg_lit rfl) hm hS hk (fun c i1 f1 m1 => ⟨fun z => absurd z (by decide), fun _ => sums (Or.inr c) i1 f1 m1⟩) (fun c2 => ⟨fun _ => ?_, fun z => absurd rfl z⟩)
  refine md_take hC (by omega) (rg_lit rfl) hm hS hk (fun c i1 f1 m1 => ⟨fun z => absurd z (by decide), fun _ => tail _ i1 (free (Or.inl c)) f1 m1⟩) (fun c3 => ⟨fun _ => ?_, fun z => absurd rfl z⟩)
  refine md_must hC (by omega) (rg_lit rfl) hm hS hk (fun c i1 f1 m1 => tail _ i1 (free (Or.inr c)) f1 m1) (fun c4 i1 f1 a1 => tailB k i1 ?_ f1 a1)
  have eH : pHead (tT B n) k lv u = .inl k := by unfold pHead; rw [if_neg (by omega), if_neg (by omega)]
  unfold pClause; rw [eH]
end
