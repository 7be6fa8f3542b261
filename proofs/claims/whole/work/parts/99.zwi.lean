/-! THE MODEL READS: parts, terms, sums -/
section
def mfr (i i' : IM) : Prop := ∀ (a : Nat) (x : Int), (a ≠ 99 ∨ (x ≠ 16 ∧ x ≠ 17 ∧ x ≠ 18)) → i' a x = i a x
theorem mfr_rf (i : IM) : mfr i i := fun _ _ _ => rfl
theorem mfr_tr {i j k : IM} (h1 : mfr i j) (h2 : mfr j k) : mfr i k := fun a x h => (h2 a x h).trans (h1 a x h)
theorem mfr_u {i i' : IM} (h : mfr i i') {x v : Int} (hx : x = 16 ∨ x = 17 ∨ x = 18) : mfr i (u2 i' 99 x v) := fun a y hy => by
  unfold u2
  rw [if_neg (by omega)]
  exact h a y hy
def MkT (B : Nat → Int) (n : Nat) (i : IM) : Prop := i 99 15 = (nT B n : Int) ∧ ∀ j : Nat, j ≤ nT B n → i 107 (j : Int) = (tT B n).1 j ∧ i 108 (j : Int) = (tT B n).2.1 j ∧ i 109 (j : Int) = (poT B n j : Int)
theorem MkT_f {B : Nat → Int} {n : Nat} {i i' : IM} (h : mfr i i') (hm : MkT B n i) : MkT B n i' := ⟨by rw [h 99 15 (by omega)]; exact hm.1, fun j hj => by rw [h 107 _ (Or.inl (by decide)), h 108 _ (Or.inl (by decide)), h 109 _ (Or.inl (by decide))]; exact hm.2 j hj⟩
def MSt (k lv : Nat) (i : IM) : Prop := i 99 16 = (k : Int) ∧ i 99 17 = (lv : Int) ∧ i 99 18 = -1
section
variable {w : Wd} {d : Nat} {i : IM} {l : LM} {B : Nat → Int} {n : Nat}
theorem md_takeB {P : Int → IM → LM → Prop} (hd : 2 ≤ d) {c : Int} (hb : ¬ i 99 18 = -1) (hP : P 0 i l) : cI w d X_X12_takes0 [vR (some 99), vI c] i l P := by
  obtain ⟨d, rfl, hd1⟩ := d_pos hd
  refine e_X12_takes0 (s_X12_takes0 _ hd1 ⟨fun z => absurd z hb, fun z => absurd z hb, fun z => absurd z.1 hb, fun z => ?_⟩)
  rw [bI_f z]; exact hP
theorem md_take {P : Int → IM → LM → Prop} (hC : CT B n) (hd : 2 ≤ d) {c : Int} (hc : rg c) (hm : MkT B n i) {k lv : Nat} (hS : MSt k lv i) (hk : k ≤ nT B n) (k1 : (tT B n).1 k = c → ∀ i', mfr i i' → MSt (k + 1) lv i' → P 1 i' l) (k0 : ¬ (tT B n).1 k = c → P 0 i l) : cI w d X_X12_takes0 [vR (some 99), vI c] i l P := by
  obtain ⟨d, rfl, hd1⟩ := d_pos hd
  have hn := nT_le B n
  have h400 := hC.1
  have e16 := hS.1
  have e : i 107 (i 99 16) = (tT B n).1 k := by rw [e16]; exact (hm.2 k hk).1
  refine e_X12_takes0 (s_X12_takes0 _ hd1 ⟨fun _ => ⟨by omega, by omega⟩, fun _ => hc, fun z => ⟨⟨by omega, by omega⟩, ?_⟩, fun z => ?_⟩)
  · rw [bI_t z]
    exact k1 (by rw [← e]; exact z.2) _ (mfr_u (mfr_rf i) (by omega)) ⟨by rw [u2_self, e16]; omega, by rw [u2_at, if_neg (by decide), hS.2.1], by rw [u2_at, if_neg (by decide), hS.2.2]⟩
  · rw [bI_f z]
    exact k0 (fun y => z ⟨hS.2.2, by rw [e]; exact y⟩)
theorem md_faultsB {P : IM → LM → Prop} (hd : 2 ≤ d) (hb : ¬ i 99 18 = -1) (hP : P i l) : cVd w d X_X12_faults [vR (some 99)] i l P := by
  obtain ⟨d, rfl, hd1⟩ := d_pos hd
  exact e_X12_faults (s_X12_faults hd1 ⟨fun z => absurd z hb, fun _ => hP⟩)
theorem md_faults0 {P : IM → LM → Prop} (hC : CT B n) (hd : 2 ≤ d) (hm : MkT B n i) {k lv : Nat} (hS : MSt k lv i) (hk : k ≤ nT B n) (hP : P (u2 i 99 18 (poT B n k : Int)) l) : cVd w d X_X12_faults [vR (some 99)] i l P := by
  obtain ⟨d, rfl, hd1⟩ := d_pos hd
  have hn := nT_le B n
  have h400 := hC.1
  have e16 := hS.1
  refine e_X12_faults (s_X12_faults hd1 ⟨fun _ => ⟨⟨by omega, by omega⟩, ?_⟩, fun z => absurd hS.2.2 z⟩)
  rw [e16, (hm.2 k hk).2.2]
  exact hP
theorem md_faults {P : IM → LM → Prop} (hC : CT B n) (hd : 2 ≤ d) (hm : MkT B n i) {k lv : Nat} (hS : MSt k lv i) (hk : k ≤ nT B n) (hP : ∀ i', mfr i i' → i' 99 18 = (poT B n k : Int) → P i' l) : cVd w d X_X12_faults [vR (some 99)] i l P := md_faults0 hC hd hm hS hk (hP _ (mfr_u (mfr_rf i) (by omega)) (u2_self ..))
theorem md_mustB {P : IM → LM → Prop} (hd : 3 ≤ d) {c : Int} (hb : ¬ i 99 18 = -1) (hP : P i l) : cVd w d X_X12_must [vR (some 99), vI c] i l P := by
  obtain ⟨d, rfl, hd1⟩ := d_pos hd
  exact e_X12_must (s_X12_must _ (md_takeB hd1 hb ⟨fun _ => md_faultsB hd1 hb hP, fun z => absurd rfl z⟩))
theorem md_must {P : IM → LM → Prop} (hC : CT B n) (hd : 3 ≤ d) {c : Int} (hc : rg c) (hm : MkT B n i) {k lv : Nat} (hS : MSt k lv i) (hk : k ≤ nT B n) (k1 : (tT B n).1 k = c → ∀ i', mfr i i' → MSt (k + 1) lv i' → P i' l) (k0 : ¬ (tT B n).1 k = c → ∀ i', mfr i i' → i' 99 18 = (poT B n k : Int) → P i' l) : cVd w d X_X12_must [vR (some 99), vI c] i l P := by
  obtain ⟨d, rfl, hd1⟩ := d_pos hd
  exact e_X12_must (s_X12_must _ (md_take hC hd1 hc hm hS hk (fun y i' f' m' => ⟨fun z => absurd z (by decide), fun _ => k1 y i' f' m'⟩) (fun y => ⟨fun _ => md_faults hC hd1 hm hS hk (k0 y), fun z => absurd rfl z⟩)))
theorem md_leaf {P : IM → LM → Prop} (hC : CT B n) (hd : 3 ≤ d) (hm : MkT B n i) {k lv : Nat} (hS : MSt k lv i) (hk : k ≤ nT B n) (hlv : lv ≤ 50) (k1 : ¬ lv = 50 → ∀ i', mfr i i' → MSt (k + 1) (lv + 1) i' → P i' l) (k0 : lv = 50 → ∀ i', mfr i i' → i' 99 18 = (poT B n k : Int) → P i' l) : cVd w d X_X12_leaf [vR (some 99)] i l P := by
  obtain ⟨d, rfl, hd1⟩ := d_pos hd
  have hn := nT_le B n
  have h400 := hC.1
  have e16 := hS.1
  have e17 := hS.2.1
  refine e_X12_leaf (s_X12_leaf ⟨fun z => ?_, fun z => ?_⟩)
  · refine md_faults0 hC hd1 hm hS hk ?_
    have e18 : (u2 (u2 i 99 18 (poT B n k : Int)) 99 17 ((u2 i 99 18 (poT B n k : Int)) 99 17 + 1)) 99 18 = (poT B n k : Int) := by rw [u2_at, if_neg (by decide), u2_self]
    refine s_X12_leaf_13 (by omega) ⟨?_, fun y => ?_, fun y => ?_⟩
    · rw [u2_at, if_neg (by decide), e17]; exact ⟨by omega, by omega⟩
    · rw [e18] at y; omega
    · exact k0 (by omega) _ (mfr_u (mfr_u (mfr_rf i) (by omega)) (by omega)) e18
  · refine s_X12_leaf_13 (by omega) ⟨⟨by omega, by omega⟩, fun y => ⟨?_, ?_⟩, fun y => ?_⟩
    · rw [u2_at, if_neg (by decide), e16]; exact ⟨by omega, by omega⟩
    · refine k1 (by omega) _ (mfr_u (mfr_u (mfr_rf i) (by omega)) (by omega)) ⟨?_, ?_, ?_⟩
      · rw [u2_self, u2_at, if_neg (by decide), e16]; omega
      · rw [u2_at, if_neg (by decide), u2_self, e17]; omega
      · rw [u2_at, if_neg (by decide), u2_at, if_neg (by decide), hS.2.2]
    · refine absurd ?_ y
      rw [u2_at, if_neg (by decide), hS.2.2]
end
def RdM (B : Nat → Int) (n : Nat) (X : MI) (D : Nat) (x : Int) (p : Sub) : Prop := ∀ (w : Wd) (d : Nat) (P : IM → LM → Prop) (i : IM) (l : LM), D ≤ d → MkT B n i → (¬ i 99 18 = -1 → P i l → cVd w d X [vR (some 99), vI x] i l P) ∧ (∀ k lv u, k ≤ nT B n → lv ≤ 50 → u ≤ k → MSt k lv i → (∀ q i', p k lv u = .inl q → mfr i i' → i' 99 18 = (poT B n q : Int) → P i' l) → (∀ r i', p k lv u = .inr r → mfr i i' → MSt r.1 r.2.1 i' → P i' l) → cVd w d X [vR (some 99), vI x] i l P)
theorem po_bad {B : Nat → Int} {n q : Nat} {i : IM} (h : i 99 18 = (poT B n q : Int)) : ¬ i 99 18 = -1 := by omega
theorem MSt_go {i : IM} {k lv : Nat} (h : MSt k lv i) : MSt (k + 1) lv (u2 i 99 16 ((i 99 16) + 1)) := ⟨by rw [u2_self, h.1]; omega, by rw [u2_at, if_neg (by decide), h.2.1], by rw [u2_at, if_neg (by decide), h.2.2]⟩
theorem md_part {B : Nat → Int} {n : Nat} (hC : CT B n) {x : Int} {inner : Option Sub} {D D' : Nat} (hx : 0 ≤ x ∧ x ≤ 8) (hin : inner = none ↔ x = 8) (hi : ∀ s, inner = some s → SG (tT B n) s ∧ RdM B n X_X12_readSum D' (x + 1) s) (hD : 4 ≤ D) (hD' : inner ≠ none → D' + 1 ≤ D) : RdM B n X_X12_readPart D x (pPart (tT B n) inner) := by
  intro w d P i l hd hm
  obtain ⟨d, rfl, hd1⟩ := d_pos (Nat.le_trans hD hd)
  refine ⟨fun hb hP => e_X12_readPart (s_X12_readPart _ (by omega) ⟨fun z => absurd z hb, fun _ => hP⟩), fun k lv u hk hlv hu hS hF hO => ?_⟩
  have hn := nT_le B n
  have h400 := hC.1
  have e16 := hS.1
  have e7 : i 107 (i 99 16) = (tT B n).1 k := by rw [e16]; exact (hm.2 k hk).1
  have e8 : i 108 (i 99 16) = (tT B n).2.1 k := by rw [e16]; exact (hm.2 k hk).2.1
  have eP : ¬ (tT B n).1 k = 191 → pPart (tT B n) inner k lv u = if lv = 50 then .inl k else if (tT B n).1 k = 50 ∧ (tT B n).2.1 k ≤ 1000 then .inr (k + 1, lv + 1, 0, [16 * (tT B n).2.1 k], fun _ => some ((tT B n).2.1 k)) else if 9 ≤ (tT B n).1 k ∧ (tT B n).1 k ≤ 17 then .inr (k + 1, lv + 1, 2 ^ ((tT B n).1 k - 9).toNat, [1 + 16 * ((tT B n).1 k - 9)], fun e => some (e ((tT B n).1 k - 9).toNat)) else .inl k := fun hc => by
    unfold pPart; rw [if_neg hc]
  refine e_X12_readPart (s_X12_readPart _ (by omega) ⟨fun _ => ⟨⟨by omega, by omega⟩, fun _ _ => ⟨by omega, by omega⟩, fun _ => ⟨by omega, by omega⟩, fun z => ⟨fun y => ?_, fun y => ?_⟩, fun z => ?_, fun z => ?_, fun z => ?_⟩, fun z => absurd hS.2.2 z⟩)
  · rw [e7, e8] at z
    rw [e7] at y
    refine md_faults hC (by omega) hm hS hk (fun i' f' e' => hF k i' ?_ f' e')
    rw [eP z.1]
    by_cases c : lv = 50
    · rw [if_pos c]
    · rw [if_neg c, if_neg (by omega), if_neg (by omega)]
  · rw [e7, e8] at z
    rw [e7] at y
    refine md_leaf hC hd1 hm hS hk hlv (fun c i' f' m' => hO (k + 1, lv + 1, 2 ^ ((tT B n).1 k - 9).toNat, [1 + 16 * ((tT B n).1 k - 9)], fun e => some (e ((tT B n).1 k - 9).toNat)) i' ?_ f' m') (fun c i' f' e' => hF k i' (by rw [eP z.1, if_pos c]) f' e')
    rw [eP z.1, if_neg c, if_neg (by omega), if_pos (by omega)]
  · rw [e7, e8] at z
    refine md_leaf hC hd1 hm hS hk hlv (fun c i' f' m' => hO (k + 1, lv + 1, 0, [16 * (tT B n).2.1 k], fun _ => some ((tT B n).2.1 k)) i' ?_ f' m') (fun c i' f' e' => hF k i' (by rw [eP z.1, if_pos c]) f' e')
    rw [eP z.1, if_neg c, if_pos z.2]
  · rw [e7] at z
    have hk1 : k < nT B n := tk_lt (tkOK_CT hC) hk (by omega)
    cases inner with
    | none => exact absurd (hin.mp rfl) z.2
    | some s =>
      obtain ⟨g1, g2⟩ := hi s rfl
      have hmd := hD' (fun e => by cases e)
      have eQ : pPart (tT B n) (some s) k lv u = match s (k + 1) lv u with
        | .inl q => .inl q
        | .inr r => if (tT B n).1 r.1 = 193 then .inr (r.1 + 1, r.2) else .inl r.1 := by
        unfold pPart; rw [if_pos z.1]; rfl
      refine s_X12_readPart_37 _ (by omega) ⟨fun _ => ⟨⟨by omega, by omega⟩, ?_⟩, fun y => absurd hS.2.2 y⟩
      have f1 : mfr i (u2 i 99 16 ((i 99 16) + 1)) := mfr_u (mfr_rf i) (by omega)
      refine (g2 w d _ _ l (by omega) (MkT_f f1 hm)).2 (k + 1) lv u hk1 hlv (by omega) (MSt_go hS) (fun q i' e f' a' => ?_) (fun r i' e f' m' => ?_)
      · exact md_mustB hd1 (po_bad a') (hF q i' (by rw [eQ, e]) (mfr_tr f1 f') a')
      · have gp := g1 (k + 1) lv u r hk1 hlv (by omega) e
        have hrn : r.1 ≤ nT B n := gp.1.2
        refine md_must hC hd1 (rg_lit rfl) (MkT_f (mfr_tr f1 f') hm) m' hrn (fun y i2 f2 m2 => hO (r.1 + 1, r.2) i2 ?_ (mfr_tr (mfr_tr f1 f') f2) m2) (fun y i2 f2 e2 => hF r.1 i2 ?_ (mfr_tr (mfr_tr f1 f') f2) e2)
        · rw [eQ, e]; exact if_pos y
        · rw [eQ, e]; exact if_neg y
  · rw [e7] at z
    have hnone := hin.mpr z.2
    subst hnone
    refine md_faults hC (by omega) hm hS hk (fun i' f' e' => ?_)
    exact s_X12_readPart_37 _ (by omega) ⟨fun y => absurd y (po_bad e'), fun _ => hF k i' (by unfold pPart; rw [if_pos z.1]) f' e'⟩
theorem mdlT {B : Nat → Int} {n : Nat} (hC : CT B n) {x : Int} {p : Sub} {D : Nat} (hp : SG (tT B n) p) (hr2 : RdM B n X_X12_readPart D x p) (hD : 4 ≤ D) {w : Wd} {d : Nat} {P : IM → LM → Prop} {i : IM} {l : LM} {k lv u : Nat} (hd : D ≤ d) (hm : MkT B n i) (hu : u ≤ k) : ∀ (f : Nat) (r : PD), nT B n + 1 - r.1 ≤ f → PG (tT B n) k lv u r → ∀ (i' : IM), mfr i i' → MSt r.1 r.2.1 i' → (∀ q i', pLoop (tT B n) p opT f u r = .inl q → mfr i i' → i' 99 18 = (poT B n q : Int) → P i' l) → (∀ r' i', pLoop (tT B n) p opT f u r = .inr r' → mfr i i' → MSt r'.1 r'.2.1 i' → P i' l) → gV w d X_X12_readTerm P i' l 5 [(0, vR (some 99)), (1, vI x)] [] := by
  have badL : ∀ i2, ¬ i2 99 18 = -1 → P i2 l → gV w d X_X12_readTerm P i2 l 5 [(0, vR (some 99)), (1, vI x)] [] := fun i2 hb hP => s_X12_readTerm_5 _ (by omega) (md_takeB (by omega) hb ⟨fun _ => md_takeB (by omega) hb ⟨fun _ => hP, fun z => absurd rfl z⟩, fun z => absurd rfl z⟩)
  intro f
  induction f with
  | zero => intro r hf hr; have h1 : r.1 ≤ nT B n := hr.1.2; omega
  | succ f ih =>
    intro r hf hr i' hfr hS hF hO
    have hrn : r.1 ≤ nT B n := hr.1.2
    have hm' := MkT_f hfr hm
    have hu1 : u + r.2.2.2.1.length ≤ r.1 := by have := hr.2.2.1; have := hr.1.1; omega
    cases ho : opT ((tT B n).1 r.1) with
    | none =>
      have hno : ¬ ((tT B n).1 r.1 = 142 ∨ (tT B n).1 r.1 = 147) := by
        unfold opT at ho
        split at ho
        · cases ho
        · split at ho
          · cases ho
          · omega
      have eL : pLoop (tT B n) p opT (f + 1) u r = .inr r := by unfold pLoop; rw [ho]
      exact s_X12_readTerm_5 _ (by omega) (md_take hC (by omega) (rg_lit rfl) hm' hS hrn (fun y => absurd (Or.inl y) hno) (fun _ => ⟨fun _ => md_take hC (by omega) (rg_lit rfl) hm' hS hrn (fun y => absurd (Or.inr y) hno) (fun _ => ⟨fun _ => hO r i' eL hfr hS, fun z => absurd rfl z⟩), fun z => absurd rfl z⟩))
    | some o =>
      have ho2 : (tT B n).1 r.1 = 142 ∨ (tT B n).1 r.1 = 147 := by
        unfold opT at ho
        split at ho
        · exact Or.inl (by assumption)
        · split at ho
          · exact Or.inr (by assumption)
          · cases ho
      obtain ⟨hc, mo, hmo, hok⟩ := opT_ok ho
      have hk1 : r.1 < nT B n := tk_lt (tkOK_CT hC) hrn hc
      have cont : ∀ i1, mfr i i1 → MSt (r.1 + 1) r.2.1 i1 → cVd w d X_X12_readPart [vR (some 99), vI x] i1 l (fun i7 l7 => gV w d X_X12_readTerm P i7 l7 5 [(0, vR (some 99)), (1, vI x)] []) := fun i1 f1 m1 => by
        refine (hr2 w d _ i1 l hd (MkT_f f1 hm)).2 (r.1 + 1) r.2.1 (u + r.2.2.2.1.length) hk1 hr.2.1.2 (by omega) m1 (fun q i2 e f2 a2 => badL i2 (po_bad a2) (hF q i2 ?_ (mfr_tr f1 f2) a2)) (fun s i2 e f2 ms => ?_)
        · unfold pLoop; rw [ho]; simp only [e]
        · have hsg := hp (r.1 + 1) r.2.1 (u + r.2.2.2.1.length) s hk1 hr.2.1.2 (by omega) e
          have hs1 := hsg.1.1
          have hb := pg_bin hok hr hsg
          rw [← hmo] at hb
          have eL : pLoop (tT B n) p opT (f + 1) u r = pLoop (tT B n) p opT f u (s.1, s.2.1, r.2.2.1 ||| s.2.2.1, r.2.2.2.1 ++ s.2.2.2.1 ++ [o.1], m2 r.2.2.2.2 s.2.2.2.2 o.2) := by
            rw [pLoop, ho]; simp only [e]
          exact ih (s.1, s.2.1, r.2.2.1 ||| s.2.2.1, r.2.2.2.1 ++ s.2.2.2.1 ++ [o.1], m2 r.2.2.2.2 s.2.2.2.2 o.2) (by show nT B n + 1 - s.1 ≤ f; omega) hb i2 (mfr_tr f1 f2) ms (fun q i3 e3 => hF q i3 (by rw [eL]; exact e3)) (fun r' i3 e3 => hO r' i3 (by rw [eL]; exact e3))
      refine s_X12_readTerm_5 _ (by omega) (md_take hC (by omega) (rg_lit rfl) hm' hS hrn (fun _ i1 f1 m1 => ⟨fun z => absurd z (by decide), fun _ => cont i1 (mfr_tr hfr f1) m1⟩) (fun y => ⟨fun _ => ?_, fun z => absurd rfl z⟩))
      exact md_take hC (by omega) (rg_lit rfl) hm' hS hrn (fun _ i1 f1 m1 => ⟨fun z => absurd z (by decide), fun _ => cont i1 (mfr_tr hfr f1) m1⟩) (fun y2 => by omega)
theorem md_term {B : Nat → Int} {n : Nat} (hC : CT B n) {x : Int} {p : Sub} {D : Nat} (hp : SG (tT B n) p) (hr2 : RdM B n X_X12_readPart D x p) (hD : 4 ≤ D) : RdM B n X_X12_readTerm (D + 1) x (pChain (tT B n) p opT) := by
  intro w d P i l hd hm
  obtain ⟨d, rfl, hd1⟩ := d_pos hd
  have badL : ∀ i2, ¬ i2 99 18 = -1 → P i2 l → gV w d X_X12_readTerm P i2 l 5 [(0, vR (some 99)), (1, vI x)] [] := fun i2 hb hP => s_X12_readTerm_5 _ (by omega) (md_takeB (by omega) hb ⟨fun _ => md_takeB (by omega) hb ⟨fun _ => hP, fun z => absurd rfl z⟩, fun z => absurd rfl z⟩)
  refine ⟨fun hb hP => e_X12_readTerm (s_X12_readTerm _ ((hr2 w d _ i l hd1 hm).1 hb (badL i hb hP))), fun k lv u hk hlv hu hS hF hO => ?_⟩
  refine e_X12_readTerm (s_X12_readTerm _ ((hr2 w d _ i l hd1 hm).2 k lv u hk hlv hu hS (fun q i' e f' a' => badL i' (po_bad a') (hF q i' (by unfold pChain; rw [e]) f' a')) (fun r i' e f' m' => ?_)))
  have hpg := hp k lv u r hk hlv hu e
  have eC : pChain (tT B n) p opT k lv u = pLoop (tT B n) p opT (nT B n + 1 - r.1) u r := by unfold pChain; rw [e]; rfl
  exact mdlT hC hp hr2 hD hd1 hm hu (nT B n + 1 - r.1) r (Nat.le_refl _) hpg i' f' m' (fun q i3 e3 => hF q i3 (by rw [eC]; exact e3)) (fun r' i3 e3 => hO r' i3 (by rw [eC]; exact e3))
theorem mdlS {B : Nat → Int} {n : Nat} (hC : CT B n) {x : Int} {p : Sub} {D : Nat} (hp : SG (tT B n) p) (hr2 : RdM B n X_X12_readTerm D x p) (hD : 4 ≤ D) {w : Wd} {d : Nat} {P : IM → LM → Prop} {i : IM} {l : LM} {k lv u : Nat} (hd : D ≤ d) (hm : MkT B n i) (hu : u ≤ k) : ∀ (f : Nat) (r : PD), nT B n + 1 - r.1 ≤ f → PG (tT B n) k lv u r → ∀ (i' : IM), mfr i i' → MSt r.1 r.2.1 i' → (∀ q i', pLoop (tT B n) p opS f u r = .inl q → mfr i i' → i' 99 18 = (poT B n q : Int) → P i' l) → (∀ r' i', pLoop (tT B n) p opS f u r = .inr r' → mfr i i' → MSt r'.1 r'.2.1 i' → P i' l) → gV w d X_X12_readSum P i' l 5 [(0, vR (some 99)), (1, vI x)] [] := by
  have badL : ∀ i2, ¬ i2 99 18 = -1 → P i2 l → gV w d X_X12_readSum P i2 l 5 [(0, vR (some 99)), (1, vI x)] [] := fun i2 hb hP => s_X12_readSum_5 _ (by omega) (md_takeB (by omega) hb ⟨fun _ => md_takeB (by omega) hb ⟨fun _ => hP, fun z => absurd rfl z⟩, fun z => absurd rfl z⟩)
  intro f
  induction f with
  | zero => intro r hf hr; have h1 : r.1 ≤ nT B n := hr.1.2; omega
  | succ f ih =>
    intro r hf hr i' hfr hS hF hO
    have hrn : r.1 ≤ nT B n := hr.1.2
    have hm' := MkT_f hfr hm
    have hu1 : u + r.2.2.2.1.length ≤ r.1 := by have := hr.2.2.1; have := hr.1.1; omega
    cases ho : opS ((tT B n).1 r.1) with
    | none =>
      have hno : ¬ ((tT B n).1 r.1 = 143 ∨ (tT B n).1 r.1 = 145) := by
        unfold opS at ho
        split at ho
        · cases ho
        · split at ho
          · cases ho
          · omega
      have eL : pLoop (tT B n) p opS (f + 1) u r = .inr r := by unfold pLoop; rw [ho]
      exact s_X12_readSum_5 _ (by omega) (md_take hC (by omega) (rg_lit rfl) hm' hS hrn (fun y => absurd (Or.inl y) hno) (fun _ => ⟨fun _ => md_take hC (by omega) (rg_lit rfl) hm' hS hrn (fun y => absurd (Or.inr y) hno) (fun _ => ⟨fun _ => hO r i' eL hfr hS, fun z => absurd rfl z⟩), fun z => absurd rfl z⟩))
    | some o =>
      have ho2 : (tT B n).1 r.1 = 143 ∨ (tT B n).1 r.1 = 145 := by
        unfold opS at ho
        split at ho
        · exact Or.inl (by assumption)
        · split at ho
          · exact Or.inr (by assumption)
          · cases ho
      obtain ⟨hc, mo, hmo, hok⟩ := opS_ok ho
      have hk1 : r.1 < nT B n := tk_lt (tkOK_CT hC) hrn hc
      have cont : ∀ i1, mfr i i1 → MSt (r.1 + 1) r.2.1 i1 → cVd w d X_X12_readTerm [vR (some 99), vI x] i1 l (fun i7 l7 => gV w d X_X12_readSum P i7 l7 5 [(0, vR (some 99)), (1, vI x)] []) := fun i1 f1 m1 => by
        refine (hr2 w d _ i1 l hd (MkT_f f1 hm)).2 (r.1 + 1) r.2.1 (u + r.2.2.2.1.length) hk1 hr.2.1.2 (by omega) m1 (fun q i2 e f2 a2 => badL i2 (po_bad a2) (hF q i2 ?_ (mfr_tr f1 f2) a2)) (fun s i2 e f2 ms => ?_)
        · unfold pLoop; rw [ho]; simp only [e]
        · have hsg := hp (r.1 + 1) r.2.1 (u + r.2.2.2.1.length) s hk1 hr.2.1.2 (by omega) e
          have hs1 := hsg.1.1
          have hb := pg_bin hok hr hsg
          rw [← hmo] at hb
          have eL : pLoop (tT B n) p opS (f + 1) u r = pLoop (tT B n) p opS f u (s.1, s.2.1, r.2.2.1 ||| s.2.2.1, r.2.2.2.1 ++ s.2.2.2.1 ++ [o.1], m2 r.2.2.2.2 s.2.2.2.2 o.2) := by
            rw [pLoop, ho]; simp only [e]
          exact ih (s.1, s.2.1, r.2.2.1 ||| s.2.2.1, r.2.2.2.1 ++ s.2.2.2.1 ++ [o.1], m2 r.2.2.2.2 s.2.2.2.2 o.2) (by show nT B n + 1 - s.1 ≤ f; omega) hb i2 (mfr_tr f1 f2) ms (fun q i3 e3 => hF q i3 (by rw [eL]; exact e3)) (fun r' i3 e3 => hO r' i3 (by rw [eL]; exact e3))
      refine s_X12_readSum_5 _ (by omega) (md_take hC (by omega) (rg_lit rfl) hm' hS hrn (fun _ i1 f1 m1 => ⟨fun z => absurd z (by decide), fun _ => cont i1 (mfr_tr hfr f1) m1⟩) (fun y => ⟨fun _ => ?_, fun z => absurd rfl z⟩))
      exact md_take hC (by omega) (rg_lit rfl) hm' hS hrn (fun _ i1 f1 m1 => ⟨fun z => absurd z (by decide), fun _ => cont i1 (mfr_tr hfr f1) m1⟩) (fun y2 => by omega)
theorem md_sums {B : Nat → Int} {n : Nat} (hC : CT B n) {x : Int} {p : Sub} {D : Nat} (hp : SG (tT B n) p) (hr2 : RdM B n X_X12_readTerm D x p) (hD : 4 ≤ D) : RdM B n X_X12_readSum (D + 1) x (pChain (tT B n) p opS) := by
  intro w d P i l hd hm
  obtain ⟨d, rfl, hd1⟩ := d_pos hd
  have badL : ∀ i2, ¬ i2 99 18 = -1 → P i2 l → gV w d X_X12_readSum P i2 l 5 [(0, vR (some 99)), (1, vI x)] [] := fun i2 hb hP => s_X12_readSum_5 _ (by omega) (md_takeB (by omega) hb ⟨fun _ => md_takeB (by omega) hb ⟨fun _ => hP, fun z => absurd rfl z⟩, fun z => absurd rfl z⟩)
  refine ⟨fun hb hP => e_X12_readSum (s_X12_readSum _ ((hr2 w d _ i l hd1 hm).1 hb (badL i hb hP))), fun k lv u hk hlv hu hS hF hO => ?_⟩
  refine e_X12_readSum (s_X12_readSum _ ((hr2 w d _ i l hd1 hm).2 k lv u hk hlv hu hS (fun q i' e f' a' => badL i' (po_bad a') (hF q i' (by unfold pChain; rw [e]) f' a')) (fun r i' e f' m' => ?_)))
  have hpg := hp k lv u r hk hlv hu e
  have eC : pChain (tT B n) p opS k lv u = pLoop (tT B n) p opS (nT B n + 1 - r.1) u r := by unfold pChain; rw [e]; rfl
  exact mdlS hC hp hr2 hD hd1 hm hu (nT B n + 1 - r.1) r (Nat.le_refl _) hpg i' f' m' (fun q i3 e3 => hF q i3 (by rw [eC]; exact e3)) (fun r' i3 e3 => hO r' i3 (by rw [eC]; exact e3))
theorem md_sum {B : Nat → Int} {n : Nat} (hC : CT B n) : ∀ (q : Nat), q ≤ 8 → RdM B n X_X12_readSum (3 * q + 6) (8 - (q : Int)) (pSum (tT B n) q)
  | 0, _ => by
    have hok := tkOK_CT hC
    have h1 : SG (tT B n) (pPart (tT B n) none) := sg_part hok (fun s e => by cases e)
    have h2 := md_part hC (x := 8 - ((0 : Nat) : Int)) (inner := none) (D := 4) (D' := 0) (by omega) ⟨fun _ => by omega, fun _ => rfl⟩ (fun s e => by cases e) (by omega) (fun e => absurd rfl e)
    exact md_sums hC (sg_chain hok h1 (fun c o => opT_ok)) (md_term hC h1 h2 (by omega)) (by omega)
  | q + 1, hq => by
    have hok := tkOK_CT hC
    have ih := md_sum hC q (by omega)
    have hs := sg_sum hok q
    have h1 : SG (tT B n) (pPart (tT B n) (some (pSum (tT B n) q))) := sg_part hok (fun s e => by cases e; exact hs)
    have h2 := md_part hC (x := 8 - ((q + 1 : Nat) : Int)) (inner := some (pSum (tT B n) q)) (D := 3 * q + 7) (D' := 3 * q + 6) (by omega) ⟨fun e => (by cases e), fun e => by omega⟩ (fun s e => by
      cases e
      refine ⟨hs, ?_⟩
      rw [show 8 - ((q + 1 : Nat) : Int) + 1 = 8 - (q : Int) by omega]
      exact ih) (by omega) (fun _ => by omega)
    exact md_sums hC (sg_chain hok h1 (fun c o => opT_ok)) (md_term hC h1 h2 (by omega)) (by omega)
end
