/-! THE MODEL READS: the whole TEXT -/
section
def MdQ (B : Nat → Int) (n : Nat) (w : Wd) (d : Nat) (P : Int → IM → LM → Prop) (i : IM) (l : LM) (f : Nat) : Prop := ∀ (k lv u : Nat) (i' : IM), k ≤ nT B n → lv ≤ 50 → u ≤ k → mfr i i' → MSt k lv i' → (∀ q i2, pLaw (tT B n) (f + 1) k lv u = .inl q → mfr i i2 → P 0 (u2 i2 99 11 (poT B n q : Int)) l) → (∀ cs i2, pLaw (tT B n) (f + 1) k lv u = .inr cs → mfr i i2 → P 1 (u2 i2 99 11 (-1)) l) → cVd w d X_X12_readClause [vR (some 99)] i' l (fun i3 l3 => gI w d X_X12_reads P i3 l3 34 [(0, vR (some 99)), (1, vI (12 - (f : Int)))] [])
theorem pLaw_s {t : Tk} {f k lv u : Nat} : pLaw t (f + 1) k lv u = match pClause t k lv u with
    | .inl q => .inl q
    | .inr r => if r.1 = t.2.2 then .inr [r.2.2] else if t.1 r.1 = 159 then match pLaw t f (r.1 + 1) r.2.1 (u + claLen r.2.2) with
        | .inl q => .inl q
        | .inr cs => .inr (r.2.2 :: cs)
      else .inl r.1 := rfl
theorem md_end {B : Nat → Int} {n : Nat} {w : Wd} {d : Nat} {P : Int → IM → LM → Prop} {l : LM} (hd : 4 ≤ d) {i2 : IM} {q : Nat} {x1 : Int} (a2 : i2 99 18 = (poT B n q : Int)) (hP : P 0 (u2 i2 99 11 (poT B n q : Int)) l) : gI w d X_X12_reads P i2 l 34 [(0, vR (some 99)), (1, vI x1)] [] := by
  have hb := po_bad a2
  refine s_X12_reads_34 _ (by omega) (md_takeB (by omega) hb ⟨fun z => absurd rfl z, fun _ => ?_, fun z => absurd z.2.1 hb, fun z => absurd rfl z.1, fun z => absurd rfl z.1⟩)
  rw [bI_f (by rw [u2_at, if_neg (by decide)]; exact hb), a2]
  exact hP
theorem md_lawS {B : Nat → Int} {n : Nat} (hC : CT B n) {w : Wd} {d : Nat} {P : Int → IM → LM → Prop} {i : IM} {l : LM} (hd : 40 ≤ d) (hm : MkT B n i) {f : Nat} (hf : f + 1 ≤ 12) (ih : ∀ f', f = f' + 1 → MdQ B n w d P i l f') : MdQ B n w d P i l f := by
  intro k lv u i' hk hlv hu hfr hS hF hO
  have hok := tkOK_CT hC
  have hn := nT_le B n
  have h400 := hC.1
  refine md_clause hC hd (MkT_f hfr hm) hk hlv hu hS (fun q i1 e f1 a1 => md_end (by omega) a1 (hF q i1 ?_ (mfr_tr hfr f1))) (fun r i1 e f1 m1 => ?_)
  · rw [pLaw_s, e]
  have hcl := pClause_dep hok hk hlv hu e
  have hrn : r.1 ≤ nT B n := hcl.2.2.1
  have eT : (tT B n).2.2 = nT B n := rfl
  have hm1 := MkT_f (mfr_tr hfr f1) hm
  have e15 := hm1.1
  have e16 := m1.1
  refine s_X12_reads_34 _ (by omega) (md_take hC (by omega) (rg_lit rfl) hm1 m1 hrn (fun c i4 f4 m4 => ⟨fun _ => ⟨by omega, by omega⟩, fun z => absurd z.1 (by decide), fun z => absurd z.1 (by decide), fun z => ⟨fun _ => ?_, fun y => absurd m4.2.2 y⟩, fun z => ?_⟩) (fun c => ⟨fun z => absurd rfl z, fun z => ?_, fun z => ?_, fun z => absurd rfl z.1, fun z => absurd rfl z.1⟩))
  · have hk1 : r.1 < nT B n := tk_lt hok hrn (by omega)
    obtain ⟨f', rfl⟩ : ∃ f', f = f' + 1 := ⟨f - 1, by omega⟩
    have h := ih f' rfl (r.1 + 1) r.2.1 (u + claLen r.2.2) i4 hk1 hcl.2.2.2.1 (by have := hcl.2.2.2.2.1; omega) (mfr_tr (mfr_tr hfr f1) f4) m4 (fun q i5 e5 f5 => hF q i5 ?_ f5) (fun cs i5 e5 f5 => hO (r.2.2 :: cs) i5 ?_ f5)
    · rw [show 12 - ((f' + 1 : Nat) : Int) + 1 = 12 - (f' : Int) by omega]
      exact h
    · rw [pLaw_s, e]
      simp only
      rw [if_neg (by omega), if_pos c, e5]
    · rw [pLaw_s, e]
      simp only
      rw [if_neg (by omega), if_pos c, e5]
  · have hk1 : r.1 < nT B n := tk_lt hok hrn (by omega)
    have f0 : f = 0 := by omega
    subst f0
    refine md_faults hC (by omega) (MkT_f f4 hm1) m4 hk1 (fun i5 f5 a5 => ⟨fun y => absurd y (po_bad a5), fun _ => md_end (by omega) a5 (hF (r.1 + 1) i5 ?_ (mfr_tr (mfr_tr (mfr_tr hfr f1) f4) f5))⟩)
    rw [pLaw_s, e]
    simp only
    rw [if_neg (by omega), if_pos c]
    rfl
  · have hrT : r.1 = nT B n := by
      rcases z.2 with y | y
      · exact absurd m1.2.2 y
      · omega
    have e18 : (u2 i1 99 11 (i1 99 18)) 99 18 = -1 := by rw [u2_at, if_neg (by decide), m1.2.2]
    rw [bI_t e18, m1.2.2]
    refine hO [r.2.2] i1 ?_ (mfr_tr hfr f1)
    rw [pLaw_s, e]
    simp only
    rw [if_pos (by omega)]
  · refine md_faults hC (by omega) hm1 m1 hrn (fun i5 f5 a5 => ?_)
    have e18 : ¬ (u2 i5 99 11 (i5 99 18)) 99 18 = -1 := by rw [u2_at, if_neg (by decide)]; exact po_bad a5
    rw [bI_f e18, a5]
    refine hF r.1 i5 ?_ (mfr_tr (mfr_tr hfr f1) f5)
    rw [pLaw_s, e]
    simp only
    rw [if_neg (by omega), if_neg c]
theorem md_law {B : Nat → Int} {n : Nat} (hC : CT B n) {w : Wd} {d : Nat} {P : Int → IM → LM → Prop} {i : IM} {l : LM} (hd : 40 ≤ d) (hm : MkT B n i) : ∀ f : Nat, f + 1 ≤ 12 → MdQ B n w d P i l f
  | 0, hf => md_lawS hC hd hm hf (fun f' e => by cases e)
  | f + 1, hf => md_lawS hC hd hm hf (fun f' e => by cases e; exact md_law hC hd hm f (by omega))
end
