/-! ONE CALL on both sides: take -/
section
variable {w : Wd} {d k : Nat} {i : IM} {l : LM}
abbrev BoD (w : Wd) (k d : Nat) (X Y : MI) (vs : List MV) (i : IM) (l : LM) : Prop := cI w d X (vR (some 6) :: vs) i l (fun v i1 l1 => cI w d Y (vR (some 99) :: vs) i1 l1 (fun v' i2 l2 => v' = v ∧ Inv w (k + 2) i2 l2))
theorem Inv_u {k : Nat} (h : Inv w k i l) : Inv w (k + 1) i l := by
  obtain ⟨A, hA⟩ := h
  exact Inv_up hA
theorem cChg_cg {i j : IM} {a : Nat} (h : i a = j a) : cChg i a = cChg j a := by
  funext x
  unfold cChg u2
  by_cases c : a = 7
  · subst c; rw [h]
  · simp only [c, false_and, if_false, h]
theorem cR6 (i : IM) (r ix : Int) : cRef i r ix 6 = upK (i 6) 18 r := u2_101 i 6 18 r
theorem cR36 (i : IM) (r ix : Int) : cRef i r ix 36 = upK (i 36) ix (i 36 ix + 1) := by
  unfold cRef
  rw [u2_101, u2_other _ _ _ (by decide)]
theorem cRo (i : IM) (r ix : Int) {a : Nat} (a1 : a ≠ 6) (a2 : a ≠ 36) : cRef i r ix a = i a := by
  unfold cRef; rw [u2_other _ _ _ a2, u2_other _ _ _ a1]
theorem cCo (i : IM) {a : Nat} (a1 : a ≠ 6) (a2 : a ≠ 7) : cChg i a = i a := by
  unfold cChg; rw [u2_other _ _ _ a1, u2_other _ _ _ a2]
theorem st_take (hd : 90 ≤ d) (hk : k ≤ 100000) (hI : Inv w k i l) {p0 : Int} (h0 : rg p0) : BoD w k d X_X11_take X_X12_take [vI p0] i l := by
  obtain ⟨A, hA⟩ := hI
  obtain ⟨d, rfl, hd1⟩ := d_pos (k := 89) hd
  have hx := TK_Cx hA.1
  obtain ⟨c1, c2, c3, c4, c5⟩ := hA.2.1.1
  have tw := hA.1.1
  have kp : KP (i 101) := hA.1.2.1
  have kO := kp.1
  have h307 := kO.1.1
  have fm := TK_fM hA.1
  have hc := chg_rg hA hk
  have ct := hA.2.2.2.2.1
  have e78 : i 7 8 = i 101 307 := tw.1.2.2.2.2.2.2.1
  refine e_X11_take (s_X11_take _ (by omega) ⟨h0, fun q => ?_, fun q => ?_⟩)
  · refine sp_X11_survey (by omega) hx c3 c4 c5 h0 (fun i1 l1 f pr pt md r => ⟨fun z => ?_, fun z => ?_⟩)
    · have e101 := f 101 (by omega)
      have rr := r.1
      rw [enX_K e101, z] at rr
      refine sp_X11_refuse (by omega) r3 (by rw [f 36 (by omega)]; exact ref_rg hA hk r3) ?_
      have J6 := cR6 i1 (-3) 2
      have J36 := cR36 i1 (-3) 2
      have Jo : ∀ a, a ≠ 6 → a ≠ 36 → cRef i1 (-3) 2 a = i1 a := fun a a1 a2 => cRo i1 _ _ a1 a2
      generalize cRef i1 (-3) 2 = J at J6 J36 Jo ⊢
      have j101 : J 101 = i 101 := by rw [Jo 101 (by decide) (by decide), e101]
      refine e_X12_take (s_X12_take _ (by omega) ⟨h0, fun _ => ?_, fun y => absurd q y⟩)
      refine sp_X12_paints (A := A) (by omega) (by rw [j101]; exact kO) (by rw [j101]; exact fm) (by rw [j101]; exact forceM_dep fm) (B := 8 + 2 * (k : Int)) (by omega) (by omega) (limB_eq (by rw [Jo 112 (by decide) (by decide), f 112 (by omega)]) (InA_lim hA)) h0 (Or.inl rfl) (by rw [j101]; exact PnC_eq (fun x _ => by rw [Jo 99 (by decide) (by decide), f 99 (by omega)]) (fun a x => by rw [Jo a (by omega) (by omega), f a (by omega)]) hA.2.1.2) (fun i2 pf b g32 g33 g34 he => ?_)
      rw [j101] at he
      have he' := he
      rw [enX_K j101] at he
      have a1 := he.1.1
      refine ⟨fun _ => ?_, fun y => absurd (by rw [a1, ← rr]) y⟩
      have o2 : ∀ a, (a < 99 ∨ (99 < a ∧ a < 110) ∨ 119 < a) → i2 a = J a := fun a x => ptf_c pf (by omega) (by omega)
      have h100 : i2 100 3 = i 36 2 := by rw [o2 100 (by omega), Jo 100 (by decide) (by decide), f 100 (by omega)]; exact ct.2.2.1.2.2.1.symm
      refine sp_X12_refuses (by omega) r3 (by show rg (i2 100 3 + 1); rw [h100]; exact ref_rg hA hk r3) ⟨rfl, ?_⟩
      have hpn : PnC i2 (inForce (i 101) A) := PnC_pt (i := J) pf g32 g33 g34 (by rw [j101]; exact he')
      have hw : ∀ iA : IM, iA = (fun a => if a = 6 then i1 6 else if a = 36 then i1 36 else i2 a) → Inv w (k + 2) (mRef i2 (-3)) l1 := by
        intro iA hiA
        have A6 : iA 6 = i1 6 := by rw [hiA]; rfl
        have A36 : iA 36 = i1 36 := by rw [hiA]; rfl
        have Ao : ∀ a, a ≠ 6 → a ≠ 36 → iA a = i2 a := fun a a1 a2 => by rw [hiA]; simp only [a1, a2, if_false]
        have hA' : Inv w (k + 1) iA l1 := by
          refine ro_pt hA f (CvC_prd pr) pt md (fun a x h1 h2 => ?_) (PnC_eq (fun x _ => by rw [Ao 99 (by decide) (by decide)]) (fun a x => Ao a (by omega) (by omega)) hpn) (limB_up (limB_eq (Ao 112 (by decide) (by decide)) b) (by omega))
          by_cases c6 : a = 6
          · subst c6; rw [A6]
          · by_cases c36 : a = 36
            · subst c36; rw [A36]
            · rw [Ao a c6 c36, pf a x h1 h2, Jo a c6 c36]
        obtain ⟨A', hA'⟩ := hA'
        have e : cRef iA (-3) 2 = i2 := by
          funext a
          by_cases c6 : a = 6
          · subst c6; rw [cR6, A6, o2 6 (by omega), J6]
          · by_cases c36 : a = 36
            · subst c36; rw [cR36, A36, o2 36 (by omega), J36]
            · rw [cRo _ _ _ c6 c36, Ao a c6 c36]
        have := Inv_ref hA' r3
        rw [e] at this
        exact this
      exact hw _ rfl
    · have e101 := f 101 (by omega)
      obtain ⟨n, hn⟩ := Int.eq_ofNat_of_zero_le h307.1
      have hn10 : n ≤ 10 := by omega
      have eN : (i 101 307).toNat = n := by omega
      have hv := enX_val i (inForce (i 101) A) p0 (-1)
      have hfst := (enX_first i (inForce (i 101) A) p0 (-1)).1
      unfold ptR at r
      rw [enX_K e101, e101, eN] at r
      rw [eN] at hfst
      generalize hE : enX i (inForce (i 101) A) p0 (-1) = E at r hv hfst
      have hpos : 0 < E.1.1 := Int.lt_iff_le_and_ne.mpr ⟨hv.1, fun e => z (by rw [r.1, ← e])⟩
      have hr := (r.2.2 hpos).2.1
      have hfs := hfst hpos
      have hcl : ∀ j : Nat, 0 ≤ (if j < n then mColour i (j : Int) ((E.1.2.1.2.2 j : Nat) : Int) else 0) ∧ (if j < n then mColour i (j : Int) ((E.1.2.1.2.2 j : Nat) : Int) else 0) < 8 := fun j => by
        split
        · exact mColour_rg kO ⟨by omega, by omega⟩ _
        · omega
      have hcl2 : ∀ j : Nat, j < n → (if j < n then mColour i (j : Int) ((E.1.2.1.2.2 j : Nat) : Int) else 0) = mColour i (j : Int) ((E.1.2.1.2.2 j : Nat) : Int) := fun j hj => if_pos hj
      generalize hcc : (fun j : Nat => if j < n then mColour i (j : Int) ((E.1.2.1.2.2 j : Nat) : Int) else 0) = cc
      have hcl' : ∀ j : Nat, 0 ≤ cc j ∧ cc j < 8 := fun j => by rw [← hcc]; exact hcl j
      have hcl2' : ∀ j : Nat, j < n → cc j = mColour i (j : Int) ((E.1.2.1.2.2 j : Nat) : Int) := fun j hj => by rw [← hcc]; exact hcl2 j hj
      have t1 : TWg 7 (i 101) i1 ∧ TLd 7 (i 101) i1 := TWg_eq7 (fun a x y => f a (by omega)) (fun x _ => by rw [f 7 (by omega)]) tw
      have hlp := lp_takeC (w := w) (d := d) (l := l1) (i1 := i1) (K := i 101) (n := n) (f := E.1.2.1.2.2) (c := cc) (P := fun v i1 l1 => cI w (d + 1) X_X12_take [vR (some 99), vI p0] i1 l1 (fun v' i2 l2 => v' = v ∧ Inv w (k + 2) i2 l2)) (by omega) hn10 (by rw [f 7 (by omega), e78, hn]) (fun j hj => ⟨hr j hj, hfs j hj⟩) (fun j hj => by rw [hcl2' j hj, hue_at pr (by rw [e101, hn]; omega) (hfs j hj), mColour_K e101]) (fun j hj e0 => by rw [hcl2' j hj, e0]; unfold mColour; rfl) (fun i' fr tw' => ?_) n 0 (by omega) i1 (fun _ _ => rfl) t1
      · exact hlp
      have hN := tkN_rg E.1.2.1.2.2 n
      refine sp_X11_changed (by omega) ⟨by omega, by omega⟩ (by rw [fr 7 (by decide), f 7 (by omega)]; exact hc.1) ?_
      have J6 : cChg i' 6 = cChg i' 6 := rfl
      have Jo : ∀ a, a ≠ 6 → a ≠ 7 → a ≠ 8 → cChg i' a = i1 a := fun a a1 a2 a3 => by rw [cCo i' a1 a2, fr a a3]
      have Jc : ∀ j : IM, ∀ a, j a = i' a → cChg j a = cChg i' a := fun j a h => cChg_cg h
      have J8 : ∀ a, a ≠ 6 → a ≠ 7 → cChg i' a = i' a := fun a a1 a2 => cCo i' a1 a2
      generalize cChg i' = J at J6 Jo Jc J8 ⊢
      have j101 : J 101 = i 101 := by rw [Jo 101 (by decide) (by decide) (by decide), e101]
      refine e_X12_take (s_X12_take _ (by omega) ⟨h0, fun _ => ?_, fun y => absurd q y⟩)
      refine sp_X12_paints (A := A) (by omega) (by rw [j101]; exact kO) (by rw [j101]; exact fm) (by rw [j101]; exact forceM_dep fm) (B := 8 + 2 * (k : Int)) (by omega) (by omega) (limB_eq (by rw [Jo 112 (by decide) (by decide) (by decide), f 112 (by omega)]) (InA_lim hA)) h0 (Or.inl rfl) (by rw [j101]; exact PnC_eq (fun x _ => by rw [Jo 99 (by decide) (by decide) (by decide), f 99 (by omega)]) (fun a x => by rw [Jo a (by omega) (by omega) (by omega), f a (by omega)]) hA.2.1.2) (fun i2 pf b g32 g33 g34 he => ?_)
      rw [j101] at he
      have hpn : PnC i2 (inForce (i 101) A) := PnC_pt (i := J) pf g32 g33 g34 (by rw [j101]; exact he)
      rw [enX_K j101, eN, hE] at he
      obtain ⟨⟨a1, a2, a3, a4⟩, -, -⟩ := he
      refine ⟨fun y => by omega, fun _ => ?_⟩
      have o2 : ∀ a, (a < 99 ∨ (99 < a ∧ a < 110) ∨ 119 < a) → i2 a = J a := fun a x => ptf_c pf (by omega) (by omega)
      have hlm := lp_takeM (w := w) (d := d) (l := l1) (i1 := i2) (K := i 101) (n := n) (f := E.1.2.1.2.2) (c := cc) (P := fun v' i2 l2 => v' = tkN E.1.2.1.2.2 n ∧ Inv w (k + 2) i2 l2) (by omega) hn10 (by rw [hn]) (fun j hj => (a3 hpos).2 j hj) (fun J' j hj e1 e2 => by rw [hcl2' j hj]; unfold mColour; rw [e1, e2]) (fun i3 f3 e3 => ?_) n 0 (by omega) i2 (fun _ _ => rfl) (by rw [o2 101 (by omega), j101]; rfl)
      · exact hlm
      have e99 : i3 99 1 = i 99 1 := by rw [f3 99 (by decide), pf 99 1 (by omega) (by omega), Jo 99 (by decide) (by decide) (by decide), f 99 (by omega)]
      refine sp_X12_good (by omega) ⟨by omega, by omega⟩ (by rw [e99]; exact hc.2) ⟨rfl, ?_⟩
      have hw : ∀ iA iB : IM, iA = (fun a => if a = 6 ∨ a = 7 ∨ a = 8 then i1 a else i2 a) → iB = (fun a => if a = 8 then i' 8 else iA a) → Inv w (k + 2) (mGood i3) l1 := by
        intro iA iB hiA hiB
        have A6 : ∀ a, a = 6 ∨ a = 7 ∨ a = 8 → iA a = i1 a := fun a h => by rw [hiA]; exact if_pos h
        have Ao : ∀ a, ¬ (a = 6 ∨ a = 7 ∨ a = 8) → iA a = i2 a := fun a h => by rw [hiA]; exact if_neg h
        have B8 : iB 8 = i' 8 := by rw [hiB]; rfl
        have Bo : ∀ a, a ≠ 8 → iB a = iA a := fun a h => by rw [hiB]; exact if_neg h
        have hA' : Inv w (k + 1) iA l1 := by
          refine ro_pt hA f (CvC_prd pr) pt md (fun a x h1 h2 => ?_) (PnC_eq (fun x _ => by rw [Ao 99 (by decide)]) (fun a x => Ao a (by omega)) hpn) (limB_up (limB_eq (Ao 112 (by decide)) b) (by omega))
          by_cases c6 : a = 6 ∨ a = 7 ∨ a = 8
          · rw [A6 a c6]
          · rw [Ao a c6, pf a x h1 h2, Jo a (by omega) (by omega) (by omega)]
        obtain ⟨A', hA'⟩ := hA'
        have Bi : ∀ a, 6 ≤ a → a ≤ 14 → iB a = i' a := fun a x y => by
          by_cases c8 : a = 8
          · subst c8; exact B8
          · by_cases c6 : a = 6 ∨ a = 7 ∨ a = 8
            · rw [Bo a c8, A6 a c6, fr a c8]
            · rw [Bo a c8, Ao a c6, o2 a (by omega), J8 a (by omega) (by omega)]
        refine chg_end2 (i := iA) (i1 := iB) (k := k + 1) hA' (fun a ha => Bo a (by omega)) (Bo 6 (by decide)) (by rw [Bo 7 (by decide)]) (fun a ha => ?_) ?_ ?_ ?_ ?_
        · rw [f3 a ha]
          by_cases c6 : a = 6 ∨ a = 7 ∨ a = 8
          · rw [o2 a (by omega)]
            exact (Jc iB a (Bi a (by omega) (by omega))).symm
          · rw [cCo iB (by omega) (by omega), Bo a (by omega), Ao a c6]
        · rw [e3]
          exact TWg_eq7 (fun a x y => Bi a (by omega) y) (fun x _ => by rw [Bi 7 (by omega) (by omega)]) tw'
        · rw [e3]; exact tkK_KP kp hcl' n hn10
        · rw [e3, Ao 101 (by decide), o2 101 (by omega), j101]; exact tkK_ne n (fun s hs => by omega)
        · intro p hp
          rw [e3, Ao 101 (by decide), o2 101 (by omega), j101]; exact tkK_ne n (fun s hs => by omega)
      exact hw _ _ rfl rfl
  · refine sp_X11_refuse (by omega) r1 (ref_rg hA hk r1) ?_
    have hf := ref2 (d := d) hA hk (by omega) r1
    have hf2 : cI w d X_X12_refuses [vR (some 99), vI (-1)] (cRef i (-1) 0) l (fun v' i2 l2 => v' = -1 ∧ Inv w (k + 2) i2 l2) := by
      refine Cn_mono hf ?_
      rintro r δ' i' l' ⟨q1, x, q2, q3, q4, q5⟩
      exact ⟨q1, x, q2, q3, q4, Inv_u q5⟩
    generalize cRef i (-1) 0 = J at hf2 ⊢
    exact e_X12_take (s_X12_take _ (by omega) ⟨h0, fun y => absurd y q, fun _ => hf2⟩)
end
