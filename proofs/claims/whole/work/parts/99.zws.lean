/-! THE CLASS READS: lawOf -/
section
variable {w : Wd} {e : Nat} {i : IM} {l : LM}
def rdP (B : Nat → Int) (n k lv u : Nat) (cs : List Cla) (J : IM) (l : LM) : Int → IM → LM → Prop := fun v J' l' => l' = l ∧ clf J J' ∧ ((v = 0 ∧ ∃ q, pClause (tT B n) k lv u = .inl q ∧ J' 37 5 = (poT B n q : Int)) ∨ (v = 1 ∧ ∃ r m', pClause (tT B n) k lv u = .inr r ∧ CS B n r.1 r.2.1 (u + claLen r.2.2) m' J' ∧ clR cs.length u r.2.2 J J' ∧ r.2.2.2.1 < 512))
set_option maxRecDepth 20000 in
theorem lp_lawOf {B : Nat → Int} {n : Nat} (hC : CT B n) {Post : PT} (hN : 125 ≤ w.2.1) (hN4 : (w.2.1 - 125) % 4 = 0) : ∀ (f : Nat) (cs : List Cla) (k lv u : Nat) (J : IM), f + cs.length = 12 → CSx B n k lv u J → clf i J → k ≤ nT B n → lv ≤ 50 → u ≤ k → totL cs = u → LwR J cs → (∀ q J', pLaw (tT B n) f k lv u = .inl q → J' 37 5 = (poT B n q : Int) → clf i J' → Post (some (vR none)) (dw w) J' l) → (∀ cs2 U i' l', pLaw (tT B n) f k lv u = .inr cs2 → lawC (wL w U (4 * (cs ++ cs2).length)) i' w.2.1 (cs ++ cs2) → (∀ a, a < w.2.1 → a ≠ 37 → a ≠ 38 → a ≠ 39 → a ≠ 40 → i' a = i a) → (∀ a, a < w.2.1 → l' a = l a) → Post (some (vR (some w.2.1))) (dw (wL w U (4 * (cs ++ cs2).length))) i' l') → G w.1 (rmD (e + 44) 4 455) X_X7_lawOf (qM w.1 4 455 Post) 0 0 (dw w) J l 34 [(2, vI (cs.length : Int)), (0, vR (some 37)), (1, vI (n : Int))] [] := by
  have hok := tkOK_CT hC
  intro f
  induction f with
  | zero =>
    intro cs k lv u J hf hS hc hk hlv hu hL hR hF hO
    refine g_iload_n (pc' := 35) 0 dX7_lawOf_34 rfl rfl ?_
    refine g_bipush (pc' := 37) dX7_lawOf_35 rfl rfl ?_
    refine g_icmp_ge (tgt := 120) (pc' := 40) ⟨by omega, by omega⟩ (rg_lit rfl) Iff.rfl dX7_lawOf_37 rfl rfl (fun c => ?_) (fun c => by omega)
    refine g_anull (pc' := 121) dX7_lawOf_120 rfl ?_
    exact g_aret (rt := .object "ThreeColours$Law") (by omega) (by omega) rfl (Or.inl ⟨_, rfl⟩) dX7_lawOf_121 (hF k J rfl hS.2.2.1.1 hc)
  | succ f ih =>
    intro cs k lv u J hf hS hc hk hlv hu hL hR hF hO
    have hn4 := nT_le B n
    have h400 := hC.1
    refine g_iload_n (pc' := 35) 0 dX7_lawOf_34 rfl rfl ?_
    refine g_bipush (pc' := 37) dX7_lawOf_35 rfl rfl ?_
    refine g_icmp_ge (tgt := 120) (pc' := 40) ⟨by omega, by omega⟩ (rg_lit rfl) Iff.rfl dX7_lawOf_37 rfl rfl (fun c => by omega) (fun _ => ?_)
    refine g_aload_n (pc' := 41) 1 dX7_lawOf_40 rfl rfl ?_
    refine g_iload_n (pc' := 42) 0 dX7_lawOf_41 rfl rfl ?_
    refine g_iconst (pc' := 43) dX7_lawOf_42 rfl ?_
    refine g_imul (pc' := 44) dX7_lawOf_43 rfl ?_
    rw [show (cs.length : Int) * 4 = 4 * (cs.length : Int) by omega]
    refine g_cVI (pc' := 47) (vs := [vI (4 * (cs.length : Int))]) (st := []) (c := 7) (rd_clause (w := w) (d := e + 43) (P := rdP B n k lv u cs J l) (j := cs.length) (i := J) (l := l) hC (by omega) (by omega) hk hlv hu hS (fun h hh => (hR.2 h hh).1) (fun q J' e1 a1 f1 => ⟨rfl, f1, Or.inl ⟨rfl, q, e1, a1⟩⟩) (fun r J' m' e1 s1 f1 c1 g1 => ⟨rfl, f1, Or.inr ⟨rfl, r, m', e1, s1, c1, g1⟩⟩)) mv_X7_readClause lk_X7_51 rfl rfl rfl rfl (Nat.le_of_ble_eq_true rfl) (Nat.le_of_ble_eq_true rfl) rfl dX7_lawOf_44 rfl z2 (fun v J1 l1 rg1 hP1 => ?_)
    obtain ⟨rfl, f1, h1⟩ := hP1
    refine g_if_ne (tgt := 52) (pc' := 50) rg1 Iff.rfl dX7_lawOf_47 rfl rfl (fun c7 => ?_) (fun c7 => ?_)
    · rcases h1 with ⟨rfl, -⟩ | ⟨-, r, m', e1, s1, c1, g1⟩
      · exact absurd rfl c7
      have ok := pClause_ok hok hk hlv hu e1
      obtain ⟨o1, o2, o3, o4, o5, o6, o7⟩ := ok
      have hrn : r.1 ≤ nT B n := o2.2
      have hT := CS_tok hC hrn s1
      unfold cmT at hT
      have hR1 : LwR J1 (cs ++ [r.2.2]) := by
        refine LwR_app hR o1 g1 o5 ?_ ?_
        · rw [hL]; exact ⟨o6, o7⟩
        · rw [hL]; exact c1
      have hL1 : totL (cs ++ [r.2.2]) = u + claLen r.2.2 := by rw [totL_app, hL]
      have hl1 : (cs ++ [r.2.2]).length = cs.length + 1 := by simp
      have h9 := s1.2.2.2.1
      refine g_aload_n (pc' := 53) 1 dX7_lawOf_52 rfl rfl ?_
      refine g_getI (pc' := 56) (z := 7) (c := 7) rfl fl_X7_55 rfl rfl dX7_lawOf_53 rfl (fun rg2 => ?_)
      refine g_iconst (pc' := 57) dX7_lawOf_56 rfl ?_
      refine g_icmp_ne (tgt := 99) (pc' := 60) rg2 (rg_lit rfl) Iff.rfl dX7_lawOf_57 rfl rfl (fun c8 => ?_) (fun c8 => ?_)
      · have hrl : r.1 < nT B n := by
          by_cases c : r.1 < nT B n
          · exact c
          · have er : r.1 = nT B n := by omega
            have := (s1.2.2.1.2.2 (by rw [er, nT_at]; omega)).1
            exact absurd this c8
        have eT : (tT B n).2.2 = nT B n := rfl
        refine g_aload_n (pc' := 100) 1 dX7_lawOf_99 rfl rfl ?_
        refine g_getI (pc' := 103) (z := 7) (c := 7) rfl fl_X7_55 rfl rfl dX7_lawOf_100 rfl (fun rg3 => ?_)
        refine g_bipush (pc' := 105) dX7_lawOf_103 rfl rfl ?_
        refine g_icmp_eq (tgt := 110) (pc' := 108) rg3 (rg_lit rfl) Iff.rfl dX7_lawOf_105 rfl rfl (fun c9 => ?_) (fun c9 => ?_)
        · have h159 : (tT B n).1 r.1 = 159 := by omega
          refine g_aload_n (pc' := 111) 1 dX7_lawOf_110 rfl rfl ?_
          refine g_cVV (pc' := 114) (vs := []) (st := []) (c := 7) (stp_CS (w := w) (d := e + 43) (l := l1) (P := fun J2 l2 => l2 = l1 ∧ CS B n (r.1 + 1) r.2.1 (u + claLen r.2.2) m' J2 ∧ stf J1 J2) (by omega) hC s1 (fun J2 s2 f2 => ⟨rfl, s2, f2⟩)) mv_X7_step lk_X7_48 rfl rfl rfl rfl (Nat.le_of_ble_eq_true rfl) (Nat.le_of_ble_eq_true rfl) rfl dX7_lawOf_111 rfl z2 (fun J2 l2 hP2 => ?_)
          obtain ⟨rfl, s2, f2⟩ := hP2
          refine g_iinc (pc' := 117) 0 dX7_lawOf_114 rfl (by decide) rfl rfl ?_
          refine g_goto (tgt := 34) dX7_lawOf_117 rfl ?_
          have hR2 : LwR J2 (cs ++ [r.2.2]) := by
            have e38 : J2 38 = J1 38 := f2.1 38 (by decide)
            have e39 : J2 39 = J1 39 := f2.1 39 (by decide)
            have e40 : J2 40 = J1 40 := f2.1 40 (by decide)
            have key : ∀ (xs : List Cla) (j u : Nat), rowCs J1 j u xs → rowCs J2 j u xs := by
              intro xs
              induction xs with
              | nil => intro _ _ _; trivial
              | cons x xs ihx =>
                intro j u hx
                refine ⟨?_, ihx _ _ hx.2⟩
                have hx1 := hx.1
                unfold claR atC at hx1 ⊢
                rw [e38, e39]
                exact hx1
            refine ⟨key _ _ _ hR1.1, fun h hh => ?_⟩
            rw [e40]
            exact hR1.2 h hh
          have nx := ih (cs ++ [r.2.2]) (r.1 + 1) r.2.1 (u + claLen r.2.2) J2 (by rw [hl1]; omega) (CS_x s2) (clf_tr hc (clf_tr f1 (fun a a1 _ _ _ => f2.1 a a1))) hrl o3 (by omega) hL1 hR2 (fun q J' e3 a3 f3 => hF q J' (by
            rw [pLaw_s, e1]
            simp only
            rw [if_neg (by omega), if_pos h159, e3]) a3 f3) (fun cs2 U i' l' e3 k1 k2 k3 => by
            have ea : cs ++ [r.2.2] ++ cs2 = cs ++ (r.2.2 :: cs2) := by simp
            rw [ea] at k1 ⊢
            refine hO (r.2.2 :: cs2) U i' l' ?_ k1 k2 k3
            rw [pLaw_s, e1]
            simp only
            rw [if_neg (by omega), if_pos h159, e3])
          rw [hl1, show ((cs.length + 1 : Nat) : Int) = (cs.length : Int) + 1 by omega] at nx
          exact nx
        · have h159 : ¬ (tT B n).1 r.1 = 159 := by omega
          refine g_anull (pc' := 109) dX7_lawOf_108 rfl ?_
          refine g_aret (rt := .object "ThreeColours$Law") (by omega) (by omega) rfl (Or.inl ⟨_, rfl⟩) dX7_lawOf_109 (hF r.1 J1 ?_ (CS_at s1) (clf_tr hc f1))
          rw [pLaw_s, e1]
          simp only
          rw [if_neg (by omega), if_neg h159]
      · have hrT : r.1 = nT B n := by
          by_cases c : r.1 < nT B n
          · have hp := nT_lt c
            have := (s1.2.2.1.2.1 hp).1
            have hb := tcC_rg (n := n) (hC.2 _ hp)
            omega
          · omega
        have eT : (tT B n).2.2 = nT B n := rfl
        refine mk_law (d := e + 40) (c := cs.length) (u := u + claLen r.2.2) hN hN4 h9 (by omega) (by omega) (fun i' l' k1 k2 k3 k4 k5 => ?_)
        have el : 4 * (cs.length + 1) = 4 * (cs ++ [r.2.2]).length := by rw [hl1]
        rw [el]
        refine hO [r.2.2] (u + claLen r.2.2) i' l' ?_ (lawC_of hN hN4 hL1 (by omega) (by omega) hR1 k3 (fun k y0 y1 => k4 k y0 (by rw [hl1] at y1; omega)) k5) (fun a a0 a1 a2 a3 a4 => ?_) k2
        · rw [pLaw_s, e1]
          simp only
          rw [if_pos (by omega)]
        · rw [k1 a a0, f1 a a1 a2 a3 a4, hc a a1 a2 a3 a4]
    · rcases h1 with ⟨-, q, e1, a1⟩ | ⟨rfl, -⟩
      · refine g_anull (pc' := 51) dX7_lawOf_50 rfl ?_
        refine g_aret (rt := .object "ThreeColours$Law") (by omega) (by omega) rfl (Or.inl ⟨_, rfl⟩) dX7_lawOf_51 (hF q J1 ?_ a1 (clf_tr hc f1))
        rw [pLaw_s, e1]
      · exact absurd c7 (by decide)
end
