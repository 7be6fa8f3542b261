/-! ONE CALL on both sides: small questions; the tape -/
section
variable {w : Wd} {d k : Nat} {i : IM} {l : LM}
theorem Inv_up {A : Nat → List Cla} (hI : InA w k i l A) : Inv w (k + 1) i l := by
  obtain ⟨h1, h2, r1, r2, r3, r4⟩ := hI
  exact ⟨A, h1, h2, r1, r2, Ctr_up r3, r4⟩
theorem st_status (hd : 90 ≤ d) (hI : Inv w k i l) : BoC w k d X_X11_status X_X12_status [] i l := by
  obtain ⟨A, hA⟩ := hI
  obtain ⟨d, rfl, hd1⟩ := d_pos (k := 89) hd
  exact e_X11_status (s_X11_status (e_X12_status (s_X12_status ⟨hA.2.2.2.2.2.1.1.symm, Inv_up hA⟩)))
theorem st_spoilt (hd : 90 ≤ d) (hI : Inv w k i l) : BoC w k d X_X11_spoilt X_X12_spoilt [] i l := by
  obtain ⟨A, hA⟩ := hI
  obtain ⟨d, rfl, hd1⟩ := d_pos (k := 89) hd
  exact e_X11_spoilt (s_X11_spoilt (e_X12_spoilt (s_X12_spoilt ⟨hA.2.2.2.2.2.1.2.1.symm, Inv_up hA⟩)))
theorem st_fault (hd : 90 ≤ d) (hI : Inv w k i l) : BoC w k d X_X11_fault X_X12_fault [] i l := by
  obtain ⟨A, hA⟩ := hI
  obtain ⟨d, rfl, hd1⟩ := d_pos (k := 89) hd
  exact e_X11_fault (s_X11_fault (e_X12_fault (s_X12_fault ⟨hA.2.2.2.2.2.1.2.2.symm, Inv_up hA⟩)))
theorem st_count (hd : 90 ≤ d) (hI : Inv w k i l) {p0 : Int} (h0 : rg p0) : BoC w k d X_X11_count X_X12_count [vI p0] i l := by
  obtain ⟨A, hA⟩ := hI
  obtain ⟨d, rfl, hd1⟩ := d_pos (k := 89) hd
  have t7 : i 7 8 = i 101 307 ∧ i 7 9 = i 101 308 ∧ i 7 10 = i 101 309 ∧ i 7 11 = i 101 310 ∧ i 7 12 = i 101 311 ∧ i 7 13 = i 101 313 ∧ i 7 14 = i 101 312 := hA.1.1.1.2.2.2.2.2.2
  have c4 := hA.2.2.2.2.1.2.2.1
  have h15 := hA.2.2.2.1.1.2.2
  have iu := Inv_up hA
  have main : ∀ v : Int, ((p0 < 0 ∨ 12 < p0) → v = -1) → (p0 = 0 → v = i 101 307) → (p0 = 1 → v = i 101 308) → (p0 = 2 → v = i 101 309) → (p0 = 3 → v = i 101 311) → (p0 = 4 → v = i 101 310) → (p0 = 5 → v = i 99 10) → (p0 = 6 → v = i 100 1) → (p0 = 7 → v = i 100 2) → (p0 = 8 → v = i 100 3) → (p0 = 9 → v = i 100 5) → (p0 = 10 → v = i 100 6) → (p0 = 11 → v = i 101 312) → (p0 = 12 → v = i 101 313) → cI w (d + 1) X_X12_count [vR (some 99), vI p0] i l (fun v' i2 l2 => v' = v ∧ Inv w (k + 1) i2 l2) := by
    intro v a0 a1 a2 a3 a4 a5 a6 a7 a8 a9 a10 a11 a12 a13
    refine e_X12_count (s_X12_count _ (by omega) ⟨h0, fun z => ⟨(a0 z).symm, iu⟩, fun z => ⟨(a1 z).symm, iu⟩, fun z => ⟨(a2 z).symm, iu⟩, fun z => ⟨(a3 z).symm, iu⟩, fun z => ⟨(a4 z).symm, iu⟩, fun z => ⟨(a5 z).symm, iu⟩, fun z => ⟨(a6 z).symm, iu⟩, fun z => ⟨⟨by omega, by omega⟩, ?_, iu⟩, fun z => ⟨⟨by omega, by omega⟩, ?_, iu⟩, fun z => ⟨⟨by omega, by omega⟩, ?_, iu⟩, fun z => ⟨(a10 z).symm, iu⟩, fun z => ⟨(a11 z).symm, iu⟩, fun z => ⟨(a12 z).symm, iu⟩, fun z => ⟨(a13 z).symm, iu⟩⟩)
    · rw [a7 z]; subst z; rfl
    · rw [a8 z]; subst z; rfl
    · rw [a9 z]; subst z; rfl
  refine e_X11_count (s_X11_count _ ⟨h0, fun z => ?_, fun z => ⟨⟨by omega, by omega⟩, ?_⟩⟩)
  · refine s_X11_count_22 _ ⟨h0, fun y => ?_, fun y => ?_, fun y => ?_, fun y => ?_, fun y => ?_, fun y => ?_, fun y => ?_, fun y => by omega, fun y => by omega, fun y => by omega, fun y => by omega, fun y => by omega, fun y => ?_, fun y => ?_⟩
    · exact main _ (fun _ => rfl) (fun _ => by omega) (fun _ => by omega) (fun _ => by omega) (fun _ => by omega) (fun _ => by omega) (fun _ => by omega) (fun _ => by omega) (fun _ => by omega) (fun _ => by omega) (fun _ => by omega) (fun _ => by omega) (fun _ => by omega) (fun _ => by omega)
    · exact main _ (fun _ => by omega) (fun _ => by omega) (fun _ => by omega) (fun _ => by omega) (fun _ => by omega) (fun _ => by omega) (fun _ => by omega) (fun _ => by omega) (fun _ => by omega) (fun _ => by omega) (fun _ => by omega) (fun _ => by omega) (fun _ => by omega) (fun _ => by omega)
    · exact main _ (fun _ => by omega) (fun _ => by omega) (fun _ => by omega) (fun _ => by omega) (fun _ => by omega) (fun _ => by omega) (fun _ => by omega) (fun _ => by omega) (fun _ => by omega) (fun _ => by omega) (fun _ => by omega) (fun _ => by omega) (fun _ => by omega) (fun _ => by omega)
    · exact main _ (fun _ => by omega) (fun _ => by omega) (fun _ => by omega) (fun _ => by omega) (fun _ => by omega) (fun _ => by omega) (fun _ => by omega) (fun _ => by omega) (fun _ => by omega) (fun _ => by omega) (fun _ => by omega) (fun _ => by omega) (fun _ => by omega) (fun _ => by omega)
    · exact main _ (fun _ => by omega) (fun _ => by omega) (fun _ => by omega) (fun _ => by omega) (fun _ => by omega) (fun _ => by omega) (fun _ => by omega) (fun _ => by omega) (fun _ => by omega) (fun _ => by omega) (fun _ => by omega) (fun _ => by omega) (fun _ => by omega) (fun _ => by omega)
    · exact main _ (fun _ => by omega) (fun _ => by omega) (fun _ => by omega) (fun _ => by omega) (fun _ => by omega) (fun _ => by omega) (fun _ => by omega) (fun _ => by omega) (fun _ => by omega) (fun _ => by omega) (fun _ => by omega) (fun _ => by omega) (fun _ => by omega) (fun _ => by omega)
    · exact main _ (fun _ => by omega) (fun _ => by omega) (fun _ => by omega) (fun _ => by omega) (fun _ => by omega) (fun _ => by omega) (fun _ => by omega) (fun _ => by omega) (fun _ => by omega) (fun _ => by omega) (fun _ => by omega) (fun _ => by omega) (fun _ => by omega) (fun _ => by omega)
    · exact main _ (fun _ => by omega) (fun _ => by omega) (fun _ => by omega) (fun _ => by omega) (fun _ => by omega) (fun _ => by omega) (fun _ => by omega) (fun _ => by omega) (fun _ => by omega) (fun _ => by omega) (fun _ => by omega) (fun _ => by omega) (fun _ => by omega) (fun _ => by omega)
    · exact main _ (fun _ => by omega) (fun _ => by omega) (fun _ => by omega) (fun _ => by omega) (fun _ => by omega) (fun _ => by omega) (fun _ => by omega) (fun _ => by omega) (fun _ => by omega) (fun _ => by omega) (fun _ => by omega) (fun _ => by omega) (fun _ => by omega) (fun _ => by omega)
  · have eq : ∀ a b : Int, a = b → i 36 a = i 36 b := fun a b h => by rw [h]
    exact main _ (fun _ => by omega) (fun _ => by omega) (fun _ => by omega) (fun _ => by omega) (fun _ => by omega) (fun _ => by omega) (fun _ => by omega) (fun z => by subst z; exact c4.1) (fun z => by subst z; exact c4.2.1) (fun z => by subst z; exact c4.2.2.1) (fun z => by subst z; exact c4.2.2.2.1) (fun z => by subst z; exact c4.2.2.2.2) (fun _ => by omega) (fun _ => by omega)
theorem st_drawn (hd : 90 ≤ d) (hI : Inv w k i l) {p0 p1 : Int} (h0 : rg p0) (h1 : rg p1) : BoC w k d X_X11_drawn X_X12_drawn [vI p0, vI p1] i l := by
  obtain ⟨A, hA⟩ := hI
  obtain ⟨d, rfl, hd1⟩ := d_pos (k := 89) hd
  have dy := hA.2.2.2.2.2.2.1
  have hb : 0 ≤ i 94 3 ∧ i 94 3 ≤ 5 := by rcases dy with z | z <;> omega
  have hm : -1 ≤ i 99 50 ∧ i 99 50 ≤ 5 := by rcases dy with z | z <;> omega
  refine e_X11_drawn (s_X11_drawn _ _ (by omega) ⟨h0, fun _ => h1, fun y z => ⟨by omega, by omega⟩, ?_⟩)
  refine e_X12_drawn (s_X12_drawn _ _ (by omega) ⟨h0, ⟨by omega, by omega⟩, fun _ => h1, fun y z => ⟨by omega, by omega⟩, ?_, Inv_up hA⟩)
  rcases dy with z | z
  · rw [if_neg (by omega), if_neg (by omega)]
  · by_cases c : 0 ≤ p0 ∧ p0 < i 94 3
    · rw [if_pos c, if_pos (by omega)]
      by_cases c2 : 0 ≤ p1 ∧ p1 < 120
      · rw [if_pos c2, if_pos (by omega)]
        exact (z.2.2 p0 p1 c.1 c.2 c2.1 c2.2).symm
      · rw [if_neg c2, if_neg (by omega)]
    · rw [if_neg c, if_neg (by omega)]
theorem st_of (hd : 90 ≤ d) (hI : Inv w k i l) {p0 p1 : Int} (h0 : rg p0) (h1 : rg p1) : BoC w k d X_X11_of X_X12_of [vI p0, vI p1] i l := by
  obtain ⟨A, hA⟩ := hI
  obtain ⟨d, rfl, hd1⟩ := d_pos (k := 89) hd
  have ht : TW i := hA.1.1.1
  have kO := hA.1.2.1.1
  have h307 := kO.1.1
  have e8 : i 7 8 = i 101 307 := ht.2.2.2.2.2.2.1
  have e13 : i 7 13 = i 101 313 := ht.2.2.2.2.2.2.2.2.2.2.2.1
  have mm : ∀ v, v = mOf i p0 p1 → cI w (d + 1) X_X12_of [vR (some 99), vI p0, vI p1] i l (fun v' i2 l2 => v' = v ∧ Inv w (k + 1) i2 l2) := fun v hv => sp_X12_of (by omega) kO h0 h1 ⟨hv.symm, Inv_up hA⟩
  refine e_X11_of (s_X11_of _ _ (by omega) ⟨h0, fun _ => h1, fun z => mm _ ?_, fun z => ⟨⟨by omega, by omega⟩, mm _ ?_⟩, fun z => ⟨⟨by omega, by omega⟩, ⟨by omega, by omega⟩, mm _ ?_⟩⟩)
  · rw [e8] at z
    unfold mOf
    rw [if_neg (by omega)]
  · rw [e8] at z
    unfold mOf
    rw [if_pos ⟨z.1, z.2.1⟩, if_neg (by omega), TW_trait ht ⟨by omega, by omega⟩ ⟨by omega, by omega⟩]
  · rw [e8] at z
    unfold mOf
    rw [if_pos ⟨z.1, z.2.1⟩, if_pos (by omega), TW_shown ht ⟨by omega, by omega⟩, TW_trait ht ⟨by omega, by omega⟩ ⟨by omega, by omega⟩, e13]
theorem st_counts (hd : 90 ≤ d) (hI : Inv w k i l) {p0 : Int} (h0 : rg p0) : BoC w k d X_X11_counts X_X12_counts [vI p0] i l := by
  obtain ⟨A, hA⟩ := hI
  obtain ⟨d, rfl, hd1⟩ := d_pos (k := 89) hd
  have ht : TW i := hA.1.1.1
  refine e_X11_counts (s_X11_counts _ (by omega) ⟨h0, fun z => ⟨by omega, by omega⟩, ?_⟩)
  refine sp_X12_counts (by omega) hA.1.2.1.1 h0 ⟨?_, Inv_up hA⟩
  unfold mCounts
  by_cases c : 0 ≤ p0 ∧ p0 ≤ 7
  · rw [if_pos c, if_pos c]; exact (ht.2.2.2.2.1 p0 (by omega) (by omega)).symm
  · rw [if_neg c, if_neg c]
theorem whGo_cg {W W' : Int → Int} {p m : Int} : ∀ n : Nat, (∀ j : Int, 0 ≤ j → j < 3 * (n : Int) → W j = W' j) → whGo W p m n = whGo W' p m n
  | 0, _ => rfl
  | n + 1, h => by
    unfold whGo
    rw [whGo_cg n (fun j j0 j1 => h j j0 (by omega)), h (3 * (n : Int)) (by omega) (by omega), h (3 * (n : Int) + 1) (by omega) (by omega), h (3 * (n : Int) + 2) (by omega) (by omega)]
theorem st_where (hd : 90 ≤ d) (hI : Inv w k i l) {p0 p1 : Int} (h0 : rg p0) (h1 : rg p1) : BoC w k d X_X11_where X_X12_where [vI p0, vI p1] i l := by
  obtain ⟨A, hA⟩ := hI
  obtain ⟨d, rfl, hd1⟩ := d_pos (k := 89) hd
  have ht : TW i := hA.1.1.1
  have kO := hA.1.2.1.1
  have h310 := kO.1.2.2.2.1
  have e10 : i 7 10 = i 101 309 := ht.2.2.2.2.2.2.2.2.1
  have e11 : i 7 11 = i 101 310 := ht.2.2.2.2.2.2.2.2.2.1
  have mm : ∀ v, v = mWhereF i p0 p1 → cI w (d + 1) X_X12_where [vR (some 99), vI p0, vI p1] i l (fun v' i2 l2 => v' = v ∧ Inv w (k + 1) i2 l2) := fun v hv => sp_X12_where (by omega) kO h0 h1 ⟨hv.symm, Inv_up hA⟩
  refine e_X11_where (s_X11_where _ _ (by omega) ⟨h0, fun _ => h1, fun z => ?_, fun z => mm _ ?_⟩)
  · rw [e10] at z
    refine Cn_mono (sp_X9_placeAt (by omega) h0 h1 (by omega)) ?_
    rintro r δ' i' l' ⟨q1, x, q2, q3, rfl, rfl, rfl⟩
    refine ⟨q1, _, q2, q3, mm _ ?_⟩
    unfold mWhereF mWhere
    rw [if_pos z.1, if_pos (by omega), e11]
    rw [whGo_cg (W := i' 14) (W' := fun j => i' 101 (127 + j)) _ (fun j j0 j1 => ht.2.2.2.2.2.1 j j0 (by omega))]
  · rw [e10] at z
    unfold mWhereF
    by_cases c : 0 ≤ p0 ∧ p0 < i 101 309
    · rw [if_pos c, if_neg (by omega)]
    · rw [if_neg c]
theorem st_costs (hd : 90 ≤ d) (hI : Inv w k i l) {p0 p1 : Int} (h0 : rg p0) (h1 : rg p1) : BoC w k d X_X11_costs X_X12_costs [vI p0, vI p1] i l := by
  obtain ⟨A, hA⟩ := hI
  obtain ⟨d, rfl, hd1⟩ := d_pos (k := 89) hd
  have hx := TK_Cx hA.1
  have ht : TW i := hA.1.1.1
  have kO := hA.1.2.1.1
  have h307 := kO.1.1
  have e8 : i 7 8 = i 101 307 := ht.2.2.2.2.2.2.1
  have fm := TK_fM hA.1
  refine e_X11_costs (s_X11_costs _ _ (by omega) ⟨h0, fun _ => h1, fun z => ?_, fun z => ?_⟩)
  · rw [e8] at z
    have tr := kO.2.1 p0 (by omega) (by omega)
    have g0 := TW_trait ht (t := p0) (x := 0) ⟨by omega, by omega⟩ ⟨by omega, by omega⟩
    have g1 := TW_trait ht (t := p0) (x := 1) ⟨by omega, by omega⟩ ⟨by omega, by omega⟩
    have g3 := TW_trait ht (t := p0) (x := 3) ⟨by omega, by omega⟩ ⟨by omega, by omega⟩
    refine sp_X0_priceOf (by omega) hx.2.2.1 hx.2.2.2 ⟨by omega, by omega⟩ ⟨by omega, by omega⟩ (by rw [g0]; exact ⟨by omega, by omega⟩) (fun i1 l1 c1 s1 => ?_)
    have e101 : i1 101 = i 101 := cscr_c c1 (by decide) (by decide)
    refine sp_X12_costs (A := A) (by omega) (by rw [e101]; exact kO) (by rw [e101]; exact fm) (by rw [e101]; exact forceM_dep fm) h0 h1 (fun i2 s2 => ⟨?_, ?_⟩)
    · unfold mCosts
      rw [e101, if_pos z, g0, g1, g3]
      by_cases c : p1 = i 101 (8 * p0 + 1)
      · rw [if_pos c, if_pos c.symm]
      · rw [if_neg c, if_neg (fun q => c q.symm)]
    · exact ro_scr hA (fun a x => cscr_c c1 (by omega) (by omega)) (CHs_eq (fun a x => cscr_c c1 (by omega) (by omega)) (fun a x => s1 a (by omega)) hA.2.1.1) (scrM_ro s2)
  · rw [e8] at z
    refine sp_X12_costs (A := A) (by omega) kO fm (forceM_dep fm) h0 h1 (fun i2 s2 => ⟨?_, ro_scr hA (fun _ _ => rfl) hA.2.1.1 (scrM_ro s2)⟩)
    unfold mCosts
    rw [if_neg z]
/-- the tape alone changes -/
theorem Inv_tape {A : Nat → List Cla} {J : IM} (hI : InA w k i l A) (fr : ∀ a, a ≠ 6 → a ≠ 35 → a ≠ 99 → a ≠ 105 → a ≠ 106 → J a = i a) (h6 : ∀ x : Int, x ≠ 15 → J 6 x = i 6 x) (h99 : ∀ x : Int, x ≠ 10 → J 99 x = i 99 x) (ht : Tpe J) : Inv w (k + 1) J l := by
  obtain ⟨h1, ⟨g1, g2⟩, r1, r2, r3, r4, r5, r6⟩ := hI
  have e101 := fr 101 (by decide) (by decide) (by decide) (by decide) (by decide)
  have o : ∀ a, (a < 6 ∨ 6 < a) → a ≠ 35 → a ≠ 99 → a ≠ 105 → a ≠ 106 → J a = i a := fun a a1 a2 a3 a4 a5 => fr a (by omega) a2 a3 a4 a5
  refine ⟨A, ?_, ⟨?_, ?_⟩, ?_, ht, ?_, ?_, ?_, ?_⟩
  · rw [e101]
    exact TK_eq (fun a x => o a (by omega) (by omega) (by omega) (by omega) (by omega)) (fun x _ => by rw [o 7 (by omega) (by omega) (by omega) (by omega) (by omega)]) (fun a x => o a (by omega) (by omega) (by omega) (by omega) (by omega)) h1
  · rw [e101]
    exact CHs_eq (fun a x => o a (by omega) (by omega) (by omega) (by omega) (by omega)) (fun _ _ => rfl) g1
  · rw [e101]
    exact PnC_eq (fun x hx => h99 x (by omega)) (fun a x => o a (by omega) (by omega) (by omega) (by omega) (by omega)) g2
  · exact Img_eq (h6 14 (by decide)) (fun a x => o a (by omega) (by omega) (by omega) (by omega) (by omega)) r1
  · obtain ⟨⟨c1, c2⟩, c3, c4, c5⟩ := Ctr_up r3
    refine ⟨⟨?_, ?_⟩, fun x x0 x5 => ?_, ?_, ?_⟩
    · rw [o 7 (by omega) (by omega) (by omega) (by omega) (by omega)]; exact c1
    · rw [h99 1 (by decide)]; exact c2
    · rw [o 36 (by omega) (by omega) (by omega) (by omega) (by omega)]; exact c3 x x0 x5
    · rw [o 36 (by omega) (by omega) (by omega) (by omega) (by omega), o 100 (by omega) (by omega) (by omega) (by omega) (by omega)]; exact c4
    · exact limB_eq (o 112 (by omega) (by omega) (by omega) (by omega) (by omega)) c5
  · exact ⟨by rw [h6 18 (by decide), h99 0 (by decide)]; exact r4.1, by rw [h6 17 (by decide), h99 6 (by decide)]; exact r4.2.1, by rw [h6 16 (by decide), h99 11 (by decide)]; exact r4.2.2⟩
  · exact Dy_eq (by rw [o 94 (by omega) (by omega) (by omega) (by omega) (by omega)]) (o 95 (by omega) (by omega) (by omega) (by omega) (by omega)) (h99 50 (by decide)) (o 124 (by omega) (by omega) (by omega) (by omega) (by omega)) r5
  · unfold Wrd; rw [o 104 (by omega) (by omega) (by omega) (by omega) (by omega)]; exact r6
theorem st_end (hd : 90 ≤ d) (hI : Inv w k i l) {p0 : Int} (h0 : rg p0) : BoC w k d X_X11_end X_X12_end [vI p0] i l := by
  obtain ⟨A, hA⟩ := hI
  obtain ⟨d, rfl, hd1⟩ := d_pos (k := 89) hd
  have tp := hA.2.2.2.1
  refine e_X11_end (s_X11_end _ (by omega) ⟨h0, fun z => ?_, fun z => ?_⟩)
  · have h10 : u2 i 6 15 p0 99 10 = i 6 15 := tp.1.2.2
    refine e_X12_end (s_X12_end _ (by omega) ⟨h0, fun _ => ⟨rfl, ?_⟩, fun y => by rw [h10] at y; exact absurd z y⟩)
    refine Inv_tape hA (fun a a1 a2 a3 a4 a5 => by rw [u2_other _ _ _ a3, u2_other _ _ _ a1]) (fun x hx => ?_) (fun x hx => ?_) ⟨?_, tp.2⟩
    · show u2 i 6 15 p0 6 x = _
      rw [u2_at, if_neg hx]
    · rw [u2_at, if_neg hx]; rfl
    · show 0 ≤ u2 i 6 15 p0 6 15 ∧ u2 i 6 15 p0 6 15 ≤ 400 ∧ u2 (u2 i 6 15 p0) 99 10 p0 99 10 = u2 i 6 15 p0 6 15
      rw [u2_self, u2_self]
      have := tp.1
      omega
  · exact e_X12_end (s_X12_end _ (by omega) ⟨h0, fun y => absurd (by rw [← tp.1.2.2]; exact y) z, fun _ => ⟨rfl, Inv_up hA⟩⟩)
end
