/-! bars and third: what the class finds against what the model has marked -/
section
variable {w : Wd} {d : Nat} {i : IM} {l : LM}
theorem enX_fl (i : IM) (cs : List Cla) (months e : Int) (fl : Nat) : (enX i cs months e).2.2 fl = true ↔ ∃ o, ext (fMy i) (i 101 307).toNat 0 o0 o ∧ flN i cs (i 101 307).toNat months e o (i 101 308).toNat = fl := by
  have h := pG_ind (may := fMy i) (leaf := lfN i cs (i 101 307).toNat (i 101 308).toNat months e) (n := (i 101 307).toNat) (I := fun E (s : ES) => ∀ fl, s.2.2 fl = true ↔ ∃ o, E o ∧ flN i cs (i 101 307).toNat months e o (i 101 308).toNat = fl) (fun E E' s hE hI fl => by
    rw [hI fl]
    exact exists_congr (fun o => and_congr (hE o) Iff.rfl)) (i 101 307).toNat 0 o0 (fun _ => False) es0 (Nat.zero_add _) (fun o' E s he hI fl => by
      show (s.2.2 fl || decide (fl = flN i cs (i 101 307).toNat months e o' (i 101 308).toNat)) = true ↔ _
      rw [Bool.or_eq_true, decide_eq_true_iff, hI fl]
      constructor
      · rintro (⟨o, h1, h2⟩ | h1)
        · exact ⟨o, Or.inl h1, h2⟩
        · exact ⟨o', Or.inr (fun _ _ => rfl), h1.symm⟩
      · rintro ⟨o, h1 | h1, h2⟩
        · exact Or.inl ⟨o, h1, h2⟩
        · right
          rw [← h2]
          exact flN_cg i cs _ months e h1 _) (fun fl => ⟨fun h => absurd (show false = true from h) (by decide), fun ⟨_, h, _⟩ => h.elim⟩)
  have h2 := h fl
  have e1 : enX i cs months e = pG (fMy i) (lfN i cs (i 101 307).toNat (i 101 308).toNat months e) (i 101 307).toNat 0 o0 es0 := rfl
  rw [e1, h2]
  exact exists_congr (fun o => and_congr ⟨fun z => z.elim False.elim id, Or.inr⟩ Iff.rfl)
theorem ext_my {cs : List Cla} (h : chAll i cs) {o : Nat → Nat} : ext (pcM i).1 (i 101 307).toNat 0 o0 o ↔ ext (fMy i) (i 101 307).toNat 0 o0 o := by
  constructor
  · intro he
    exact ⟨he.1, fun j h1 h2 => by
      have := he.2 j h1 h2
      rw [my_eq h h2 this.2] at this
      exact this⟩
  · intro he
    exact ⟨he.1, fun j h1 h2 => by
      have := he.2 j h1 h2
      rw [my_eq h h2 this.2]
      exact this⟩
theorem finds_link {cs : List Cla} (hx : Cx w i cs) (h : chAll i cs) {R : Nat} (hR : R ≤ 12) (h51 : i 51 13 = (R : Int)) {months : Int} (hcv : cvR i l cs (i 101 307).toNat R (msI months 12)) {k : Nat} (hk : k < 256) : anP (pcM i) (rwK i l (k : Int) (-1)) (i 101 307).toNat 0 o0 ↔ ∃ fl : Nat, fl < 256 ∧ (enX i cs months (-1)).2.2 fl = true ∧ fl &&& k = 0 := by
  have h308 := hx.2.1.1.2.1
  have hok := (rwK_ok hx h hR h51 hcv hk (eased := -1) (Or.inl rfl)).2
  constructor
  · rintro ⟨o, h1, h2⟩
    have hg := ((hok o (ext_ok h h1)).trans moOK_fl).mp h2
    refine ⟨flN i cs (i 101 307).toNat months (-1) o (i 101 308).toNat, ?_, (enX_fl i cs months (-1) _).mpr ⟨o, (ext_my h).mp h1, rfl⟩, hg⟩
    rw [← flN_255 (i := i) (cs := cs) (n := (i 101 307).toNat) (months := months) (eased := -1) (o := o) (show (i 101 308).toNat ≤ 8 by omega)]
    have : flN i cs (i 101 307).toNat months (-1) o (i 101 308).toNat &&& 255 ≤ 255 := Nat.and_le_right
    omega
  · rintro ⟨fl, -, h1, h2⟩
    obtain ⟨o, e1, e2⟩ := (enX_fl i cs months (-1) fl).mp h1
    have e1' := (ext_my h).mpr e1
    refine ⟨o, e1', ((hok o (ext_ok h e1')).trans moOK_fl).mpr ?_⟩
    rw [e2]
    exact h2
abbrev valO (i : IM) (cs : List Cla) (o : Nat → Nat) : Int := vs (fWo i) o (i 101 307).toNat - vs (fPr i cs) o (i 101 307).toNat
theorem enX_val (i : IM) (cs : List Cla) (months e : Int) : 0 ≤ (enX i cs months e).1.1 ∧ (0 < (enX i cs months e).1.1 ↔ ∃ o, ext (fMy i) (i 101 307).toNat 0 o0 o ∧ flN i cs (i 101 307).toNat months e o (i 101 308).toNat = 0) ∧ (0 < (enX i cs months e).1.1 → 0 < (enX i cs months e).1.2.1.1 ∧ (∃ o, ext (fMy i) (i 101 307).toNat 0 o0 o ∧ flN i cs (i 101 307).toNat months e o (i 101 308).toNat = 0 ∧ valO i cs o = (enX i cs months e).1.2.1.2.1) ∧ ∀ o, ext (fMy i) (i 101 307).toNat 0 o0 o → flN i cs (i 101 307).toNat months e o (i 101 308).toNat = 0 → valO i cs o ≤ (enX i cs months e).1.2.1.2.1) := by
  have hg : ∀ o o' : Nat → Nat, (∀ j, j < (i 101 307).toNat → o j = o' j) → flN i cs (i 101 307).toNat months e o (i 101 308).toNat = flN i cs (i 101 307).toNat months e o' (i 101 308).toNat ∧ valO i cs o = valO i cs o' := fun o o' hh => ⟨flN_cg i cs _ months e hh _, by unfold valO; rw [vs_cg (g := fWo i) hh, vs_cg (g := fPr i cs) hh]⟩
  have h := pG_ind (may := fMy i) (leaf := lfN i cs (i 101 307).toNat (i 101 308).toNat months e) (n := (i 101 307).toNat) (I := fun E (s : ES) => 0 ≤ s.1.1 ∧ (0 < s.1.1 ↔ ∃ o, E o ∧ flN i cs (i 101 307).toNat months e o (i 101 308).toNat = 0) ∧ (0 < s.1.1 → 0 < s.1.2.1.1 ∧ (∃ o, E o ∧ flN i cs (i 101 307).toNat months e o (i 101 308).toNat = 0 ∧ valO i cs o = s.1.2.1.2.1) ∧ ∀ o, E o → flN i cs (i 101 307).toNat months e o (i 101 308).toNat = 0 → valO i cs o ≤ s.1.2.1.2.1) ∧ (s.1.1 = 0 → s.1.2.1.1 = 0)) (fun E E' s hE hI => by
    have : E = E' := funext fun x => propext (hE x)
    rw [← this]; exact hI) (i 101 307).toNat 0 o0 (fun _ => False) es0 (Nat.zero_add _) (fun o' E s he hI => by
      obtain ⟨⟨s1, ⟨b, v, f⟩, s3⟩, s2⟩ := s
      obtain ⟨q1, q2, q3, q4⟩ := hI
      simp only at q1 q2 q3 q4
      have es : (lfN i cs (i 101 307).toNat (i 101 308).toNat months e o' ((s1, (b, v, f), s3), s2)).1 = if flN i cs (i 101 307).toNat months e o' (i 101 308).toNat = 0 then addB (1, 1, valO i cs o', o', vs (fGr i) o' (i 101 307).toNat, vs (fPt i) o' (i 101 307).toNat, vs (fOf i) o' (i 101 307).toNat) (s1, (b, v, f), s3) else (s1, (b, v, f), s3) := rfl
      by_cases c : flN i cs (i 101 307).toNat months e o' (i 101 308).toNat = 0
      · rw [if_pos c] at es
        rw [es]
        have z1 : (addB (1, 1, valO i cs o', o', vs (fGr i) o' (i 101 307).toNat, vs (fPt i) o' (i 101 307).toNat, vs (fOf i) o' (i 101 307).toNat) (s1, (b, v, f), s3)).1 = s1 + 1 := rfl
        have z2 : (addB (1, 1, valO i cs o', o', vs (fGr i) o' (i 101 307).toNat, vs (fPt i) o' (i 101 307).toNat, vs (fOf i) o' (i 101 307).toNat) (s1, (b, v, f), s3)).2.1 = upB 1 (valO i cs o') o' (b, v, f) := rfl
        rw [z1, z2]
        refine ⟨by omega, ⟨fun _ => ⟨o', Or.inr (fun _ _ => rfl), c⟩, fun _ => by omega⟩, fun _ => ?_, fun z => by omega⟩
        unfold upB
        simp only
        by_cases p : 0 < s1
        · obtain ⟨p1, ⟨o, a1, a2, a3⟩, p3⟩ := q3 p
          by_cases lt : valO i cs o' < v
          · rw [if_pos ⟨p1, lt⟩]
            refine ⟨p1, ⟨o, Or.inl a1, a2, a3⟩, fun x hx hf => ?_⟩
            rcases hx with hx | hx
            · exact p3 x hx hf
            · rw [(hg x o' hx).2]; simp only; omega
          · rw [if_neg (fun z => lt z.2)]
            by_cases eq : valO i cs o' = v
            · rw [if_pos ⟨p1, eq⟩]
              refine ⟨by simp only; omega, ⟨o, Or.inl a1, a2, a3⟩, fun x hx hf => ?_⟩
              rcases hx with hx | hx
              · exact p3 x hx hf
              · rw [(hg x o' hx).2]; simp only; omega
            · rw [if_neg (fun z => eq z.2)]
              refine ⟨by simp only; omega, ⟨o', Or.inr (fun _ _ => rfl), c, rfl⟩, fun x hx hf => ?_⟩
              rcases hx with hx | hx
              · have := p3 x hx hf
                simp only; omega
              · rw [(hg x o' hx).2]; simp only; omega
        · have b0 : b = 0 := q4 (by omega)
          rw [if_neg (fun z => by omega), if_neg (fun z => by omega)]
          refine ⟨by simp only; omega, ⟨o', Or.inr (fun _ _ => rfl), c, rfl⟩, fun x hx hf => ?_⟩
          rcases hx with hx | hx
          · exact absurd (q2.mpr ⟨x, hx, hf⟩) p
          · rw [(hg x o' hx).2]; simp only; omega
      · rw [if_neg c] at es
        rw [es]
        have hno : ∀ x, (∀ j, j < (i 101 307).toNat → x j = o' j) → ¬ flN i cs (i 101 307).toNat months e x (i 101 308).toNat = 0 := fun x hx hf => c (by rw [← (hg x o' hx).1]; exact hf)
        refine ⟨q1, ⟨fun p => ?_, ?_⟩, fun p => ⟨(q3 p).1, ?_, fun x hx hf => ?_⟩, q4⟩
        · obtain ⟨o, a1, a2⟩ := q2.mp p
          exact ⟨o, Or.inl a1, a2⟩
        · rintro ⟨o, a1 | a1, a2⟩
          · exact q2.mpr ⟨o, a1, a2⟩
          · exact absurd a2 (hno o a1)
        · obtain ⟨o, a1, a2⟩ := (q3 p).2.1
          exact ⟨o, Or.inl a1, a2⟩
        · rcases hx with hx | hx
          · exact (q3 p).2.2 x hx hf
          · exact absurd hf (hno x hx)) ⟨Int.le_refl _, ⟨fun z => absurd (show (0 : Int) < 0 from z) (by decide), fun ⟨_, z, _⟩ => z.elim⟩, fun z => absurd (show (0 : Int) < 0 from z) (by decide), fun _ => rfl⟩
  have e1 : enX i cs months e = pG (fMy i) (lfN i cs (i 101 307).toNat (i 101 308).toNat months e) (i 101 307).toNat 0 o0 es0 := rfl
  rw [← e1] at h
  have hE : (fun x => (fun _ => False : (Nat → Nat) → Prop) x ∨ ext (fMy i) (i 101 307).toNat 0 o0 x) = fun x => ext (fMy i) (i 101 307).toNat 0 o0 x := funext fun x => propext ⟨fun z => z.elim False.elim id, Or.inr⟩
  rw [hE] at h
  exact ⟨h.1, h.2.1, h.2.2.1⟩
theorem fl_ease {cs : List Cla} {n W : Nat} {months e : Int} {o : Nat → Nat} (h : flN i cs n months (-1) o W = 0) : flN i cs n months e o W = 0 := by
  refine nat0_bits fun v => ?_
  cases hb : (flN i cs n months e o W).testBit v with
  | false => rfl
  | true =>
    exfalso
    have h2 := (flN_bit i cs n months e o W v).mp hb
    apply h2.2
    have h1 : vh i cs n months (-1) o v = true := by
      cases hh : vh i cs n months (-1) o v with
      | true => rfl
      | false =>
        have := (flN_bit i cs n months (-1) o W v).mpr ⟨h2.1, by rw [hh]; exact fun z => by cases z⟩
        rw [h, Nat.zero_testBit] at this
        cases this
    refine (vhGo_iff i cs n months e o v 12).mpr (fun m hm hin => ?_)
    have := (vhGo_iff i cs n months (-1) o v 12).mp h1 m hm hin
    rw [if_neg (show ¬ (-1 : Int) = (v : Int) by omega)] at this
    split <;> omega
theorem gain_val {cs : List Cla} (h : chAll i cs) {o : Nat → Nat} (ho : okO i (i 101 307).toNat o) : vs (pcM i).2.1 o (i 101 307).toNat = valO i cs o :=
  vs_sub o _ (fun t ht => (pcM_at h (t := t) (c := o t) (by omega) (ho t ht).2).2.1)
theorem high_link {cs : List Cla} (hx : Cx w i cs) (h : chAll i cs) {R : Nat} (hR : R ≤ 12) (h51 : i 51 13 = (R : Int)) {months : Int} (hcv : cvR i l cs (i 101 307).toNat R (msI months 12)) {e : Int} (he : 0 ≤ e ∧ e < i 101 308) (hpos : 0 < (enX i cs months (-1)).1.1) {v : Int} (h1 : hiP (pcM i) (rwK i l 255 e) (i 101 307).toNat 0 o0 (enX i cs months (-1)).1.2.1.2.1 v) (h2 : ∀ o', ext (pcM i).1 (i 101 307).toNat 0 o0 o' → gd (rwK i l 255 e) (i 101 307).toNat o' = true → vs (pcM i).2.1 o' (i 101 307).toNat ≤ v) : 0 < (enX i cs months e).1.1 ∧ (enX i cs months e).1.2.1.2.1 = v := by
  have h308 := hx.2.1.1.2.1
  have hok := (rwK_ok hx h hR h51 hcv (k := 255) (by omega) (eased := e) (Or.inr ⟨rfl, he.1, he.2, by omega⟩)).2
  have hgd : ∀ o, ext (fMy i) (i 101 307).toNat 0 o0 o → (gd (rwK i l 255 e) (i 101 307).toNat o = true ↔ flN i cs (i 101 307).toNat months e o (i 101 308).toNat = 0) := by
    intro o ho
    have := (hok o (ext_ok h ((ext_my h).mpr ho))).trans moOK_fl
    rw [flN_255 (by omega)] at this
    exact this
  have hv : ∀ o, ext (fMy i) (i 101 307).toNat 0 o0 o → vs (pcM i).2.1 o (i 101 307).toNat = valO i cs o := fun o ho => gain_val h (ext_ok h ((ext_my h).mpr ho))
  have m := enX_val i cs months (-1)
  have m' := enX_val i cs months e
  obtain ⟨-, ⟨o1, a1, a2, a3⟩, -⟩ := m.2.2 hpos
  have a2' : flN i cs (i 101 307).toNat months e o1 (i 101 308).toNat = 0 := fl_ease a2
  have hp : 0 < (enX i cs months e).1.1 := m'.2.1.mpr ⟨o1, a1, a2'⟩
  obtain ⟨-, ⟨o2, b1, b2, b3⟩, b4⟩ := m'.2.2 hp
  refine ⟨hp, ?_⟩
  have up : (enX i cs months e).1.2.1.2.1 ≤ v := by
    rw [← b3, ← hv o2 b1]
    exact h2 o2 ((ext_my h).mpr b1) ((hgd o2 b1).mpr b2)
  have dn : v ≤ (enX i cs months e).1.2.1.2.1 := by
    rcases h1.2 with z | ⟨o', z1, z2, z3⟩
    · rw [z, ← a3]
      exact b4 o1 a1 a2'
    · have y1 := (ext_my h).mp z1
      rw [← z3, hv o' y1]
      exact b4 o' y1 ((hgd o' y1).mp z2)
  omega
end
