/-! PAINTINGS: what the class keeps of them, against the model's search -/
section
variable {w : Wd} {d : Nat} {i : IM} {l : LM}
theorem cvR_lc {i : IM} {l l' : LM} {cs : List Cla} {n R : Nat} {ms : Int → Prop} (h56 : l' 56 = l 56) (h57 : l' 57 = l 57) (h58 : l' 58 = l 58) (h60 : l' 60 = l 60) (h : cvR i l cs n R ms) : cvR i l' cs n R ms := by
  unfold cvR rowP at h ⊢
  rw [h56, h57, h58, h60]
  exact h
theorem ext_ex (i : IM) : ∃ o, ext (fMy i) (i 101 307).toNat 0 o0 o := by
  have hc : ∀ j : Nat, ∃ c : Nat, c < 3 ∧ mMay i (j : Int) (c : Int) = true := fun j => may_ex (i := i) (j : Int)
  refine ⟨fun j => Classical.choose (hc j), fun j hj => by omega, fun j _ _ => ?_⟩
  have := Classical.choose_spec (hc j)
  exact ⟨this.2, this.1⟩
theorem enX_lt (hk : kOK (i 101)) (cs : List Cla) (months e : Int) : (enX i cs months e).2.1.1 < 2147483647 := by
  have h307 := hk.1.1
  have h308 := hk.1.2.1
  have h := pG_ind (may := fMy i) (leaf := lfN i cs (i 101 307).toNat (i 101 308).toNat months e) (n := (i 101 307).toNat) (I := fun E (s : ES) => (∃ x, E x) → s.2.1.1 < 2147483647) (fun E E' s hE hI => by
    have : E = E' := funext fun x => propext (hE x)
    rw [← this]; exact hI) (i 101 307).toNat 0 o0 (fun _ => False) es0 (Nat.zero_add _) (fun o' E s he _ _ => by
      have h1 := vs_rg (g := fPr i cs) (b := 99) o' (i 101 307).toNat (fun t ht => mPr_rg hk cs ⟨by omega, by omega⟩)
      have h2 := shN_rg hk cs (i 101 307).toNat months e o' (k := (i 101 308).toNat) (by omega)
      show (if vs (fPr i cs) o' (i 101 307).toNat + shN i cs (i 101 307).toNat months e o' (i 101 308).toNat < s.2.1.1 then (vs (fPr i cs) o' (i 101 307).toNat + shN i cs (i 101 307).toNat months e o' (i 101 308).toNat, flN i cs (i 101 307).toNat months e o' (i 101 308).toNat, o') else s.2.1).1 < 2147483647
      split
      · simp only; omega
      · next hh => omega) (fun ⟨_, z⟩ => z.elim)
  obtain ⟨o, ho⟩ := ext_ex i
  exact h ⟨o, Or.inr ho⟩
/-- what the PAINTER's cells say -/
def ptR (i : IM) (cs : List Cla) (months : Int) : Prop := i 63 11 = (enX i cs months (-1)).1.1 ∧ i 63 12 = (enX i cs months (-1)).1.2.1.1 ∧ (0 < (enX i cs months (-1)).1.1 → i 63 13 = (enX i cs months (-1)).1.2.1.2.1 ∧ (∀ j : Nat, j < (i 101 307).toNat → i 72 (j : Int) = (((enX i cs months (-1)).1.2.1.2.2 j : Nat) : Int)) ∧ ∃ x y z : Nat, (x < 256 ∧ y < 256 ∧ z < 256) ∧ i 63 14 = pk3 x y z ∧ (enX i cs months (-1)).1.2.2 = ((x : Int), (y : Int), (z : Int)))
def PtC (i : IM) (cs : List Cla) : Prop := i 63 18 ≤ i 7 15 ∧ (i 63 18 = i 7 15 → ptR i cs (i 63 17))
def mdR (i : IM) (l : LM) (cs : List Cla) (months : Int) : Prop := i 83 8 = (enX i cs months (-1)).2.1.1 ∧ wuN (l 83 9) 8 = (enX i cs months (-1)).2.1.2.1 ∧ ∀ j : Nat, j < (i 101 307).toNat → i 89 (j : Int) = (((enX i cs months (-1)).2.1.2.2 j : Nat) : Int)
def MdC (i : IM) (l : LM) (cs : List Cla) : Prop := i 83 11 ≤ i 7 15 ∧ (i 83 11 = i 7 15 → mdR i l cs (i 83 10))
theorem ptR_eq {i i' : IM} {cs : List Cla} {months : Int} (e63 : i' 63 = i 63) (e72 : i' 72 = i 72) (e101 : i' 101 = i 101) (h : ptR i cs months) : ptR i' cs months := by
  unfold ptR
  rw [e63, e72, enX_K e101, e101]
  exact h
theorem mdR_eq {i i' : IM} {l l' : LM} {cs : List Cla} {months : Int} (e83 : i' 83 = i 83) (e89 : i' 89 = i 89) (e101 : i' 101 = i 101) (e83l : l' 83 = l 83) (h : mdR i l cs months) : mdR i' l' cs months := by
  unfold mdR
  rw [e83, e89, e83l, enX_K e101, e101]
  exact h
theorem PtC_eq {i i' : IM} {cs : List Cla} (e7 : i' 7 = i 7) (e63 : i' 63 = i 63) (e72 : i' 72 = i 72) (e101 : i' 101 = i 101) (h : PtC i cs) : PtC i' cs := by
  unfold PtC
  rw [e7, e63]
  exact ⟨h.1, fun z => ptR_eq e63 e72 e101 (h.2 z)⟩
theorem MdC_eq {i i' : IM} {l l' : LM} {cs : List Cla} (e7 : i' 7 = i 7) (e83 : i' 83 = i 83) (e89 : i' 89 = i 89) (e101 : i' 101 = i 101) (e83l : l' 83 = l 83) (h : MdC i l cs) : MdC i' l' cs := by
  unfold MdC
  rw [e7, e83]
  exact ⟨h.1, fun z => mdR_eq e83 e89 e101 e83l (h.2 z)⟩
/-- CANVAS is prepared -/
def prd (i : IM) (l : LM) (cs : List Cla) (months : Int) : Prop := i 51 15 = i 7 15 ∧ i 51 14 = months ∧ chAll i cs ∧ ∃ R : Nat, R ≤ 12 ∧ i 51 13 = (R : Int) ∧ cvR i l cs (i 101 307).toNat R (msI months 12)
theorem CvC_prd {i : IM} {l : LM} {cs : List Cla} {months : Int} (h : prd i l cs months) : CvC i l cs := by
  obtain ⟨h1, h2, h3, R, h4, h5, h6⟩ := h
  exact ⟨by rw [h1]; exact Int.le_refl _, fun _ => ⟨h3, R, h4, h5, by rw [h2]; exact h6⟩⟩
theorem prd_eq {i i' : IM} {l l' : LM} {cs : List Cla} {months : Int} (e : ∀ a, (a = 7 ∨ a = 101 ∨ (51 ≤ a ∧ a ≤ 62)) → i' a = i a) (el : ∀ a, (51 ≤ a ∧ a ≤ 62) → l' a = l a) (h : prd i l cs months) : prd i' l' cs months := by
  obtain ⟨h1, h2, h3, R, h4, h5, h6⟩ := h
  have e101 := e 101 (by omega)
  refine ⟨by rw [e 51 (by omega), e 7 (by omega)]; exact h1, by rw [e 51 (by omega)]; exact h2, chAll_K e101 (e 52 (by omega)) (e 53 (by omega)) (e 54 (by omega)) (e 55 (by omega)) (e 59 (by omega)) h3, R, h4, by rw [e 51 (by omega)]; exact h5, ?_⟩
  rw [cvR_K e101, e101]
  exact cvR_lc (el 56 (by omega)) (el 57 (by omega)) (el 58 (by omega)) (el 60 (by omega)) h6
theorem CvC_eq {i i' : IM} {l l' : LM} {cs : List Cla} (e : ∀ a, (a = 7 ∨ a = 101 ∨ (51 ≤ a ∧ a ≤ 62)) → i' a = i a) (el : ∀ a, (51 ≤ a ∧ a ≤ 62) → l' a = l a) (h : CvC i l cs) : CvC i' l' cs := by
  refine ⟨by rw [e 51 (by omega), e 7 (by omega)]; exact h.1, fun z => ?_⟩
  rw [e 51 (by omega), e 7 (by omega)] at z
  obtain ⟨h3, R, h4, h5, h6⟩ := h.2 z
  have := prd_eq e el (months := i 51 14) ⟨z, rfl, h3, R, h4, h5, h6⟩
  obtain ⟨-, q2, q3, R', q4, q5, q6⟩ := this
  exact ⟨q3, R', q4, q5, by rw [q2]; exact q6⟩
/-- what a class's call for PAINTINGS leaves as it is -/
def pgf (i i' : IM) : Prop := ∀ a : Nat, (a < 41 ∨ (42 < a ∧ a < 51) ∨ 89 < a) → i' a = i a
theorem pgf_rf (i : IM) : pgf i i := fun _ _ => rfl
theorem pgf_tr {i j k : IM} (h1 : pgf i j) (h2 : pgf j k) : pgf i k := fun a x => (h2 a x).trans (h1 a x)
theorem pgf_pp {i i' : IM} (h : ppf i i') : pgf i i' := fun a x => h a (by omega) (by omega) (by omega) (by omega) (by omega) (by omega) (by omega) (by omega) (by omega)
theorem pgf_t {a : Nat} (ha : a = 63 ∨ a = 73) {i i' : IM} (h : tfr a i i') : pgf i i' := fun c x => h c (by omega)
theorem Cx_pg {i i' : IM} {cs : List Cla} (hh : pgf i i') (hx : Cx w i cs) : Cx w i' cs := by
  have e101 := hh 101 (by omega)
  refine ⟨?_, by rw [e101]; exact hx.2.1, forceC_K (hh 7 (by omega)) (fun b hb => hh b (by omega)) hx.2.2.1, hx.2.2.2⟩
  have ht := hx.1
  unfold TW
  rw [hh 7 (by omega), hh 8 (by omega), hh 9 (by omega), hh 10 (by omega), hh 11 (by omega), hh 13 (by omega), hh 14 (by omega), e101, mLow_K e101]
  exact ht
theorem ptR_of {i1 i2 : IM} {cs : List Cla} {months : Int} {S : SA} (e101 : i2 101 = i1 101) (hps : pS i2 63 (i1 101 307).toNat true S) (hra : RA (i1 101 307).toNat S (enX i1 cs months (-1)).1) : ptR i2 cs months := by
  unfold ptR
  rw [enX_K e101, e101]
  obtain ⟨p1, p2, p3, p4, p5, p6⟩ := hps
  obtain ⟨r1, r2, r3, r4, r5⟩ := hra
  refine ⟨p1.trans r2, p2.trans r3, fun q => ?_⟩
  obtain ⟨q1, q2, q3, q4⟩ := r4 (by omega)
  refine ⟨p3.trans q2, fun j hj => by rw [p6 rfl q1 j hj, q3 j hj], ?_⟩
  obtain ⟨s1, s2, x, y, z⟩ := S
  simp only at p4 p5 q4
  obtain ⟨a, rfl⟩ := Int.eq_ofNat_of_zero_le p5.1.1
  obtain ⟨b, rfl⟩ := Int.eq_ofNat_of_zero_le p5.2.1.1
  obtain ⟨c, rfl⟩ := Int.eq_ofNat_of_zero_le p5.2.2.1
  exact ⟨a, b, c, ⟨by omega, by omega, by omega⟩, p4, q4.symm⟩
theorem sp_X11_survey {P : IM → LM → Prop} (hd : 22 ≤ d) {cs : List Cla} (hx : Cx w i cs) (hcv : CvC i l cs) (hpt : PtC i cs) (hmd : MdC i l cs) {months : Int} (hm : rg months) (hP : ∀ i' l', pgf i i' → prd i' l' cs months → PtC i' cs → MdC i' l' cs → ptR i' cs months → P i' l') : cVd w d X_X11_survey [vR (some 6), vI months] i l P := by
  obtain ⟨d, rfl, hd1⟩ := d_pos hd
  refine e_X11_survey (s_X11_survey _ ?_)
  refine sp_X1_prepare (by omega) hx hcv hm (fun i1 l1 R hR f1 g1 c15 c14 hch c13 hcvr => ?_)
  have pd1 : prd i1 l1 cs months := ⟨c15, c14, hch, R, hR, c13, hcvr⟩
  have hx1 := Cx_pp f1 hx
  have f1' := pgf_pp f1
  have o1 : ∀ a, (a < 41 ∨ (42 < a ∧ a < 51) ∨ 62 < a) → i1 a = i a := fun a x => f1 a (by omega) (by omega) (by omega) (by omega) (by omega) (by omega) (by omega) (by omega) (by omega)
  have hpt1 : PtC i1 cs := PtC_eq (o1 7 (by omega)) (o1 63 (by omega)) (o1 72 (by omega)) (o1 101 (by omega)) hpt
  have hmd1 : MdC i1 l1 cs := MdC_eq (o1 7 (by omega)) (o1 83 (by omega)) (o1 89 (by omega)) (o1 101 (by omega)) (g1 83 (by omega) (by omega) (by omega) (by omega) (by omega) (by omega)) hmd
  have hcvo := cvOK_of hx1 hch hR c13
  have hZ : RWok (pcM i1) (rwK i1 l1 255 (-1)) (i1 101 307).toNat := (rwK_ok hx1 hch hR c13 hcvr (k := 255) (by omega) (eased := -1) (Or.inl rfl)).1
  refine sp_X5_survey (Or.inl rfl) (by omega) hcvo hZ hm (fun z1 z2 => ?_) (fun i2 l2 v t1 t2 z hps => ?_)
  · have := hpt1.2 z1
    rw [z2] at this
    exact hP i1 l1 f1' pd1 hpt1 hmd1 this
  · have hra := survey_link hx1 hch hR c13 hcvr v
    have e101 : i2 101 = i1 101 := t1 101 (by omega)
    have e7 : i2 7 = i1 7 := t1 7 (by omega)
    have hpr : ptR i2 cs months := ptR_of e101 hps hra
    refine hP i2 l2 (pgf_tr f1' (pgf_t (Or.inl rfl) t1)) (prd_eq (fun a x => t1 a (by omega)) (fun a x => t2 a (by omega)) pd1) ⟨by rw [e7, z.1]; exact Int.le_refl _, fun _ => by rw [z.2]; exact hpr⟩ (MdC_eq e7 (t1 83 (by omega)) (t1 89 (by omega)) e101 (t2 83 (by omega)) hmd1) hpr
theorem sp_mendC {P : IM → LM → Prop} (hd : 19 ≤ d) {cs : List Cla} (hx : Cx w i cs) (hcv : CvC i l cs) (hpt : PtC i cs) (hmd : MdC i l cs) {months : Int} (hm : rg months) (hP : ∀ i' l', pgf i i' → prd i' l' cs months → PtC i' cs → MdC i' l' cs → mdR i' l' cs months → P i' l') : cVd w d X_X1_prepare [vR (some 51), vI months] i l (fun i12 l12 => cVd w d X_X3_search [vR (some 83), vI months] i12 l12 P) := by
  refine sp_X1_prepare (by omega) hx hcv hm (fun i1 l1 R hR f1 g1 c15 c14 hch c13 hcvr => ?_)
  have pd1 : prd i1 l1 cs months := ⟨c15, c14, hch, R, hR, c13, hcvr⟩
  have hx1 := Cx_pp f1 hx
  have f1' := pgf_pp f1
  have o1 : ∀ a, (a < 41 ∨ (42 < a ∧ a < 51) ∨ 62 < a) → i1 a = i a := fun a x => f1 a (by omega) (by omega) (by omega) (by omega) (by omega) (by omega) (by omega) (by omega) (by omega)
  have hpt1 : PtC i1 cs := PtC_eq (o1 7 (by omega)) (o1 63 (by omega)) (o1 72 (by omega)) (o1 101 (by omega)) hpt
  have hmd1 : MdC i1 l1 cs := MdC_eq (o1 7 (by omega)) (o1 83 (by omega)) (o1 89 (by omega)) (o1 101 (by omega)) (g1 83 (by omega) (by omega) (by omega) (by omega) (by omega) (by omega)) hmd
  have hcvo := cvOK_of hx1 hch hR c13
  refine sp_X3_search (by omega) hcvo (shK_of hx1) hm (fun z1 z2 => ?_) (fun i2 l2 lx t1 z t2 t3 t4 hms => ?_)
  · have := hmd1.2 z1
    rw [z2] at this
    exact hP i1 l1 f1' pd1 hpt1 hmd1 this
  · have hrm := mend_link hx1 hch hR c13 hcvr t3 t4
    have e101 : i2 101 = i1 101 := t1 101 (by omega) (by omega) (by omega) (by omega) (by omega)
    have e7 : i2 7 = i1 7 := t1 7 (by omega) (by omega) (by omega) (by omega) (by omega)
    have hlt := enX_lt hx1.2.1 cs months (-1)
    have hmr : mdR i2 l2 cs months := by
      unfold mdR
      rw [enX_K e101, e101]
      rcases hrm with ⟨_, z⟩ | ⟨hlo, h1, w1, w2⟩
      · exact absurd hlt (by rw [z]; decide)
      obtain ⟨v1, v2⟩ := hms.2 hlo
      exact ⟨hms.1.trans h1, by rw [v1]; exact w1, fun j hj => by rw [v2 j hj, w2 j hj]⟩
    refine hP i2 l2 (pgf_tr f1' (fun a x => t1 a (by omega) (by omega) (by omega) (by omega) (by omega))) (prd_eq (fun a x => t1 a (by omega) (by omega) (by omega) (by omega) (by omega)) (fun a x => t2 a (by omega) (by omega) (by omega)) pd1) (PtC_eq e7 (t1 63 (by omega) (by omega) (by omega) (by omega) (by omega)) (t1 72 (by omega) (by omega) (by omega) (by omega) (by omega)) e101 hpt1) ⟨by rw [e7, z.1]; exact Int.le_refl _, fun _ => by rw [z.2]; exact hmr⟩ hmr
end
