/-! CANVAS: a MONTH that is dropped -/
section
variable {w : Wd} {d : Nat} {i : IM} {l : LM}
/-- one row alone -/
def zOne (l : LM) (q : Nat) : RW := (1, fun t c _ => l 56 (((t : Int) * 3 + (c : Int)) * 12 + (q : Int)), fun _ => l 60 (q : Int), fun t _ => l 57 ((t : Int) * 12 + (q : Int)), fun t _ => l 58 ((t : Int) * 12 + (q : Int)))
abbrev okO (i : IM) (n : Nat) (o : Nat → Nat) : Prop := ∀ j, j < n → mMay i (j : Int) ((o j : Nat) : Int) = true ∧ o j < 3
theorem zOne_row {cs : List Cla} {mo : Int} {q n : Nat} (hn : (n : Int) = i 101 307) (h : rowP i l cs mo q 0) : zRow i cs n (zOne l q) 0 mo := by
  have e : (i 101 307).toNat = n := by omega
  refine ⟨fun t c v ht hc hm hv => h.1 t c (Nat.zero_le _) (by omega) hc hm v hv, fun t v ht hv => ?_⟩
  have := h.2 t v (Nat.zero_le _) (by omega) hv
  rw [e] at this
  exact this
theorem spB_K {cs : List Cla} {mo : Int} {x : Int64} (h : spB i cs mo x) {kept : Nat} (hk : ∀ v, v < 8 → kept.testBit v = true) : spK i cs kept (-1) mo x := by
  intro v hv
  rw [h v hv]
  have hf := fLimit_rg cs (v : Int) mo 0
  by_cases c : v < (i 101 308).toNat
  · rw [if_pos c, if_pos ⟨c, hk v hv⟩, if_neg (by omega)]; omega
  · rw [if_neg c, if_neg (fun z => c z.1)]; rfl
theorem spB_127 {cs : List Cla} {mo : Int} {x : Int64} (h : spB i cs mo x) : ∀ v, v < 8 → Bt x v ≤ 127 := by
  intro v hv
  rw [h v hv]
  have hf := fLimit_rg cs (v : Int) mo 0
  split <;> omega
theorem bits255 : ∀ v, v < 8 → (255 : Nat).testBit v = true := by decide
theorem never_mo (hk : kOK (i 101)) {cs : List Cla} {mo : Int} {q n : Nat} (hn : (n : Int) = i 101 307) {lim : Int64} (h60 : l 60 (q : Int) = lim) (hsp : spB i cs mo lim) (hrow : rowP i l cs mo q 0) (hm : mayF l (q : Int) 0 lim lim = 0) : ∀ o kept eased, okO i n o → moOK i cs n kept eased o mo := by
  intro o kept eased ho
  have hZ : RWok (fun t c => mMay i (t : Int) (c : Int), fun _ _ => 0, fun _ _ => 0, fun _ _ => 0, fun _ _ => 0) (zOne l q) n := RWok_of hk hn (fun t c _ _ h => h) (fun y v _ hv => by show Bt (l 60 (q : Int)) v ≤ 127; rw [h60]; exact spB_127 hsp v hv) (fun y hy => ⟨mo, by
    have e : y = 0 := by
      have : y < 1 := hy
      omega
    subst e; exact zOne_row hn hrow⟩)
  have hmf : mfL (zOne l q) 0 0 (vw (zOne l q) o 0 0) (ldL (zOne l q) (vw (zOne l q) o 0 0) 0) ((zOne l q).2.2.1 0) = 0 := by
    have e1 : ldL (zOne l q) (vw (zOne l q) o 0 0) 0 = lim := by
      show cntL 0 + l 60 (q : Int) = lim
      rw [cntL_0, Int64.zero_add, h60]
    have e2 : (zOne l q).2.2.1 0 = lim := h60
    rw [e1, e2]
    have e3 : mayF l (q : Int) 0 lim lim = mfL (zOne l q) 0 0 0 lim lim := by
      unfold mayF mfL
      have f7 : (zOne l q).2.2.2.1 0 0 = l 57 (q : Int) := by show l 57 (((0 : Nat) : Int) * 12 + (q : Int)) = _; rw [show (((0 : Nat) : Int) * 12 + (q : Int)) = (q : Int) by omega]
      have f8 : (zOne l q).2.2.2.2 0 0 = l 58 (q : Int) := by show l 58 (((0 : Nat) : Int) * 12 + (q : Int)) = _; rw [show (((0 : Nat) : Int) * 12 + (q : Int)) = (q : Int) by omega]
      rw [f7, f8]
    exact (e3.symm.trans hm : mfL (zOne l q) 0 0 0 lim lim = 0)
  have hr := mf_ok hZ (Nat.zero_le n) (o := o) (o' := o) ⟨fun _ _ => rfl, fun j _ hj => ho j hj⟩ (q := 0) (by show 0 < 1; omega) hmf
  have h1 := (rOK_mo hk hZ (q := 0) (by show 0 < 1; omega) (zOne_row hn hrow) (kept := 255) (eased := -1) (by
    show spK i cs 255 (-1) mo (l 60 (q : Int))
    rw [h60]
    exact spB_K hsp bits255) ho).mp hr
  intro v v1 _
  have := h1 v v1 (bits255 v (by have := hk.1.2.1; omega))
  rw [if_neg (by omega)] at this
  split <;> omega
/-- two rows that are alike hold alike -/
theorem twice_mo (hk : kOK (i 101)) (hch : ChK i) {cs : List Cla} {mo mo' : Int} {x q n : Nat} (hn : (n : Int) = i 101 307) (hsx : spB i cs mo' (l 60 (x : Int))) (hsq : spB i cs mo (l 60 (q : Int))) (hrx : rowP i l cs mo' x 0) (hrq : rowP i l cs mo q 0) (ht : twK i l x q ((i 101 307).toNat * 3)) : ∀ o kept eased, okO i n o → (moOK i cs n kept eased o mo ↔ moOK i cs n kept eased o mo') := by
  have h308 := hk.1.2.1
  have h307 := hk.1.1
  have hlim : ∀ v : Nat, v < (i 101 308).toNat → fLimit cs (v : Int) mo 0 = fLimit cs (v : Int) mo' 0 := by
    intro v hv
    have a1 := hsx v (by omega)
    have a2 := hsq v (by omega)
    rw [ht.1] at a1
    rw [a1, if_pos hv, if_pos hv] at a2
    have f1 := fLimit_rg cs (v : Int) mo 0
    have f2 := fLimit_rg cs (v : Int) mo' 0
    omega
  intro o kept eased ho
  have hvw : ∀ v : Nat, v < (i 101 308).toNat → ∀ t, t ≤ n → mvw i cs o v mo t = mvw i cs o v mo' t := by
    intro v hv t
    induction t with
    | zero => intro _; rfl
    | succ t ih =>
      intro htn
      have hm := ho t (by omega)
      have b1 := hrx.1 t (o t) (Nat.zero_le _) (by omega) hm.2 hm.1 v (by omega)
      have b2 := hrq.1 t (o t) (Nat.zero_le _) (by omega) hm.2 hm.1 v (by omega)
      have hbit : iand (ishr (i 52 (t : Int)) ((o t : Nat) : Int)) 1 = 1 := (hch t (o t) (by omega) hm.2).2.1.mpr hm.1
      have hsl := ht.2.2 (t * 3 + o t) (by omega)
      have d1 : (t * 3 + o t) / 3 = t := by omega
      have d2 : (t * 3 + o t) % 3 = o t := by omega
      rw [d1, d2] at hsl
      have he := hsl hbit
      have e3 : ((t * 3 + o t : Nat) : Int) = (t : Int) * 3 + ((o t : Nat) : Int) := by omega
      rw [e3] at he
      rw [he] at b1
      rw [b1, if_pos hv, if_pos hv] at b2
      show mvw i cs o v mo t ||| (mBit i cs (v : Int) (t : Int) (mColour i (t : Int) ((o t : Nat) : Int)) mo 0).toNat = mvw i cs o v mo' t ||| (mBit i cs (v : Int) (t : Int) (mColour i (t : Int) ((o t : Nat) : Int)) mo' 0).toNat
      rw [ih (by omega), b2]
  unfold moOK
  constructor
  · intro h v v1 v2
    have := h v v1 v2
    rw [hvw v v1 n (Nat.le_refl _), hlim v v1] at this
    exact this
  · intro h v v1 v2
    rw [hvw v v1 n (Nat.le_refl _), hlim v v1]
    exact h v v1 v2
/-- the CANVAS is prepared for the MONTHS of a set -/
def cvR (i : IM) (l : LM) (cs : List Cla) (n R : Nat) (ms : Int → Prop) : Prop := ∃ mq : Nat → Int, rowsOK i cs n mq R ms ∧ ∀ q, q < R → spB i cs (mq q) (l 60 (q : Int)) ∧ rowP i l cs (mq q) q 0
theorem rowP_l {cs : List Cla} {mo : Int} {q q' : Nat} (hq : q < 12) (hq' : q' < 12) (hne : q ≠ q') {l l' : LM} (h : rofl q' l l') (hr : rowP i l cs mo q 0) : rowP i l' cs mo q 0 := by
  refine ⟨fun t c h1 h2 hc hm v hv => ?_, fun t v h1 h2 hv => ?_⟩
  · have := (h.2.1 (((t : Int) * 3 + (c : Int)) * 12 + (q : Int)) (by omega) (by omega)).1
    rw [this]; exact hr.1 t c h1 h2 hc hm v hv
  · have := h.2.1 ((t : Int) * 12 + (q : Int)) (by omega) (by omega)
    rw [this.2.1, this.2.2]; exact hr.2 t v h1 h2 hv
theorem cvR_cg {cs : List Cla} {n R : Nat} {ms ms' : Int → Prop} (h : ∀ m, ms m ↔ ms' m) (hr : cvR i l cs n R ms) : cvR i l cs n R ms' := by
  obtain ⟨mq, h1, h2⟩ := hr
  exact ⟨mq, ⟨fun q hq => (h _).mp (h1.1 q hq), fun mo hmo => h1.2 mo ((h _).mpr hmo)⟩, h2⟩
/-- rows of before, in a memory in which another row is laid -/
theorem cvR_l {cs : List Cla} {n q : Nat} (hq : q < 12) {ms : Int → Prop} {l l' : LM} (h : rofl q l l') (hr : cvR i l cs n q ms) : cvR i l' cs n q ms := by
  obtain ⟨mq, h1, h2⟩ := hr
  refine ⟨mq, h1, fun x hx => ⟨?_, rowP_l (by omega) hq (by omega) h (h2 x hx).2⟩⟩
  rw [h.2.2 (x : Int) (by omega)]; exact (h2 x hx).1
theorem cvR_drop (hk : kOK (i 101)) (hch : ChK i) {cs : List Cla} {n q : Nat} (hn : (n : Int) = i 101 307) {ms : Int → Prop} {mo : Int} (hr : cvR i l cs n q ms) {lim : Int64} (h60 : l 60 (q : Int) = lim) (hsp : spB i cs mo lim) (hrow : rowP i l cs mo q 0) (hd : mayF l (q : Int) 0 lim lim = 0 ∨ ∃ x, x < q ∧ twK i l x q ((i 101 307).toNat * 3)) : cvR i l cs n q (fun m => ms m ∨ m = mo) := by
  obtain ⟨mq, h1, h2⟩ := hr
  refine ⟨mq, ⟨fun x hx => Or.inl (h1.1 x hx), fun m hm => ?_⟩, h2⟩
  rcases hm with hm | hm
  · exact h1.2 m hm
  · subst hm
    rcases hd with z | ⟨x, x1, x2⟩
    · exact Or.inl (never_mo hk hn h60 hsp hrow z)
    · exact Or.inr ⟨x, x1, twice_mo hk hch hn (h2 x x1).1 (by rw [h60]; exact hsp) (h2 x x1).2 hrow x2⟩
theorem cvR_new {cs : List Cla} {n q : Nat} {ms : Int → Prop} {mo : Int} (hr : cvR i l cs n q ms) {lim : Int64} (h60 : l 60 (q : Int) = lim) (hsp : spB i cs mo lim) (hrow : rowP i l cs mo q 0) : cvR i l cs n (q + 1) (fun m => ms m ∨ m = mo) := by
  obtain ⟨mq, h1, h2⟩ := hr
  refine ⟨fun x => if x = q then mo else mq x, ⟨fun x hx => ?_, fun m hm => ?_⟩, fun x hx => ?_⟩
  · show ms (if x = q then mo else mq x) ∨ (if x = q then mo else mq x) = mo
    by_cases e : x = q
    · rw [if_pos e]; exact Or.inr rfl
    · rw [if_neg e]; exact Or.inl (h1.1 x (by omega))
  · rcases hm with hm | hm
    · rcases h1.2 m hm with z | ⟨x, x1, x2⟩
      · exact Or.inl z
      · refine Or.inr ⟨x, by omega, fun o kept eased ho => ?_⟩
        show moOK i cs n kept eased o m ↔ moOK i cs n kept eased o (if x = q then mo else mq x)
        rw [if_neg (by omega)]
        exact x2 o kept eased ho
    · subst hm
      refine Or.inr ⟨q, by omega, fun o kept eased ho => ?_⟩
      show moOK i cs n kept eased o m ↔ moOK i cs n kept eased o (if q = q then m else mq q)
      rw [if_pos rfl]
  · show spB i cs (if x = q then mo else mq x) (l 60 (x : Int)) ∧ rowP i l cs (if x = q then mo else mq x) x 0
    by_cases e : x = q
    · subst e
      rw [if_pos rfl, h60]
      exact ⟨hsp, hrow⟩
    · rw [if_neg e]; exact h2 x (by omega)
end
