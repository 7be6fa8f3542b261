/-! fragments of code that run as they mean; all that the grammar reads is such -/
/-- loop head of runs -/
abbrev ruH (w : Wd) (d cd : Nat) (P : Int → IM → LM → Prop) (i : IM) (l : LM) (t h at_ : Nat) : Prop := gI w d X_X0_runs P i l 6 [(0, vR (some 41)), (1, vR (some cd)), (3, vI (t : Int)), (4, vI (h : Int)), (5, vI (at_ : Int))] []
def atC (i : IM) (cd u : Nat) (c : List Int) : Prop := ∀ j : Nat, j < c.length → i cd ((u + j : Nat) : Int) = c.getD j 0
theorem atC_l {i : IM} {cd u : Nat} {a b : List Int} (h : atC i cd u (a ++ b)) : atC i cd u a := fun j hj => by
  rw [h j (by rw [List.length_append]; omega), List.getD_eq_getElem?_getD, List.getElem?_append_left hj, List.getD_eq_getElem?_getD]
theorem atC_r {i : IM} {cd u : Nat} {a b : List Int} (h : atC i cd u (a ++ b)) : atC i cd (u + a.length) b := fun j hj => by
  have := h (a.length + j) (by rw [List.length_append]; omega)
  rw [show u + a.length + j = u + (a.length + j) by omega, this, List.getD_eq_getElem?_getD, List.getElem?_append_right (by omega), List.getD_eq_getElem?_getD, show a.length + j - a.length = j by omega]
theorem atC_1 {i : IM} {cd u : Nat} {x : Int} {b : List Int} (h : atC i cd u (x :: b)) : i cd (u : Int) = x := by
  have := h 0 (by simp)
  rw [show u + 0 = u by omega] at this
  exact this
def CG (u : Nat) (c : List Int) (f : Mean) (need : Nat) : Prop := 1 ≤ need ∧ ∀ (w : Wd) (d cd : Nat) (P : Int → IM → LM → Prop) (i : IM) (l : LM) (t h : Nat), CodeAt w cd → t ≤ w.2.2.1 cd → atC i cd u c → u + c.length ≤ t → h + need ≤ 63 → envOK i →
  (∀ l', f (envOf i) = none → pileS l l' h → P 0 i l') → (∀ v l', f (envOf i) = some v → bd v → pileS l l' h → l' 43 h = Int64.ofInt v → ruH w d cd P i l' t (h + 1) (u + c.length)) → ruH w d cd P i l t h u
theorem CG_num (u a : Nat) (ha : a ≤ 1000) : CG u [16 * (a : Int)] (fun _ => some (a : Int)) 1 := by
  refine ⟨Nat.le_refl _, fun w d cd P i l t h hcd ht hc hu hh he k0 k1 => ?_⟩
  have hz := atC_1 hc
  have hu' : u + 1 ≤ t := hu
  refine ru_num hcd (by omega) ht hz (by omega) (by omega) ?_
  exact k1 a _ rfl ⟨by omega, by omega⟩ (pileS_up l _ (Nat.le_refl _)) (if_pos ⟨rfl, rfl⟩)
theorem CG_word (u a : Nat) (ha : a < 9) : CG u [1 + 16 * (a : Int)] (fun e => some (e a)) 1 := by
  refine ⟨Nat.le_refl _, fun w d cd P i l t h hcd ht hc hu hh he k0 k1 => ?_⟩
  have hz := atC_1 hc
  have hu' : u + 1 ≤ t := hu
  refine ru_word hcd (by omega) ht hz ha (by omega) (he a ha) ?_
  exact k1 _ _ rfl (he a ha) (pileS_up l _ (Nat.le_refl _)) (if_pos ⟨rfl, rfl⟩)
theorem CG_bin {u : Nat} {c1 c2 : List Int} {f g : Mean} {n1 n2 o : Nat} {op : Int → Int → Option Int} (h1 : CG u c1 f n1) (h2 : CG (u + c1.length) c2 g n2) (hop : opOK o op) : CG u (c1 ++ c2 ++ [(o : Int)]) (m2 f g op) (n1 + n2) := by
  refine ⟨by have := h1.1; omega, fun w d cd P i l t h hcd ht hc hu hh he k0 k1 => ?_⟩
  have g1 := h1.1
  have g2 := h2.1
  have hlen : (c1 ++ c2 ++ [(o : Int)]).length = c1.length + c2.length + 1 := by simp; omega
  rw [hlen] at hu k1
  have hc12 := atC_l hc
  have hz := atC_1 (atC_r hc)
  rw [List.length_append] at hz
  refine h1.2 w d cd P i l t h hcd ht (atC_l hc12) (by omega) (by omega) he (fun l' e hp => k0 l' ?_ hp) (fun a l1 e hba hp1 hl1 => ?_)
  · unfold m2; rw [e]
  refine h2.2 w d cd P i l1 t (h + 1) hcd ht (atC_r hc12) (by omega) (by omega) he (fun l' e2 hp => k0 l' ?_ (pileS_tr hp1 hp (by omega))) (fun b l2 e2 hbb hp2 hl2 => ?_)
  · unfold m2; rw [e, e2]
  have hp := pileS_tr hp1 hp2 (Nat.le_add_right h 1)
  have hla : l2 43 (h : Int) = Int64.ofInt a := (hp2.2 h (by omega)).trans hl1
  have hlb : l2 43 ((h : Int) + 1) = Int64.ofInt b := hl2
  have hm : m2 f g op (envOf i) = op a b := by unfold m2; rw [e, e2]
  have key := ru_bin (w := w) (d := d) (P := P) (i := i) (l := l2) (cd := cd) hcd (t := t) (at_ := u + c1.length + c2.length) (h := h) hop (by omega) ht (by rw [show u + c1.length + c2.length = u + (c1.length + c2.length) by omega]; exact hz) (by omega) hba hbb hla hlb (fun q => k0 l2 (hm.trans q) hp) (fun v q hv => by
    have k := k1 v (u2l l2 43 h (Int64.ofInt v)) (hm.trans q) hv (pileS_tr hp (pileS_up l2 _ (Nat.le_refl h)) (Nat.le_refl h)) (if_pos ⟨rfl, rfl⟩)
    rw [show u + (c1.length + c2.length + 1) = u + c1.length + c2.length + 1 by omega] at k
    exact k)
  exact key
theorem CG_not {u : Nat} {c : List Int} {f : Mean} {n : Nat} (h1 : CG u c f n) (h01 : ∀ i v, envOK i → f (envOf i) = some v → v = 0 ∨ v = 1) : CG u (c ++ [9]) (mNot f) n := by
  refine ⟨h1.1, fun w d cd P i l t h hcd ht hc hu hh he k0 k1 => ?_⟩
  have g1 := h1.1
  have hlen : (c ++ [(9 : Int)]).length = c.length + 1 := by simp
  rw [hlen] at hu k1
  have hz := atC_1 (atC_r hc)
  refine h1.2 w d cd P i l t h hcd ht (atC_l hc) (by omega) hh he (fun l' e hp => k0 l' ?_ hp) (fun a l1 e hba hp1 hl1 => ?_)
  · unfold mNot; rw [e]; rfl
  have hm : mNot f (envOf i) = some (1 - a) := by unfold mNot; rw [e]; rfl
  have e1 : (1 : Int64) - l1 43 h = Int64.ofInt (1 - a) := by
    rw [hl1, Int64.ofInt_sub]
    rfl
  have b1 : bd (1 - a) := by rcases h01 i a he e with rfl | rfl <;> exact ⟨by omega, by omega⟩
  have key := ru_not (w := w) (d := d) (P := P) (i := i) (l := l1) (cd := cd) hcd (t := t) (at_ := u + c.length) (h := h) (by omega) ht hz (by omega) (by rw [e1]; exact k1 _ _ hm b1 (pileS_tr hp1 (pileS_up l1 _ (Nat.le_refl h)) (Nat.le_refl h)) (if_pos ⟨rfl, rfl⟩))
  exact key
theorem CG_jump {u : Nat} {c1 c2 : List Int} {f g : Mean} {n1 n2 : Nat} {isOr : Bool} (hsz : u + c1.length + 1 + c2.length < 100000000) (h1 : CG u c1 f n1) (h2 : CG (u + c1.length + 1) c2 g n2) : CG u (c1 ++ [jOrd isOr + 16 * ((u + c1.length + 1 + c2.length : Nat) : Int)] ++ c2) (mJump isOr f g) (n1 + n2) := by
  refine ⟨by have := h1.1; omega, fun w d cd P i l t h hcd ht hc hu hh he k0 k1 => ?_⟩
  have g1 := h1.1
  have g2 := h2.1
  have hlen : (c1 ++ [jOrd isOr + 16 * ((u + c1.length + 1 + c2.length : Nat) : Int)] ++ c2).length = c1.length + 1 + c2.length := by simp; omega
  rw [hlen] at hu k1
  have hc12 := atC_l hc
  have hz := atC_1 (atC_r hc12)
  have hc2 := atC_r hc
  rw [List.length_append, show (c1.length + [jOrd isOr + 16 * ((u + c1.length + 1 + c2.length : Nat) : Int)].length) = c1.length + 1 from rfl, show u + (c1.length + 1) = u + c1.length + 1 by omega] at hc2
  refine h1.2 w d cd P i l t h hcd ht (atC_l hc12) (by omega) (by omega) he (fun l' e hp => k0 l' ?_ hp) (fun a l1 e hba hp1 hl1 => ?_)
  · unfold mJump; rw [e]
  have key := ru_jump (w := w) (d := d) (P := P) (i := i) (l := l1) (cd := cd) hcd (t := t) (at_ := u + c1.length) (h := h) (isOr := isOr) (by omega) ht hz hsz (by omega) (by omega) hba hl1 (fun q => ?_) (fun q => ?_)
  · exact key
  · have hm : mJump isOr f g (envOf i) = some a := by unfold mJump; rw [e]; exact if_pos q
    have k := k1 a l1 hm hba hp1 hl1
    rw [show u + (c1.length + 1 + c2.length) = u + c1.length + 1 + c2.length by omega] at k
    exact k
  · have hm : mJump isOr f g (envOf i) = g (envOf i) := by unfold mJump; rw [e]; exact if_neg q
    refine h2.2 w d cd P i l1 t h hcd ht hc2 (by omega) (by omega) he (fun l' e2 hp => k0 l' (hm.trans e2) (pileS_tr hp1 hp (Nat.le_refl h))) (fun b l2 e2 hbb hp2 hl2 => ?_)
    have k := k1 b l2 (hm.trans e2) hbb (pileS_tr hp1 hp2 (Nat.le_refl h)) hl2
    rw [show u + (c1.length + 1 + c2.length) = u + c1.length + 1 + c2.length by omega] at k
    exact k
