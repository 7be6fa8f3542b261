/-! ONE CALL on both sides: image, back -/
section
variable {w : Wd} {d k : Nat} {i : IM} {l : LM}
def BkA (w : Wd) : Prop := BkO w 15 ∧ BkO w 25 ∧ BkO w 34 ∧ 125 ≤ w.2.1 ∧ (w.2.1 - 125) % 4 = 0
/-- one call of the class, which may make cells, then the same call of the model -/
def BoE (w : Wd) (k d mc ms : Nat) (X Y : MI) (vs : List MV) (i : IM) (l : LM) : Prop := Cn w.1 d mc ms X (vR (some 6) :: vs) (dw w) i l (fun r δ1 i1 l1 => ∃ (v : Int) (w1 : Wd), r = some (vI v) ∧ rg v ∧ δ1 = dw w1 ∧ w1.1 = w.1 ∧ BkA w1 ∧ cI w1 d Y (vR (some 99) :: vs) i1 l1 (fun v' i2 l2 => v' = v ∧ Inv w1 (k + 2) i2 l2))
theorem BoE_of {X Y : MI} {vs : List MV} (hb : BkA w) (h : BoC w k d X Y vs i l) : BoE w k d 0 0 X Y vs i l := by
  refine Cn_mono h ?_
  rintro r δ1 i1 l1 ⟨rfl, v, rfl, hv, hc⟩
  exact ⟨v, w, rfl, hv, rfl, rfl, hb, CI_mono hc (fun x i' l' _ q => ⟨q.1, Inv_u q.2⟩)⟩
theorem BoE_of2 {X Y : MI} {vs : List MV} (hb : BkA w) (h : BoD w k d X Y vs i l) : BoE w k d 0 0 X Y vs i l := by
  refine Cn_mono h ?_
  rintro r δ1 i1 l1 ⟨rfl, v, rfl, hv, hc⟩
  exact ⟨v, w, rfl, hv, rfl, rfl, hb, hc⟩
theorem cpA_ne {a b c : Nat} {n : Int} (h : c ≠ b) : cpA i a b n c = i c := by
  funext x
  unfold cpA
  rw [if_neg (fun q => h q.1)]
theorem cpA_at {a b : Nat} {n x : Int} (h0 : 0 ≤ x) (h1 : x < n) : cpA i a b n b x = i a x := by
  unfold cpA
  rw [if_pos ⟨rfl, h0, h1⟩]
theorem bcC_o {a b c : Nat} (h : c ≤ b ∨ b + 7 < c) : bcC i a b c = i c := by
  unfold bcC
  rw [cpA_ne (by omega), cpA_ne (by omega), cpA_ne (by omega), cpA_ne (by omega), cpA_ne (by omega), cpA_ne (by omega), cpA_ne (by omega)]
theorem bcF_o {J : IM} {a b c : Nat} (h : c ≠ b) : bcF J a b c = J c := by
  unfold bcF
  rw [u2_other _ _ _ h, u2_other _ _ _ h, u2_other _ _ _ h, u2_other _ _ _ h, u2_other _ _ _ h, u2_other _ _ _ h, u2_other _ _ _ h]
theorem bcF_f {J : IM} {a b : Nat} (x : Int) : bcF J a b b x = if 8 ≤ x ∧ x ≤ 14 then J a x else J b x := by
  unfold bcF
  rw [u2_at, u2_at, u2_at, u2_at, u2_at, u2_at, u2_at]
  by_cases h : 8 ≤ x ∧ x ≤ 14
  · rw [if_pos h]
    have h7 : x = 8 ∨ x = 9 ∨ x = 10 ∨ x = 11 ∨ x = 12 ∨ x = 13 ∨ x = 14 := by omega
    rcases h7 with rfl | rfl | rfl | rfl | rfl | rfl | rfl <;> rfl
  · rw [if_neg h, if_neg (by omega), if_neg (by omega), if_neg (by omega), if_neg (by omega), if_neg (by omega), if_neg (by omega), if_neg (by omega)]
/-- what lies in cells b to b + 7 then -/
theorem bc_at {a b : Nat} (hab : a + 9 ≤ b ∨ b + 9 ≤ a) {J : IM} (hJ : J = bcF (bcC i a b) a b) : (∀ c, (c < b ∨ b + 7 < c) → J c = i c) ∧ (∀ x : Int, J b x = if 8 ≤ x ∧ x ≤ 14 then i a x else i b x) ∧ (∀ x : Int, 0 ≤ x → x < 80 → J (b + 1) x = i (a + 1) x) ∧ (∀ x : Int, 0 ≤ x → x < 24 → J (b + 2) x = i (a + 2) x) ∧ (∀ x : Int, 0 ≤ x → x < 5 → J (b + 3) x = i (a + 3) x) ∧ (∀ x : Int, 0 ≤ x → x < 10 → J (b + 4) x = i (a + 4) x) ∧ (∀ x : Int, 0 ≤ x → x < 8 → J (b + 5) x = i (a + 5) x) ∧ (∀ x : Int, 0 ≤ x → x < 8 → J (b + 6) x = i (a + 6) x) ∧ (∀ x : Int, 0 ≤ x → x < 180 → J (b + 7) x = i (a + 7) x) := by
  subst hJ
  refine ⟨fun c hc => by rw [bcF_o (by omega), bcC_o (by omega)], fun x => by rw [bcF_f, bcC_o (by omega), bcC_o (by omega)], fun x x0 x1 => ?_, fun x x0 x1 => ?_, fun x x0 x1 => ?_, fun x x0 x1 => ?_, fun x x0 x1 => ?_, fun x x0 x1 => ?_, fun x x0 x1 => ?_⟩
  · rw [bcF_o (by omega)]; unfold bcC
    rw [cpA_ne (by omega), cpA_ne (by omega), cpA_ne (by omega), cpA_ne (by omega), cpA_ne (by omega), cpA_ne (by omega), cpA_at x0 x1]
  · rw [bcF_o (by omega)]; unfold bcC
    rw [cpA_ne (by omega), cpA_ne (by omega), cpA_ne (by omega), cpA_ne (by omega), cpA_ne (by omega), cpA_at x0 x1, cpA_ne (by omega)]
  · rw [bcF_o (by omega)]; unfold bcC
    rw [cpA_ne (by omega), cpA_ne (by omega), cpA_ne (by omega), cpA_ne (by omega), cpA_at x0 x1, cpA_ne (by omega), cpA_ne (by omega)]
  · rw [bcF_o (by omega)]; unfold bcC
    rw [cpA_ne (by omega), cpA_ne (by omega), cpA_ne (by omega), cpA_at x0 x1, cpA_ne (by omega), cpA_ne (by omega), cpA_ne (by omega)]
  · rw [bcF_o (by omega)]; unfold bcC
    rw [cpA_ne (by omega), cpA_ne (by omega), cpA_at x0 x1, cpA_ne (by omega), cpA_ne (by omega), cpA_ne (by omega), cpA_ne (by omega)]
  · rw [bcF_o (by omega)]; unfold bcC
    rw [cpA_ne (by omega), cpA_at x0 x1, cpA_ne (by omega), cpA_ne (by omega), cpA_ne (by omega), cpA_ne (by omega), cpA_ne (by omega)]
  · rw [bcF_o (by omega)]; unfold bcC
    rw [cpA_at x0 x1, cpA_ne (by omega), cpA_ne (by omega), cpA_ne (by omega), cpA_ne (by omega), cpA_ne (by omega), cpA_ne (by omega)]
theorem u2r_at (r : RM) (a : Nat) (j : Int) (v : Option Nat) (p : Int) : u2r r a j v a p = if p = j then v else r a p := by
  unfold u2r
  by_cases h : p = j
  · rw [if_pos ⟨rfl, h⟩, if_pos h]
  · rw [if_neg (fun z => h z.2), if_neg h]
theorem wC_bk {a b : Nat} (c : Nat) (x : Int) : (wC w a b).2.2.2 c x = if c = b + 8 ∧ 0 ≤ x ∧ x < 6 then w.2.2.2 (a + 8) x else w.2.2.2 c x := by
  have e : (wC w a b).2.2.2 = u2r (u2r (u2r (u2r (u2r (u2r w.2.2.2 (b + 8) 0 (w.2.2.2 (a + 8) 0)) (b + 8) 1 (w.2.2.2 (a + 8) 1)) (b + 8) 2 (w.2.2.2 (a + 8) 2)) (b + 8) 3 (w.2.2.2 (a + 8) 3)) (b + 8) 4 (w.2.2.2 (a + 8) 4)) (b + 8) 5 (w.2.2.2 (a + 8) 5) := rfl
  rw [e]
  by_cases h : c = b + 8
  · subst h
    rw [u2r_at, u2r_at, u2r_at, u2r_at, u2r_at, u2r_at]
    by_cases h2 : 0 ≤ x ∧ x < 6
    · rw [if_pos (show b + 8 = b + 8 ∧ 0 ≤ x ∧ x < 6 from ⟨rfl, h2⟩)]
      have h6 : x = 0 ∨ x = 1 ∨ x = 2 ∨ x = 3 ∨ x = 4 ∨ x = 5 := by omega
      rcases h6 with rfl | rfl | rfl | rfl | rfl | rfl <;> rfl
    · rw [if_neg (show ¬ (b + 8 = b + 8 ∧ 0 ≤ x ∧ x < 6) from fun z => h2 z.2), if_neg (show ¬ x = 5 by omega), if_neg (show ¬ x = 4 by omega), if_neg (show ¬ x = 3 by omega), if_neg (show ¬ x = 2 by omega), if_neg (show ¬ x = 1 by omega), if_neg (show ¬ x = 0 by omega)]
  · rw [u2r_other _ _ _ h, u2r_other _ _ _ h, u2r_other _ _ _ h, u2r_other _ _ _ h, u2r_other _ _ _ h, u2r_other _ _ _ h, if_neg (fun z => h z.1)]
theorem wC_sh {a b : Nat} : (dw (wC w a b)).2.1 = (dw w).2.1 := rfl
theorem lawC_wC {a b : Nat} {J : IM} {c : Nat} {cs : List Cla} (h : ∀ b, 125 ≤ b → J b = i b) (hL : lawC w i c cs) : lawC (wC w a b) J c cs := by
  have h1 : lawC (wC w a b) i c cs := by
    obtain ⟨q1, q2, q3, q4⟩ := hL
    refine ⟨q1, q2, ?_, q4⟩
    have key : ∀ (cs : List Cla) (j u : Nat), lawCs w i c j u cs → lawCs (wC w a b) i c j u cs := by
      intro cs
      induction cs with
      | nil => intro j u _; trivial
      | cons x cs ih => intro j u hh; exact ⟨hh.1, ih _ _ hh.2⟩
    exact key _ _ _ q3
  exact lawC_K h h1
theorem BkA_wC {a b : Nat} (hb : BkA w) (ha : a = 7 ∨ a = 17 ∨ a = 26) : BkA (wC w a b) := by
  have hA : BkO w (a + 8) := by
    rcases ha with rfl | rfl | rfl
    · exact hb.1
    · exact hb.2.1
    · exact hb.2.2.1
  have key : ∀ c, BkO w c → BkO (wC w a b) c := by
    intro c hc j x j0 j1 h
    rw [wC_bk] at h
    rw [wC_sh]
    split at h
    · exact hA j x j0 j1 h
    · exact hc j x j0 j1 h
  exact ⟨key 15 hb.1, key 25 hb.2.1, key 34 hb.2.2.1, hb.2.2.2⟩
/-- a TOWN with its LAWS stands in the other cells too -/
theorem TK_bc {a b : Nat} (hab : a + 9 ≤ b ∨ b + 9 ≤ a) (hb : b + 8 < 125) {J J' : IM} (hJ : J = bcF (bcC i a b) a b) (hJ' : ∀ c, (b ≤ c ∧ c ≤ b + 7 ∧ c ≠ b) ∨ 125 ≤ c → J' c = J c) (hJb : ∀ x : Int, x ≠ 15 → J' b x = J b x) {K : Int → Int} {A : Nat → List Cla} (h : TK w i a K A) : TK (wC w a b) J' b K A := by
  obtain ⟨b0, b1, b2, b3, b4, b5, b6, b7, b8⟩ := bc_at hab hJ
  obtain ⟨⟨⟨t1, t2, t3, t4, t5, t6, t7⟩, h2⟩, h3, h4⟩ := h
  refine ⟨⟨⟨fun j j0 j1 => ?_, fun j j0 j1 => ?_, fun j j0 j1 => ?_, fun j j0 j1 => ?_, fun c c0 c1 => ?_, fun j j0 j1 => ?_, ?_⟩, fun c hc => ?_⟩, h3, fun j hj => ?_⟩
  · rw [hJ' _ (by omega), b2 j j0 j1]; exact t1 j j0 j1
  · rw [hJ' _ (by omega), b3 j j0 j1]; exact t2 j j0 j1
  · rw [hJ' _ (by omega), b4 j j0 j1]; exact t3 j j0 j1
  · rw [hJ' _ (by omega), b5 j j0 j1]; exact t4 j j0 j1
  · rw [hJ' _ (by omega), b7 c c0 c1]; exact t5 c c0 c1
  · rw [hJ' _ (by omega), b8 j j0 j1]; exact t6 j j0 j1
  · rw [hJb 8 (by decide), hJb 9 (by decide), hJb 10 (by decide), hJb 11 (by decide), hJb 12 (by decide), hJb 13 (by decide), hJb 14 (by decide), b1, b1, b1, b1, b1, b1, b1]
    exact t7
  · rw [hJ' _ (by omega), b6 (c : Int) (by omega) (by omega)]; exact h2 c hc
  · obtain ⟨⟨q, q1, q2⟩, q3⟩ := h4 j hj
    have h6 := h3.1.1.2.2.2.2.1
    refine ⟨⟨q, ?_, ?_⟩, q3⟩
    · rw [wC_bk, if_pos ⟨rfl, by omega, by omega⟩]; exact q1
    · exact lawC_wC (fun c hc => by rw [hJ' c (by omega), b0 c (by omega)]) q2
/-- a TOWN elsewhere stays -/
theorem TK_wC {a b c : Nat} (hc : c + 8 < b ∨ b + 8 < c) {J : IM} (hJ : ∀ x, (c ≤ x ∧ x ≤ c + 7 ∧ x ≠ c) ∨ 125 ≤ x → J x = i x) (hJc : ∀ x : Int, x ≠ 15 → J c x = i c x) {K : Int → Int} {A : Nat → List Cla} (h : TK w i c K A) : TK (wC w a b) J c K A := by
  have h1 : TK w J c K A := TK_eq (fun x hx => hJ x (by omega)) hJc (fun x hx => hJ x (by omega)) h
  obtain ⟨t1, t2, t3⟩ := h1
  refine ⟨t1, t2, fun j hj => ?_⟩
  obtain ⟨⟨q, q1, q2⟩, q3⟩ := t3 j hj
  exact ⟨⟨q, by rw [wC_bk, if_neg (by omega)]; exact q1, lawC_wC (fun _ _ => rfl) q2⟩, q3⟩
theorem ibit01 : ∀ x : Fin 4, ∀ m k : Fin 2, iand (ishr (ior ((x.val : Nat) : Int) (ishl 1 ((k.val : Nat) : Int))) ((m.val : Nat) : Int)) 1 = (if m.val = k.val then 1 else iand (ishr ((x.val : Nat) : Int) ((m.val : Nat) : Int)) 1) ∧ (0 ≤ ior ((x.val : Nat) : Int) (ishl 1 ((k.val : Nat) : Int)) ∧ ior ((x.val : Nat) : Int) (ishl 1 ((k.val : Nat) : Int)) < 4) := by decide +kernel
def imR (i i' : IM) (q : Nat) (t : Nat) : Prop := (∀ a, a ≠ 102 → i' a = i a) ∧ ∀ x : Int, i' 102 x = if 5120 * (q : Int) ≤ x ∧ x < 5120 * (q : Int) + (t : Int) then i 101 (x - 5120 * (q : Int)) else i 102 x
theorem lp_image {P : Int → IM → LM → Prop} {q : Nat} (hq : q < 2) (hP : ∀ i', imR i i' q 5120 → cI w d X_X12_good [vR (some 99), vI 0] (u2 i' 103 (q : Int) 1) l P) : ∀ r t : Nat, t + r = 5120 → ∀ i', imR i i' q t → gI w d X_X12_image P i' l 17 [(0, vR (some 99)), (1, vI (q : Int)), (2, vI (t : Int))] [] := by
  intro r
  induction r with
  | zero =>
    intro t ht i' ha
    have e : t = 5120 := by omega
    subst e
    exact s_X12_image_17 _ _ ⟨⟨by omega, by omega⟩, fun _ => ⟨⟨by omega, by omega⟩, hP i' ha⟩, fun z => by omega⟩
  | succ r ih =>
    intro t ht i' ha
    obtain ⟨a1, a2⟩ := ha
    refine s_X12_image_17 _ _ ⟨⟨by omega, by omega⟩, fun z => by omega, fun z => ⟨⟨by omega, by omega⟩, ⟨by omega, by omega⟩, ?_⟩⟩
    have nx := ih (t + 1) (by omega) (u2 i' 102 (5120 * (q : Int) + (t : Int)) (i' 101 (t : Int))) ⟨fun a ha => by rw [u2_other _ _ _ ha, a1 a ha], fun x => by
      rw [u2_at]
      by_cases c : x = 5120 * (q : Int) + (t : Int)
      · rw [if_pos c, if_pos (by omega), a1 101 (by decide), c]; congr 1; omega
      · rw [if_neg c, a2]
        by_cases c2 : 5120 * (q : Int) ≤ x ∧ x < 5120 * (q : Int) + (t : Int)
        · rw [if_pos c2, if_pos (by omega)]
        · rw [if_neg c2, if_neg (by omega)]⟩
    exact nx
theorem tkOf_cg2 {K K' : Int → Int} (e : ∀ x : Int, 0 ≤ x → x < 5120 → K' x = K x) {f : Nat} (hf : f < 6) (hs : (K (314 + (f : Int))).toNat ≤ 400) : tkOf K' f = tkOf K f := by
  unfold tkOf
  rw [e (314 + (f : Int)) (by omega) (by omega)]
  have h1 : (fun k => if k < (K (314 + (f : Int))).toNat then K' (320 + ((400 * f + k : Nat) : Int)) else 0) = (fun k => if k < (K (314 + (f : Int))).toNat then K (320 + ((400 * f + k : Nat) : Int)) else 0) := by
    funext k
    by_cases c : k < (K (314 + (f : Int))).toNat
    · rw [if_pos c, if_pos c, e _ (by omega) (by omega)]
    · rw [if_neg c, if_neg c]
  have h2 : (fun k => if k < (K (314 + (f : Int))).toNat then K' (2720 + ((400 * f + k : Nat) : Int)) else 0) = (fun k => if k < (K (314 + (f : Int))).toNat then K (2720 + ((400 * f + k : Nat) : Int)) else 0) := by
    funext k
    by_cases c : k < (K (314 + (f : Int))).toNat
    · rw [if_pos c, if_pos c, e _ (by omega) (by omega)]
    · rw [if_neg c, if_neg c]
  rw [h1, h2]
theorem lawM_cg2 {K K' : Int → Int} (e : ∀ x : Int, 0 ≤ x → x < 5120 → K' x = K x) {f : Nat} (hf : f < 6) {cs : List Cla} (hl : lawM K f cs) : lawM K' f cs := by
  have hs : (K (314 + (f : Int))).toNat ≤ 400 := hl.1.1
  unfold lawM
  rw [tkOf_cg2 e hf hs, e (314 + (f : Int)) (by omega) (by omega)]
  exact hl
theorem kTy_ext {b : Nat} {K K' : Int → Int} {A : Nat → List Cla} (e : ∀ x : Int, 0 ≤ x → x < 5120 → K' x = K x) (h : TK w i b K A) : TK w i b K' A := by
  obtain ⟨⟨⟨t1, t2, t3, t4, t5, t6, t7⟩, h2⟩, ⟨k1, k2, k3⟩, h4⟩ := h
  have h6 := k1.1.2.2.2.2.1
  have e311 := e 311 (by omega) (by omega)
  have e312 := e 312 (by omega) (by omega)
  refine ⟨⟨⟨fun j j0 j1 => ?_, fun j j0 j1 => ?_, fun j j0 j1 => ?_, fun j j0 j1 => ?_, fun c c0 c1 => ?_, fun j j0 j1 => ?_, ?_⟩, fun c hc => ?_⟩, ⟨kOK_of (fun p p0 p1 p2 => by rw [e p p0 (by omega)]; exact kBd_of k1 p p0 p1 p2), SyK_cg (fun p p0 p1 p2 => e p (by omega) (by omega)) k2, ?_⟩, fun j hj => ?_⟩
  · rw [e _ (by omega) (by omega)]; exact t1 j j0 j1
  · rw [e _ (by omega) (by omega)]; exact t2 j j0 j1
  · rw [e _ (by omega) (by omega)]; exact t3 j j0 j1
  · rw [e _ (by omega) (by omega)]; exact t4 j j0 j1
  · rw [mLow_cg (K := K) (fun c c0 c1 => e _ (by omega) (by omega))]; exact t5 c c0 c1
  · rw [e _ (by omega) (by omega)]; exact t6 j j0 j1
  · rw [e _ (by omega) (by omega), e _ (by omega) (by omega), e _ (by omega) (by omega), e _ (by omega) (by omega), e _ (by omega) (by omega), e _ (by omega) (by omega), e _ (by omega) (by omega)]; exact t7
  · rw [e _ (by omega) (by omega)]; exact h2 c hc
  · unfold FrK; rw [e311, e312]; exact k3
  · rw [e311] at hj
    obtain ⟨q1, q2⟩ := h4 j hj
    exact ⟨q1, lawM_cg2 e (by omega) q2⟩
theorem bit4 : ∀ x : Fin 4, ∀ m : Fin 2, iand (ishr ((x.val : Nat) : Int) ((m.val : Nat) : Int)) 1 = 0 ∨ iand (ishr ((x.val : Nat) : Int) ((m.val : Nat) : Int)) 1 = 1 := by decide +kernel
theorem st_image (hd : 90 ≤ d) (hk : k ≤ 100000) (hb : BkA w) (hI : Inv w k i l) {p0 : Int} (h0 : rg p0) : BoE w k d 0 0 X_X11_image X_X12_image [vI p0] i l := by
  obtain ⟨A, hA⟩ := hI
  obtain ⟨d, rfl, hd1⟩ := d_pos (k := 89) hd
  have hc := chg_rg hA hk
  have gen : ∀ q : Nat, q < 2 → ∀ J, J = bcF (bcC i 7 (17 + 9 * q)) 7 (17 + 9 * q) → cI (wC w 7 (17 + 9 * q)) (d + 1) X_X12_image [vR (some 99), vI (q : Int)] (u2 (u2 J 6 14 (ior (J 6 14) (ishl 1 (q : Int)))) 6 18 0) l (fun v' i2 l2 => v' = 0 ∧ Inv (wC w 7 (17 + 9 * q)) (k + 2) i2 l2) := by
    intro q hq J hJ
    obtain ⟨b0, -⟩ := bc_at (i := i) (a := 7) (b := 17 + 9 * q) (by omega) hJ
    have m6 : ∀ x : Int, u2 (u2 J 6 14 (ior (J 6 14) (ishl 1 (q : Int)))) 6 18 0 6 x = if x = 18 then 0 else if x = 14 then ior (i 6 14) (ishl 1 (q : Int)) else i 6 x := fun x => by
      rw [u2_at, u2_at, b0 6 (by omega)]
    have mo : ∀ a, a ≠ 6 → u2 (u2 J 6 14 (ior (J 6 14) (ishl 1 (q : Int)))) 6 18 0 a = J a := fun a ha => by rw [u2_other _ _ _ ha, u2_other _ _ _ ha]
    generalize u2 (u2 J 6 14 (ior (J 6 14) (ishl 1 (q : Int)))) 6 18 0 = M at m6 mo ⊢
    refine e_X12_image (s_X12_image _ (by omega) ⟨⟨by omega, by omega⟩, fun _ => ?_, fun y => by omega⟩)
    have hlp := lp_image (w := wC w 7 (17 + 9 * q)) (d := d) (i := M) (l := l) (q := q) (P := fun v' i2 l2 => v' = 0 ∧ Inv (wC w 7 (17 + 9 * q)) (k + 2) i2 l2) hq (fun i' hr => ?_) 5120 0 (by omega) M ⟨fun _ _ => rfl, fun x => by rw [if_neg (by omega)]⟩
    · exact hlp
    obtain ⟨f1, f2⟩ := hr
    have e99 : u2 i' 103 (q : Int) 1 99 = i 99 := by rw [u2_other _ _ _ (by decide), f1 99 (by decide), mo 99 (by decide), b0 99 (by omega)]
    refine sp_X12_good (by omega) (rg_lit rfl) (by rw [e99]; exact hc.2) ⟨rfl, ?_⟩
    have g99 : ∀ x : Int, mGood (u2 i' 103 (q : Int) 1) 99 x = if x = 1 then i 99 1 + 1 else if x = 0 then 0 else i 99 x := fun x => by rw [mGo99, e99]
    have gJ : ∀ a, a ≠ 6 → a ≠ 99 → a ≠ 102 → a ≠ 103 → mGood (u2 i' 103 (q : Int) 1) a = J a := fun a a1 a2 a3 a4 => by rw [mGo6 _ a2, u2_other _ _ _ a4, f1 a a3, mo a a1]
    have g6 : ∀ x : Int, mGood (u2 i' 103 (q : Int) 1) 6 x = if x = 18 then 0 else if x = 14 then ior (i 6 14) (ishl 1 (q : Int)) else i 6 x := fun x => by rw [mGo6 _ (by decide), u2_other _ _ _ (by decide), f1 6 (by decide), m6]
    have g102 : ∀ x : Int, mGood (u2 i' 103 (q : Int) 1) 102 x = if 5120 * (q : Int) ≤ x ∧ x < 5120 * (q : Int) + 5120 then i 101 (x - 5120 * (q : Int)) else i 102 x := fun x => by
      rw [mGo6 _ (by decide), u2_other _ _ _ (by decide), f2, mo 101 (by decide), mo 102 (by decide), b0 101 (by omega), b0 102 (by omega)]; rfl
    have g103 : ∀ x : Int, mGood (u2 i' 103 (q : Int) 1) 103 x = if x = (q : Int) then 1 else i 103 x := fun x => by
      rw [mGo6 _ (by decide), u2_at, f1 103 (by decide), mo 103 (by decide), b0 103 (by omega)]
    generalize mGood (u2 i' 103 (q : Int) 1) = F at g99 gJ g6 g102 g103
    have go : ∀ a, (a < 6 ∨ (6 < a ∧ a < 17 + 9 * q) ∨ (17 + 9 * q + 7 < a ∧ a < 99) ∨ (99 < a ∧ a < 102) ∨ 103 < a) → F a = i a := fun a h => by rw [gJ a (by omega) (by omega) (by omega) (by omega), b0 a (by omega)]
    obtain ⟨h1, ⟨g, g2⟩, r1, r2, r3, r4, r5, r6⟩ := hA
    refine ⟨A, ?_, ⟨?_, ?_⟩, ⟨?_, ?_⟩, ?_, ?_, ?_, ?_, ?_⟩
    · rw [go 101 (by omega)]
      exact TK_wC (by omega) (fun x hx => go x (by omega)) (fun x _ => by rw [go 7 (by omega)]) h1
    · rw [go 101 (by omega)]
      exact CHs_eq (fun a x => go a (by omega)) (fun _ _ => rfl) g
    · exact PnC_old (by rw [g99]; rfl) (by rw [g99]; rfl) g2
    · rw [g6, if_neg (by decide), if_pos rfl]
      obtain ⟨n, hn⟩ := Int.eq_ofNat_of_zero_le r1.1.1
      have hn4 : n < 4 := by have := r1.1.2; omega
      have := ibit01 ⟨n, hn4⟩ ⟨0, by omega⟩ ⟨q, hq⟩
      rw [hn]
      exact this.2
    · intro m hm
      obtain ⟨n, hn⟩ := Int.eq_ofNat_of_zero_le r1.1.1
      have hn4 : n < 4 := by have := r1.1.2; omega
      have hib := (ibit01 ⟨n, hn4⟩ ⟨m, hm⟩ ⟨q, hq⟩).1
      have e14 : F 6 14 = ior ((n : Nat) : Int) (ishl 1 (q : Int)) := by rw [g6, if_neg (by decide), if_pos rfl, hn]
      rw [e14, g103]
      have hib' : iand (ishr (ior ((n : Nat) : Int) (ishl 1 (q : Int))) (m : Int)) 1 = if m = q then 1 else iand (ishr ((n : Nat) : Int) (m : Int)) 1 := hib
      rw [hib']
      by_cases c : m = q
      · subst c
        refine ⟨by rw [if_pos rfl, if_pos rfl], fun _ => ⟨A, ?_⟩⟩
        refine kTy_ext (K := i 101) (fun x x0 x1 => ?_) (TK_bc (a := 7) (by omega) (by omega) hJ (fun a ha => gJ a (by omega) (by omega) (by omega) (by omega)) (fun x _ => by rw [gJ (17 + 9 * m) (by omega) (by omega) (by omega) (by omega)]) h1)
        show F 102 (5120 * (m : Int) + x) = _
        rw [g102, if_pos (by omega)]
        congr 1; omega
      · have c2 : ¬ (m : Int) = (q : Int) := by omega
        rw [if_neg c2, if_neg c]
        obtain ⟨q1, q2⟩ := r1.2 m hm
        rw [hn] at q1
        refine ⟨q1, fun z => ?_⟩
        obtain ⟨A', hA'⟩ := q2 z
        refine ⟨A', kTy_ext (K := fun j => i 102 (5120 * (m : Int) + j)) (fun x x0 x1 => ?_) (TK_wC (by omega) (fun x hx => go x (by omega)) (fun x _ => by rw [go (17 + 9 * m) (by omega)]) hA')⟩
        show F 102 (5120 * (m : Int) + x) = i 102 (5120 * (m : Int) + x)
        rw [g102, if_neg (by omega)]
    · exact Tpe_eq (by rw [g6]; rfl) (by rw [g99]; rfl) (go 35 (by omega)) (go 105 (by omega)) r2
    · obtain ⟨⟨c1, c2⟩, c3, c4, c5⟩ := r3
      refine ⟨⟨?_, ?_⟩, fun x x0 x5 => ?_, ?_, ?_⟩
      · rw [go 7 (by omega)]; omega
      · rw [g99, if_pos rfl]; omega
      · rw [go 36 (by omega)]; have := c3 x x0 x5; omega
      · rw [go 36 (by omega), go 100 (by omega)]; exact c4
      · exact limB_up (limB_eq (go 112 (by omega)) c5) (by omega)
    · refine ⟨?_, ?_, ?_⟩
      · rw [g6, g99]; rfl
      · rw [g6, g99]; exact r4.2.1
      · rw [g6, g99]; exact r4.2.2
    · exact Dy_eq (by rw [go 94 (by omega)]) (go 95 (by omega)) (by rw [g99]; rfl) (go 124 (by omega)) r5
    · unfold Wrd; rw [go 104 (by omega)]; exact r6
  refine wk_image (by omega) h0 hb.1 (ref_rg hA hk r1) (fun c => ?_) (fun e J hJ => ?_) (fun e J hJ => ?_)
  · refine ⟨-1, w, rfl, rg_lit rfl, rfl, rfl, hb, ?_⟩
    have hf := CI_mono (ref2 (d := d) hA hk (by omega) r1) (fun x i' l' _ q => (⟨q.1, Inv_u q.2⟩ : x = -1 ∧ Inv w (k + 2) i' l'))
    generalize cRef i (-1) 0 = J at hf ⊢
    exact e_X12_image (s_X12_image _ (by omega) ⟨h0, fun y => by omega, fun _ => hf⟩)
  · subst e
    exact ⟨0, wC w 7 17, rfl, rg_lit rfl, rfl, rfl, BkA_wC hb (Or.inl rfl), gen 0 (by omega) J hJ⟩
  · subst e
    exact ⟨0, wC w 7 26, rfl, rg_lit rfl, rfl, rfl, BkA_wC hb (Or.inl rfl), gen 1 (by omega) J hJ⟩
def baR (i i' : IM) (q : Nat) (t : Nat) : Prop := (∀ a, a ≠ 101 → i' a = i a) ∧ ∀ x : Int, i' 101 x = if 0 ≤ x ∧ x < (t : Int) then i 102 (5120 * (q : Int) + x) else i 101 x
theorem lp_back {P : Int → IM → LM → Prop} {q : Nat} (hq : q < 2) (hP : ∀ i', baR i i' q 5120 → cI w d X_X12_good [vR (some 99), vI 0] i' l P) : ∀ r t : Nat, t + r = 5120 → ∀ i', baR i i' q t → gI w d X_X12_back P i' l 33 [(0, vR (some 99)), (1, vI (q : Int)), (2, vI (t : Int))] [] := by
  intro r
  induction r with
  | zero =>
    intro t ht i' ha
    have e : t = 5120 := by omega
    subst e
    exact s_X12_back_33 _ _ ⟨⟨by omega, by omega⟩, fun _ => hP i' ha, fun z => by omega⟩
  | succ r ih =>
    intro t ht i' ha
    obtain ⟨a1, a2⟩ := ha
    refine s_X12_back_33 _ _ ⟨⟨by omega, by omega⟩, fun z => by omega, fun z => ⟨⟨by omega, by omega⟩, ⟨by omega, by omega⟩, ?_⟩⟩
    have nx := ih (t + 1) (by omega) (u2 i' 101 (t : Int) (i' 102 (5120 * (q : Int) + (t : Int)))) ⟨fun a ha => by rw [u2_other _ _ _ ha, a1 a ha], fun x => by
      rw [u2_at]
      by_cases c : x = (t : Int)
      · rw [if_pos c, if_pos (by omega), a1 102 (by decide), c]
      · rw [if_neg c, a2]
        by_cases c2 : 0 ≤ x ∧ x < (t : Int)
        · rw [if_pos c2, if_pos (by omega)]
        · rw [if_neg c2, if_neg (by omega)]⟩
    exact nx
theorem st_back (hd : 90 ≤ d) (hk : k ≤ 100000) (hb : BkA w) (hI : Inv w k i l) {p0 : Int} (h0 : rg p0) : BoE w k d 0 0 X_X11_back X_X12_back [vI p0] i l := by
  obtain ⟨A, hA⟩ := hI
  obtain ⟨d, rfl, hd1⟩ := d_pos (k := 89) hd
  have hc := chg_rg hA hk
  have r1' := hA.2.2.1
  obtain ⟨n, hn⟩ := Int.eq_ofNat_of_zero_le r1'.1.1
  have hn4 : n < 4 := by have := r1'.1.2; omega
  have gen : ∀ q : Nat, q < 2 → ¬ iand (ishr (i 6 14) (q : Int)) 1 = 0 → ∀ J, J = bcF (bcC i (17 + 9 * q) 7) (17 + 9 * q) 7 → cI (wC w (17 + 9 * q) 7) (d + 1) X_X12_back [vR (some 99), vI (q : Int)] (cChg J) l (fun v' i2 l2 => v' = 0 ∧ Inv (wC w (17 + 9 * q) 7) (k + 2) i2 l2) := by
    intro q hq hbit J hJ
    obtain ⟨b0, b1, -⟩ := bc_at (i := i) (a := 17 + 9 * q) (b := 7) (by omega) hJ
    have h103 : i 103 (q : Int) = 1 := by
      rw [(r1'.2 q hq).1]
      rw [hn] at hbit ⊢
      have := bit4 ⟨n, hn4⟩ ⟨q, hq⟩
      rcases this with z | z
      · exact absurd z hbit
      · exact z
    obtain ⟨A', hA'⟩ := (r1'.2 q hq).2 h103
    have m6 : ∀ x : Int, cChg J 6 x = if x = 18 then 0 else i 6 x := fun x => by rw [cC6, b0 6 (by omega)]
    have m7 : ∀ x : Int, cChg J 7 x = if x = 15 then i 7 15 + 1 else J 7 x := fun x => by
      rw [cC7, b1 15]; rfl
    have mo : ∀ a, a ≠ 6 → a ≠ 7 → cChg J a = J a := fun a h1 h2 => cCo J h1 h2
    generalize cChg J = M at m6 m7 mo ⊢
    have e103 : M 103 = i 103 := by rw [mo 103 (by decide) (by decide), b0 103 (by omega)]
    refine e_X12_back (s_X12_back _ (by omega) ⟨⟨by omega, by omega⟩, fun _ => ⟨by omega, by omega⟩, fun _ => ?_, fun y => by rw [e103, h103] at y; omega, fun y => by omega⟩)
    have hlp := lp_back (w := wC w (17 + 9 * q) 7) (d := d) (i := M) (l := l) (q := q) (P := fun v' i2 l2 => v' = 0 ∧ Inv (wC w (17 + 9 * q) 7) (k + 2) i2 l2) hq (fun i' hr => ?_) 5120 0 (by omega) M ⟨fun _ _ => rfl, fun x => by rw [if_neg (by omega)]⟩
    · exact hlp
    obtain ⟨f1, f2⟩ := hr
    have e99 : i' 99 = i 99 := by rw [f1 99 (by decide), mo 99 (by decide) (by decide), b0 99 (by omega)]
    refine sp_X12_good (by omega) (rg_lit rfl) (by rw [e99]; exact hc.2) ⟨rfl, ?_⟩
    have g99 : ∀ x : Int, mGood i' 99 x = if x = 1 then i 99 1 + 1 else if x = 0 then 0 else i 99 x := fun x => by rw [mGo99, e99]
    have gJ : ∀ a, a ≠ 6 → a ≠ 7 → a ≠ 99 → a ≠ 101 → mGood i' a = J a := fun a a1 a2 a3 a4 => by rw [mGo6 _ a3, f1 a a4, mo a a1 a2]
    have g6 : ∀ x : Int, mGood i' 6 x = if x = 18 then 0 else i 6 x := fun x => by rw [mGo6 _ (by decide), f1 6 (by decide), m6]
    have g7 : ∀ x : Int, mGood i' 7 x = if x = 15 then i 7 15 + 1 else J 7 x := fun x => by rw [mGo6 _ (by decide), f1 7 (by decide), m7]
    have g101 : ∀ x : Int, mGood i' 101 x = if 0 ≤ x ∧ x < 5120 then i 102 (5120 * (q : Int) + x) else i 101 x := fun x => by
      rw [mGo6 _ (by decide), f2, mo 102 (by decide) (by decide), mo 101 (by decide) (by decide), b0 101 (by omega), b0 102 (by omega)]; rfl
    generalize mGood i' = F at g99 gJ g6 g7 g101
    have go : ∀ a, (a < 6 ∨ (14 < a ∧ a < 99) ∨ a = 100 ∨ 101 < a) → F a = i a := fun a h => by rw [gJ a (by omega) (by omega) (by omega) (by omega), b0 a (by omega)]
    have hA0 := hA
    obtain ⟨-, -, -, r2, -, r4, -, -⟩ := hA
    have hT : TK (wC w (17 + 9 * q) 7) F 7 (F 101) A' := kTy_ext (K := fun j => i 102 (5120 * (q : Int) + j)) (fun x x0 x1 => by rw [g101, if_pos ⟨x0, x1⟩]) (TK_bc (a := 17 + 9 * q) (b := 7) (by omega) (by omega) hJ (fun a ha => gJ a (by omega) (by omega) (by omega) (by omega)) (fun x hx => by rw [g7, if_neg hx]) hA')
    have hIm : Img (wC w (17 + 9 * q) 7) F := by
      refine ⟨by rw [g6]; exact r1'.1, fun m hm => ?_⟩
      obtain ⟨q1, q2⟩ := r1'.2 m hm
      rw [go 103 (by omega), go 102 (by omega), g6, if_neg (by decide)]
      refine ⟨q1, fun z => ?_⟩
      obtain ⟨A2, hA2⟩ := q2 z
      exact ⟨A2, TK_wC (by omega) (fun x hx => go x (by omega)) (fun x _ => by rw [go (17 + 9 * m) (by omega)]) hA2⟩
    refine Inv_u ⟨A', InA_ch (i' := F) hA0 (fun a x => go a (by omega)) hT (by rw [g7]; rfl) (by rw [g99]; rfl) (by rw [g99]; rfl) (by rw [g99]; rfl) hIm (Tpe_eq (by rw [g6]; rfl) (by rw [g99]; rfl) (go 35 (by omega)) (go 105 (by omega)) r2) ⟨?_, ?_, ?_⟩⟩
    · rw [g6, g99]; rfl
    · rw [g6, g99]; exact r4.2.1
    · rw [g6, g99]; exact r4.2.2
  refine wk_back (by omega) h0 hb.2.1 hb.2.2.1 (ref_rg hA hk r1) (ref_rg hA hk r2) hc.1 (fun c => ?_) (fun c c2 => ?_) (fun e c2 J hJ => ?_) (fun e c2 J hJ => ?_)
  · refine ⟨-1, w, rfl, rg_lit rfl, rfl, rfl, hb, ?_⟩
    have hf := CI_mono (ref2 (d := d) hA hk (by omega) r1) (fun x i' l' _ q => (⟨q.1, Inv_u q.2⟩ : x = -1 ∧ Inv w (k + 2) i' l'))
    generalize cRef i (-1) 0 = J at hf ⊢
    exact e_X12_back (s_X12_back _ (by omega) ⟨h0, fun y => by omega, fun y => by omega, fun y => by omega, fun _ => hf⟩)
  · refine ⟨-2, w, rfl, rg_lit rfl, rfl, rfl, hb, ?_⟩
    have hf := CI_mono (ref2 (d := d) hA hk (by omega) r2) (fun x i' l' _ q => (⟨q.1, Inv_u q.2⟩ : x = -2 ∧ Inv w (k + 2) i' l'))
    have j103 : cRef i (-2) 1 103 = i 103 := rfl
    obtain ⟨q, hq⟩ := Int.eq_ofNat_of_zero_le c.1
    have e103 : i 103 p0 = 0 := by
      rw [hq] at c2 ⊢
      rw [(r1'.2 q (by omega)).1]
      exact c2
    generalize cRef i (-2) 1 = J at hf j103 ⊢
    exact e_X12_back (s_X12_back _ (by omega) ⟨h0, fun _ => ⟨by omega, by omega⟩, fun y => absurd (by rw [j103]; exact e103) y.2, fun _ => hf, fun y => by omega⟩)
  · subst e
    exact ⟨0, wC w 17 7, rfl, rg_lit rfl, rfl, rfl, BkA_wC hb (Or.inr (Or.inl rfl)), gen 0 (by omega) c2 J hJ⟩
  · subst e
    exact ⟨0, wC w 26 7, rfl, rg_lit rfl, rfl, rfl, BkA_wC hb (Or.inr (Or.inr rfl)), gen 1 (by omega) c2 J hJ⟩
end
