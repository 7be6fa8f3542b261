/-! TOKENS in the class: one step of the reader -/
section
variable {w : Wd} {d : Nat} {i : IM} {l : LM}
theorem sp_X7_step (hd : 6 ≤ d) {P : IM → LM → Prop} {n q : Nat} (hn : n ≤ 400) (h4 : i 37 4 = (n : Int)) (h6 : i 37 6 = (q : Int)) (hq : q ≤ n) (hP : ∀ i', stf i i' → Rd1 (BT i) n (skT (BT i) n q) i' → P i' l) : cVd w d X_X7_step [vR (some 37)] i l P := by
  obtain ⟨d, rfl, hd1⟩ := d_pos hd
  refine e_X7_step (s_X7_step ?_)
  have f0 : stf i i := ⟨fun _ _ => rfl, fun _ _ _ _ _ => rfl⟩
  have hp := skT_le (B := BT i) hq
  refine lp_skip hn h4 (fun i' hf h5 => ?_) (n - q) q (by omega) rfl _ (stf_u f0 (by omega)) (by rw [u2_self, h6])
  generalize skT (BT i) n q = p at hP hp h5
  have e5 : (u2 i' 37 6 (i' 37 5)) 37 5 = (p : Int) := by rw [u2_at, if_neg (by decide), h5]
  have e4 : (u2 i' 37 6 (i' 37 5)) 37 4 = (n : Int) := by rw [u2_at, if_neg (by decide), hf.2 4 (by decide) (by decide) (by decide) (by decide), h4]
  have e6 : (u2 i' 37 6 (i' 37 5)) 37 6 = (p : Int) := by rw [u2_self, h5]
  have e35 : (u2 i' 37 6 (i' 37 5)) 35 (p : Int) = BT i p := by rw [u2_other _ _ _ (by decide), hf.1 35 (by decide)]; rfl
  have hfJ : stf i (u2 i' 37 6 (i' 37 5)) := stf_u hf (by omega)
  refine s_X7_step_46 (by omega) ?_
  generalize u2 i' 37 6 (i' 37 5) = J at e5 e4 e6 e35 hfJ ⊢
  simp only [e5, e4, e35]
  refine ⟨fun z => ⟨by omega, by omega⟩, fun z => ⟨⟨by omega, by omega⟩, ?_, ?_⟩, fun z => ?_, fun z => ?_, fun z => ?_⟩
  · rw [u2_at, if_neg (by decide), e6]; exact ⟨by omega, by omega⟩
  · have hl : ¬ isLw (BT i) p = true := fun y => z.2.1 (of_decide_eq_true y)
    have hg : ¬ isDg (BT i) p = true := fun y => z.2.2 (of_decide_eq_true y)
    refine hP _ (stf_u (stf_u hfJ (by omega)) (by omega)) ⟨by rw [u2_at, if_neg (by decide), u2_at, if_neg (by decide), e5], fun _ => ⟨?_, ?_, fun y => absurd y hg⟩, fun y => absurd (by omega) y⟩
    · rw [u2_at, if_neg (by decide), u2_self]
      unfold tcC
      rw [if_neg hl, if_neg hg]
    · rw [u2_self, u2_at, if_neg (by decide), e6]
      unfold enT
      rw [if_neg hl, if_neg hg]
      omega
  · have hg : isDg (BT i) p = true := decide_eq_true z.2.2
    have hl : ¬ isLw (BT i) p = true := fun y => z.2.1 (of_decide_eq_true y)
    refine lp_dg (by omega) hn h4 (by omega) hg hP (n - p) p (by omega) (Nat.le_refl _) ?_ _ (stf_u hfJ (by omega)) ?_ ?_ ?_
    · unfold enT; rw [if_neg hl, if_pos hg]
    · rw [u2_at, if_neg (by decide), e5]
    · rw [u2_at, if_neg (by decide), e6]
    · rw [u2_self, Nat.sub_self]; rfl
  · have hl : isLw (BT i) p = true := decide_eq_true z.2
    refine lp_lw (by omega) hn h4 (by omega) hl hP (n - p) p (by omega) (Nat.le_refl _) ?_ _ hfJ e5 e6
    unfold enT; rw [if_pos hl]
  · refine hP _ (stf_u hfJ (by omega)) ⟨by rw [u2_at, if_neg (by decide), e5], fun y => absurd (by omega) z, fun _ => ⟨u2_self .., by rw [u2_at, if_neg (by decide), e6]⟩⟩
/-! what a TOKEN of the class is in the row of TOKENS -/
def cmT (c T : Int) : Prop := (T = 0 ∧ (c = -1 ∨ c = 257)) ∨ (T = 50 ∧ c = 256) ∨ (9 ≤ T ∧ T ≤ 17 ∧ c = T + 291) ∨ (1 ≤ T ∧ T ≤ 8 ∧ c = T + 308) ∨ (100 ≤ T ∧ T ≤ 355 ∧ c = T - 100)
theorem cmT_cm {c : Int} (h : c = -1 ∨ (0 ≤ c ∧ c ≤ 257) ∨ (300 ≤ c ∧ c ≤ 316)) : cmT c (cm c) := by
  unfold cmT cm
  split
  · omega
  · split
    · omega
    · split
      · omega
      · split <;> omega
theorem tcC_rg {B : Nat → Int} {n k : Nat} (hB : 0 ≤ B k ∧ B k ≤ 255) : (0 ≤ tcC B n k ∧ tcC B n k ≤ 257) ∨ (300 ≤ tcC B n k ∧ tcC B n k ≤ 316) := by
  unfold tcC
  split
  · have h := wcF_rg (sB B k (enT B n k)) cWs 0
    have e : (cWs.length : Int) = 17 := by decide
    rw [e] at h
    omega
  · split <;> omega
/-- the TEXT is one of bytes -/
def CT (B : Nat → Int) (n : Nat) : Prop := n ≤ 400 ∧ ∀ j, j < n → 0 ≤ B j ∧ B j ≤ 255
/-- the class stands at the k-th TOKEN, with so many leaves, so much code, these words -/
def CS (B : Nat → Int) (n k lv u m : Nat) (i : IM) : Prop := BT i = B ∧ i 37 4 = (n : Int) ∧ Rd1 B n (poT B n k) i ∧ i 37 9 = (u : Int) ∧ i 37 10 = (lv : Int) ∧ i 37 11 = (m : Int)
theorem CS_tok {B : Nat → Int} {n k lv u m : Nat} (hC : CT B n) (hk : k ≤ nT B n) (h : CS B n k lv u m i) : cmT (i 37 7) ((tT B n).1 k) := by
  have h3 := h.2.2.1
  show cmT (i 37 7) (if k < nT B n then tcM B n (poT B n k) else 0)
  by_cases c : k < nT B n
  · have hp := nT_lt c
    have hb := hC.2 _ hp
    rw [if_pos c, (h3.2.1 hp).1, ← cm_tc hb]
    exact cmT_cm (Or.inr (tcC_rg hb))
  · have e : k = nT B n := by omega
    rw [if_neg c, (h3.2.2 (by rw [e, nT_at]; omega)).1]
    unfold cmT
    omega
theorem wmF_rg (s : List Int) : ∀ (ws : List (List Int)) (x : Int), (wmF s ws x = 0) ∨ (x ≤ wmF s ws x ∧ wmF s ws x < x + (ws.length : Int))
  | [], _ => Or.inl rfl
  | wd :: ws, x => by
    unfold wmF
    split
    · right; simp only [List.length_cons]; omega
    · rcases wmF_rg s ws (x + 1) with h | h
      · exact Or.inl h
      · right; simp only [List.length_cons]; omega
theorem CS_num {B : Nat → Int} {n k lv u m : Nat} (hC : CT B n) (h : CS B n k lv u m i) (h50 : (tT B n).1 k = 50) : i 37 8 = if (tT B n).2.1 k ≤ 1000 then (tT B n).2.1 k else 1001 := by
  have e1 : (if k < nT B n then tcM B n (poT B n k) else 0) = 50 := h50
  show i 37 8 = if (if k < nT B n then vlT B n (poT B n k) else 0) ≤ 1000 then (if k < nT B n then vlT B n (poT B n k) else 0) else 1001
  by_cases c : k < nT B n
  · have hp := nT_lt c
    have hb := hC.2 _ hp
    rw [if_pos c] at e1 ⊢
    have hg : isDg B (poT B n k) = true := by
      unfold tcM at e1
      split at e1
      · have h := wmF_rg (sB B (poT B n k) (enT B n (poT B n k))) mWs 1
        have e : (mWs.length : Int) = 17 := by decide
        rw [e] at h
        omega
      · split at e1
        · assumption
        · omega
    have h8 := (h.2.2.1.2.1 hp).2.2 hg
    have hv := v_ok (B := B) (k := poT B n k) _ (fun q hq => enT_dg (n := n) hg hq)
    rw [h8, hv.2]
    unfold vlT
    rw [if_pos hg]
  · rw [if_neg c] at e1
    omega
theorem tkOK_CT {B : Nat → Int} {n : Nat} (hC : CT B n) : tkOK (tT B n) := tT_ok hC.1
theorem CS_at {B : Nat → Int} {n k lv u m : Nat} (h : CS B n k lv u m i) : i 37 5 = (poT B n k : Int) := h.2.2.1.1
theorem poT_s {B : Nat → Int} {n k : Nat} : poT B n (k + 1) = if poT B n k < n then skT B n (enT B n (poT B n k)) else n := rfl
theorem stp_CS {P : IM → LM → Prop} (hd : 6 ≤ d) {B : Nat → Int} {n k lv u m : Nat} (hC : CT B n) (h : CS B n k lv u m i) (hP : ∀ i', CS B n (k + 1) lv u m i' → stf i i' → P i' l) : cVd w d X_X7_step [vR (some 37)] i l P := by
  obtain ⟨hB, h4, hr, h9, h10, h11⟩ := h
  have hle := poT_le B n k
  have fin : ∀ i', stf i i' → Rd1 B n (poT B n (k + 1)) i' → P i' l := fun i' hf hr' => by
    refine hP i' ⟨?_, ?_, hr', ?_, ?_, ?_⟩ hf
    · rw [← hB]; funext j; show i' 35 _ = i 35 _; rw [hf.1 35 (by decide)]
    · rw [hf.2 4 (by decide) (by decide) (by decide) (by decide), h4]
    · rw [hf.2 9 (by decide) (by decide) (by decide) (by decide), h9]
    · rw [hf.2 10 (by decide) (by decide) (by decide) (by decide), h10]
    · rw [hf.2 11 (by decide) (by decide) (by decide) (by decide), h11]
  by_cases c : poT B n k < n
  · have h6 := (hr.2.1 c).2.1
    have he := enT_le (B := B) c
    refine sp_X7_step hd hC.1 h4 h6 he.2 (fun i' hf hr' => fin i' hf ?_)
    rw [poT_s, if_pos c]
    rw [hB] at hr'
    exact hr'
  · have h6 := (hr.2.2 c).2
    refine sp_X7_step hd hC.1 h4 h6 hle (fun i' hf hr' => fin i' hf ?_)
    rw [poT_s, if_neg c]
    rw [hB] at hr'
    have e : skT B n (poT B n k) = n := by
      have := skT_le (B := B) hle
      omega
    rw [e] at hr'
    exact hr'
/-! writing code -/
theorem ordW {o a : Nat} (ho : o < 16) (ha : a < 100000000) : ior (o : Int) (ishl (a : Int) 4) = (o : Int) + 16 * (a : Int) := by
  have h1 := ishl_nat (a := a) (k := 4) (by omega) (by omega)
  have e4 : ((4 : Nat) : Int) = 4 := rfl
  rw [e4] at h1
  rw [h1, ior_nat (by omega) (by omega)]
  have h2 : o ||| a * 2 ^ 4 = o + 16 * a := by
    have := Nat.two_pow_add_eq_or_of_lt (i := 4) (b := o) (by omega) a
    rw [Nat.or_comm, Nat.mul_comm a (2 ^ 4), ← this]
    omega
  rw [h2]
  omega
def wrM (i : IM) (u : Nat) (v : Int) : IM := u2 (u2 i 38 (u : Int) v) 37 9 ((u : Int) + 1)
theorem sp_X7_write {P : IM → LM → Prop} (hd : 1 ≤ d) {u o a : Nat} (h9 : i 37 9 = (u : Int)) (hu : u < 400) (ho : o < 16) (ha : a < 100000000) (hP : P (wrM i u ((o : Int) + 16 * (a : Int))) l) : cVd w d X_X7_write [vR (some 37), vI (o : Int), vI (a : Int)] i l P := by
  obtain ⟨d, rfl, hd1⟩ := d_pos hd
  refine e_X7_write (s_X7_write _ _ ⟨fun z => by omega, fun _ => ?_⟩)
  rw [ordW ho ha, h9, u2_other _ _ _ (by decide), h9]
  exact ⟨⟨by omega, by omega⟩, ⟨by omega, by omega⟩, hP⟩
theorem sp_X7_aim {P : IM → LM → Prop} (hd : 1 ≤ d) {u o j : Nat} (h9 : i 37 9 = (u : Int)) (hu : u ≤ 400) (hj : j < 400) (ho : o < 16) (h38 : i 38 (j : Int) = (o : Int)) (hP : P (u2 i 38 (j : Int) ((o : Int) + 16 * (u : Int))) l) : cVd w d X_X7_aim [vR (some 37), vI (j : Int)] i l P := by
  obtain ⟨d, rfl, hd1⟩ := d_pos hd
  have e := (ordNat (o := o) (a := 0) ho (by omega)).1
  have e0 : (o : Int) + 16 * ((0 : Nat) : Int) = (o : Int) := by omega
  rw [e0] at e
  refine e_X7_aim (s_X7_aim _ ⟨⟨by omega, by omega⟩, fun z => by omega, fun _ => ⟨⟨by omega, by omega⟩, ?_⟩⟩)
  rw [h38, e, h9, ordW ho (by omega)]
  exact hP
/-- nothing but the reader and its code from u on has changed -/
def rdf (u : Nat) (i i' : IM) : Prop := (∀ a, a ≠ 37 → a ≠ 38 → i' a = i a) ∧ ∀ y : Int, y < (u : Int) → i' 38 y = i 38 y
theorem rdf_rf (u : Nat) (i : IM) : rdf u i i := ⟨fun _ _ _ => rfl, fun _ _ => rfl⟩
theorem rdf_tr {u v : Nat} {i j k : IM} (h1 : rdf u i j) (h2 : rdf v j k) (h : u ≤ v) : rdf u i k := ⟨fun a x y => (h2.1 a x y).trans (h1.1 a x y), fun y hy => (h2.2 y (by omega)).trans (h1.2 y hy)⟩
theorem rdf_st {i i' : IM} (u : Nat) (h : stf i i') : rdf u i i' := ⟨fun a x _ => h.1 a x, fun y _ => by rw [h.1 38 (by decide)]⟩
theorem rdf_wr (i : IM) (u : Nat) (v : Int) : rdf u i (wrM i u v) := ⟨fun a x y => by unfold wrM; rw [u2_other _ _ _ x, u2_other _ _ _ y], fun y hy => by unfold wrM; rw [u2_other _ _ _ (by decide), u2_at, if_neg (by omega)]⟩
theorem rdf_aim (i : IM) {u j : Nat} (v : Int) (h : u ≤ j) : rdf u i (u2 i 38 (j : Int) v) := ⟨fun a x y => by rw [u2_other _ _ _ y], fun y hy => by rw [u2_at, if_neg (by omega)]⟩
theorem CS_wr {B : Nat → Int} {n k lv u m : Nat} {v : Int} (h : CS B n k lv u m i) : CS B n k lv (u + 1) m (wrM i u v) := by
  obtain ⟨hB, h4, hr, h9, h10, h11⟩ := h
  have e37 : ∀ x : Int, x ≠ 9 → wrM i u v 37 x = i 37 x := fun x hx => by unfold wrM; rw [u2_at, if_neg hx, u2_other _ _ _ (by decide)]
  refine ⟨?_, ?_, ?_, ?_, ?_, ?_⟩
  · rw [← hB]; funext j; show wrM i u v 35 _ = i 35 _; unfold wrM; rw [u2_other _ _ _ (by decide), u2_other _ _ _ (by decide)]
  · rw [e37 4 (by decide), h4]
  · unfold Rd1
    rw [e37 5 (by decide), e37 6 (by decide), e37 7 (by decide), e37 8 (by decide)]
    exact hr
  · unfold wrM; rw [u2_self]; omega
  · rw [e37 10 (by decide), h10]
  · rw [e37 11 (by decide), h11]
theorem CS_aim {B : Nat → Int} {n k lv u m : Nat} {j v : Int} (h : CS B n k lv u m i) : CS B n k lv u m (u2 i 38 j v) := by
  obtain ⟨hB, h4, hr, h9, h10, h11⟩ := h
  have e37 : u2 i 38 j v 37 = i 37 := u2_other _ _ _ (by decide)
  refine ⟨?_, ?_, ?_, ?_, ?_, ?_⟩
  · rw [← hB]; funext j'; show u2 i 38 j v 35 _ = i 35 _; rw [u2_other _ _ _ (by decide)]
  · rw [e37, h4]
  · unfold Rd1
    rw [e37]
    exact hr
  · rw [e37, h9]
  · rw [e37, h10]
  · rw [e37, h11]
/-! code in memory, and what is written behind it -/
theorem atC_nil (i : IM) (cd u : Nat) : atC i cd u [] := fun j hj => absurd hj (Nat.not_lt_zero _)
theorem atC_app {i : IM} {cd u : Nat} {a b : List Int} (h1 : atC i cd u a) (h2 : atC i cd (u + a.length) b) : atC i cd u (a ++ b) := fun j hj => by
  rw [List.length_append] at hj
  by_cases c : j < a.length
  · rw [h1 j c, getD_app1 c]
  · have h := h2 (j - a.length) (by omega)
    have e := getD_app2 (a := a) (b := b) (j := j - a.length)
    rw [show a.length + (j - a.length) = j by omega] at e
    rw [show u + a.length + (j - a.length) = u + j by omega] at h
    rw [h, e]
theorem atC_one {i : IM} {cd u : Nat} {x : Int} (h : i cd (u : Int) = x) : atC i cd u [x] := fun j hj => by
  have e : j = 0 := by simp only [List.length_cons, List.length_nil] at hj; omega
  subst e
  exact h
theorem atC_rd {i i' : IM} {u v : Nat} {c : List Int} (h : atC i 38 u c) (hf : rdf v i i') (hv : u + c.length ≤ v) : atC i' 38 u c := fun j hj => by
  rw [hf.2 _ (by omega)]
  exact h j hj
theorem wr_at (i : IM) (u : Nat) (v : Int) : wrM i u v 38 (u : Int) = v := by unfold wrM; rw [u2_other _ _ _ (by decide), u2_self]
end
