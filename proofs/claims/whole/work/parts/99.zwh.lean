/-! THE CLASS READS: tests -/
section
theorem rd_nots {B : Nat → Int} {n : Nat} (hC : CT B n) {w : Wd} {d : Nat} {P : Int → IM → LM → Prop} {i : IM} {l : LM} {lv u m : Nat} {x : Int} (hd : 6 ≤ d) : ∀ (f k : Nat), nT B n + 1 - k ≤ f → k ≤ nT B n → ∀ (x2 y : Int) (i' : IM), (x2 = 0 ∨ x2 = 1) → (0 ≤ y ∧ y ≤ k) → CS B n k lv u m i' → rdf u i i' → (∀ i'', CS B n (pNots (tT B n) f k).1 lv u m i'' → rdf u i i'' → gI w d X_X7_readPlain P i'' l 41 [(0, vR (some 37)), (1, vI x), (2, vI (if (pNots (tT B n) f k).2 = true then 1 - x2 else x2))] []) → gI w d X_X7_readPlain P i' l 4 [(0, vR (some 37)), (1, vI x), (2, vI x2), (3, vI y)] [] := by
  intro f
  induction f with
  | zero => intro k hf hk; omega
  | succ f ih =>
    intro k hf hk x2 y i' hx2 hy hS hfr hP
    have hn := nT_le B n
    have h400 := hC.1
    have hT := CS_tok hC hk hS
    unfold cmT at hT
    by_cases c : (tT B n).1 k = 8
    · have hk1 : k < nT B n := tk_lt (tkOK_CT hC) hk (by omega)
      have eN : pNots (tT B n) (f + 1) k = ((pNots (tT B n) f (k + 1)).1, !(pNots (tT B n) f (k + 1)).2) := by
        show (if (tT B n).1 k = 8 then _ else _) = _
        rw [if_pos c]
      rw [eN] at hP
      refine s_X7_readPlain_4 _ _ _ ⟨⟨by omega, by omega⟩, fun q => by omega, fun _ => ⟨⟨by omega, by omega⟩, ?_⟩⟩
      refine stp_CS hd hC hS (fun i1 h1 f1 => ?_)
      have eb : bI (x2 = 0) = 1 - x2 := by
        rcases hx2 with e | e
        · rw [bI_t e]; omega
        · rw [bI_f (by omega)]; omega
      rw [eb]
      refine ih (k + 1) (by omega) hk1 (1 - x2) (y + 1) i1 (by omega) (by omega) h1 (rdf_tr hfr (rdf_st u f1) (Nat.le_refl _)) (fun i2 h2 f2 => ?_)
      have h3 := hP i2 h2 f2
      generalize (pNots (tT B n) f (k + 1)).2 = b at h3 ⊢
      cases b with
      | false => exact h3
      | true =>
        have e2 : (if true = true then 1 - (1 - x2) else 1 - x2) = x2 := by rw [if_pos rfl]; omega
        rw [e2]
        exact h3
    · have eN : pNots (tT B n) (f + 1) k = (k, false) := by
        show (if (tT B n).1 k = 8 then _ else _) = _
        rw [if_neg c]
      rw [eN] at hP
      exact s_X7_readPlain_4 _ _ _ ⟨⟨by omega, by omega⟩, fun _ => hP i' hS hfr, fun q => absurd (Or.inr (by omega)) q⟩
theorem opOK16 {o : Nat} {g : Int → Int → Option Int} (h : opOK o g) : o < 16 := by
  unfold opOK at h
  rcases h with h | h | h | h | h | h | h <;> omega
theorem rd_pos {B : Nat → Int} {n : Nat} (hC : CT B n) {x : Int} {q : Nat} {inner : Option Sub} {D' : Nat} (hx : x = 8 - (q : Int)) (hq : q ≤ 8) (hin : inner = none ↔ x = 8) (hi : ∀ s, inner = some s → SGt (tT B n) s ∧ RdC B n X_X7_readTest D' (x + 1) s) {w : Wd} {d : Nat} {P : Int → IM → LM → Prop} {i : IM} {l : LM} {k lv u m : Nat} (hd : 3 * q + 9 ≤ d) (hd' : inner ≠ none → D' ≤ d) (hk : k ≤ nT B n) (hlv : lv ≤ 50) (hu : u ≤ k) (hm : m < 512) (hS : CS B n k lv u m i) {x2 : Int} (hx2 : x2 = 0 ∨ x2 = 1) (hF : ∀ q' i', pPos (tT B n) q inner k lv u = .inl q' → i' 37 5 = (poT B n q' : Int) → rdf u i i' → P 0 i' l) (hO : ∀ r i', pPos (tT B n) q inner k lv u = .inr r → CS B n r.1 r.2.1 (u + r.2.2.2.1.length) (m ||| r.2.2.1) i' → rdf u i i' → atC i' 38 u r.2.2.2.1 → (x2 = 0 → P 1 i' l) ∧ (¬ x2 = 0 → cVd w d X_X7_write [vR (some 37), vI 9, vI 0] i' l (fun i94 l94 => P 1 i94 l94))) : gI w d X_X7_readPlain P i l 41 [(0, vR (some 37)), (1, vI x), (2, vI x2)] [] := by
  have hx2r : rg x2 := ⟨by omega, by omega⟩
  have hT := CS_tok hC hk hS
  unfold cmT at hT
  have hn4 := nT_le B n
  have h400 := hC.1
  have hok := tkOK_CT hC
  refine s_X7_readPlain_41 _ _ ⟨fun _ => ⟨by omega, by omega⟩, fun z => ?_, fun z => ?_, fun z => ?_⟩
  · have hc : ¬ (tT B n).1 k = 140 := by omega
    have eP : pPos (tT B n) q inner k lv u = match pSum (tT B n) q k lv u with
      | .inl q' => .inl q'
      | .inr r => match opC ((tT B n).1 r.1) with
        | none => .inl r.1
        | some o => match pSum (tT B n) q (r.1 + 1) r.2.1 (u + r.2.2.2.1.length) with
          | .inl q' => .inl q'
          | .inr s => .inr (s.1, s.2.1, r.2.2.1 ||| s.2.2.1, r.2.2.2.1 ++ s.2.2.2.1 ++ [o.1], m2 r.2.2.2.2 s.2.2.2.2 o.2) := by
      unfold pPos; rw [if_neg hc]; rfl
    have hsum := rd_sum hC q hq
    rw [← hx] at hsum
    refine hsum w d _ i l k lv u m hd hk hlv hu hm hS (fun q' i' e a5 fr => ⟨fun y => absurd rfl y.1, fun y => absurd rfl y.1, fun _ => hF q' i' (by rw [eP, e]) a5 fr⟩) (fun r i' e h2 fr c2 => ?_)
    have gp := sg_sum hok q k lv u r hk hlv hu e
    have hrn : r.1 ≤ nT B n := gp.1.2
    have hT2 := CS_tok hC hrn h2
    unfold cmT at hT2
    have half : ∀ (o : Int × (Int → Int → Option Int)), opC ((tT B n).1 r.1) = some o → gI w d X_X7_readPlain P i' l 148 [(0, vR (some 37)), (1, vI x), (2, vI x2), (3, vI o.1)] [] := fun o ho => by
      obtain ⟨hc0, ⟨mo, hmo, hok2⟩, -⟩ := opC_ok ho
      have hk1 : r.1 < nT B n := tk_lt hok hrn hc0
      have hu1 : u + r.2.2.2.1.length ≤ r.1 := by have := gp.2.2.1; have := gp.1.1; omega
      have hmo16 := opOK16 hok2
      refine s_X7_readPlain_148 _ _ _ ?_
      refine stp_CS (by omega) hC h2 (fun i1 h1 f1 => ?_)
      refine hsum w d _ i1 l (r.1 + 1) r.2.1 (u + r.2.2.2.1.length) (m ||| r.2.2.1) hd hk1 gp.2.1.2 (by omega) (or512 hm gp.2.2.2.2.2) h1 (fun q' i2 e2 a5 fr2 => ⟨fun _ => hF q' i2 (by rw [eP, e]; simp only [ho, e2]) a5 (rdf_tr fr (rdf_tr (rdf_st _ f1) fr2 (Nat.le_refl _)) (Nat.le_add_right _ _)), fun y => absurd rfl y⟩) (fun s i2 e2 h3 fr2 c3 => ⟨fun y => absurd y (by decide), fun _ => ?_⟩)
      have hsg := sg_sum hok q (r.1 + 1) r.2.1 (u + r.2.2.2.1.length) s hk1 gp.2.1.2 (by omega) e2
      have hsn : s.1 ≤ nT B n := hsg.1.2
      have hls := hsg.2.2.1
      have hs1 := hsg.1.1
      rw [hmo]
      refine sp_X7_write (o := mo) (a := 0) (by omega) h3.2.2.2.1 (by omega) hmo16 (by decide) ?_
      have ev : (mo : Int) + 16 * ((0 : Nat) : Int) = o.1 := by omega
      rw [ev]
      have fr3 : rdf (u + r.2.2.2.1.length) i' i2 := rdf_tr (rdf_st _ f1) fr2 (Nat.le_refl _)
      have hh := hO (s.1, s.2.1, r.2.2.1 ||| s.2.2.1, r.2.2.2.1 ++ s.2.2.2.1 ++ [o.1], m2 r.2.2.2.2 s.2.2.2.2 o.2) (wrM i2 (u + r.2.2.2.1.length + s.2.2.2.1.length) o.1) (by rw [eP, e]; simp only [ho, e2]) (by
        show CS B n s.1 s.2.1 (u + (r.2.2.2.1 ++ s.2.2.2.1 ++ [o.1]).length) (m ||| (r.2.2.1 ||| s.2.2.1)) _
        rw [len_bin, ← Nat.or_assoc]
        exact CS_wr h3) (rdf_tr fr (rdf_tr fr3 (rdf_wr i2 _ _) (Nat.le_add_right _ _)) (Nat.le_add_right _ _)) (atC_bin (atC_rd c2 fr3 (Nat.le_refl _)) c3)
      exact ⟨hx2r, hh.1, hh.2⟩
    refine ⟨fun y => ⟨fun z1 => ?_, fun z1 => ?_⟩, fun y => ?_, fun y => absurd y (by decide)⟩
    · refine hF r.1 i' ?_ (CS_at h2) fr
      have h62 : ¬ i' 37 7 = 62 := fun e62 => by
        have := z1.1
        rw [if_pos e62] at this
        omega
      have eo : opC ((tT B n).1 r.1) = none := by
        unfold opC
        rw [if_neg (by omega), if_neg (by omega), if_neg (by omega)]
      rw [eP, e]
      simp only [eo]
    · by_cases h62 : i' 37 7 = 62
      · rw [if_pos h62]
        refine half (7, fun a b => some (if b < a then 1 else 0)) ?_
        unfold opC
        rw [if_neg (by omega), if_pos (by omega)]
      · have h61 : i' 37 7 = 61 := by
          by_cases c : i' 37 7 = 61
          · exact c
          · exact absurd ⟨if_neg h62, c⟩ z1
        rw [if_neg h62]
        refine half (8, fun a b => some (if a = b then 1 else 0)) ?_
        unfold opC
        rw [if_neg (by omega), if_neg (by omega), if_pos (by omega)]
    · refine half (6, fun a b => some (if a < b then 1 else 0)) ?_
      unfold opC
      rw [if_pos (by omega)]
  · have hc : (tT B n).1 k = 140 := by omega
    have hk1 : k < nT B n := tk_lt hok hk (by omega)
    cases inner with
    | none => exact absurd (hin.mp rfl) (by omega)
    | some s =>
      obtain ⟨g1, g2⟩ := hi s rfl
      have hmd := hd' (fun e => by cases e)
      have eP : pPos (tT B n) q (some s) k lv u = match s (k + 1) lv u with
        | .inl q => .inl q
        | .inr r => if (tT B n).1 r.1 = 141 then .inr (r.1 + 1, r.2) else .inl r.1 := by
        unfold pPos; rw [if_pos hc]; rfl
      refine stp_CS (by omega) hC hS (fun i1 h1 f1 => ?_)
      refine g2 w d _ i1 l (k + 1) lv u m hmd hk1 hlv (by omega) hm h1 (fun q' i' e a5 fr => ⟨fun _ => hF q' i' (by rw [eP, e]) a5 (rdf_tr (rdf_st u f1) fr (Nat.le_refl _)), fun z => absurd (Or.inl rfl) z⟩) (fun r i' e h2 fr c2 => ?_)
      have gp := (g1 (k + 1) lv u r hk1 hlv (by omega) e).1
      have hrn : r.1 ≤ nT B n := gp.1.2
      have hT2 := CS_tok hC hrn h2
      unfold cmT at hT2
      refine ⟨fun z => ?_, fun z => ?_⟩
      · refine hF r.1 i' ?_ (CS_at h2) (rdf_tr (rdf_st u f1) fr (Nat.le_refl _))
        rw [eP, e]
        exact if_neg (by omega)
      · have h93 : i' 37 7 = 41 := by
          by_cases c : i' 37 7 = 41
          · exact c
          · exact absurd (Or.inr c) z
        refine stp_CS (by omega) hC h2 (fun i3 h3 f3 => ?_)
        have hh := hO (r.1 + 1, r.2) i3 (by rw [eP, e]; exact if_pos (by omega)) h3 (rdf_tr (rdf_tr (rdf_st u f1) fr (Nat.le_refl _)) (rdf_st u f3) (Nat.le_refl _)) (atC_rd c2 (rdf_st _ f3) (Nat.le_refl _))
        exact ⟨hx2r, hh.1, hh.2⟩
  · have hc : (tT B n).1 k = 140 := by omega
    have h8 : x = 8 := by omega
    have hnone := hin.mpr h8
    subst hnone
    exact hF k i (by unfold pPos; rw [if_pos hc]) (CS_at hS) (rdf_rf u i)
theorem rd_plain {B : Nat → Int} {n : Nat} (hC : CT B n) {x : Int} {q : Nat} {inner : Option Sub} {D D' : Nat} (hx : x = 8 - (q : Int)) (hq : q ≤ 8) (hin : inner = none ↔ x = 8) (hi : ∀ s, inner = some s → SGt (tT B n) s ∧ RdC B n X_X7_readTest D' (x + 1) s) (hD : 3 * q + 10 ≤ D) (hD' : inner ≠ none → D' + 1 ≤ D) : RdC B n X_X7_readPlain D x (pPlain (tT B n) q inner) := by
  intro w d P i l k lv u m hd hk hlv hu hm hS hF hO
  obtain ⟨d, rfl, hd1⟩ := d_pos (Nat.le_trans hD hd)
  have hok := tkOK_CT hC
  have hn4 := nT_le B n
  have h400 := hC.1
  refine e_X7_readPlain (s_X7_readPlain _ ?_)
  refine rd_nots hC (by omega) ((tT B n).2.2 + 1 - k) k (Nat.le_refl _) hk 0 0 i (Or.inl rfl) ⟨Int.le_refl _, by omega⟩ hS (rdf_rf u i) (fun i1 h1 f1 => ?_)
  have hpn := pNots_le (tT B n) hok ((tT B n).2.2 + 1 - k) k hk
  have hpn2 : (pNots (tT B n) ((tT B n).2.2 + 1 - k) k).1 ≤ nT B n := hpn.2.1
  refine rd_pos hC hx hq hin hi (by omega) (fun e => by have := hD' e; omega) hpn2 hlv (Nat.le_trans hu hpn.1) hm h1 (by split <;> omega) (fun q' i' e a5 fr => hF q' i' (by unfold pPlain; rw [e]) a5 (rdf_tr f1 fr (Nat.le_refl _))) (fun r i' e h2 fr c2 => ⟨fun z => ?_, fun z => ?_⟩)
  · have hb : ¬ (pNots (tT B n) ((tT B n).2.2 + 1 - k) k).2 = true := fun hb => by rw [if_pos hb] at z; omega
    refine hO r i' ?_ h2 (rdf_tr f1 fr (Nat.le_refl _)) c2
    unfold pPlain
    rw [e]
    exact if_neg hb
  · have hb : (pNots (tT B n) ((tT B n).2.2 + 1 - k) k).2 = true := by
      by_cases hb : (pNots (tT B n) ((tT B n).2.2 + 1 - k) k).2 = true
      · exact hb
      · rw [if_neg hb] at z; exact absurd rfl z
    have gp := (sg_pos hok (fun s e => (hi s e).1) _ lv u r hpn.2.1 hlv (Nat.le_trans hu hpn.1) e).1
    have hrn : r.1 ≤ nT B n := gp.1.2
    have g3 := gp.2.2.1
    have g1 := gp.1.1
    have hlt := hpn.2.2 hb
    refine sp_X7_write (o := 9) (a := 0) (by omega) h2.2.2.2.1 (by omega) (by decide) (by decide) ?_
    have ev : ((9 : Nat) : Int) + 16 * ((0 : Nat) : Int) = 9 := by omega
    rw [ev]
    refine hO (r.1, r.2.1, r.2.2.1, r.2.2.2.1 ++ [9], mNot r.2.2.2.2) _ ?_ ?_ (rdf_tr (rdf_tr f1 fr (Nat.le_refl _)) (rdf_wr i' _ _) (Nat.le_add_right _ _)) (atC_app (atC_rd c2 (rdf_wr i' _ _) (Nat.le_refl _)) (atC_one (wr_at i' _ _)))
    · unfold pPlain
      rw [e]
      exact if_pos hb
    · show CS B n r.1 r.2.1 (u + (r.2.2.2.1 ++ [9]).length) (m ||| r.2.2.1) _
      have el : u + (r.2.2.2.1 ++ [9]).length = u + r.2.2.2.1.length + 1 := by simp only [List.length_append, List.length_cons, List.length_nil]; omega
      rw [el]
      exact CS_wr h2
theorem len_jmp {u : Nat} {a b : List Int} {v : Int} : u + (a ++ [v] ++ b).length = u + a.length + 1 + b.length := by
  simp only [List.length_append, List.length_cons, List.length_nil]; omega
theorem atC_jmp {i : IM} {u : Nat} {a b : List Int} {v : Int} (ha : atC i 38 u a) (hb : atC i 38 (u + a.length + 1) b) : atC (u2 i 38 ((u + a.length : Nat) : Int) v) 38 u (a ++ [v] ++ b) := by
  refine atC_app (atC_app (fun j hj => ?_) (atC_one (u2_self ..))) (fun j hj => ?_)
  · rw [u2_at, if_neg (by omega)]; exact ha j hj
  · have el : u + (a ++ [v]).length = u + a.length + 1 := by simp only [List.length_append, List.length_cons, List.length_nil]; omega
    rw [el, u2_at, if_neg (by omega)]; exact hb j hj
theorem rdjB {B : Nat → Int} {n : Nat} (hC : CT B n) {x : Int} {p : Sub} {D : Nat} (hp : SGt (tT B n) p) (hr2 : RdC B n X_X7_readPlain D x p) (hD : 7 ≤ D) {w : Wd} {d : Nat} {P : Int → IM → LM → Prop} {i : IM} {l : LM} {k lv u m : Nat} (hd : D ≤ d) (hu : u ≤ k) (hm : m < 512) : ∀ (f : Nat) (r : PD), nT B n + 1 - r.1 ≤ f → PG (tT B n) k lv u r → ∀ (y : Int) (i' : IM), (0 ≤ y ∧ y ≤ r.1) → CS B n r.1 r.2.1 (u + r.2.2.2.1.length) (m ||| r.2.2.1) i' → rdf u i i' → atC i' 38 u r.2.2.2.1 → (∀ q i', pJump (tT B n) p false f u r = .inl q → i' 37 5 = (poT B n q : Int) → rdf u i i' → P 0 i' l) → (∀ r' i', pJump (tT B n) p false f u r = .inr r' → CS B n r'.1 r'.2.1 (u + r'.2.2.2.1.length) (m ||| r'.2.2.1) i' → rdf u i i' → atC i' 38 u r'.2.2.2.1 → P 1 i' l) → gI w d X_X7_readBoth P i' l 12 [(0, vR (some 37)), (1, vI x), (2, vI y)] [] := by
  intro f
  induction f with
  | zero => intro r hf hr; have h1 : r.1 ≤ nT B n := hr.1.2; omega
  | succ f ih =>
    intro r hf hr y i' hy hS hfr hat hF hO
    have hrn : r.1 ≤ nT B n := hr.1.2
    have hn := nT_le B n
    have h400 := hC.1
    have hT := CS_tok hC hrn hS
    unfold cmT at hT
    have hu1 : u + r.2.2.2.1.length ≤ r.1 := by have := hr.2.2.1; have := hr.1.1; omega
    have hjt : jTok false = 7 := rfl
    have hjo : jOrd false = 11 := rfl
    by_cases ho : (tT B n).1 r.1 = jTok false
    · have hk1 : r.1 < nT B n := tk_lt (tkOK_CT hC) hrn (by omega)
      refine s_X7_readBoth_12 _ _ ⟨⟨by omega, by omega⟩, fun q => absurd q ?_, fun _ => ?_⟩
      · rintro (q | q) <;> omega
      refine sp_X7_write (o := 11) (a := 0) (by omega) hS.2.2.2.1 (by omega) (by decide) (by decide) ?_
      refine stp_CS (by omega) hC (CS_wr hS) (fun i1 h1 f1 => ?_)
      have fr1 : rdf (u + r.2.2.2.1.length) i' i1 := rdf_tr (rdf_wr i' _ _) (rdf_st _ f1) (Nat.le_refl _)
      refine hr2 w d _ i1 l (r.1 + 1) r.2.1 (u + r.2.2.2.1.length + 1) (m ||| r.2.2.1) hd hk1 hr.2.1.2 (by omega) (or512 hm hr.2.2.2.2.2) h1 (fun q i2 e a5 fr => ⟨fun _ => hF q i2 ?_ a5 (rdf_tr hfr (rdf_tr fr1 fr (Nat.le_add_right _ _)) (Nat.le_add_right _ _)), fun z => absurd rfl z⟩) (fun s i2 e h2 fr c2 => ⟨fun z => absurd z (by decide), fun _ => ?_⟩)
      · unfold pJump; rw [if_pos ho, e]
      · have hsg := (hp (r.1 + 1) r.2.1 (u + r.2.2.2.1.length + 1) s hk1 hr.2.1.2 (by omega) e).1
        have hsn : s.1 ≤ nT B n := hsg.1.2
        have hb := pg_jump (tkOK_CT hC) (b := false) hu hr hsg
        have eL : pJump (tT B n) p false (f + 1) u r = pJump (tT B n) p false f u (s.1, s.2.1, r.2.2.1 ||| s.2.2.1, r.2.2.2.1 ++ [jOrd false + 16 * ((u + r.2.2.2.1.length + 1 + s.2.2.2.1.length : Nat) : Int)] ++ s.2.2.2.1, mJump false r.2.2.2.2 s.2.2.2.2) := by
          rw [pJump, if_pos ho, e]
        have hls := hsg.2.2.1
        have hs1 := hsg.1.1
        have h38 : i2 38 ((u + r.2.2.2.1.length : Nat) : Int) = ((11 : Nat) : Int) := by
          rw [fr.2 _ (by omega), f1.1 38 (by decide), wr_at]
          rfl
        have h9 := hS.2.2.2.1
        rw [h9]
        refine sp_X7_aim (o := 11) (by omega) h2.2.2.2.1 (by omega) (by omega) (by decide) h38 ?_
        have fr2 : rdf (u + r.2.2.2.1.length) i' i2 := rdf_tr fr1 fr (Nat.le_add_right _ _)
        refine ih (s.1, s.2.1, r.2.2.1 ||| s.2.2.1, r.2.2.2.1 ++ [jOrd false + 16 * ((u + r.2.2.2.1.length + 1 + s.2.2.2.1.length : Nat) : Int)] ++ s.2.2.2.1, mJump false r.2.2.2.2 s.2.2.2.2) (by show nT B n + 1 - s.1 ≤ f; omega) hb (y + 1) _ ⟨by omega, by show y + 1 ≤ (s.1 : Int); omega⟩ ?_ (rdf_tr hfr (rdf_tr fr2 (rdf_aim i2 _ (Nat.le_refl _)) (Nat.le_refl _)) (Nat.le_add_right _ _)) (atC_jmp (atC_rd hat fr2 (Nat.le_refl _)) c2) (fun q i3 e3 => hF q i3 (by rw [eL]; exact e3)) (fun r' i3 e3 => hO r' i3 (by rw [eL]; exact e3))
        show CS B n s.1 s.2.1 (u + (r.2.2.2.1 ++ [jOrd false + 16 * ((u + r.2.2.2.1.length + 1 + s.2.2.2.1.length : Nat) : Int)] ++ s.2.2.2.1).length) (m ||| (r.2.2.1 ||| s.2.2.1)) _
        rw [len_jmp, ← Nat.or_assoc]
        exact CS_aim h2
    · have eL : pJump (tT B n) p false (f + 1) u r = .inr r := by unfold pJump; rw [if_neg ho]
      refine s_X7_readBoth_12 _ _ ⟨⟨by omega, by omega⟩, fun _ => hO r i' eL hS hfr hat, fun q => ?_⟩
      exact absurd (Or.inr (by omega)) q
theorem rd_both {B : Nat → Int} {n : Nat} (hC : CT B n) {x : Int} {p : Sub} {D : Nat} (hp : SGt (tT B n) p) (hr2 : RdC B n X_X7_readPlain D x p) (hD : 7 ≤ D) : RdC B n X_X7_readBoth (D + 1) x (pJumps (tT B n) p false) := by
  intro w d P i l k lv u m hd hk hlv hu hm hS hF hO
  obtain ⟨d, rfl, hd1⟩ := d_pos hd
  refine e_X7_readBoth (s_X7_readBoth _ ?_)
  refine hr2 w d _ i l k lv u m hd1 hk hlv hu hm hS (fun q i' e a5 fr => ⟨fun _ => hF q i' (by unfold pJumps; rw [e]) a5 fr, fun z => absurd rfl z⟩) (fun r i' e h2 fr c2 => ⟨fun z => absurd z (by decide), fun _ => ?_⟩)
  have hpg := (hp k lv u r hk hlv hu e).1
  have eC : pJumps (tT B n) p false k lv u = pJump (tT B n) p false (nT B n + 1 - r.1) u r := by unfold pJumps; rw [e]; rfl
  exact rdjB hC hp hr2 hD hd1 hu hm (nT B n + 1 - r.1) r (Nat.le_refl _) hpg 0 i' ⟨Int.le_refl _, by omega⟩ h2 fr c2 (fun q i3 e3 => hF q i3 (by rw [eC]; exact e3)) (fun r' i3 e3 => hO r' i3 (by rw [eC]; exact e3))
theorem rdjT {B : Nat → Int} {n : Nat} (hC : CT B n) {x : Int} {p : Sub} {D : Nat} (hp : SGt (tT B n) p) (hr2 : RdC B n X_X7_readBoth D x p) (hD : 7 ≤ D) {w : Wd} {d : Nat} {P : Int → IM → LM → Prop} {i : IM} {l : LM} {k lv u m : Nat} (hd : D ≤ d) (hu : u ≤ k) (hm : m < 512) : ∀ (f : Nat) (r : PD), nT B n + 1 - r.1 ≤ f → PG (tT B n) k lv u r → ∀ (y : Int) (i' : IM), (0 ≤ y ∧ y ≤ r.1) → CS B n r.1 r.2.1 (u + r.2.2.2.1.length) (m ||| r.2.2.1) i' → rdf u i i' → atC i' 38 u r.2.2.2.1 → (∀ q i', pJump (tT B n) p true f u r = .inl q → i' 37 5 = (poT B n q : Int) → rdf u i i' → P 0 i' l) → (∀ r' i', pJump (tT B n) p true f u r = .inr r' → CS B n r'.1 r'.2.1 (u + r'.2.2.2.1.length) (m ||| r'.2.2.1) i' → rdf u i i' → atC i' 38 u r'.2.2.2.1 → P 1 i' l) → gI w d X_X7_readTest P i' l 12 [(0, vR (some 37)), (1, vI x), (2, vI y)] [] := by
  intro f
  induction f with
  | zero => intro r hf hr; have h1 : r.1 ≤ nT B n := hr.1.2; omega
  | succ f ih =>
    intro r hf hr y i' hy hS hfr hat hF hO
    have hrn : r.1 ≤ nT B n := hr.1.2
    have hn := nT_le B n
    have h400 := hC.1
    have hT := CS_tok hC hrn hS
    unfold cmT at hT
    have hu1 : u + r.2.2.2.1.length ≤ r.1 := by have := hr.2.2.1; have := hr.1.1; omega
    have hjt : jTok true = 6 := rfl
    have hjo : jOrd true = 10 := rfl
    by_cases ho : (tT B n).1 r.1 = jTok true
    · have hk1 : r.1 < nT B n := tk_lt (tkOK_CT hC) hrn (by omega)
      refine s_X7_readTest_12 _ _ ⟨⟨by omega, by omega⟩, fun q => absurd q ?_, fun _ => ?_⟩
      · rintro (q | q) <;> omega
      refine sp_X7_write (o := 10) (a := 0) (by omega) hS.2.2.2.1 (by omega) (by decide) (by decide) ?_
      refine stp_CS (by omega) hC (CS_wr hS) (fun i1 h1 f1 => ?_)
      have fr1 : rdf (u + r.2.2.2.1.length) i' i1 := rdf_tr (rdf_wr i' _ _) (rdf_st _ f1) (Nat.le_refl _)
      refine hr2 w d _ i1 l (r.1 + 1) r.2.1 (u + r.2.2.2.1.length + 1) (m ||| r.2.2.1) hd hk1 hr.2.1.2 (by omega) (or512 hm hr.2.2.2.2.2) h1 (fun q i2 e a5 fr => ⟨fun _ => hF q i2 ?_ a5 (rdf_tr hfr (rdf_tr fr1 fr (Nat.le_add_right _ _)) (Nat.le_add_right _ _)), fun z => absurd rfl z⟩) (fun s i2 e h2 fr c2 => ⟨fun z => absurd z (by decide), fun _ => ?_⟩)
      · unfold pJump; rw [if_pos ho, e]
      · have hsg := (hp (r.1 + 1) r.2.1 (u + r.2.2.2.1.length + 1) s hk1 hr.2.1.2 (by omega) e).1
        have hsn : s.1 ≤ nT B n := hsg.1.2
        have hb := pg_jump (tkOK_CT hC) (b := true) hu hr hsg
        have eL : pJump (tT B n) p true (f + 1) u r = pJump (tT B n) p true f u (s.1, s.2.1, r.2.2.1 ||| s.2.2.1, r.2.2.2.1 ++ [jOrd true + 16 * ((u + r.2.2.2.1.length + 1 + s.2.2.2.1.length : Nat) : Int)] ++ s.2.2.2.1, mJump true r.2.2.2.2 s.2.2.2.2) := by
          rw [pJump, if_pos ho, e]
        have hls := hsg.2.2.1
        have hs1 := hsg.1.1
        have h38 : i2 38 ((u + r.2.2.2.1.length : Nat) : Int) = ((10 : Nat) : Int) := by
          rw [fr.2 _ (by omega), f1.1 38 (by decide), wr_at]
          rfl
        have h9 := hS.2.2.2.1
        rw [h9]
        refine sp_X7_aim (o := 10) (by omega) h2.2.2.2.1 (by omega) (by omega) (by decide) h38 ?_
        have fr2 : rdf (u + r.2.2.2.1.length) i' i2 := rdf_tr fr1 fr (Nat.le_add_right _ _)
        refine ih (s.1, s.2.1, r.2.2.1 ||| s.2.2.1, r.2.2.2.1 ++ [jOrd true + 16 * ((u + r.2.2.2.1.length + 1 + s.2.2.2.1.length : Nat) : Int)] ++ s.2.2.2.1, mJump true r.2.2.2.2 s.2.2.2.2) (by show nT B n + 1 - s.1 ≤ f; omega) hb (y + 1) _ ⟨by omega, by show y + 1 ≤ (s.1 : Int); omega⟩ ?_ (rdf_tr hfr (rdf_tr fr2 (rdf_aim i2 _ (Nat.le_refl _)) (Nat.le_refl _)) (Nat.le_add_right _ _)) (atC_jmp (atC_rd hat fr2 (Nat.le_refl _)) c2) (fun q i3 e3 => hF q i3 (by rw [eL]; exact e3)) (fun r' i3 e3 => hO r' i3 (by rw [eL]; exact e3))
        show CS B n s.1 s.2.1 (u + (r.2.2.2.1 ++ [jOrd true + 16 * ((u + r.2.2.2.1.length + 1 + s.2.2.2.1.length : Nat) : Int)] ++ s.2.2.2.1).length) (m ||| (r.2.2.1 ||| s.2.2.1)) _
        rw [len_jmp, ← Nat.or_assoc]
        exact CS_aim h2
    · have eL : pJump (tT B n) p true (f + 1) u r = .inr r := by unfold pJump; rw [if_neg ho]
      refine s_X7_readTest_12 _ _ ⟨⟨by omega, by omega⟩, fun _ => hO r i' eL hS hfr hat, fun q => ?_⟩
      exact absurd (Or.inr (by omega)) q
theorem rd_tests {B : Nat → Int} {n : Nat} (hC : CT B n) {x : Int} {p : Sub} {D : Nat} (hp : SGt (tT B n) p) (hr2 : RdC B n X_X7_readBoth D x p) (hD : 7 ≤ D) : RdC B n X_X7_readTest (D + 1) x (pJumps (tT B n) p true) := by
  intro w d P i l k lv u m hd hk hlv hu hm hS hF hO
  obtain ⟨d, rfl, hd1⟩ := d_pos hd
  refine e_X7_readTest (s_X7_readTest _ ?_)
  refine hr2 w d _ i l k lv u m hd1 hk hlv hu hm hS (fun q i' e a5 fr => ⟨fun _ => hF q i' (by unfold pJumps; rw [e]) a5 fr, fun z => absurd rfl z⟩) (fun r i' e h2 fr c2 => ⟨fun z => absurd z (by decide), fun _ => ?_⟩)
  have hpg := (hp k lv u r hk hlv hu e).1
  have eC : pJumps (tT B n) p true k lv u = pJump (tT B n) p true (nT B n + 1 - r.1) u r := by unfold pJumps; rw [e]; rfl
  exact rdjT hC hp hr2 hD hd1 hu hm (nT B n + 1 - r.1) r (Nat.le_refl _) hpg 0 i' ⟨Int.le_refl _, by omega⟩ h2 fr c2 (fun q i3 e3 => hF q i3 (by rw [eC]; exact e3)) (fun r' i3 e3 => hO r' i3 (by rw [eC]; exact e3))
theorem rd_test {B : Nat → Int} {n : Nat} (hC : CT B n) : ∀ (q : Nat), q ≤ 8 → RdC B n X_X7_readTest (3 * q + 12) (8 - (q : Int)) (pTest (tT B n) q)
  | 0, _ => by
    have hok := tkOK_CT hC
    have h1 : SGt (tT B n) (pPlain (tT B n) 0 none) := sg_plain hok (fun s e => by cases e)
    have h2 := rd_plain hC (x := 8 - ((0 : Nat) : Int)) (q := 0) (inner := none) (D := 10) (D' := 0) rfl (by omega) ⟨fun _ => by omega, fun _ => rfl⟩ (fun s e => by cases e) (by omega) (fun e => absurd rfl e)
    exact rd_tests hC (sg_jumps hok h1) (rd_both hC h1 h2 (by omega)) (by omega)
  | q + 1, hq => by
    have hok := tkOK_CT hC
    have ih := rd_test hC q (by omega)
    have hs := sg_test hok q
    have h1 : SGt (tT B n) (pPlain (tT B n) (q + 1) (some (pTest (tT B n) q))) := sg_plain hok (fun s e => by cases e; exact hs)
    have h2 := rd_plain hC (x := 8 - ((q + 1 : Nat) : Int)) (q := q + 1) (inner := some (pTest (tT B n) q)) (D := 3 * q + 13) (D' := 3 * q + 12) rfl hq ⟨fun e => (by cases e), fun e => by omega⟩ (fun s e => by
      cases e
      refine ⟨hs, ?_⟩
      rw [show 8 - ((q + 1 : Nat) : Int) + 1 = 8 - (q : Int) by omega]
      exact ih) (by omega) (fun _ => by omega)
    exact rd_tests hC (sg_jumps hok h1) (rd_both hC h1 h2 (by omega)) (by omega)
end
