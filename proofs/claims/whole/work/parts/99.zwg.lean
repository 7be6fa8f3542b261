/-! THE CLASS READS: parts, terms, sums -/
section
def RdC (B : Nat → Int) (n : Nat) (X : MI) (D : Nat) (x : Int) (p : Sub) : Prop := ∀ (w : Wd) (d : Nat) (P : Int → IM → LM → Prop) (i : IM) (l : LM) (k lv u m : Nat), D ≤ d → k ≤ nT B n → lv ≤ 50 → u ≤ k → m < 512 → CS B n k lv u m i → (∀ q i', p k lv u = .inl q → i' 37 5 = (poT B n q : Int) → rdf u i i' → P 0 i' l) → (∀ r i', p k lv u = .inr r → CS B n r.1 r.2.1 (u + r.2.2.2.1.length) (m ||| r.2.2.1) i' → rdf u i i' → atC i' 38 u r.2.2.2.1 → P 1 i' l) → cI w d X [vR (some 37), vI x] i l P
theorem CS_lf {i : IM} {B : Nat → Int} {n k lv u m : Nat} (h : CS B n k lv u m i) : CS B n k (lv + 1) u m (u2 i 37 10 ((i 37 10) + 1)) := by
  obtain ⟨hB, h4, hr, h9, h10, h11⟩ := h
  refine ⟨?_, ?_, ?_, ?_, ?_, ?_⟩
  · rw [← hB]; funext j; show u2 i 37 10 _ 35 _ = i 35 _; rw [u2_other _ _ _ (by decide)]
  · rw [u2_at, if_neg (by decide), h4]
  · unfold Rd1
    rw [u2_at, if_neg (by decide), u2_at, if_neg (by decide), u2_at, if_neg (by decide), u2_at, if_neg (by decide)]
    exact hr
  · rw [u2_at, if_neg (by decide), h9]
  · rw [u2_self, h10]; omega
  · rw [u2_at, if_neg (by decide), h11]
theorem CS_mn {i : IM} {B : Nat → Int} {n k lv u m m' : Nat} (h : CS B n k lv u m i) {v : Int} (hv : v = (m' : Int)) : CS B n k lv u m' (u2 i 37 11 v) := by
  obtain ⟨hB, h4, hr, h9, h10, h11⟩ := h
  refine ⟨?_, ?_, ?_, ?_, ?_, ?_⟩
  · rw [← hB]; funext j; show u2 i 37 11 _ 35 _ = i 35 _; rw [u2_other _ _ _ (by decide)]
  · rw [u2_at, if_neg (by decide), h4]
  · unfold Rd1
    rw [u2_at, if_neg (by decide), u2_at, if_neg (by decide), u2_at, if_neg (by decide), u2_at, if_neg (by decide)]
    exact hr
  · rw [u2_at, if_neg (by decide), h9]
  · rw [u2_at, if_neg (by decide), h10]
  · rw [u2_self, hv]
theorem rdf_37 (i : IM) (u : Nat) (x v : Int) : rdf u i (u2 i 37 x v) := ⟨fun a h _ => u2_other _ _ _ h, fun y _ => by rw [u2_other _ _ _ (by decide)]⟩
theorem rd_leaf {w : Wd} {d : Nat} {P : Int → IM → LM → Prop} {l : LM} {B : Nat → Int} {n k lv u m : Nat} {J : IM} (hd : 6 ≤ d) (hC : CT B n) (hJ : CS B n k lv u m J) {o a : Nat} (ho : o < 16) (ha : a < 100000000) (hu : u < 400) (hP : ∀ i', CS B n (k + 1) lv (u + 1) m i' → rdf u J i' → i' 38 (u : Int) = (o : Int) + 16 * (a : Int) → P 1 i' l) : cVd w d X_X7_write [vR (some 37), vI (o : Int), vI (a : Int)] J l (fun i57 l57 => cVd w d X_X7_step [vR (some 37)] i57 l57 (fun i58 l58 => P 1 i58 l58)) := by
  refine sp_X7_write (by omega) hJ.2.2.2.1 hu ho ha ?_
  refine stp_CS hd hC (CS_wr hJ) (fun i' h' f' => hP i' h' (rdf_tr (rdf_wr J u _) (rdf_st u f') (Nat.le_refl _)) ?_)
  rw [f'.1 38 (by decide), wr_at]
theorem or512 {a b : Nat} (ha : a < 512) (hb : b < 512) : a ||| b < 512 := Nat.or_lt_two_pow (n := 9) ha hb
theorem rd_part {B : Nat → Int} {n : Nat} (hC : CT B n) {x : Int} {inner : Option Sub} {D D' : Nat} (hx : 0 ≤ x ∧ x ≤ 8) (hin : inner = none ↔ x = 8) (hi : ∀ s, inner = some s → SG (tT B n) s ∧ RdC B n X_X7_readSum D' (x + 1) s) (hD : 7 ≤ D) (hD' : inner ≠ none → D' + 1 ≤ D) : RdC B n X_X7_readPart D x (pPart (tT B n) inner) := by
  intro w d P i l k lv u m hd hk hlv hu hm hS hF hO
  obtain ⟨d, rfl, hd1⟩ := d_pos (Nat.le_trans hD hd)
  have hT := CS_tok hC hk hS
  unfold cmT at hT
  have hn4 := nT_le B n
  have h400 := hC.1
  have h10 : i 37 10 = (lv : Int) := hS.2.2.2.2.1
  have h11 : i 37 11 = (m : Int) := hS.2.2.2.2.2
  refine e_X7_readPart (s_X7_readPart _ ⟨fun _ => ⟨by omega, by omega⟩, fun q => ?_, fun q => ?_, fun q => ?_⟩)
  · have hc : ¬ (tT B n).1 k = 191 := by omega
    have eP : pPart (tT B n) inner k lv u = if lv = 50 then .inl k else if (tT B n).1 k = 50 ∧ (tT B n).2.1 k ≤ 1000 then .inr (k + 1, lv + 1, 0, [16 * (tT B n).2.1 k], fun _ => some ((tT B n).2.1 k)) else if 9 ≤ (tT B n).1 k ∧ (tT B n).1 k ≤ 17 then .inr (k + 1, lv + 1, 2 ^ ((tT B n).1 k - 9).toNat, [1 + 16 * ((tT B n).1 k - 9)], fun e => some (e ((tT B n).1 k - 9).toNat)) else .inl k := by
      unfold pPart; rw [if_neg hc]
    have fail : pPart (tT B n) inner k lv u = .inl k → P 0 i l := fun e => hF k i e (CS_at hS) (rdf_rf u i)
    refine ⟨⟨by omega, by omega⟩, fun z => ?_, fun z => ?_⟩
    · have hw : ¬ (9 ≤ (tT B n).1 k ∧ (tT B n).1 k ≤ 17) := by omega
      refine s_X7_readPart_71 _ ⟨fun y => ?_, fun y => ?_⟩
      · have h50 : (tT B n).1 k = 50 := by omega
        have hk1 : k < nT B n := tk_lt (tkOK_CT hC) hk (by omega)
        have hn := CS_num hC hS h50
        have hle : (tT B n).2.1 k ≤ 1000 := by
          by_cases c : (tT B n).2.1 k ≤ 1000
          · exact c
          · rw [if_neg c] at hn; omega
        rw [if_pos hle] at hn
        obtain ⟨v, hv⟩ := Int.eq_ofNat_of_zero_le ((tkOK_CT hC).2.2 k)
        refine s_X7_readPart_109 _ _ ⟨fun q2 => ⟨⟨by omega, by omega⟩, rg_lit rfl, fun _ => ?_, fun z => absurd rfl z⟩, fun q2 => fail ?_⟩
        · rw [u2_at, if_neg (by decide), hn, hv]
          refine rd_leaf (o := 0) (a := v) hd1 hC (CS_lf hS) (by decide) (by omega) (by omega) (fun i' h' f' hc' => ?_)
          have e : pPart (tT B n) inner k lv u = .inr (k + 1, lv + 1, 0, [16 * (tT B n).2.1 k], fun _ => some ((tT B n).2.1 k)) := by rw [eP, if_neg (by omega), if_pos ⟨h50, hle⟩]
          refine hO _ i' e ?_ (rdf_tr (rdf_37 i u _ _) f' (Nat.le_refl _)) (atC_one ?_)
          · show CS B n (k + 1) (lv + 1) (u + 1) (m ||| 0) i'
            rw [Nat.or_zero]; exact h'
          · rw [hc', hv]; omega
        · rw [eP, if_pos (by omega)]
      · refine s_X7_readPart_97 _ _ ⟨rg_lit rfl, fun _ => fail ?_, fun z => absurd rfl z⟩
        rw [eP]
        by_cases c : lv = 50
        · rw [if_pos c]
        · rw [if_neg c, if_neg ?_, if_neg hw]
          rintro ⟨c1, c2⟩
          have hn := CS_num hC hS c1
          rw [if_pos c2] at hn
          exact y ⟨by omega, by omega⟩
    · have hw : 9 ≤ (tT B n).1 k ∧ (tT B n).1 k ≤ 17 := by omega
      have hk1 : k < nT B n := tk_lt (tkOK_CT hC) hk (by omega)
      refine ⟨fun y => by omega, fun y => ?_⟩
      refine s_X7_readPart_97 _ _ ⟨rg_lit rfl, fun z => absurd z (by decide), fun _ => ?_⟩
      obtain ⟨v, hv⟩ := Int.eq_ofNat_of_zero_le (show 0 ≤ (tT B n).1 k - 9 by omega)
      have e7 : i 37 7 - 300 = (v : Int) := by omega
      refine s_X7_readPart_109 _ _ ⟨fun q2 => ⟨⟨by omega, by omega⟩, rg_lit rfl, fun z => absurd z (by decide), fun _ => ?_⟩, fun q2 => fail ?_⟩
      · rw [e7]
        have hmm : ior ((u2 i 37 10 ((i 37 10) + 1)) 37 11) (ishl 1 (v : Int)) = ((m ||| 2 ^ v : Nat) : Int) := by
          have h2 : 2 ^ v < 2147483648 := Nat.lt_of_lt_of_le (Nat.pow_lt_pow_right (by omega) (show v < 31 by omega)) (Nat.le_refl _)
          rw [u2_at, if_neg (by decide), h11, ishl_one (by omega), ior_nat (by omega) h2]
        refine rd_leaf (o := 1) (a := v) hd1 hC (CS_mn (CS_lf hS) hmm) (by decide) (by omega) (by omega) (fun i' h' f' hc' => ?_)
        have e : pPart (tT B n) inner k lv u = .inr (k + 1, lv + 1, 2 ^ ((tT B n).1 k - 9).toNat, [1 + 16 * ((tT B n).1 k - 9)], fun e => some (e ((tT B n).1 k - 9).toNat)) := by rw [eP, if_neg (by omega), if_neg (by omega), if_pos hw]
        refine hO _ i' e ?_ (rdf_tr (rdf_37 i u _ _) (rdf_tr (rdf_37 _ u _ _) f' (Nat.le_refl _)) (Nat.le_refl _)) (atC_one ?_)
        · show CS B n (k + 1) (lv + 1) (u + 1) (m ||| 2 ^ ((tT B n).1 k - 9).toNat) i'
          rw [hv, Int.toNat_natCast]; exact h'
        · rw [hc', hv]; rfl
      · rw [eP, if_pos (by omega)]
  · have hc : (tT B n).1 k = 191 := by omega
    have hk1 : k < nT B n := tk_lt (tkOK_CT hC) hk (by omega)
    cases inner with
    | none => exact absurd (hin.mp rfl) (by omega)
    | some s =>
      obtain ⟨g1, g2⟩ := hi s rfl
      have hmd := hD' (fun e => by cases e)
      have eP : pPart (tT B n) (some s) k lv u = match s (k + 1) lv u with
        | .inl q => .inl q
        | .inr r => if (tT B n).1 r.1 = 193 then .inr (r.1 + 1, r.2) else .inl r.1 := by
        unfold pPart; rw [if_pos hc]; rfl
      refine stp_CS hd1 hC hS (fun i1 h1 f1 => ?_)
      refine g2 w d _ i1 l (k + 1) lv u m (by omega) hk1 hlv (by omega) hm h1 (fun q' i' e a5 fr => ⟨fun _ => hF q' i' (by rw [eP, e]) a5 (rdf_tr (rdf_st u f1) fr (Nat.le_refl _)), fun z => absurd (Or.inl rfl) z⟩) (fun r i' e h2 fr c2 => ?_)
      have gp := g1 (k + 1) lv u r hk1 hlv (by omega) e
      have hrn : r.1 ≤ nT B n := gp.1.2
      have hT2 := CS_tok hC hrn h2
      unfold cmT at hT2
      refine ⟨fun z => ?_, fun z => ?_⟩
      · refine hF r.1 i' ?_ (CS_at h2) (rdf_tr (rdf_st u f1) fr (Nat.le_refl _))
        rw [eP, e]
        exact if_neg (by omega)
      · have h93 : i' 37 7 = 93 := by
          by_cases c : i' 37 7 = 93
          · exact c
          · exact absurd (Or.inr c) z
        refine stp_CS hd1 hC h2 (fun i3 h3 f3 => ?_)
        refine hO (r.1 + 1, r.2) i3 ?_ h3 (rdf_tr (rdf_tr (rdf_st u f1) fr (Nat.le_refl _)) (rdf_st u f3) (Nat.le_refl _)) (atC_rd c2 (rdf_st _ f3) (Nat.le_refl _))
        rw [eP, e]
        exact if_pos (by omega)
  · have hc : (tT B n).1 k = 191 := by omega
    have h8 : x = 8 := by omega
    have hnone := hin.mpr h8
    subst hnone
    exact hF k i (by unfold pPart; rw [if_pos hc]) (CS_at hS) (rdf_rf u i)
theorem atC_bin {i : IM} {u : Nat} {a b : List Int} {v : Int} (ha : atC i 38 u a) (hb : atC i 38 (u + a.length) b) : atC (wrM i (u + a.length + b.length) v) 38 u (a ++ b ++ [v]) := by
  have e : u + a.length + b.length = u + (a ++ b).length := by rw [List.length_append]; omega
  rw [e]
  exact atC_app (atC_rd (atC_app ha hb) (rdf_wr i _ v) (Nat.le_refl _)) (atC_one (wr_at i _ v))
theorem len_bin {u : Nat} {a b : List Int} {v : Int} : u + (a ++ b ++ [v]).length = u + a.length + b.length + 1 := by
  simp only [List.length_append, List.length_cons, List.length_nil]; omega
theorem rdlT {B : Nat → Int} {n : Nat} (hC : CT B n) {x : Int} {p : Sub} {D : Nat} (hp : SG (tT B n) p) (hr2 : RdC B n X_X7_readPart D x p) (hD : 7 ≤ D) {w : Wd} {d : Nat} {P : Int → IM → LM → Prop} {i : IM} {l : LM} {k lv u m : Nat} (hd : D ≤ d) (hu : u ≤ k) (hm : m < 512) : ∀ (f : Nat) (r : PD), nT B n + 1 - r.1 ≤ f → PG (tT B n) k lv u r → ∀ (y : Int) (i' : IM), (0 ≤ y ∧ y ≤ r.1) → CS B n r.1 r.2.1 (u + r.2.2.2.1.length) (m ||| r.2.2.1) i' → rdf u i i' → atC i' 38 u r.2.2.2.1 → (∀ q i', pLoop (tT B n) p opT f u r = .inl q → i' 37 5 = (poT B n q : Int) → rdf u i i' → P 0 i' l) → (∀ r' i', pLoop (tT B n) p opT f u r = .inr r' → CS B n r'.1 r'.2.1 (u + r'.2.2.2.1.length) (m ||| r'.2.2.1) i' → rdf u i i' → atC i' 38 u r'.2.2.2.1 → P 1 i' l) → gI w d X_X7_readTerm P i' l 12 [(0, vR (some 37)), (1, vI x), (2, vI y)] [] := by
  intro f
  induction f with
  | zero => intro r hf hr; have h1 : r.1 ≤ nT B n := hr.1.2; omega
  | succ f ih =>
    intro r hf hr y i' hy hS hfr hat hF hO
    have hrn : r.1 ≤ nT B n := hr.1.2
    have hn := nT_le B n
    have h400 := hC.1
    have hT := CS_tok hC hrn hS
    unfold cmT at hT
    have hu1 : u + r.2.2.2.1.length ≤ r.1 := by have := hr.2.2.1; have := hr.1.1; omega
    cases ho : opT ((tT B n).1 r.1) with
    | none =>
      have hno : ¬ ((tT B n).1 r.1 = 142 ∨ (tT B n).1 r.1 = 147) := by
        unfold opT at ho
        split at ho
        · cases ho
        · split at ho
          · cases ho
          · omega
      have eL : pLoop (tT B n) p opT (f + 1) u r = .inr r := by unfold pLoop; rw [ho]
      refine s_X7_readTerm_12 _ _ ⟨⟨by omega, by omega⟩, fun _ => hO r i' eL hS hfr hat, fun q => ?_⟩
      exact absurd (Or.inr ⟨by omega, by omega⟩) q
    | some o =>
      have ho2 : ((tT B n).1 r.1 = 142 ∧ o.1 = 4) ∨ ((tT B n).1 r.1 = 147 ∧ o.1 = 5) := by
        unfold opT at ho
        split at ho
        · cases ho; exact Or.inl ⟨by assumption, rfl⟩
        · split at ho
          · cases ho; exact Or.inr ⟨by assumption, rfl⟩
          · cases ho
      obtain ⟨hc, mo, hmo, hok⟩ := opT_ok ho
      have hk1 : r.1 < nT B n := tk_lt (tkOK_CT hC) hrn hc
      refine s_X7_readTerm_12 _ _ ⟨⟨by omega, by omega⟩, fun q => absurd q ?_, fun _ => ?_⟩
      · rintro (q | q) <;> omega
      refine s_X7_readTerm_37 _ _ ?_
      refine stp_CS (by omega) hC hS (fun i1 h1 f1 => ?_)
      refine hr2 w d _ i1 l (r.1 + 1) r.2.1 (u + r.2.2.2.1.length) (m ||| r.2.2.1) hd hk1 hr.2.1.2 (by omega) (or512 hm hr.2.2.2.2.2) h1 (fun q i2 e a5 fr => ⟨fun _ => hF q i2 ?_ a5 (rdf_tr hfr (rdf_tr (rdf_st _ f1) fr (Nat.le_refl _)) (Nat.le_add_right _ _)), fun z => absurd rfl z⟩) (fun s i2 e h2 fr c2 => ⟨fun z => absurd z (by decide), fun _ => ?_⟩)
      · unfold pLoop; rw [ho]; simp only [e]
      · have hsg := hp (r.1 + 1) r.2.1 (u + r.2.2.2.1.length) s hk1 hr.2.1.2 (by omega) e
        have hsn : s.1 ≤ nT B n := hsg.1.2
        have hb := pg_bin hok hr hsg
        rw [← hmo] at hb
        have eL : pLoop (tT B n) p opT (f + 1) u r = pLoop (tT B n) p opT f u (s.1, s.2.1, r.2.2.1 ||| s.2.2.1, r.2.2.2.1 ++ s.2.2.2.1 ++ [o.1], m2 r.2.2.2.2 s.2.2.2.2 o.2) := by
          rw [pLoop, ho]; simp only [e]
        have etok : (if (i' 37 7 = 42) then (4 : Int) else 5) = ((mo : Nat) : Int) := by
          rw [← hmo]
          rcases ho2 with ⟨a1, a2⟩ | ⟨a1, a2⟩
          · rw [if_pos (by omega), a2]
          · rw [if_neg (by omega), a2]
        have hmo16 : mo < 16 := by rcases ho2 with ⟨a1, a2⟩ | ⟨a1, a2⟩ <;> omega
        have hls := hsg.2.2.1
        have hs1 := hsg.1.1
        rw [etok]
        refine sp_X7_write (o := mo) (a := 0) (by omega) h2.2.2.2.1 (by omega) hmo16 (by decide) ?_
        have ev : (mo : Int) + 16 * ((0 : Nat) : Int) = o.1 := by omega
        rw [ev]
        have fr2 : rdf (u + r.2.2.2.1.length) i' i2 := rdf_tr (rdf_st _ f1) fr (Nat.le_refl _)
        refine ih (s.1, s.2.1, r.2.2.1 ||| s.2.2.1, r.2.2.2.1 ++ s.2.2.2.1 ++ [o.1], m2 r.2.2.2.2 s.2.2.2.2 o.2) (by show nT B n + 1 - s.1 ≤ f; omega) hb (y + 1) _ ⟨by omega, by show y + 1 ≤ (s.1 : Int); omega⟩ ?_ (rdf_tr hfr (rdf_tr fr2 (rdf_wr i2 _ _) (Nat.le_add_right _ _)) (Nat.le_add_right _ _)) (atC_bin (atC_rd hat fr2 (Nat.le_refl _)) c2) (fun q i3 e3 => hF q i3 (by rw [eL]; exact e3)) (fun r' i3 e3 => hO r' i3 (by rw [eL]; exact e3))
        show CS B n s.1 s.2.1 (u + (r.2.2.2.1 ++ s.2.2.2.1 ++ [o.1]).length) (m ||| (r.2.2.1 ||| s.2.2.1)) _
        rw [len_bin, ← Nat.or_assoc]
        exact CS_wr h2
theorem rd_term {B : Nat → Int} {n : Nat} (hC : CT B n) {x : Int} {p : Sub} {D : Nat} (hp : SG (tT B n) p) (hr2 : RdC B n X_X7_readPart D x p) (hD : 7 ≤ D) : RdC B n X_X7_readTerm (D + 1) x (pChain (tT B n) p opT) := by
  intro w d P i l k lv u m hd hk hlv hu hm hS hF hO
  obtain ⟨d, rfl, hd1⟩ := d_pos hd
  refine e_X7_readTerm (s_X7_readTerm _ ?_)
  refine hr2 w d _ i l k lv u m hd1 hk hlv hu hm hS (fun q i' e a5 fr => ⟨fun _ => hF q i' (by unfold pChain; rw [e]) a5 fr, fun z => absurd rfl z⟩) (fun r i' e h2 fr c2 => ⟨fun z => absurd z (by decide), fun _ => ?_⟩)
  have hpg := hp k lv u r hk hlv hu e
  have eC : pChain (tT B n) p opT k lv u = pLoop (tT B n) p opT (nT B n + 1 - r.1) u r := by unfold pChain; rw [e]; rfl
  exact rdlT hC hp hr2 hD hd1 hu hm (nT B n + 1 - r.1) r (Nat.le_refl _) hpg 0 i' ⟨Int.le_refl _, by omega⟩ h2 fr c2 (fun q i3 e3 => hF q i3 (by rw [eC]; exact e3)) (fun r' i3 e3 => hO r' i3 (by rw [eC]; exact e3))
theorem rdlS {B : Nat → Int} {n : Nat} (hC : CT B n) {x : Int} {p : Sub} {D : Nat} (hp : SG (tT B n) p) (hr2 : RdC B n X_X7_readTerm D x p) (hD : 7 ≤ D) {w : Wd} {d : Nat} {P : Int → IM → LM → Prop} {i : IM} {l : LM} {k lv u m : Nat} (hd : D ≤ d) (hu : u ≤ k) (hm : m < 512) : ∀ (f : Nat) (r : PD), nT B n + 1 - r.1 ≤ f → PG (tT B n) k lv u r → ∀ (y : Int) (i' : IM), (0 ≤ y ∧ y ≤ r.1) → CS B n r.1 r.2.1 (u + r.2.2.2.1.length) (m ||| r.2.2.1) i' → rdf u i i' → atC i' 38 u r.2.2.2.1 → (∀ q i', pLoop (tT B n) p opS f u r = .inl q → i' 37 5 = (poT B n q : Int) → rdf u i i' → P 0 i' l) → (∀ r' i', pLoop (tT B n) p opS f u r = .inr r' → CS B n r'.1 r'.2.1 (u + r'.2.2.2.1.length) (m ||| r'.2.2.1) i' → rdf u i i' → atC i' 38 u r'.2.2.2.1 → P 1 i' l) → gI w d X_X7_readSum P i' l 12 [(0, vR (some 37)), (1, vI x), (2, vI y)] [] := by
  intro f
  induction f with
  | zero => intro r hf hr; have h1 : r.1 ≤ nT B n := hr.1.2; omega
  | succ f ih =>
    intro r hf hr y i' hy hS hfr hat hF hO
    have hrn : r.1 ≤ nT B n := hr.1.2
    have hn := nT_le B n
    have h400 := hC.1
    have hT := CS_tok hC hrn hS
    unfold cmT at hT
    have hu1 : u + r.2.2.2.1.length ≤ r.1 := by have := hr.2.2.1; have := hr.1.1; omega
    cases ho : opS ((tT B n).1 r.1) with
    | none =>
      have hno : ¬ ((tT B n).1 r.1 = 143 ∨ (tT B n).1 r.1 = 145) := by
        unfold opS at ho
        split at ho
        · cases ho
        · split at ho
          · cases ho
          · omega
      have eL : pLoop (tT B n) p opS (f + 1) u r = .inr r := by unfold pLoop; rw [ho]
      refine s_X7_readSum_12 _ _ ⟨⟨by omega, by omega⟩, fun _ => hO r i' eL hS hfr hat, fun q => ?_⟩
      exact absurd (Or.inr ⟨by omega, by omega⟩) q
    | some o =>
      have ho2 : ((tT B n).1 r.1 = 143 ∧ o.1 = 2) ∨ ((tT B n).1 r.1 = 145 ∧ o.1 = 3) := by
        unfold opS at ho
        split at ho
        · cases ho; exact Or.inl ⟨by assumption, rfl⟩
        · split at ho
          · cases ho; exact Or.inr ⟨by assumption, rfl⟩
          · cases ho
      obtain ⟨hc, mo, hmo, hok⟩ := opS_ok ho
      have hk1 : r.1 < nT B n := tk_lt (tkOK_CT hC) hrn hc
      refine s_X7_readSum_12 _ _ ⟨⟨by omega, by omega⟩, fun q => absurd q ?_, fun _ => ?_⟩
      · rintro (q | q) <;> omega
      refine s_X7_readSum_37 _ _ ?_
      refine stp_CS (by omega) hC hS (fun i1 h1 f1 => ?_)
      refine hr2 w d _ i1 l (r.1 + 1) r.2.1 (u + r.2.2.2.1.length) (m ||| r.2.2.1) hd hk1 hr.2.1.2 (by omega) (or512 hm hr.2.2.2.2.2) h1 (fun q i2 e a5 fr => ⟨fun _ => hF q i2 ?_ a5 (rdf_tr hfr (rdf_tr (rdf_st _ f1) fr (Nat.le_refl _)) (Nat.le_add_right _ _)), fun z => absurd rfl z⟩) (fun s i2 e h2 fr c2 => ⟨fun z => absurd z (by decide), fun _ => ?_⟩)
      · unfold pLoop; rw [ho]; simp only [e]
      · have hsg := hp (r.1 + 1) r.2.1 (u + r.2.2.2.1.length) s hk1 hr.2.1.2 (by omega) e
        have hsn : s.1 ≤ nT B n := hsg.1.2
        have hb := pg_bin hok hr hsg
        rw [← hmo] at hb
        have eL : pLoop (tT B n) p opS (f + 1) u r = pLoop (tT B n) p opS f u (s.1, s.2.1, r.2.2.1 ||| s.2.2.1, r.2.2.2.1 ++ s.2.2.2.1 ++ [o.1], m2 r.2.2.2.2 s.2.2.2.2 o.2) := by
          rw [pLoop, ho]; simp only [e]
        have etok : (if (i' 37 7 = 43) then (2 : Int) else 3) = ((mo : Nat) : Int) := by
          rw [← hmo]
          rcases ho2 with ⟨a1, a2⟩ | ⟨a1, a2⟩
          · rw [if_pos (by omega), a2]
          · rw [if_neg (by omega), a2]
        have hmo16 : mo < 16 := by rcases ho2 with ⟨a1, a2⟩ | ⟨a1, a2⟩ <;> omega
        have hls := hsg.2.2.1
        have hs1 := hsg.1.1
        rw [etok]
        refine sp_X7_write (o := mo) (a := 0) (by omega) h2.2.2.2.1 (by omega) hmo16 (by decide) ?_
        have ev : (mo : Int) + 16 * ((0 : Nat) : Int) = o.1 := by omega
        rw [ev]
        have fr2 : rdf (u + r.2.2.2.1.length) i' i2 := rdf_tr (rdf_st _ f1) fr (Nat.le_refl _)
        refine ih (s.1, s.2.1, r.2.2.1 ||| s.2.2.1, r.2.2.2.1 ++ s.2.2.2.1 ++ [o.1], m2 r.2.2.2.2 s.2.2.2.2 o.2) (by show nT B n + 1 - s.1 ≤ f; omega) hb (y + 1) _ ⟨by omega, by show y + 1 ≤ (s.1 : Int); omega⟩ ?_ (rdf_tr hfr (rdf_tr fr2 (rdf_wr i2 _ _) (Nat.le_add_right _ _)) (Nat.le_add_right _ _)) (atC_bin (atC_rd hat fr2 (Nat.le_refl _)) c2) (fun q i3 e3 => hF q i3 (by rw [eL]; exact e3)) (fun r' i3 e3 => hO r' i3 (by rw [eL]; exact e3))
        show CS B n s.1 s.2.1 (u + (r.2.2.2.1 ++ s.2.2.2.1 ++ [o.1]).length) (m ||| (r.2.2.1 ||| s.2.2.1)) _
        rw [len_bin, ← Nat.or_assoc]
        exact CS_wr h2
theorem rd_sums {B : Nat → Int} {n : Nat} (hC : CT B n) {x : Int} {p : Sub} {D : Nat} (hp : SG (tT B n) p) (hr2 : RdC B n X_X7_readTerm D x p) (hD : 7 ≤ D) : RdC B n X_X7_readSum (D + 1) x (pChain (tT B n) p opS) := by
  intro w d P i l k lv u m hd hk hlv hu hm hS hF hO
  obtain ⟨d, rfl, hd1⟩ := d_pos hd
  refine e_X7_readSum (s_X7_readSum _ ?_)
  refine hr2 w d _ i l k lv u m hd1 hk hlv hu hm hS (fun q i' e a5 fr => ⟨fun _ => hF q i' (by unfold pChain; rw [e]) a5 fr, fun z => absurd rfl z⟩) (fun r i' e h2 fr c2 => ⟨fun z => absurd z (by decide), fun _ => ?_⟩)
  have hpg := hp k lv u r hk hlv hu e
  have eC : pChain (tT B n) p opS k lv u = pLoop (tT B n) p opS (nT B n + 1 - r.1) u r := by unfold pChain; rw [e]; rfl
  exact rdlS hC hp hr2 hD hd1 hu hm (nT B n + 1 - r.1) r (Nat.le_refl _) hpg 0 i' ⟨Int.le_refl _, by omega⟩ h2 fr c2 (fun q i3 e3 => hF q i3 (by rw [eC]; exact e3)) (fun r' i3 e3 => hO r' i3 (by rw [eC]; exact e3))
theorem rd_sum {B : Nat → Int} {n : Nat} (hC : CT B n) : ∀ (q : Nat), q ≤ 8 → RdC B n X_X7_readSum (3 * q + 9) (8 - (q : Int)) (pSum (tT B n) q)
  | 0, _ => by
    have hok := tkOK_CT hC
    have h1 : SG (tT B n) (pPart (tT B n) none) := sg_part hok (fun s e => by cases e)
    have h2 := rd_part hC (x := 8 - ((0 : Nat) : Int)) (inner := none) (D := 7) (D' := 0) (by omega) ⟨fun _ => by omega, fun _ => rfl⟩ (fun s e => by cases e) (by omega) (fun e => absurd rfl e)
    exact rd_sums hC (sg_chain hok h1 (fun c o => opT_ok)) (rd_term hC h1 h2 (by omega)) (by omega)
  | q + 1, hq => by
    have hok := tkOK_CT hC
    have ih := rd_sum hC q (by omega)
    have hs := sg_sum hok q
    have h1 : SG (tT B n) (pPart (tT B n) (some (pSum (tT B n) q))) := sg_part hok (fun s e => by cases e; exact hs)
    have h2 := rd_part hC (x := 8 - ((q + 1 : Nat) : Int)) (inner := some (pSum (tT B n) q)) (D := 3 * q + 10) (D' := 3 * q + 9) (by omega) ⟨fun e => (by cases e), fun e => by omega⟩ (fun s e => by
      cases e
      refine ⟨hs, ?_⟩
      rw [show 8 - ((q + 1 : Nat) : Int) + 1 = 8 - (q : Int) by omega]
      exact ih) (by omega) (fun _ => by omega)
    exact rd_sums hC (sg_chain hok h1 (fun c o => opT_ok)) (rd_term hC h1 h2 (by omega)) (by omega)
end
