/-! ONE CALL on both sides: day, take -/
section
variable {w : Wd} {d k : Nat} {i : IM} {l : LM}
theorem st_day (hd : 90 ≤ d) (hk : k ≤ 100000) (hI : Inv w k i l) {p0 : Int} (h0 : rg p0) : BoC w k d X_X11_day X_X12_day [vI p0] i l := by
  obtain ⟨A, hA⟩ := hI
  have hx := TK_Cx hA.1
  have kO := hA.1.2.1.1
  have h309 := kO.1.2.2.1
  have fm := TK_fM hA.1
  have ct := hA.2.2.2.2.1
  have c36 := ct.2.1 0 (by omega) (by omega)
  have c99 := ct.1.2
  refine sp_X11_day (by omega) hx hA.2.1.1.1 h0 ⟨by omega, by omega⟩ (fun hs i1 l1 g1 hdo => ?_) (fun hs => ?_)
  · obtain ⟨⟨cf, sg, sw, h14⟩, d3, -, -, -, d6, -⟩ := hdo
    have e101 : u2 i1 6 18 0 101 = i 101 := by
      have : u2 i1 6 18 0 101 = i1 101 := rfl
      rw [this, cf 101 (by omega) (by omega) (by omega)]
    have j99 : u2 i1 6 18 0 99 = i 99 := by
      have : u2 i1 6 18 0 99 = i1 99 := rfl
      rw [this, cf 99 (by omega) (by omega) (by omega)]
    have j100 : u2 i1 6 18 0 100 = i 100 := by
      have : u2 i1 6 18 0 100 = i1 100 := rfl
      rw [this, cf 100 (by omega) (by omega) (by omega)]
    refine sp_X12_day (A := A) (by omega) (by rw [e101]; exact kO) (by rw [e101]; exact fm) (by rw [e101]; exact forceM_dep fm) h0 (by rw [j99]; omega) (by rw [j100, ← ct.2.2.1.1]; omega) (fun _ i2 hdy => ⟨by rw [e101, dSum_K e101], ?_⟩) (fun z => absurd hs z)
    obtain ⟨mf, m50, -, m4, -⟩ := hdy
    rw [e101] at m50 m4
    have fr : ∀ a, (a < 41 ∨ 50 < a) → a ≠ 6 → a ≠ 94 → a ≠ 95 → a ≠ 99 → a ≠ 110 → a ≠ 124 → u2 (u2 i2 99 0 0) 99 1 (u2 i1 6 18 0 99 1 + 1) a = i a := fun a a1 a2 a3 a4 a5 a6 a7 => by
      rw [u2_other _ _ _ a5, u2_other _ _ _ a5, (show i2 a = u2 i1 6 18 0 a from funext fun x => mf a x a6 a7 (Or.inl a5)), u2_other _ _ _ a2, cf a a1 a3 a4]
    have q6 : ∀ x : Int, u2 (u2 i2 99 0 0) 99 1 (u2 i1 6 18 0 99 1 + 1) 6 x = if x = 18 then 0 else i 6 x := fun x => by
      rw [u2_other _ _ _ (by decide), u2_other _ _ _ (by decide), mf 6 x (by decide) (by decide) (Or.inl (by decide)), u2_at, cf 6 (by omega) (by omega) (by omega)]
    have q99 : ∀ x : Int, x ≠ 19 → x ≠ 20 → x ≠ 21 → x ≠ 50 → x ≠ 51 → u2 (u2 i2 99 0 0) 99 1 (u2 i1 6 18 0 99 1 + 1) 99 x = if x = 1 then i 99 1 + 1 else if x = 0 then 0 else i 99 x := fun x x1 x2 x3 x4 x5 => by
      rw [u2_at, u2_at, j99, mf 99 x (by decide) (by decide) (Or.inr ⟨x1, x2, x3, x4, x5⟩), j99]
    have q50 : u2 (u2 i2 99 0 0) 99 1 (u2 i1 6 18 0 99 1 + 1) 99 50 = i 101 309 := by
      rw [u2_at, if_neg (by decide), u2_at, if_neg (by decide), m50]
    have q94 : u2 (u2 i2 99 0 0) 99 1 (u2 i1 6 18 0 99 1 + 1) 94 3 = i 101 309 := by
      rw [u2_other _ _ _ (by decide), u2_other _ _ _ (by decide), mf 94 3 (by decide) (by decide) (Or.inl (by decide))]
      exact d3
    have q95 : ∀ p m : Int, 0 ≤ p → p < i 101 309 → 0 ≤ m → m < 120 → u2 (u2 i2 99 0 0) 99 1 (u2 i1 6 18 0 99 1 + 1) 95 (p * 120 + m) = u2 (u2 i2 99 0 0) 99 1 (u2 i1 6 18 0 99 1 + 1) 124 (5 * m + p) := fun p m p0 p1 m0 m1 => by
      rw [u2_other _ _ _ (show (95 : Nat) ≠ 99 by decide), u2_other _ _ _ (show (95 : Nat) ≠ 99 by decide), u2_other _ _ _ (show (124 : Nat) ≠ 99 by decide), u2_other _ _ _ (show (124 : Nat) ≠ 99 by decide), mf 95 _ (by decide) (by decide) (Or.inl (by decide)), m4 m p m0 (by omega) p0 p1]
      exact d6 m p m0 (by omega) p0 p1
    have qc : ∀ a, 41 ≤ a → a ≤ 50 → u2 (u2 i2 99 0 0) 99 1 (u2 i1 6 18 0 99 1 + 1) a = i1 a := fun a a1 a2 => by
      rw [u2_other _ _ _ (by omega), u2_other _ _ _ (by omega), (show i2 a = u2 i1 6 18 0 a from funext fun x => mf a x (by omega) (by omega) (Or.inl (by omega))), u2_other _ _ _ (by omega)]
    generalize u2 (u2 i2 99 0 0) 99 1 (u2 i1 6 18 0 99 1 + 1) = J at fr q6 q99 q50 q94 q95 qc
    have o : ∀ a, (a < 6 ∨ (6 < a ∧ a < 41) ∨ (50 < a ∧ a < 94) ∨ (95 < a ∧ a < 99) ∨ (99 < a ∧ a < 110) ∨ (110 < a ∧ a < 124) ∨ 124 < a) → J a = i a := fun a x => fr a (by omega) (by omega) (by omega) (by omega) (by omega) (by omega) (by omega)
    obtain ⟨h1, ⟨g, g2⟩, r1, r2, r3, r4, r5, r6⟩ := hA
    have e7 : i1 7 = i 7 := cf 7 (by omega) (by omega) (by omega)
    refine ⟨A, ?_, ⟨?_, ?_⟩, ?_, ?_, ?_, ?_, ?_, ?_⟩
    · rw [o 101 (by omega)]
      exact TK_eq (fun a x => o a (by omega)) (fun x _ => by rw [o 7 (by omega)]) (fun a x => o a (by omega)) h1
    · rw [o 101 (by omega)]
      obtain ⟨-, k2, k3, k4, k5⟩ := g
      have e101' : J 101 = i1 101 := by rw [o 101 (by omega), cf 101 (by omega) (by omega) (by omega)]
      refine ⟨?_, WkC_eq (by rw [o 7 (by omega)]) (o 90 (by omega)) (o 93 (by omega)) (o 101 (by omega)) k2, CvC_eq (fun a x => o a (by omega)) (fun a x => g1 a (by omega)) k3, PtC_eq (o 7 (by omega)) (o 63 (by omega)) (o 72 (by omega)) (o 101 (by omega)) k4, MdC_eq (o 7 (by omega)) (o 83 (by omega)) (o 89 (by omega)) (o 101 (by omega)) (g1 83 (by omega)) k5⟩
      refine SgC_s ?_ (SgF_eq (qc 44 (by omega) (by omega)) (qc 45 (by omega) (by omega)) (qc 46 (by omega) (by omega)) (qc 47 (by omega) (by omega)) (qc 48 (by omega) (by omega)) e101' sg) (Sw_eq (qc 44 (by omega) (by omega)) (qc 50 (by omega) (by omega)) e101' sw)
      rw [qc 44 (by omega) (by omega), o 7 (by omega), h14, e7]
    · exact PnC_old (by rw [q99 1 (by decide) (by decide) (by decide) (by decide) (by decide)]; rfl) (by rw [q99 32 (by decide) (by decide) (by decide) (by decide) (by decide)]; rfl) g2
    · exact Img_eq (by rw [q6]; rfl) (fun a x => o a (by omega)) r1
    · exact Tpe_eq (by rw [q6]; rfl) (by rw [q99 10 (by decide) (by decide) (by decide) (by decide) (by decide)]; rfl) (o 35 (by omega)) (o 105 (by omega)) r2
    · obtain ⟨⟨c1, c2⟩, c3, c4, c5⟩ := r3
      refine ⟨⟨?_, ?_⟩, fun x x0 x5 => ?_, ?_, ?_⟩
      · rw [o 7 (by omega)]; omega
      · rw [q99 1 (by decide) (by decide) (by decide) (by decide) (by decide)]; show 0 ≤ i 99 1 + 1 ∧ i 99 1 + 1 ≤ ((k + 1 : Nat) : Int); omega
      · rw [o 36 (by omega)]; have := c3 x x0 x5; omega
      · rw [o 36 (by omega), o 100 (by omega)]; exact c4
      · exact limB_up (limB_eq (o 112 (by omega)) c5) (by omega)
    · refine ⟨?_, ?_, ?_⟩
      · rw [q6, q99 0 (by decide) (by decide) (by decide) (by decide) (by decide)]; rfl
      · rw [q6, q99 6 (by decide) (by decide) (by decide) (by decide) (by decide)]; exact r4.2.1
      · rw [q6, q99 11 (by decide) (by decide) (by decide) (by decide) (by decide)]; exact r4.2.2
    · right
      rw [q94, q50]
      exact ⟨⟨by omega, by omega⟩, rfl, q95⟩
    · unfold Wrd; rw [o 104 (by omega)]; exact r6
  · have hf : Inv w (k + 1) (mRef (cRef i (-1) 0) (-1)) l := Inv_ref hA r1
    have j100 : cRef i (-1) 0 100 = i 100 := rfl
    refine sp_X12_day (A := A) (by omega) (i := cRef i (-1) 0) (by show kOK (i 101); exact kO) (by show forceM (i 101) A; exact fm) (by show hasDep (inForce (i 101) A); exact forceM_dep fm) h0 (by show 0 ≤ i 99 1 ∧ i 99 1 < 1000000; omega) (by rw [j100, ← ct.2.2.1.1]; omega) (fun z => absurd z hs) (fun _ => ⟨rfl, hf⟩)
/-! take -/
theorem upK_id {K : Int → Int} {q v : Int} (h : K q = v) : upK K q v = K := by
  funext p
  unfold upK
  split
  · next e => rw [e, h]
  · rfl
def tkK (K : Int → Int) (c : Nat → Int) : Nat → (Int → Int)
  | 0 => K
  | t + 1 => upK (tkK K c t) (8 * (t : Int) + 1) (c t)
def tkN (f : Nat → Nat) : Nat → Int
  | 0 => 0
  | t + 1 => tkN f t + if f t = 0 then 0 else 1
theorem tkK_ne {K : Int → Int} {c : Nat → Int} {p : Int} : ∀ t : Nat, (∀ s : Nat, s < t → p ≠ 8 * (s : Int) + 1) → tkK K c t p = K p
  | 0, _ => rfl
  | t + 1, h => by
    show upK (tkK K c t) (8 * (t : Int) + 1) (c t) p = K p
    rw [upK_ne (h t (by omega)), tkK_ne t (fun s hs => h s (by omega))]
theorem tkN_rg (f : Nat → Nat) : ∀ t : Nat, 0 ≤ tkN f t ∧ tkN f t ≤ (t : Int)
  | 0 => ⟨by show (0 : Int) ≤ 0; omega, by show (0 : Int) ≤ 0; omega⟩
  | t + 1 => by
    have := tkN_rg f t
    show 0 ≤ tkN f t + (if f t = 0 then 0 else 1) ∧ tkN f t + (if f t = 0 then 0 else 1) ≤ ((t + 1 : Nat) : Int)
    split <;> omega
theorem tkK_KP {K : Int → Int} {c : Nat → Int} (kp : KP K) (hc : ∀ t : Nat, 0 ≤ c t ∧ c t < 8) : ∀ t : Nat, t ≤ 10 → KP (tkK K c t)
  | 0, _ => kp
  | t + 1, ht => by
    refine KP_up (tkK_KP kp hc t (by omega)) (by omega) (by omega) (by omega) ?_
    have := kTr (t := (t : Int)) (x := 1) ⟨by omega, by omega⟩ ⟨by omega, by omega⟩
    have h7 : kHi (8 * (t : Int) + 1) = 7 := this.2
    have := hc t
    omega
theorem lp_takeC {P : Int → IM → LM → Prop} (hd : 1 ≤ d) {i1 : IM} {K : Int → Int} {n : Nat} (hn : n ≤ 10) {f : Nat → Nat} {c : Nat → Int} (h7 : i1 7 8 = (n : Int)) (hf : ∀ j : Nat, j < n → i1 72 (j : Int) = ((f j : Nat) : Int) ∧ f j < 3) (hh : ∀ j : Nat, j < n → i1 59 ((j : Int) * 3 + ((f j : Nat) : Int)) = c j) (h0 : ∀ j : Nat, j < n → f j = 0 → c j = K (8 * (j : Int) + 1)) (hP : ∀ i', (∀ a, a ≠ 8 → i' a = i1 a) → (TWg 7 (tkK K c n) i' ∧ TLd 7 (tkK K c n) i') → cI w d X_X11_changed [vR (some 6), vI (tkN f n)] i' l P) : ∀ r t : Nat, t + r = n → ∀ i', (∀ a, a ≠ 8 → i' a = i1 a) → (TWg 7 (tkK K c t) i' ∧ TLd 7 (tkK K c t) i') → gI w d X_X11_take P i' l 39 [(0, vR (some 6)), (2, vI (tkN f t)), (3, vI (t : Int))] [] := by
  intro r
  induction r with
  | zero =>
    intro t ht i' fr tw
    have e : t = n := by omega
    subst e
    have e7 : i' 7 8 = (t : Int) := by rw [fr 7 (by decide), h7]
    refine s_X11_take_39 _ _ hd ⟨⟨by omega, by omega⟩, fun z => ⟨by omega, by omega⟩, fun _ => hP i' fr tw, fun z => ?_, fun z => ?_⟩
    · rw [fr 7 (by decide), h7] at z; omega
    · rw [fr 7 (by decide), h7] at z; omega
  | succ r ih =>
    intro t ht i' fr tw
    have e72 := (hf t (by omega)).1
    have f3 := (hf t (by omega)).2
    refine s_X11_take_39 _ _ hd ⟨⟨by omega, by omega⟩, fun z => ⟨by omega, by omega⟩, fun z => ?_, fun z => ?_, fun z => ⟨⟨by omega, by omega⟩, ?_, ⟨by omega, by omega⟩, ?_⟩⟩
    · rw [fr 7 (by decide), h7] at z; omega
    · have ef : f t = 0 := by have := z.2; rw [fr 72 (by decide), e72] at this; omega
      have nx := ih (t + 1) (by omega) i' fr (by
        show TWg 7 (upK (tkK K c t) (8 * (t : Int) + 1) (c t)) i' ∧ TLd 7 (upK (tkK K c t) (8 * (t : Int) + 1) (c t)) i'
        rw [upK_id (by rw [tkK_ne t (fun s hs => by omega), h0 t (by omega) ef])]
        exact tw)
      have en : tkN f (t + 1) = tkN f t := by show tkN f t + (if f t = 0 then 0 else 1) = _; rw [if_pos ef]; omega
      rw [en] at nx
      exact nx
    · rw [fr 72 (by decide), e72]; omega
    · have ef : ¬ f t = 0 := by have := z.2; rw [fr 72 (by decide), e72] at this; omega
      rw [fr 72 (by decide), e72, fr 59 (by decide), hh t (by omega)]
      have nx := ih (t + 1) (by omega) (u2 i' 8 ((t : Int) * 8 + 1) (c t)) (fun a ha => by rw [u2_other _ _ _ ha, fr a ha]) (by
        show TWg 7 (upK (tkK K c t) (8 * (t : Int) + 1) (c t)) _ ∧ TLd 7 (upK (tkK K c t) (8 * (t : Int) + 1) (c t)) _
        rw [show 8 * (t : Int) + 1 = (t : Int) * 8 + 1 by omega]
        exact TWg_u1 ⟨by omega, by omega⟩ tw)
      have en : tkN f (t + 1) = tkN f t + 1 := by show tkN f t + (if f t = 0 then 0 else 1) = _; rw [if_neg ef]
      rw [en] at nx
      exact nx
theorem lp_takeM {P : Int → IM → LM → Prop} (hd : 2 ≤ d) {i1 : IM} {K : Int → Int} {n : Nat} (hn : n ≤ 10) {f : Nat → Nat} {c : Nat → Int} (h307 : K 307 = (n : Int)) (hf : ∀ j : Nat, j < n → i1 117 (j : Int) = ((f j : Nat) : Int)) (hc : ∀ (J : IM) (j : Nat), j < n → J 101 (8 * (j : Int) + 1) = K (8 * (j : Int) + 1) → J 101 (8 * (j : Int) + 2) = K (8 * (j : Int) + 2) → mColour J (j : Int) ((f j : Nat) : Int) = c j) (hP : ∀ i', (∀ a, a ≠ 101 → i' a = i1 a) → i' 101 = tkK K c n → cI w d X_X12_good [vR (some 99), vI (tkN f n)] i' l P) : ∀ r t : Nat, t + r = n → ∀ i', (∀ a, a ≠ 101 → i' a = i1 a) → i' 101 = tkK K c t → gI w d X_X12_take P i' l 37 [(0, vR (some 99)), (2, vI (tkN f t)), (3, vI (t : Int))] [] := by
  intro r
  induction r with
  | zero =>
    intro t ht i' fr e101
    have e : t = n := by omega
    subst e
    refine s_X12_take_37 _ _ hd ⟨⟨by omega, by omega⟩, fun _ => hP i' fr e101, fun z => ?_⟩
    rw [e101, tkK_ne t (fun s hs => by omega), h307] at z; omega
  | succ r ih =>
    intro t ht i' fr e101
    refine s_X12_take_37 _ _ hd ⟨⟨by omega, by omega⟩, fun z => ?_, fun _ => ⟨⟨by omega, by omega⟩, ⟨by omega, by omega⟩, ⟨by omega, by omega⟩, ?_⟩⟩
    · rw [e101, tkK_ne t (fun s hs => by omega), h307] at z; omega
    · rw [fr 117 (by decide), hf t (by omega), hc i' t (by omega) (by rw [e101, tkK_ne t (fun s hs => by omega)]) (by rw [e101, tkK_ne t (fun s hs => by omega)])]
      have nx := ih (t + 1) (by omega) (u2 i' 101 (0 + 8 * (t : Int) + 1) (c t)) (fun a ha => by rw [u2_other _ _ _ ha, fr a ha]) (by
        rw [u2_101, e101, show 0 + 8 * (t : Int) + 1 = 8 * (t : Int) + 1 by omega]; rfl)
      have en : tkN f (t + 1) = tkN f t + bI (¬ ((f t : Nat) : Int) = 0) := by
        show tkN f t + (if f t = 0 then 0 else 1) = _
        by_cases q : f t = 0
        · rw [if_pos q, bI_f (fun z => z (by omega))]
        · rw [if_neg q, bI_t (by omega)]
      rw [en] at nx
      exact nx
end
