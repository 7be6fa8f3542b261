/-! WAYS in the program: the search and the trace -/
section
variable {w : Wd} {d : Nat} {i : IM} {l : LM}
def wkR (i : IM) (cs : List Cla) (s : Int) (st : Int → Int) (p : Int) (m f t : Nat) : Prop := match sn (sS i) (mbK i cs p m) f t (120 - m) 0 with
  | some e => s = (m : Int) + (e : Int) ∧ ∀ k : Nat, k ≤ e → st ((m : Int) + (k : Int)) = ((pt (sS i) (mbK i cs p m) f t e k : Nat) : Int)
  | none => s = -1
abbrev wkN (p : Int) (m f t : Int) : Int := ((((p * 120) + m) * 10) + f) * 10 + t
/-- what WALKER keeps is right, if nothing changed since -/
def WkC (i : IM) (cs : List Cla) : Prop := i 90 8 ≤ i 7 15 ∧ (i 90 8 = i 7 15 → ∀ (p : Int) (m f t : Nat), 0 ≤ p ∧ p < i 101 309 → m < 120 → f < 10 → t < 10 → i 90 7 = wkN p m f t → wkR i cs (i 90 5) (i 93) p m f t)
theorem mbF_K {i i' : IM} (e : i' 101 = i 101) : mbF i' = mbF i := by
  funext cs p pl m
  have eC : mbC i' = mbC i := by funext cs p pl m v; unfold mbC; rw [e, mSeen_K e]
  have eG : ∀ n, mbG i' cs p pl m n = mbG i cs p pl m n := by
    intro n
    induction n with
    | zero => rfl
    | succ n ih => unfold mbG; rw [ih, eC]
  unfold mbF
  rw [eG, e]
theorem sS_K {i i' : IM} (e : i' 101 = i 101) : sS i' = sS i := by funext a; unfold sS; rw [e]
theorem wkR_K {i i' : IM} (e : i' 101 = i 101) {cs : List Cla} {s : Int} {st : Int → Int} {p : Int} {m f t : Nat} (h : wkR i cs s st p m f t) : wkR i' cs s st p m f t := by
  have eM : mbK i' cs p m = mbK i cs p m := by unfold mbK; rw [mbF_K e]
  unfold wkR
  rw [sS_K e, eM]
  exact h
theorem WkC_new {i' : IM} {cs : List Cla} {p : Int} {m f t : Nat} (hp : 0 ≤ p ∧ p < i' 101 309) (hm : m < 120) (hf : f < 10) (ht : t < 10) (h8 : i' 90 8 = i' 7 15) (h7 : i' 90 7 = wkN p m f t) (h : wkR i' cs (i' 90 5) (i' 93) p m f t) : WkC i' cs := by
  refine ⟨by rw [h8]; exact Int.le_refl _, fun _ p' m' f' t' hp' hm' hf' ht' h7' => ?_⟩
  rw [h7] at h7'
  unfold wkN at h7'
  have a1 : p' = p := by omega
  have a2 : m' = m := by omega
  have a3 : f' = f := by omega
  have a4 : t' = t := by omega
  subst a1 a2 a3 a4
  exact h
/-- marks of the search that stay -/
def wkM (i i' : IM) (cs : List Cla) (p : Int) (m f t : Nat) : Prop := kfr i i' ∧ Fr i' cs ∧ i' 90 6 = p ∧ i' 90 7 = wkN p m f t ∧ i' 90 8 = i 7 15
theorem lp_trace3 (hd : 1 ≤ d) {P : IM → LM → Prop} {cs : List Cla} {i : IM} (hx : Cx w i cs) {p : Int} {m f t e : Nat} {mb : Nat → Nat → Bool} (hS : SymS (sS i)) (ht : t < 10) (he : (rk (sS i) mb f e).testBit t = true) (hm : m + e < 120) (hP : ∀ i', wkM i i' cs p m f t → i' 90 5 = (m : Int) + (e : Int) → (∀ k : Nat, k ≤ e → i' 93 ((m : Int) + (k : Int)) = ((pt (sS i) mb f t e k : Nat) : Int)) → P i' l) : ∀ r k : Nat, k + r = e → ∀ i', wkM i i' cs p m f t → i' 90 5 = (m : Int) + (e : Int) → (∀ x : Nat, x ≤ e → i' 91 ((m : Int) + ((e - x : Nat) : Int)) = ((ld (sS i) mb f t e x : Nat) : Int)) → (∀ x : Nat, x ≤ k → i' 93 ((m : Int) + (x : Int)) = ((pt (sS i) mb f t e x : Nat) : Int)) → gV w d X_X10_trace P i' l 70 [(0, vR (some 90)), (4, vI ((pt (sS i) mb f t e k : Nat) : Int)), (5, vI ((m : Int) + (k : Int) + 1))] [] := by
  intro r
  induction r with
  | zero =>
    intro k hk i' hi h5 hl hst
    have ek : k = e := by omega
    subst ek
    exact s_X10_trace_70 _ _ hd ⟨⟨by omega, by omega⟩, fun _ => hP i' hi h5 hst, fun q => by omega⟩
  | succ r ih =>
    intro k hk i' hi h5 hl hst
    have hk0 := pt_ok hS ht he k (by omega)
    have hk1 := pt_ok hS ht he (k + 1) (by omega)
    have hn := pt_next hS ht he (show k + 1 ≤ e by omega)
    have hSl := sS_lt (i := i) hx.2.1 hk0.2
    have e11 : i' 11 ((pt (sS i) mb f t e k : Nat) : Int) = ((sS i (pt (sS i) mb f t e k) : Nat) : Int) := by
      rw [hi.1 11 (by decide) (by decide), hx.1.2.2.2.1 _ (by omega) (by omega)]
      have := hx.2.1.2.2.2.1 ((pt (sS i) mb f t e k : Nat) : Int) (by omega) (by omega)
      unfold sS; unfold sS at this; omega
    have e91 : i' 91 ((m : Int) + (k : Int) + 1) = ((ld (sS i) mb f t e (e - (k + 1)) : Nat) : Int) := by
      have := hl (e - (k + 1)) (by omega)
      have e2 : (m : Int) + ((e - (e - (k + 1)) : Nat) : Int) = (m : Int) + (k : Int) + 1 := by omega
      rw [e2] at this
      exact this
    have h2p : 2 ^ pt (sS i) mb f t e k ≤ 2 ^ 9 := Nat.pow_le_pow_right (by omega) (by omega)
    have hor : 2 ^ pt (sS i) mb f t e k ||| sS i (pt (sS i) mb f t e k) < 2 ^ 10 := Nat.or_lt_two_pow (by omega) hSl
    have hmay : iand (ior (ishl 1 ((pt (sS i) mb f t e k : Nat) : Int)) (i' 11 ((pt (sS i) mb f t e k : Nat) : Int))) (i' 91 ((m : Int) + (k : Int) + 1)) = (((2 ^ pt (sS i) mb f t e k ||| sS i (pt (sS i) mb f t e k)) &&& ld (sS i) mb f t e (e - (k + 1)) : Nat) : Int) := by
      rw [e11, e91, ishl_one (by omega), ior_nat (by omega) (by omega), iand_nat (by omega)]
    have hle : (2 ^ pt (sS i) mb f t e k ||| sS i (pt (sS i) mb f t e k)) &&& ld (sS i) mb f t e (e - (k + 1)) ≤ 2 ^ pt (sS i) mb f t e k ||| sS i (pt (sS i) mb f t e k) := Nat.and_le_left
    have hne : ¬ ((((2 ^ pt (sS i) mb f t e k ||| sS i (pt (sS i) mb f t e k)) &&& ld (sS i) mb f t e (e - (k + 1)) : Nat) : Int) = 0) := by
      intro z
      have z2 : (2 ^ pt (sS i) mb f t e k ||| sS i (pt (sS i) mb f t e k)) &&& ld (sS i) mb f t e (e - (k + 1)) = 0 := by omega
      have := (st_bit (sS i) (pt (sS i) mb f t e k) (pt (sS i) mb f t e (k + 1)) (ld (sS i) mb f t e (e - (k + 1)))).mpr hn.1
      rw [z2, Nat.zero_testBit] at this
      cases this
    have elow : lowB ((((2 ^ pt (sS i) mb f t e k ||| sS i (pt (sS i) mb f t e k)) &&& ld (sS i) mb f t e (e - (k + 1)) : Nat) : Int)) = ((pt (sS i) mb f t e (k + 1) : Nat) : Int) := rfl
    refine s_X10_trace_70 _ _ hd ⟨⟨by omega, by omega⟩, fun q => by omega, fun q => ⟨⟨by omega, by omega⟩, ⟨by omega, by omega⟩, ?_⟩⟩
    rw [hmay, if_neg hne, elow]
    refine ⟨fun _ => ⟨by omega, by omega⟩, ⟨by omega, by omega⟩, ⟨by omega, by omega⟩, ?_⟩
    have e3 : (m : Int) + ((k + 1 : Nat) : Int) + 1 = (m : Int) + (k : Int) + 1 + 1 := by omega
    rw [← e3]
    refine ih (k + 1) (by omega) _ ⟨kfr_tr hi.1 (kfr_u (by omega)), Fr_u (by decide) hi.2.1, hi.2.2.1, hi.2.2.2.1, hi.2.2.2.2⟩ h5 (fun x hx2 => ?_) (fun x hx2 => ?_)
    · rw [u2_other _ _ _ (by decide)]; exact hl x hx2
    · show (if (93 : Nat) = 93 ∧ (m : Int) + (x : Int) = (m : Int) + (k : Int) + 1 then ((pt (sS i) mb f t e (k + 1) : Nat) : Int) else i' 93 ((m : Int) + (x : Int))) = _
      by_cases c : x = k + 1
      · subst c; rw [if_pos ⟨rfl, by omega⟩]
      · rw [if_neg (fun z => by have := z.2; omega)]
        exact hst x (by omega)
theorem lp_trace2 (hd : 1 ≤ d) {P : IM → LM → Prop} {cs : List Cla} {i : IM} (hx : Cx w i cs) {p : Int} {m f t e : Nat} {mb : Nat → Nat → Bool} (hS : SymS (sS i)) (ht : t < 10) (hf : f < 10) (he : (rk (sS i) mb f e).testBit t = true) (hm : m + e < 120) (hP : ∀ i', wkM i i' cs p m f t → i' 90 5 = (m : Int) + (e : Int) → (∀ k : Nat, k ≤ e → i' 93 ((m : Int) + (k : Int)) = ((pt (sS i) mb f t e k : Nat) : Int)) → P i' l) : ∀ r j : Nat, j + r = e → ∀ i', wkM i i' cs p m f t → i' 90 5 = (m : Int) + (e : Int) → (∀ x : Nat, x ≤ j → i' 91 ((m : Int) + ((e - x : Nat) : Int)) = ((ld (sS i) mb f t e x : Nat) : Int)) → (∀ x : Nat, x < e - j → i' 91 ((m : Int) + (x : Int)) = ((rk (sS i) mb f x : Nat) : Int)) → gV w d X_X10_trace P i' l 20 [(0, vR (some 90)), (1, vI (m : Int)), (2, vI (f : Int)), (4, vI ((m : Int) + (e : Int) - 1 - (j : Int)))] [] := by
  intro r
  induction r with
  | zero =>
    intro j hj i' hi h5 hl hr
    have ej : j = e := by omega
    subst ej
    refine s_X10_trace_20 _ _ _ ⟨⟨by omega, by omega⟩, ⟨by omega, by omega⟩, fun _ => ⟨⟨by omega, by omega⟩, ⟨by omega, by omega⟩, ?_⟩, fun q => by omega⟩
    have h3 := lp_trace3 (w := w) (l := l) (P := P) hd hx hS ht he hm hP j 0 (Nat.zero_add _) (u2 i' 93 (m : Int) (f : Int)) ⟨kfr_tr hi.1 (kfr_u (by omega)), Fr_u (by decide) hi.2.1, hi.2.2.1, hi.2.2.2.1, hi.2.2.2.2⟩ h5 (fun x hx2 => by rw [u2_other _ _ _ (by decide)]; exact hl x hx2) (fun x hx2 => by
      have : x = 0 := by omega
      subst this
      exact if_pos (c := (93 : Nat) = 93 ∧ (m : Int) + ((0 : Nat) : Int) = (m : Int)) ⟨rfl, by omega⟩)
    have e2 : (m : Int) + ((0 : Nat) : Int) + 1 = (m : Int) + 1 := by omega
    rw [e2] at h3
    exact h3
  | succ r ih =>
    intro j hj i' hi h5 hl hr
    have e3 : (m : Int) + (e : Int) - 1 - (j : Int) + 1 = (m : Int) + ((e - j : Nat) : Int) := by omega
    have e4 : (m : Int) + (e : Int) - 1 - (j : Int) = (m : Int) + ((e - (j + 1) : Nat) : Int) := by omega
    have hlj := hl j (Nat.le_refl _)
    have hrj := hr (e - (j + 1)) (by omega)
    have hll := ld_lt (S := sS i) (mb := mb) (f := f) (e := e) ht j
    have e101 := hi.1 101 (by decide) (by decide)
    have hx' := Cx_k hi.1 hx
    refine s_X10_trace_20 _ _ _ ⟨⟨by omega, by omega⟩, ⟨by omega, by omega⟩, fun q => by omega, fun q => ⟨⟨by omega, by omega⟩, ⟨by omega, by omega⟩, ?_⟩⟩
    rw [e3, hlj]
    refine sp_X10_withStreets hd hx'.1 hx'.2.1 hll ⟨⟨by omega, by omega⟩, ?_⟩
    rw [sS_K e101]
    have hrl := rk_lt (sS i) mb f (e - (j + 1))
    have ev : iand (i' 91 ((m : Int) + (e : Int) - 1 - (j : Int))) ((withS (sS i) (ld (sS i) mb f t e j) : Nat) : Int) = ((ld (sS i) mb f t e (j + 1) : Nat) : Int) := by
      rw [e4, hrj, iand_nat (by omega)]
      rfl
    rw [ev]
    have e5 : (m : Int) + (e : Int) - 1 - (j : Int) + (-1) = (m : Int) + (e : Int) - 1 - ((j + 1 : Nat) : Int) := by omega
    rw [e5]
    refine ih (j + 1) (by omega) _ ⟨kfr_tr hi.1 (kfr_u (by omega)), Fr_u (by decide) hi.2.1, hi.2.2.1, hi.2.2.2.1, hi.2.2.2.2⟩ h5 (fun x hx2 => ?_) (fun x hx2 => ?_)
    · show (if (91 : Nat) = 91 ∧ (m : Int) + ((e - x : Nat) : Int) = (m : Int) + (e : Int) - 1 - (j : Int) then ((ld (sS i) mb f t e (j + 1) : Nat) : Int) else i' 91 ((m : Int) + ((e - x : Nat) : Int))) = _
      by_cases c : x = j + 1
      · subst c; rw [if_pos ⟨rfl, by omega⟩]
      · rw [if_neg (fun z => by have := z.2; omega)]
        exact hl x (by omega)
    · show (if (91 : Nat) = 91 ∧ (m : Int) + (x : Int) = (m : Int) + (e : Int) - 1 - (j : Int) then ((ld (sS i) mb f t e (j + 1) : Nat) : Int) else i' 91 ((m : Int) + (x : Int))) = _
      rw [if_neg (fun z => by have := z.2; omega)]
      exact hr x (by omega)
theorem sp_X10_trace (hd : 2 ≤ d) {P : IM → LM → Prop} {cs : List Cla} {i : IM} (hx : Cx w i cs) {p : Int} {m f t e : Nat} {mb : Nat → Nat → Bool} (hS : SymS (sS i)) (ht : t < 10) (hf : f < 10) (he : (rk (sS i) mb f e).testBit t = true) (hm : m + e < 120) (hP : ∀ i', wkM i i' cs p m f t → i' 90 5 = (m : Int) + (e : Int) → (∀ k : Nat, k ≤ e → i' 93 ((m : Int) + (k : Int)) = ((pt (sS i) mb f t e k : Nat) : Int)) → P i' l) {i' : IM} (hi : wkM i i' cs p m f t) (h5 : i' 90 5 = (m : Int) + (e : Int)) (hr : ∀ x : Nat, x ≤ e → i' 91 ((m : Int) + (x : Int)) = ((rk (sS i) mb f x : Nat) : Int)) : cVd w d X_X10_trace [vR (some 90), vI (m : Int), vI (f : Int), vI (t : Int)] i' l P := by
  obtain ⟨d, rfl, hd1⟩ := d_pos hd
  refine e_X10_trace (s_X10_trace _ _ _ ⟨by rw [h5]; exact ⟨by omega, by omega⟩, ?_⟩)
  have e0 : u2 i' 91 (i' 90 5) (ishl 1 (t : Int)) 90 5 - 1 = (m : Int) + (e : Int) - 1 - ((0 : Nat) : Int) := by
    show i' 90 5 - 1 = _
    rw [h5]; omega
  rw [e0, h5]
  refine lp_trace2 hd1 hx hS ht hf he hm hP e 0 (Nat.zero_add _) _ ⟨kfr_tr hi.1 (kfr_u (by omega)), Fr_u (by decide) hi.2.1, hi.2.2.1, hi.2.2.2.1, hi.2.2.2.2⟩ h5 (fun x hx2 => ?_) (fun x hx2 => ?_)
  · have : x = 0 := by omega
    subst this
    show (if (91 : Nat) = 91 ∧ (m : Int) + ((e - 0 : Nat) : Int) = (m : Int) + (e : Int) then ishl 1 (t : Int) else i' 91 ((m : Int) + ((e - 0 : Nat) : Int))) = ((2 ^ t : Nat) : Int)
    rw [if_pos ⟨rfl, by omega⟩, ishl_one (by omega)]
  · show (if (91 : Nat) = 91 ∧ (m : Int) + (x : Int) = (m : Int) + (e : Int) then ishl 1 (t : Int) else i' 91 ((m : Int) + (x : Int))) = _
    rw [if_neg (fun z => by have := z.2; omega)]
    exact hr x (by omega)
theorem lp_find (hd : 9 ≤ d) {P : IM → LM → Prop} {cs : List Cla} {i : IM} (hx : Cx w i cs) {l0 : LM} {p : Int} (hp : 0 ≤ p ∧ p < i 101 309) {m f t : Nat} (hS : SymS (sS i)) (hm : m < 120) (ht : t < 10) (hf : f < 10) (hP : ∀ i' l', psc l0 l' → wkM i i' cs p m f t → wkR i cs (i' 90 5) (i' 93) p m f t → P i' l') : ∀ r k : Nat, k + r = 120 - m → sn (sS i) (mbK i cs p m) f t (120 - m) 0 = sn (sS i) (mbK i cs p m) f t r k → ∀ i' l', psc l0 l' → wkM i i' cs p m f t → i' 90 5 = -1 → (∀ x : Nat, x < k → i' 91 ((m : Int) + (x : Int)) = ((rk (sS i) (mbK i cs p m) f x : Nat) : Int)) → gV w d X_X10_find P i' l' 85 [(0, vR (some 90)), (2, vI (m : Int)), (3, vI (f : Int)), (4, vI (t : Int)), (6, vI ((cand (sS i) (mbK i cs p m) f k : Nat) : Int)), (7, vI ((m : Int) + (k : Int)))] [] := by
  have hcl : ∀ k, cand (sS i) (mbK i cs p m) f k < 1024 := by
    intro k
    cases k with
    | zero => exact Nat.pow_lt_pow_right (by omega) hf
    | succ k => exact wsGo_lt (rk_lt _ _ _ _) (fun a ha => sS_lt hx.2.1 ha) 10 (by omega)
  have hno : ∀ i' l', psc l0 l' → wkM i i' cs p m f t → i' 90 5 = -1 → sn (sS i) (mbK i cs p m) f t (120 - m) 0 = none → P i' l' := by
    intro i' l' hl hi h5 hn
    refine hP i' l' hl hi ?_
    unfold wkR
    rw [hn]
    exact h5
  intro r
  induction r with
  | zero =>
    intro k hk hsn i' l' hl hi h5 hr
    have := hcl k
    refine s_X10_find_85 _ _ _ _ _ ⟨⟨by omega, by omega⟩, fun _ => ⟨by omega, by omega⟩, fun _ => ⟨fun _ => hno i' l' hl hi h5 hsn, fun q => absurd h5 q⟩, fun q => absurd (Or.inl (by omega)) q⟩
  | succ r ih =>
    intro k hk hsn i' l' hl hi h5 hr
    have hc := hcl k
    refine s_X10_find_85 _ _ _ _ _ ⟨⟨by omega, by omega⟩, fun _ => ⟨by omega, by omega⟩, fun q => ⟨fun _ => hno i' l' hl hi h5 ?_, fun z => absurd h5 z⟩, fun q => ?_⟩
    · rcases q with q | q | q
      · omega
      · rw [hsn]; exact sn_zero _ _ (by omega)
      · exact absurd h5 q
    · have hx' := Cx_k hi.1 hx
      have e101 := hi.1 101 (by decide) (by decide)
      refine sp_X10_openOf (by omega) hx' hi.2.1 (p := p) (by rw [e101]; exact hp) hi.2.2.1 ⟨by omega, by omega⟩ hc (fun i2 l2 a1 a2 a3 a4 => ⟨⟨by omega, by omega⟩, ?_⟩)
      have hfl : flt (cand (sS i) (mbK i cs p m) f k) (fun b => mbF i' cs p (b : Int) ((m : Int) + (k : Int))) = rk (sS i) (mbK i cs p m) f k := by
        rw [rk_cand, mbF_K e101]
        have : (fun b : Nat => mbF i cs p (b : Int) ((m : Int) + (k : Int))) = (fun b => mbK i cs p m b k) := by
          funext b
          show _ = mbF i cs p (b : Int) ((m + k : Nat) : Int)
          rw [Int.natCast_add]
        rw [this]
      rw [hfl, u2_self]
      have hrl := rk_lt (sS i) (mbK i cs p m) f k
      have hbit : iand (ishr ((rk (sS i) (mbK i cs p m) f k : Nat) : Int) (t : Int)) 1 = ((if (rk (sS i) (mbK i cs p m) f k).testBit t = true then 1 else 0 : Nat) : Int) := by rw [ibit_nat (by omega) (by omega), bit_div]
      rw [hbit]
      have hi2 : wkM i i2 cs p m f t := ⟨kfr_tr hi.1 a1, a3, by rw [a4.1]; exact hi.2.2.1, by rw [a4.1]; exact hi.2.2.2.1, by rw [a4.1]; exact hi.2.2.2.2⟩
      have hr2 : ∀ x : Nat, x ≤ k → u2 i2 91 ((m : Int) + (k : Int)) ((rk (sS i) (mbK i cs p m) f k : Nat) : Int) 91 ((m : Int) + (x : Int)) = ((rk (sS i) (mbK i cs p m) f x : Nat) : Int) := by
        intro x hx2
        show (if (91 : Nat) = 91 ∧ (m : Int) + (x : Int) = (m : Int) + (k : Int) then ((rk (sS i) (mbK i cs p m) f k : Nat) : Int) else i2 91 ((m : Int) + (x : Int))) = _
        by_cases c : x = k
        · subst c; rw [if_pos ⟨rfl, rfl⟩]
        · rw [if_neg (fun z => by have := z.2; omega), a4.2.1]
          exact hr x (by omega)
      have hi3 : wkM i (u2 i2 91 ((m : Int) + (k : Int)) ((rk (sS i) (mbK i cs p m) f k : Nat) : Int)) cs p m f t := ⟨kfr_tr hi2.1 (kfr_u (by omega)), Fr_u (by decide) hi2.2.1, hi2.2.2.1, hi2.2.2.2.1, hi2.2.2.2.2⟩
      have hsn : sn (sS i) (mbK i cs p m) f t (120 - m) 0 = (if (rk (sS i) (mbK i cs p m) f k).testBit t = true then some k else sn (sS i) (mbK i cs p m) f t r (k + 1)) := hsn
      refine ⟨fun q2 => ⟨⟨by omega, by omega⟩, ⟨by omega, by omega⟩, ?_⟩, fun q2 => ⟨⟨by omega, by omega⟩, ?_⟩⟩
      · have ht2 : (rk (sS i) (mbK i cs p m) f k).testBit t = true := by
          by_cases z : (rk (sS i) (mbK i cs p m) f k).testBit t = true
          · exact z
          · rw [if_neg z] at q2; exact absurd q2 (by decide)
        rw [if_pos ht2] at hsn
        have hi4 : wkM i (u2 (u2 i2 91 ((m : Int) + (k : Int)) ((rk (sS i) (mbK i cs p m) f k : Nat) : Int)) 90 5 ((m : Int) + (k : Int))) cs p m f t := ⟨kfr_tr hi3.1 (kfr_u (by omega)), Fr_u (by decide) hi3.2.1, hi3.2.2.1, hi3.2.2.2.1, hi3.2.2.2.2⟩
        have hx4 := Cx_k hi4.1 hx
        have ev : u2 (u2 i2 91 ((m : Int) + (k : Int)) ((rk (sS i) (mbK i cs p m) f k : Nat) : Int)) 90 5 ((m : Int) + (k : Int)) 91 ((m : Int) + (k : Int)) = ((rk (sS i) (mbK i cs p m) f k : Nat) : Int) := by
          rw [u2_other _ _ _ (by decide)]; exact hr2 k (Nat.le_refl _)
        rw [ev]
        refine sp_X10_withStreets (by omega) hx4.1 hx4.2.1 hrl ?_
        have h54 : u2 (u2 i2 91 ((m : Int) + (k : Int)) ((rk (sS i) (mbK i cs p m) f k : Nat) : Int)) 90 5 ((m : Int) + (k : Int)) 90 5 = (m : Int) + (k : Int) := u2_self ..
        have hws := wsGo_lt (S := sS i) hrl (fun a ha => sS_lt hx.2.1 ha) 10 (by omega)
        have hws2 : withS (sS i) (rk (sS i) (mbK i cs p m) f k) < 1024 := hws
        rw [sS_K (hi4.1 101 (by decide) (by decide))]
        refine s_X10_find_85 _ _ _ _ _ ⟨⟨by omega, by omega⟩, fun _ => ⟨by omega, by omega⟩, fun _ => ⟨fun z => by rw [h54] at z; omega, fun _ => ?_⟩, fun z => absurd (Or.inr (Or.inr (by rw [h54]; omega))) z⟩
        refine sp_X10_trace (by omega) hx hS ht hf ht2 (by omega) (fun i5 hi5 h55 hst => ?_) hi4 h54 (fun x hx2 => by rw [u2_other _ _ _ (by decide)]; exact hr2 x hx2)
        refine hP i5 l2 (psc_tr hl a2) hi5 ?_
        unfold wkR
        rw [hsn]
        exact ⟨h55, hst⟩
      · have ht2 : ¬ (rk (sS i) (mbK i cs p m) f k).testBit t = true := fun z => q2 (by rw [if_pos z]; rfl)
        rw [if_neg ht2] at hsn
        have hx3 := Cx_k hi3.1 hx
        refine sp_X10_withStreets (by omega) hx3.1 hx3.2.1 hrl ?_
        rw [sS_K (hi3.1 101 (by decide) (by decide))]
        have e3 : (m : Int) + (k : Int) + 1 = (m : Int) + ((k + 1 : Nat) : Int) := by omega
        rw [e3]
        refine ih (k + 1) (by omega) hsn _ l2 (psc_tr hl a2) hi3 ?_ (fun x hx2 => hr2 x (by omega))
        show i2 90 5 = -1
        rw [a4.1]; exact h5
theorem sp_X10_find (hd : 10 ≤ d) {P : IM → LM → Prop} {cs : List Cla} (hx : Cx w i cs) (hs : SgC i cs) (hwk : WkC i cs) {p : Int} (hp : 0 ≤ p ∧ p < i 101 309) {m f t : Nat} (hS : SymS (sS i)) (hm : m < 120) (ht : t < 10) (hf : f < 10) (hP : ∀ i' l', kfr i i' → psc l l' → SgC i' cs → WkC i' cs → wkR i cs (i' 90 5) (i' 93) p m f t → P i' l') : cVd w d X_X10_find [vR (some 90), vI p, vI (m : Int), vI (f : Int), vI (t : Int)] i l P := by
  obtain ⟨d, rfl, hd1⟩ := d_pos hd
  have h309 := hx.2.1.1.2.2.1
  have hN : rg (wkN p m f t) := by unfold wkN; exact ⟨by omega, by omega⟩
  refine e_X10_find (s_X10_find _ _ _ _ ⟨fun _ => hN, fun q => ?_, fun q => ?_⟩)
  · exact hP i l (kfr_rf i) (psc_rf l) hs hwk (hwk.2 q.1 p m f t hp hm hf ht q.2)
  · refine s_X10_find_43 _ _ _ _ _ ⟨hN, ⟨by omega, by omega⟩, ?_⟩
    have hk1 : kfr i (u2 (u2 (u2 i 90 8 (i 7 15)) 90 7 (wkN p m f t)) 90 6 p) := kfr_tr (kfr_tr (kfr_u (by omega)) (kfr_u (by omega))) (kfr_u (by omega))
    have hs1 : SgC (u2 (u2 (u2 i 90 8 (i 7 15)) 90 7 (wkN p m f t)) 90 6 p) cs := SgC_d (i := i) (by rw [hk1 7 (by decide) (by decide)]) (by rw [u2_other _ _ _ (by decide), u2_other _ _ _ (by decide), u2_other _ _ _ (by decide)]) (fun a h1 h2 => by rw [u2_other _ _ _ (by omega), u2_other _ _ _ (by omega), u2_other _ _ _ (by omega)]) (hk1 101 (by decide) (by decide)) hs
    refine sp_X8_refresh (by omega) (Cx_k hk1 hx) hs1 (fun i1 v1 h14 s1 w1 => ?_)
    have e1 : ishl 1 (f : Int) = ((cand (sS i) (mbK i cs p m) f 0 : Nat) : Int) := by
      show _ = ((2 ^ f : Nat) : Int)
      exact ishl_one (by omega)
    rw [e1]
    have hl := lp_find (w := w) (d := d) (P := P) (l0 := l) hd1 hx hp hS hm ht hf (fun i' l' a1 a2 a3 => by
      have e101 := a2.1 101 (by decide) (by decide)
      have e7 := a2.1 7 (by decide) (by decide)
      refine hP i' l' a2.1 a1 (SgC_s a2.2.1.2.2 a2.2.1.1 a2.2.1.2.1) (WkC_new (p := p) (m := m) (f := f) (t := t) (by rw [e101]; exact hp) hm hf ht (by rw [a2.2.2.2.2, e7]) a2.2.2.2.1 (wkR_K e101 a3)) a3) (120 - m) 0 (Nat.zero_add _) rfl (u2 i1 90 5 (-1)) l (psc_rf l) ⟨kfr_tr (kfr_tr hk1 (kfr_v v1)) (kfr_u (by omega)), Fr_u (by decide) ⟨s1, w1, h14⟩, ?_, ?_, ?_⟩ (u2_self ..) (fun x hx2 => by omega)
    · have e2 : (m : Int) + ((0 : Nat) : Int) = (m : Int) := by omega
      rw [e2] at hl
      exact hl
    · show i1 90 6 = p
      rw [v1 90 (by decide)]; rfl
    · show i1 90 7 = _
      rw [v1 90 (by decide)]; rfl
    · show i1 90 8 = _
      rw [v1 90 (by decide)]; rfl
theorem sp_X11_soon (hd : 11 ≤ d) {P : Int → IM → LM → Prop} {cs : List Cla} (hx : Cx w i cs) (hs : SgC i cs) (hwk : WkC i cs) (hS : SymS (sS i)) {p m f t : Int} (h0 : rg p) (h1 : rg m) (h2 : rg f) (h3 : rg t) (hP : ∀ i' l', kfr i i' → psc l l' → SgC i' cs → WkC i' cs → P (mSoon i cs p m f t) i' l') : cI w d X_X11_soon [vR (some 6), vI p, vI m, vI f, vI t] i l P := by
  obtain ⟨d, rfl, hd1⟩ := d_pos hd
  have h7 := Cx_7 hx
  unfold mSoon at hP
  refine e_X11_soon (s_X11_soon _ _ _ _ (by omega) ⟨h0, fun _ => h1, fun _ _ => h2, fun _ _ _ => h3, fun q => ?_, fun q => ?_⟩)
  · rw [h7.2.2.1] at q
    rw [if_pos ⟨q.1, ⟨by omega, by omega⟩, ⟨by omega, by omega⟩, ⟨by omega, by omega⟩⟩] at hP
    obtain ⟨m, rfl⟩ := Int.eq_ofNat_of_zero_le q.2.1.1
    obtain ⟨f, rfl⟩ := Int.eq_ofNat_of_zero_le q.2.2.1.1
    obtain ⟨t, rfl⟩ := Int.eq_ofNat_of_zero_le q.2.2.2.1
    have hm := q.2.1.2
    have hff := q.2.2.1.2
    have htt := q.2.2.2.2
    refine sp_X10_find (by omega) hx hs hwk q.1 hS (by omega) (by omega) (by omega) (fun i' l' a1 a2 a3 a4 a5 => ?_)
    have hp := hP i' l' a1 a2 a3 a4
    unfold wkR at a5
    have e : snI i cs p (m : Int) (f : Int) (t : Int) = sn (sS i) (mbK i cs p m) f t (120 - m) 0 := rfl
    rw [e] at hp
    cases hn : sn (sS i) (mbK i cs p m) f t (120 - m) 0 with
    | none => rw [hn] at hp a5; rw [a5]; exact hp
    | some e => rw [hn] at hp a5; rw [a5.1]; exact hp
  · rw [h7.2.2.1] at q
    rw [if_neg (fun z => q ⟨z.1, ⟨by omega, by omega⟩, ⟨by omega, by omega⟩, ⟨by omega, by omega⟩⟩)] at hP
    exact hP i l (kfr_rf i) (psc_rf l) hs hwk
theorem sp_X11_way (hd : 11 ≤ d) {P : Int → IM → LM → Prop} {cs : List Cla} (hx : Cx w i cs) (hs : SgC i cs) (hwk : WkC i cs) (hS : SymS (sS i)) {p m f t a : Int} (h0 : rg p) (h1 : rg m) (h2 : rg f) (h3 : rg t) (h4 : rg a) (hP : ∀ i' l', kfr i i' → psc l l' → SgC i' cs → WkC i' cs → P (mWay i cs p m f t a) i' l') : cI w d X_X11_way [vR (some 6), vI p, vI m, vI f, vI t, vI a] i l P := by
  obtain ⟨d, rfl, hd1⟩ := d_pos hd
  have h7 := Cx_7 hx
  unfold mWay at hP
  refine e_X11_way (s_X11_way _ _ _ _ _ (by omega) ⟨h0, fun _ => h1, fun _ _ => h2, fun _ _ _ => h3, fun q => ?_, fun q => ?_⟩)
  · rw [h7.2.2.1] at q
    rw [if_pos ⟨q.1, ⟨by omega, by omega⟩, ⟨by omega, by omega⟩, ⟨by omega, by omega⟩⟩] at hP
    obtain ⟨m, rfl⟩ := Int.eq_ofNat_of_zero_le q.2.1.1
    obtain ⟨f, rfl⟩ := Int.eq_ofNat_of_zero_le q.2.2.1.1
    obtain ⟨t, rfl⟩ := Int.eq_ofNat_of_zero_le q.2.2.2.1
    have hm := q.2.1.2
    have hff := q.2.2.1.2
    have htt := q.2.2.2.2
    refine sp_X10_find (by omega) hx hs hwk q.1 hS (by omega) (by omega) (by omega) (fun i' l' a1 a2 a3 a4 a5 => ?_)
    have hp := hP i' l' a1 a2 a3 a4
    unfold wkR at a5
    have e : snI i cs p (m : Int) (f : Int) (t : Int) = sn (sS i) (mbK i cs p m) f t (120 - m) 0 := rfl
    rw [e] at hp
    cases hn : sn (sS i) (mbK i cs p m) f t (120 - m) 0 with
    | none =>
      rw [hn] at hp a5
      have a6 : i' 90 5 = -1 := a5
      have hp2 : P (-1) i' l' := hp
      refine ⟨h4, h1, fun z1 z2 => by omega, ?_⟩
      by_cases c : a < (m : Int)
      · rw [if_pos c]; exact hp2
      · rw [if_neg c, if_neg (by omega)]; exact hp2
    | some e =>
      have hb := sn_some _ _ hn
      rw [hn] at hp a5
      obtain ⟨a6, a7⟩ := a5
      have hp2 : P (if (m : Int) ≤ a ∧ a ≤ (m : Int) + (e : Int) then ((pt (sS i) (mbK i cs p m) f t e (a - (m : Int)).toNat : Nat) : Int) else -1) i' l' := hp
      refine ⟨h4, h1, fun z1 z2 => ⟨by omega, by omega⟩, ?_⟩
      rw [a6]
      by_cases c : a < (m : Int)
      · rw [if_pos c]; rw [if_neg (by omega)] at hp2; exact hp2
      · rw [if_neg c]
        by_cases c2 : a ≤ (m : Int) + (e : Int)
        · rw [if_pos c2]
          rw [if_pos ⟨by omega, c2⟩] at hp2
          have := a7 (a - (m : Int)).toNat (by omega)
          have e2 : (m : Int) + (((a - (m : Int)).toNat : Nat) : Int) = a := by omega
          rw [e2] at this
          rw [this]; exact hp2
        · rw [if_neg c2]; rw [if_neg (by omega)] at hp2; exact hp2
  · rw [h7.2.2.1] at q
    rw [if_neg (fun z => q ⟨z.1, ⟨by omega, by omega⟩, ⟨by omega, by omega⟩, ⟨by omega, by omega⟩⟩)] at hP
    exact hP i l (kfr_rf i) (psc_rf l) hs hwk
end
