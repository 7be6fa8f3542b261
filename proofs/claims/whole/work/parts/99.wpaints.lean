/-! the model goes through all PAINTINGS -/
section
variable {w : Wd} {d : Nat} {l : LM}
theorem pG_grow {σ : Type} {may : Nat → Nat → Bool} {leaf : (Nat → Nat) → σ → σ} {f : σ → Int} (h : ∀ o s, f (leaf o s) ≤ f s + 1) : ∀ (r t : Nat) (o : Nat → Nat) (s : σ), f (pG may leaf r t o s) ≤ f s + (3 : Int) ^ r
  | 0, _, o, s => h o s
  | r + 1, t, o, s => by
    have key : ∀ c s, f (pGc may leaf r t o c s) ≤ f s + (3 : Int) ^ r := by
      intro c s
      unfold pGc
      split
      · exact pG_grow h r (t + 1) _ s
      · have : (0 : Int) ≤ 3 ^ r := Int.le_of_lt (Int.pow_pos (by decide))
        omega
    rw [pG_s]
    have h2 := key 2 (pGc may leaf r t o 1 (pGc may leaf r t o 0 s))
    have h1 := key 1 (pGc may leaf r t o 0 s)
    have h0 := key 0 s
    have : (3 : Int) ^ (r + 1) = 3 ^ r * 3 := Int.pow_succ ..
    omega
theorem mvw_cg (i : IM) (cs : List Cla) {o o' : Nat → Nat} (v : Nat) (mo : Int) : ∀ t, (∀ j, j < t → o j = o' j) → mvw i cs o v mo t = mvw i cs o' v mo t
  | 0, _ => rfl
  | t + 1, h => by
    show mvw i cs o v mo t ||| (mBit i cs (v : Int) (t : Int) (mColour i (t : Int) ((o t : Nat) : Int)) mo 0).toNat = mvw i cs o' v mo t ||| (mBit i cs (v : Int) (t : Int) (mColour i (t : Int) ((o' t : Nat) : Int)) mo 0).toNat
    rw [mvw_cg i cs v mo t (fun j hj => h j (by omega)), h t (by omega)]
/-- the model's own PRICES, worth and tallies -/
abbrev fPr (i : IM) (cs : List Cla) (t c : Nat) : Int := mPr i cs (t : Int) (c : Int)
abbrev fWo (i : IM) (t c : Nat) : Int := if mColour i (t : Int) (c : Int) = i 101 (8 * (t : Int) + 2) then i 101 (8 * (t : Int) + 4) else 0
abbrev fGr (i : IM) (t c : Nat) : Int := if mColour i (t : Int) (c : Int) = 0 then 1 else 0
abbrev fPt (_ : IM) (_ c : Nat) : Int := if (c : Int) = 0 then 0 else 1
abbrev fOf (i : IM) (t c : Nat) : Int := if mColour i (t : Int) (c : Int) = i 101 (8 * (t : Int) + 2) then 0 else 1
abbrev fMy (i : IM) (t c : Nat) : Bool := mMay i (t : Int) (c : Int)
theorem vs_rg {g : Nat → Nat → Int} {b : Int} (o : Nat → Nat) : ∀ n, (∀ t, t < n → 0 ≤ g t (o t) ∧ g t (o t) ≤ b) → 0 ≤ vs g o n ∧ vs g o n ≤ b * (n : Int)
  | 0, _ => ⟨by show (0 : Int) ≤ 0; omega, by show (0 : Int) ≤ b * ((0 : Nat) : Int); omega⟩
  | n + 1, h => by
    have h1 := vs_rg o n (fun t ht => h t (by omega))
    have h2 := h n (by omega)
    show 0 ≤ vs g o n + g n (o n) ∧ vs g o n + g n (o n) ≤ b * ((n + 1 : Nat) : Int)
    have : b * ((n + 1 : Nat) : Int) = b * (n : Int) + b := by
      rw [show ((n + 1 : Nat) : Int) = (n : Int) + 1 from rfl, Int.mul_add, Int.mul_one]
    omega
theorem vs_sub {g a b : Nat → Nat → Int} (o : Nat → Nat) : ∀ n, (∀ t, t < n → g t (o t) = a t (o t) - b t (o t)) → vs g o n = vs a o n - vs b o n
  | 0, _ => rfl
  | n + 1, h => by
    have h1 := vs_sub o n (fun t ht => h t (by omega))
    have h2 := h n (by omega)
    show vs g o n + g n (o n) = (vs a o n + a n (o n)) - (vs b o n + b n (o n))
    omega
/-- the leaf -/
def lfN (i : IM) (cs : List Cla) (n W : Nat) (months eased : Int) (o : Nat → Nat) (s : ES) : ES := upE (vs (fWo i) o n - vs (fPr i cs) o n) (vs (fGr i) o n) (vs (fPt i) o n) (vs (fOf i) o n) (vs (fPr i cs) o n + shN i cs n months eased o W) (flN i cs n months eased o W) o s
theorem lfN_grow (i : IM) (cs : List Cla) (n W : Nat) (months eased : Int) (o : Nat → Nat) (s : ES) : (lfN i cs n W months eased o s).1.1 ≤ s.1.1 + 1 := by
  show (if flN i cs n months eased o W = 0 then addB _ s.1 else s.1).1 ≤ _
  split
  · exact Int.le_refl _
  · omega
/-- what was laid, and for which MONTHS, with one colour more at one WINDOW -/
def laid (i : IM) (cs : List Cla) (n W : Nat) (months eased : Int) : Prop := i 101 307 = (n : Int) ∧ i 101 308 = (W : Int) ∧ i 99 43 = months ∧ (∀ x c : Nat, x < n → c < 3 → i 115 (3 * (x : Int) + (c : Int)) = bI (mMay i (x : Int) (c : Int) = true) ∧ i 114 (3 * (x : Int) + (c : Int)) = mPr i cs (x : Int) (c : Int))
  ∧ (∀ v m x c : Nat, v < W → m < 12 → inMo months m → x < n → c < 3 → mMay i (x : Int) (c : Int) = true → i 111 (((96 * (x : Int) + 12 * (v : Int)) + (m : Int)) * 3 + (c : Int)) = mBit i cs (v : Int) (x : Int) (mColour i (x : Int) (c : Int)) (m : Int) 0)
  ∧ ∀ v m : Nat, v < W → m < 12 → inMo months m → i 112 (12 * (v : Int) + (m : Int)) = fLimit cs (v : Int) (m : Int) 0 + (if eased = (v : Int) then 1 else 0)
def pnf (i i' : IM) : Prop := ∀ (a : Nat) (k : Int), a ≠ 113 → a ≠ 116 → a ≠ 117 → a ≠ 118 → a ≠ 119 → (a ≠ 99 ∨ k < 35 ∨ 42 < k) → i' a k = i a k
theorem pnf_rf (i : IM) : pnf i i := fun _ _ _ _ _ _ _ _ => rfl
theorem pnf_tr {i j k : IM} (h1 : pnf i j) (h2 : pnf j k) : pnf i k := fun a x p1 p2 p3 p4 p5 p6 => (h2 a x p1 p2 p3 p4 p5 p6).trans (h1 a x p1 p2 p3 p4 p5 p6)
theorem pnf_e {i i' : IM} (h : enf i i') : pnf i i' := fun a x _ _ p3 p4 p5 p6 => h a x p3 p4 p5 p6
theorem pnf_u {i : IM} {a : Nat} {k v : Int} (h : a = 113 ∨ a = 116) : pnf i (u2 i a k v) := fun b x p1 p2 _ _ _ _ => if_neg (fun z => by omega)
theorem pnf_c {i i' : IM} (h : pnf i i') {a : Nat} (h1 : a ≠ 113) (h2 : a ≠ 116) (h3 : a ≠ 117) (h4 : a ≠ 118) (h5 : a ≠ 119) (h6 : a ≠ 99) : i' a = i a := funext fun k => h a k h1 h2 h3 h4 h5 (Or.inl h6)
/-- views of the first levels -/
def vwI (i0 i : IM) (cs : List Cla) (W : Nat) (months : Int) (o : Nat → Nat) (t : Nat) : Prop := ∀ t' v m : Nat, t' ≤ t → v < W → m < 12 → inMo months m → i 113 ((96 * (t' : Int) + 12 * (v : Int)) + (m : Int)) = ((mvw i0 cs o v (m : Int) t' : Nat) : Int)
/-- where the search stands -/
def pnI (i0 i : IM) (cs : List Cla) (n W : Nat) (months : Int) (o : Nat → Nat) (t : Nat) (s : ES) : Prop := pnf i0 i ∧ vwI i0 i cs W months o t ∧ (∀ j : Nat, j < t → i 116 (j : Int) = ((o j : Nat) : Int)) ∧ eS i n s
theorem eS_cg {i i' : IM} {n : Nat} {s : ES} (h9 : i' 99 = i 99) (h7 : i' 117 = i 117) (h8 : i' 118 = i 118) (h10 : i' 119 = i 119) (h : eS i n s) : eS i' n s := ⟨eA_cg (fun k _ _ => by rw [h9]) h7 h.1, eM_cg (by rw [h9]) (by rw [h9]) h8 h.2.1, fun k hk => by rw [h10]; exact h.2.2 k hk⟩
theorem vhGo_K {i i' : IM} (e : i' 101 = i 101) : vhGo i' = vhGo i := by
  funext cs n months eased o v m
  induction m with
  | zero => rfl
  | succ m ih => unfold vhGo; rw [ih, mvw_K e]
theorem flN_K {i i' : IM} (e : i' 101 = i 101) : flN i' = flN i := by
  funext cs n months eased o k
  unfold flN vh; rw [vhGo_K e]
theorem shN_K {i i' : IM} (e : i' 101 = i 101) : shN i' = shN i := by
  funext cs n months eased o k
  unfold shN vh; rw [vhGo_K e, e]
/-- one row of views, to the end of the MONTHS -/
theorem lp_pon66 {P : IM → LM → Prop} (hd : 1 ≤ d) {i0 : IM} {cs : List Cla} {n W : Nat} {months eased : Int} (hk : kOK (i0 101)) (hl : laid i0 cs n W months eased) {o : Nat → Nat} {t c v : Nat} (ht : t < n) (hc : c < 3) (hm : mMay i0 (t : Int) (c : Int) = true) (hv : v < W) {x2 x3 x4 : Int} {s : ES} (hnext : ∀ i', pnI i0 i' cs n W months o t s → i' 116 (t : Int) = (c : Int) → (∀ v' m' : Nat, v' < v + 1 → m' < 12 → inMo months m' → i' 113 ((96 * ((t : Int) + 1) + 12 * (v' : Int)) + (m' : Int)) = ((mvw i0 cs (upN o t c) v' (m' : Int) (t + 1) : Nat) : Int)) → gV w d X_X12_paintsOn P i' l 54 [(0, vR (some 99)), (1, vI (t : Int)), (2, vI x2), (3, vI x3), (4, vI x4), (5, vI (c : Int)), (6, vI ((v : Int) + 1))] []) : ∀ r m : Nat, m + r = 12 → ∀ i', pnI i0 i' cs n W months o t s → i' 116 (t : Int) = (c : Int) → (∀ v' m' : Nat, (v' < v ∨ (v' = v ∧ m' < m)) → m' < 12 → inMo months m' → i' 113 ((96 * ((t : Int) + 1) + 12 * (v' : Int)) + (m' : Int)) = ((mvw i0 cs (upN o t c) v' (m' : Int) (t + 1) : Nat) : Int)) → gV w d X_X12_paintsOn P i' l 66 [(0, vR (some 99)), (1, vI (t : Int)), (2, vI x2), (3, vI x3), (4, vI x4), (5, vI (c : Int)), (6, vI (v : Int)), (7, vI (m : Int))] [] := by
  have k7 := hk.1.1
  have k8 := hk.1.2.1
  obtain ⟨l7, l8, l43, l4, l5, l6⟩ := hl
  intro r
  induction r with
  | zero =>
    intro m hmr i' hi h6 hvw
    have e : m = 12 := by omega
    subst e
    exact s_X12_paintsOn_66 _ _ _ _ _ _ _ (by omega) ⟨⟨by omega, by omega⟩, fun _ => hnext i' hi h6 (fun v' m' h1 h2 h3 => hvw v' m' (by omega) h2 h3), fun z => absurd (by omega) z.1, fun z => absurd (by omega) z.1⟩
  | succ r ih =>
    intro m hmr i' hi h6 hvw
    have e43 : i' 99 43 = months := by rw [hi.1 99 43 (by decide) (by decide) (by decide) (by decide) (by decide) (by omega)]; exact l43
    refine s_X12_paintsOn_66 _ _ _ _ _ _ _ (by omega) ⟨⟨by omega, by omega⟩, fun z => by omega, fun z => ?_, fun z => ⟨⟨by omega, by omega⟩, ⟨by omega, by omega⟩, ⟨by omega, by omega⟩, ?_⟩⟩
    · rw [e43] at z
      refine ih (m + 1) (by omega) i' hi h6 (fun v' m' h1 h2 h3 => hvw v' m' ?_ h2 h3)
      rcases h1 with h1 | h1
      · exact Or.inl h1
      · by_cases e : m' = m
        · subst e; exact absurd h3 z.2
        · exact Or.inr ⟨h1.1, by omega⟩
    · rw [e43] at z
      have hin : inMo months m := z.2
      have e111 : i' 111 = i0 111 := pnf_c hi.1 (by decide) (by decide) (by decide) (by decide) (by decide) (by decide)
      have hcl := mColour_lt (i := i0) hk (t := (t : Int)) (c := (c : Int)) ⟨by omega, by omega⟩
      obtain ⟨b, eb, hb⟩ := mBit_nat hk cs (v := (v : Int)) (t := (t : Int)) (c := mColour i0 (t : Int) (c : Int)) (mo := (m : Int)) (mi := 0) ⟨by omega, by omega⟩ hcl
      have hlt := mvw_lt hk cs o v (m : Int) t (by omega)
      have ev := hi.2.1 t v m (by omega) hv (by omega) hin
      have enew : ior (i' 113 (((96 * (t : Int)) + (12 * (v : Int))) + (m : Int))) (i' 111 (((((96 * (t : Int)) + (12 * (v : Int))) + (m : Int)) * 3) + (c : Int))) = ((mvw i0 cs (upN o t c) v (m : Int) (t + 1) : Nat) : Int) := by
        rw [e111, l5 v m t c hv (by omega) hin ht hc hm, ev, eb, ior_nat (by omega) (by omega)]
        show _ = ((mvw i0 cs (upN o t c) v (m : Int) t ||| (mBit i0 cs (v : Int) (t : Int) (mColour i0 (t : Int) ((upN o t c t : Nat) : Int)) (m : Int) 0).toNat : Nat) : Int)
        rw [upN_at, eb, mvw_cg i0 cs v (m : Int) t (fun j hj => upN_lt hj), Int.toNat_natCast]
      rw [enew]
      refine ih (m + 1) (by omega) _ ⟨pnf_tr hi.1 (pnf_u (by omega)), ?_, ?_, ?_⟩ ?_ ?_
      · intro t' v' m' h1 h2 h3 h4
        have : u2 i' 113 (((96 * ((t : Int) + 1)) + (12 * (v : Int))) + (m : Int)) ((mvw i0 cs (upN o t c) v (m : Int) (t + 1) : Nat) : Int) 113 ((96 * (t' : Int) + 12 * (v' : Int)) + (m' : Int)) = i' 113 ((96 * (t' : Int) + 12 * (v' : Int)) + (m' : Int)) := if_neg (fun z2 => by have := z2.2; omega)
        rw [this]
        exact hi.2.1 t' v' m' h1 h2 h3 h4
      · rw [u2_other _ _ _ (by decide)]; exact hi.2.2.1
      · exact eS_cg (u2_other _ _ _ (by decide)) (u2_other _ _ _ (by decide)) (u2_other _ _ _ (by decide)) (u2_other _ _ _ (by decide)) hi.2.2.2
      · rw [u2_other _ _ _ (by decide)]; exact h6
      · intro v' m' h1 h2 h3
        by_cases e : v' = v ∧ m' = m
        · rw [e.1, e.2]; exact u2_self ..
        · have : u2 i' 113 (((96 * ((t : Int) + 1)) + (12 * (v : Int))) + (m : Int)) ((mvw i0 cs (upN o t c) v (m : Int) (t + 1) : Nat) : Int) 113 ((96 * ((t : Int) + 1) + 12 * (v' : Int)) + (m' : Int)) = i' 113 ((96 * ((t : Int) + 1) + 12 * (v' : Int)) + (m' : Int)) := if_neg (fun z2 => e (by have := z2.2; omega))
          rw [this]
          exact hvw v' m' (by omega) h2 h3
end
