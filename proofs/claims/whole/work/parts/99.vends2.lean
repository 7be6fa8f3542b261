/-! the model at the end of a PAINTING: a GOOD one -/
section
variable {w : Wd} {d : Nat} {l : LM}
/-- one more GOOD one, and the least tallies -/
def inc4 (i : IM) (g p f : Int) : IM := u2 (u2 (u2 (u2 i 99 35 (i 99 35 + 1)) 99 40 (min (i 99 40) g)) 99 41 (min (i 99 41) p)) 99 42 (min (i 99 42) f)
theorem inc4_35 (i : IM) (g p f : Int) : inc4 i g p f 99 35 = i 99 35 + 1 := by unfold inc4 u2; simp
theorem inc4_40 (i : IM) (g p f : Int) : inc4 i g p f 99 40 = min (i 99 40) g := by unfold inc4 u2; simp
theorem inc4_41 (i : IM) (g p f : Int) : inc4 i g p f 99 41 = min (i 99 41) p := by unfold inc4 u2; simp
theorem inc4_42 (i : IM) (g p f : Int) : inc4 i g p f 99 42 = min (i 99 42) f := by unfold inc4 u2; simp
theorem inc4_k {i : IM} {g p f k : Int} (h : k ≠ 35 ∧ k ≠ 40 ∧ k ≠ 41 ∧ k ≠ 42) : inc4 i g p f 99 k = i 99 k := by
  unfold inc4 u2
  rw [if_neg (fun z => h.2.2.2 z.2), if_neg (fun z => h.2.2.1 z.2), if_neg (fun z => h.2.1 z.2), if_neg (fun z => h.1 z.2)]
theorem s219 {P : IM → LM → Prop} (hd : 1 ≤ d) {i : IM} {x1 x2 x4 g p f : Int} (h4 : rg x4) (hg : 0 ≤ g ∧ g ≤ 10) (hp : 0 ≤ p ∧ p ≤ 10) (hf : 0 ≤ f ∧ f ≤ 10) (hb : 0 ≤ i 99 35 ∧ i 99 35 ≤ 1000000) (hv : rg (x2 - x1))
    (h1 : x4 = 0 → (i 99 35 = 0 ∨ i 99 37 ≤ x2 - x1) → gV w d X_X12_ends P (inc4 i g p f) l 303 [(0, vR (some 99)), (1, vI x1), (2, vI x2)] [])
    (h2 : x4 = 0 → ¬ (i 99 35 = 0 ∨ i 99 37 ≤ x2 - x1) → P (inc4 i g p f) l) (h3 : ¬ x4 = 0 → P i l) : gV w d X_X12_ends P i l 219 [(0, vR (some 99)), (1, vI x1), (2, vI x2), (3, vI (g + 16 * p + 256 * f)), (4, vI x4)] [] := by
  have hm := marks3 hg hp hf
  refine s_X12_ends_219 _ _ _ _ (by omega) ⟨h4, fun z => ?_, h3⟩
  rw [hm.1, hm.2.1, hm.2.2.1, hm.2.2.2]
  have q40 : (u2 i 99 35 (i 99 35 + 1)) 99 40 = i 99 40 := if_neg (by decide)
  rw [q40]
  have q41 : (u2 (u2 i 99 35 (i 99 35 + 1)) 99 40 (min (i 99 40) g)) 99 41 = i 99 41 := (if_neg (by decide)).trans (if_neg (by decide))
  rw [q41]
  have q42 : (u2 (u2 (u2 i 99 35 (i 99 35 + 1)) 99 40 (min (i 99 40) g)) 99 41 (min (i 99 41) p)) 99 42 = i 99 42 := (if_neg (by decide)).trans ((if_neg (by decide)).trans (if_neg (by decide)))
  rw [q42]
  have eJ : u2 (u2 (u2 (u2 i 99 35 (i 99 35 + 1)) 99 40 (min (i 99 40) g)) 99 41 (min (i 99 41) p)) 99 42 (min (i 99 42) f) = inc4 i g p f := rfl
  rw [eJ]
  have q35 : inc4 i g p f 99 35 = i 99 35 + 1 := inc4_35 i g p f
  have q37 : inc4 i g p f 99 37 = i 99 37 := inc4_k (by decide)
  rw [q35, q37]
  refine ⟨⟨by omega, by omega⟩, ⟨by omega, by omega⟩, ⟨by omega, by omega⟩, ⟨by omega, by omega⟩, ⟨by omega, by omega⟩, ⟨by omega, by omega⟩, fun _ => hv, fun y => h1 z ?_, fun y => h2 z ?_⟩
  · rcases y with y | y
    · exact Or.inl (by omega)
    · exact Or.inr y
  · intro y2
    apply y
    rcases y2 with y2 | y2
    · exact Or.inl (by omega)
    · exact Or.inr y2
theorem enf_inc {i : IM} {g p f : Int} : enf i (inc4 i g p f) := enf_tr (enf_u (by omega)) (enf_tr (enf_u (by omega)) (enf_tr (enf_u (by omega)) (enf_u (by omega))))
theorem inc4_c {i : IM} {g p f : Int} {a : Nat} (h : a ≠ 99) : inc4 i g p f a = i a := by
  unfold inc4; rw [u2_other _ _ _ h, u2_other _ _ _ h, u2_other _ _ _ h, u2_other _ _ _ h]
/-- only what the GOOD ones fill is changed -/
def enA (i i' : IM) : Prop := enf i i' ∧ i' 118 = i 118 ∧ i' 119 = i 119 ∧ i' 99 38 = i 99 38 ∧ i' 99 39 = i 99 39
theorem sp_ends219 {P : IM → LM → Prop} (hd : 1 ≤ d) {n : Nat} (hn : n ≤ 10) {i : IM} (h7 : i 101 307 = (n : Int)) {o : Nat → Nat} (ho : ∀ j : Nat, j < n → i 116 (j : Int) = ((o j : Nat) : Int)) {x1 x2 g p f : Int} {fl : Nat} (h4 : fl < 256) (hg : 0 ≤ g ∧ g ≤ 10) (hp : 0 ≤ p ∧ p ≤ 10) (hf : 0 ≤ f ∧ f ≤ 10) (hv : rg (x2 - x1)) {s : SA} (hs : eA i n s) (hb : s.1 < 1000000) (hP : ∀ i', enA i i' → eA i' n (if fl = 0 then addB (1, 1, x2 - x1, o, g, p, f) s else s) → P i' l) : gV w d X_X12_ends P i l 219 [(0, vR (some 99)), (1, vI x1), (2, vI x2), (3, vI (g + 16 * p + 256 * f)), (4, vI (fl : Int))] [] := by
  obtain ⟨a1, a2, a3, a4, a5, a6, a7⟩ := hs
  have q35 : inc4 i g p f 99 35 = i 99 35 + 1 := inc4_35 i g p f
  have q36 : inc4 i g p f 99 36 = i 99 36 := inc4_k (by decide)
  have q37 : inc4 i g p f 99 37 = i 99 37 := inc4_k (by decide)
  have q40 : inc4 i g p f 99 40 = min (i 99 40) g := inc4_40 i g p f
  have q41 : inc4 i g p f 99 41 = min (i 99 41) p := inc4_41 i g p f
  have q42 : inc4 i g p f 99 42 = min (i 99 42) f := inc4_42 i g p f
  refine s219 hd ⟨by omega, by omega⟩ hg hp hf ⟨by omega, by omega⟩ hv (fun z y => ?_) (fun z y => ?_) (fun z => ?_)
  · rw [if_pos (show fl = 0 by omega)] at hP
    refine s_X12_ends_303 _ _ ⟨fun _ => hv, fun y2 => ⟨hv, ?_⟩, fun y2 => ?_⟩
    · rw [q35, q37] at y2
      have hup : upB 1 (x2 - x1) o s.2.1 = (1, x2 - x1, o) := by
        unfold upB
        by_cases c : 0 < s.2.1.1
        · have c2 : 0 < s.1 := by omega
          have e37 := (a3 c2).1
          rw [if_neg (fun z2 => by have := z2.2; omega), if_neg (fun z2 => by have := z2.2; omega)]
        · rw [if_neg (fun z2 => c z2.1), if_neg (fun z2 => c z2.1)]
      have ei : addB (1, 1, x2 - x1, o, g, p, f) s = (s.1 + 1, (1, x2 - x1, o), min s.2.2.1 g, min s.2.2.2.1 p, min s.2.2.2.2 f) := by
        unfold addB
        rw [hup]
      rw [ei] at hP
      have e36 : (u2 (u2 (inc4 i g p f) 99 36 0) 99 37 (x2 - x1)) 99 36 = 0 := (if_neg (by decide)).trans (if_pos ⟨rfl, rfl⟩)
      refine lp_ends336 (n := n) (o := o) (by omega) hn (i := u2 (u2 (inc4 i g p f) 99 36 0) 99 37 (x2 - x1)) (by rw [u2_other _ _ _ (by decide), u2_other _ _ _ (by decide), inc4_c (by decide)]; exact h7) (by rw [u2_other _ _ _ (by decide), u2_other _ _ _ (by decide), inc4_c (by decide)]; exact ho) (by rw [e36]; exact ⟨by omega, by omega⟩) (fun i2 hi2 hj2 => ?_) n 0 (by omega) _ (fun _ _ => rfl) (fun j hj => by omega)
      rw [e36]
      have k99 : ∀ k : Int, k ≠ 36 → k ≠ 37 → u2 i2 99 36 (0 + 1) 99 k = inc4 i g p f 99 k := fun k n1 n2 => by
        have t1 : u2 i2 99 36 (0 + 1) 99 k = i2 99 k := if_neg (fun z2 => n1 z2.2)
        rw [t1, hi2 99 (by decide)]
        exact (if_neg (fun z2 => n2 z2.2)).trans (if_neg (fun z2 => n1 z2.2))
      have kot : ∀ a, a ≠ 117 → a ≠ 99 → u2 i2 99 36 (0 + 1) a = i a := fun a n1 n2 => by
        rw [u2_other _ _ _ n2, hi2 a n1, u2_other _ _ _ n2, u2_other _ _ _ n2, inc4_c n2]
      refine hP _ ⟨fun a k p1 p2 p3 p4 => ?_, kot 118 (by decide) (by decide), kot 119 (by decide) (by decide), (k99 38 (by decide) (by decide)).trans (inc4_k (by decide)), (k99 39 (by decide) (by decide)).trans (inc4_k (by decide))⟩ ⟨?_, ?_, fun _ => ⟨?_, ?_⟩, ?_, ?_, ?_, ?_⟩
      · by_cases c : a = 99
        · subst c
          rw [k99 k (by omega) (by omega)]
          exact inc4_k (by omega)
        · rw [kot a p1 c]
      · rw [k99 35 (by decide) (by decide), q35, a1]
      · exact u2_self ..
      · have t1 : u2 i2 99 36 (0 + 1) 99 37 = i2 99 37 := if_neg (by decide)
        rw [t1, hi2 99 (by decide)]
        exact u2_self ..
      · rw [u2_other _ _ _ (by decide)]; exact hj2
      · rw [k99 40 (by decide) (by decide), q40, a4]
      · rw [k99 41 (by decide) (by decide), q41, a5]
      · rw [k99 42 (by decide) (by decide), q42, a6]
      · exact ⟨by show (0 : Int) ≤ 1; omega, by show (1 : Int) ≤ s.1 + 1; omega, fun _ => by show (0 : Int) < 1; omega⟩
    · rw [q35, q37] at y2
      have c2 : 0 < s.1 := by
        by_cases c : 0 < s.1
        · exact c
        · exact absurd (Or.inl (by omega)) y2
      have e37 := (a3 c2).1
      have e36 := a7.2.2 c2
      have hval : x2 - x1 = s.2.1.2.1 := by
        have : ¬ ¬ x2 - x1 ≤ i 99 37 := fun z2 => y2 (Or.inr z2)
        omega
      have hup : upB 1 (x2 - x1) o s.2.1 = (s.2.1.1 + 1, s.2.1.2.1, s.2.1.2.2) := by
        unfold upB
        rw [if_neg (fun z2 => by have := z2.2; omega), if_pos ⟨e36, hval⟩]
      have ei : addB (1, 1, x2 - x1, o, g, p, f) s = (s.1 + 1, (s.2.1.1 + 1, s.2.1.2.1, s.2.1.2.2), min s.2.2.1 g, min s.2.2.2.1 p, min s.2.2.2.2 f) := by
        unfold addB
        rw [hup]
      rw [ei] at hP
      rw [q36]
      refine ⟨⟨by omega, by omega⟩, hP _ ⟨enf_tr enf_inc (enf_u (by omega)), by rw [u2_other _ _ _ (by decide), inc4_c (by decide)], by rw [u2_other _ _ _ (by decide), inc4_c (by decide)], (if_neg (by decide)).trans (inc4_k (by decide)), (if_neg (by decide)).trans (inc4_k (by decide))⟩ ⟨?_, ?_, fun _ => ⟨?_, ?_⟩, ?_, ?_, ?_, ?_⟩⟩
      · exact (if_neg (by decide)).trans (by rw [q35, a1])
      · rw [u2_self, a2]
      · exact (if_neg (by decide)).trans (by rw [q37, e37])
      · rw [u2_other _ _ _ (by decide), inc4_c (by decide)]; exact (a3 c2).2
      · exact (if_neg (by decide)).trans (by rw [q40, a4])
      · exact (if_neg (by decide)).trans (by rw [q41, a5])
      · exact (if_neg (by decide)).trans (by rw [q42, a6])
      · exact ⟨by show (0 : Int) ≤ s.2.1.1 + 1; omega, by show s.2.1.1 + 1 ≤ s.1 + 1; omega, fun _ => by show (0 : Int) < s.2.1.1 + 1; omega⟩
  · rw [if_pos (show fl = 0 by omega)] at hP
    have c2 : 0 < s.1 := by
      by_cases c : 0 < s.1
      · exact c
      · exact absurd (Or.inl (by omega)) y
    have e37 := (a3 c2).1
    have e36 := a7.2.2 c2
    have hval : x2 - x1 < s.2.1.2.1 := by
      have : ¬ i 99 37 ≤ x2 - x1 := fun z2 => y (Or.inr z2)
      omega
    have hup : upB 1 (x2 - x1) o s.2.1 = s.2.1 := by
      unfold upB
      rw [if_pos ⟨e36, hval⟩]
    have ei : addB (1, 1, x2 - x1, o, g, p, f) s = (s.1 + 1, s.2.1, min s.2.2.1 g, min s.2.2.2.1 p, min s.2.2.2.2 f) := by
      unfold addB
      rw [hup]
    rw [ei] at hP
    refine hP _ ⟨enf_inc, inc4_c (by decide), inc4_c (by decide), inc4_k (by decide), inc4_k (by decide)⟩ ⟨?_, ?_, fun _ => ⟨?_, ?_⟩, ?_, ?_, ?_, ?_⟩
    · rw [q35, a1]
    · rw [q36, a2]
    · rw [q37, e37]
    · rw [inc4_c (by decide)]; exact (a3 c2).2
    · rw [q40, a4]
    · rw [q41, a5]
    · rw [q42, a6]
    · exact ⟨by show (0 : Int) ≤ s.2.1.1; omega, by show s.2.1.1 ≤ s.1 + 1; omega, fun _ => e36⟩
  · rw [if_neg (show ¬ fl = 0 by omega)] at hP
    exact hP i ⟨enf_rf i, rfl, rfl, rfl, rfl⟩ ⟨a1, a2, a3, a4, a5, a6, a7⟩

/-- limits and views, as the end of a PAINTING reads them -/
def eL (i : IM) (cs : List Cla) (n W : Nat) (months eased : Int) (o : Nat → Nat) : Prop := ∀ v m : Nat, v < W → m < 12 → inMo months m → i 112 (12 * (v : Int) + (m : Int)) = fLimit cs (v : Int) (m : Int) 0 + (if eased = (v : Int) then 1 else 0) ∧ i 113 ((96 * (n : Int) + 12 * (v : Int)) + (m : Int)) = ((mvw i cs o v (m : Int) n : Nat) : Int)
theorem lp_ends24 {P : IM → LM → Prop} (hd : 1 ≤ d) {n W : Nat} {i : IM} (hk : kOK (i 101)) (h7 : i 101 307 = (n : Int)) (h8 : i 101 308 = (W : Int)) {cs : List Cla} {months eased : Int} {o : Nat → Nat} (hm : i 99 43 = months) (hL : eL i cs n W months eased o) {x1 x2 x3 : Int} {v : Nat} (hv : v < W) (hnext : gV w d X_X12_ends P i l 9 [(0, vR (some 99)), (1, vI x1), (2, vI x2), (3, vI x3), (4, vI ((flN i cs n months eased o (v + 1) : Nat) : Int)), (5, vI (shN i cs n months eased o (v + 1))), (6, vI ((v : Int) + 1))] []) : ∀ r m : Nat, m + r = 12 → gV w d X_X12_ends P i l 24 [(0, vR (some 99)), (1, vI x1), (2, vI x2), (3, vI x3), (4, vI ((flN i cs n months eased o v : Nat) : Int)), (5, vI (shN i cs n months eased o v)), (6, vI (v : Int)), (7, vI (bI (vhGo i cs n months eased o v m = true))), (8, vI (m : Int))] [] := by
  have k7 := hk.1.1
  have k8 := hk.1.2.1
  intro r
  induction r with
  | zero =>
    intro m hmr
    have e : m = 12 := by omega
    subst e
    have hlt : flN i cs n months eased o v < 2 ^ v := bfGo_lt _ v
    have h2k : 2 ^ v ≤ 2 ^ 7 := Nat.pow_le_pow_right (by omega) (by omega)
    refine s_X12_ends_24 _ _ _ _ _ _ _ _ (by omega) ⟨⟨by omega, by omega⟩, fun _ => ⟨bI_rg _, bI_rg _, fun _ => ⟨by omega, by omega⟩, ?_⟩, fun z => by omega⟩
    by_cases c : vhGo i cs n months eased o v 12 = true
    · rw [bI_t c, if_neg (by decide), if_neg (by decide), ior_0 (by omega)]
      rw [flN_s, shN_s, if_pos c, if_pos c] at hnext
      exact hnext
    · rw [bI_f c, if_pos rfl, if_pos rfl, bit_ior (by omega) (by omega)]
      rw [flN_s, shN_s, if_neg c, if_neg c] at hnext
      exact hnext
  | succ r ih =>
    intro m hmr
    have hx := ih (m + 1) (by omega)
    refine s_X12_ends_24 _ _ _ _ _ _ _ _ (by omega) ⟨⟨by omega, by omega⟩, fun z => by omega, fun _ => ⟨bI_rg _, ?_, ?_, ?_, ?_⟩⟩
    · intro _ _; rw [h7]; omega
    · intro _ y2
      rw [hm] at y2
      rw [h7, (hL v m hv (by omega) y2).2]
      have := mvw_lt hk cs o v (m : Int) n (by omega)
      omega
    · intro _ _; omega
    · have e : bI (¬ (bI (vhGo i cs n months eased o v m = true) = 0) ∧ (¬ (iand (ishr (i 99 43) (m : Int)) 1 = 1) ∨ (¬ (i 112 ((12 * (v : Int)) + (m : Int)) < popI (i 113 (((96 * (i 101 307)) + (12 * (v : Int))) + (m : Int))))))) = bI (vhGo i cs n months eased o v (m + 1) = true) := by
        apply bI_congr
        rw [bI_eq, Classical.not_not]
        show _ ↔ (vhGo i cs n months eased o v m && (!decide (inMo months m) || decide ((cntB (mvw i cs o v (m : Int) n) 8 : Int) ≤ fLimit cs (v : Int) (m : Int) 0 + (if eased = (v : Int) then 1 else 0)))) = true
        rw [Bool.and_eq_true, Bool.or_eq_true, Bool.not_eq_true', decide_eq_false_iff_not, decide_eq_true_eq, hm, h7]
        refine and_congr_right (fun _ => ?_)
        by_cases c : inMo months m
        · have hl := hL v m hv (by omega) c
          have hlt := mvw_lt hk cs o v (m : Int) n (by omega)
          have ep : popI (((mvw i cs o v (m : Int) n : Nat) : Int)) = (cntB (mvw i cs o v (m : Int) n) 8 : Int) := by
            show ((cntB (((mvw i cs o v (m : Int) n : Nat) : Int)).toNat 16 : Nat) : Int) = _
            rw [Int.toNat_natCast, cnt16 hlt]
          rw [hl.1, hl.2, ep]
          refine or_congr Iff.rfl ?_
          omega
        · exact ⟨fun _ => Or.inl c, fun _ => Or.inl c⟩
      rw [e]
      exact hx
theorem lp_ends9 {P : IM → LM → Prop} (hd : 1 ≤ d) {n W : Nat} {i : IM} (hk : kOK (i 101)) (h7 : i 101 307 = (n : Int)) (h8 : i 101 308 = (W : Int)) {cs : List Cla} {months eased : Int} {o : Nat → Nat} (hm : i 99 43 = months) (hL : eL i cs n W months eased o) (ho : ∀ j : Nat, j < n → i 116 (j : Int) = ((o j : Nat) : Int)) {x1 x2 g p f : Int} (h1 : 0 ≤ x1 ∧ x1 ≤ 10000) (h2 : 0 ≤ x2 ∧ x2 ≤ 10000) (hg : 0 ≤ g ∧ g ≤ 10) (hp : 0 ≤ p ∧ p ≤ 10) (hf : 0 ≤ f ∧ f ≤ 10) {s : ES} (hs : eS i n s) (hb : s.1.1 < 1000000) (hP : ∀ i', enf i i' → eS i' n (upE (x2 - x1) g p f (x1 + shN i cs n months eased o W) (flN i cs n months eased o W) o s) → P i' l) : ∀ r v : Nat, v + r = W → gV w d X_X12_ends P i l 9 [(0, vR (some 99)), (1, vI x1), (2, vI x2), (3, vI (g + 16 * p + 256 * f)), (4, vI ((flN i cs n months eased o v : Nat) : Int)), (5, vI (shN i cs n months eased o v)), (6, vI (v : Int))] [] := by
  have k7 := hk.1.1
  have k8 := hk.1.2.1
  intro r
  induction r with
  | zero =>
    intro v hvr
    have e : v = W := by omega
    subst e
    have hlt : flN i cs n months eased o v < 2 ^ v := bfGo_lt _ v
    have h2k : 2 ^ v ≤ 2 ^ 8 := Nat.pow_le_pow_right (by omega) (by omega)
    have hsh := shN_rg hk cs n months eased o (k := v) (by omega)
    obtain ⟨hA, hM, hF⟩ := hs
    generalize hfl : flN i cs n months eased o v = fl at *
    generalize hto : shN i cs n months eased o v = sh at *
    have q38 : (u2 i 119 (fl : Int) 1) 99 38 = i 99 38 := if_neg (fun z => by have := z.1; omega)
    have hF2 : ∀ i' : IM, i' 119 = (u2 i 119 (fl : Int) 1) 119 → eF i' (fun k => s.2.2 k || decide (k = fl)) := by
      intro i' e k hk
      rw [e]
      show (if 119 = 119 ∧ (k : Int) = (fl : Int) then (1 : Int) else i 119 (k : Int)) = _
      by_cases c : k = fl
      · subst c; rw [if_pos ⟨rfl, rfl⟩, if_pos (by simp)]
      · rw [if_neg (fun z => by omega), hF k hk]
        simp [c]
    refine s_X12_ends_9 _ _ _ _ _ _ (by omega) ⟨⟨by omega, by omega⟩, fun _ => ⟨⟨by omega, by omega⟩, fun _ => ⟨by omega, by omega⟩, fun y => ⟨⟨by omega, by omega⟩, ⟨by omega, by omega⟩, ?_⟩, fun y => ?_⟩, fun z => by rw [h8] at z; omega⟩
    · rw [q38] at y
      have hup : (if x1 + sh < s.2.1.1 then (x1 + sh, fl, o) else s.2.1) = (x1 + sh, fl, o) := by
        apply if_pos
        rcases y with y | y
        · by_cases c : s.2.1.1 < 2147483647
          · have := hM.2.2 c; omega
          · omega
        · by_cases c : s.2.1.1 < 2147483647
          · have := hM.2.2 c; omega
          · omega
      refine lp_ends190 (n := n) (o := o) (by omega) (by omega) (i := u2 (u2 (u2 i 119 (fl : Int) 1) 99 38 (x1 + sh)) 99 39 (fl : Int)) (by rw [u2_other _ _ _ (by decide), u2_other _ _ _ (by decide), u2_other _ _ _ (by decide)]; exact h7) (by rw [u2_other _ _ _ (by decide), u2_other _ _ _ (by decide), u2_other _ _ _ (by decide)]; exact ho) (fun i2 hi2 hj2 => ?_) n 0 (by omega) _ (fun _ _ => rfl) (fun j hj => by omega)
      have kot : ∀ a, a ≠ 118 → a ≠ 119 → a ≠ 99 → i2 a = i a := fun a n1 n2 n3 => by
        rw [hi2 a n1, u2_other _ _ _ n3, u2_other _ _ _ n3, u2_other _ _ _ n2]
      have k99 : ∀ k : Int, k ≠ 38 → k ≠ 39 → i2 99 k = i 99 k := fun k n1 n2 => by
        rw [hi2 99 (by decide)]
        exact (if_neg (fun z2 => n2 z2.2)).trans ((if_neg (fun z2 => n1 z2.2)).trans (if_neg (fun z2 => by have := z2.1; omega)))
      have e38 : i2 99 38 = x1 + sh := by
        rw [hi2 99 (by decide)]
        exact (if_neg (by decide)).trans (if_pos ⟨rfl, rfl⟩)
      have e39 : i2 99 39 = (fl : Int) := by
        rw [hi2 99 (by decide)]
        exact u2_self ..
      have e119 : i2 119 = (u2 i 119 (fl : Int) 1) 119 := by
        rw [hi2 119 (by decide), u2_other _ _ _ (by decide), u2_other _ _ _ (by decide)]
      refine sp_ends219 (n := n) (o := o) (by omega) (by omega) (by rw [kot 101 (by decide) (by decide) (by decide)]; exact h7) (by rw [kot 116 (by decide) (by decide) (by decide)]; exact ho) (by omega) hg hp hf ⟨by omega, by omega⟩ (s := s.1) (eA_cg k99 (kot 117 (by decide) (by decide) (by decide)) hA) hb (fun i3 hi3 hA3 => hP i3 ?_ ⟨hA3, ?_, ?_⟩)
      · refine enf_tr (fun a k p1 p2 p3 p4 => ?_) hi3.1
        by_cases c : a = 99
        · subst c; exact k99 k (by omega) (by omega)
        · rw [kot a p2 p3 c]
      · show eM i3 n (if x1 + sh < s.2.1.1 then (x1 + sh, fl, o) else s.2.1)
        rw [hup]
        refine ⟨by show x1 + sh ≤ 2147483647; omega, fun z => ?_, fun _ => ⟨by show 0 ≤ x1 + sh; omega, by rw [hi3.2.2.2.1, e38], by rw [hi3.2.2.2.2, e39], by rw [hi3.2.1]; exact hj2⟩⟩
        have : x1 + sh = 2147483647 := z
        omega
      · exact hF2 i3 (by rw [hi3.2.2.1, e119])
    · rw [q38] at y
      have hne : ¬ i 99 38 = -1 := fun z => y (Or.inl z)
      have hle : i 99 38 ≤ x1 + sh := Classical.not_not.mp (fun z => y (Or.inr z))
      have c : s.2.1.1 < 2147483647 := by
        by_cases c : s.2.1.1 < 2147483647
        · exact c
        · exact absurd (hM.2.1 (by have := hM.1; omega)) hne
      have hup : (if x1 + sh < s.2.1.1 then (x1 + sh, fl, o) else s.2.1) = s.2.1 := if_neg (by have := (hM.2.2 c).2.1; omega)
      have kot : ∀ a, a ≠ 119 → (u2 i 119 (fl : Int) 1) a = i a := fun a n1 => u2_other _ _ _ n1
      refine sp_ends219 (n := n) (o := o) (by omega) (by omega) (by rw [kot 101 (by decide)]; exact h7) (by rw [kot 116 (by decide)]; exact ho) (by omega) hg hp hf ⟨by omega, by omega⟩ (s := s.1) (eA_cg (fun k _ _ => by rw [kot 99 (by decide)]) (kot 117 (by decide)) hA) hb (fun i3 hi3 hA3 => hP i3 (enf_tr (enf_u (by omega)) hi3.1) ⟨hA3, ?_, hF2 i3 hi3.2.2.1⟩)
      show eM i3 n (if x1 + sh < s.2.1.1 then (x1 + sh, fl, o) else s.2.1)
      rw [hup]
      exact eM_cg (by rw [hi3.2.2.2.1, kot 99 (by decide)]) (by rw [hi3.2.2.2.2, kot 99 (by decide)]) (by rw [hi3.2.1, kot 118 (by decide)]) hM
  | succ r ih =>
    intro v hvr
    have hx := ih (v + 1) (by omega)
    refine s_X12_ends_9 _ _ _ _ _ _ (by omega) ⟨⟨by omega, by omega⟩, fun z => by rw [h8] at z; omega, fun _ => ?_⟩
    exact lp_ends24 hd hk h7 h8 hm hL (by omega) hx 12 0 (by omega)
theorem sp_X12_ends {P : IM → LM → Prop} (hd : 2 ≤ d) {n W : Nat} {i : IM} (hk : kOK (i 101)) (h7 : i 101 307 = (n : Int)) (h8 : i 101 308 = (W : Int)) {cs : List Cla} {months eased : Int} {o : Nat → Nat} (hm : i 99 43 = months) (hL : eL i cs n W months eased o) (ho : ∀ j : Nat, j < n → i 116 (j : Int) = ((o j : Nat) : Int)) {x1 x2 g p f : Int} (h1 : 0 ≤ x1 ∧ x1 ≤ 10000) (h2 : 0 ≤ x2 ∧ x2 ≤ 10000) (hg : 0 ≤ g ∧ g ≤ 10) (hp : 0 ≤ p ∧ p ≤ 10) (hf : 0 ≤ f ∧ f ≤ 10) {s : ES} (hs : eS i n s) (hb : s.1.1 < 1000000) (hP : ∀ i', enf i i' → eS i' n (upE (x2 - x1) g p f (x1 + shN i cs n months eased o W) (flN i cs n months eased o W) o s) → P i' l) : cVd w d X_X12_ends [vR (some 99), vI x1, vI x2, vI (g + 16 * p + 256 * f)] i l P := by
  obtain ⟨d, rfl⟩ : ∃ d', d = d' + 1 := ⟨d - 1, by omega⟩
  exact e_X12_ends (s_X12_ends _ _ _ (lp_ends9 (by omega) hk h7 h8 hm hL ho h1 h2 hg hp hf hs hb hP W 0 (by omega)))
end
