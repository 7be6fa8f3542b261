/-! rows of a CANVAS: what WINDOWS see, and whether they may yet fail -/
section
/-- how many rows; what a choice shows; what is spare; what later ones may show; how many of them -/
abbrev RW := Nat × (Nat → Nat → Nat → Int64) × (Nat → Int64) × (Nat → Nat → Int64) × (Nat → Nat → Int64)
def vw (Z : RW) (o : Nat → Nat) (q : Nat) : Nat → Int64
  | 0 => 0
  | t + 1 => vw Z o q t ||| Z.2.1 t (o t) q
theorem vw_cg {Z : RW} {o o' : Nat → Nat} {q : Nat} : ∀ {t : Nat}, (∀ j, j < t → o j = o' j) → vw Z o q t = vw Z o' q t
  | 0, _ => rfl
  | t + 1, h => by
    show vw Z o q t ||| Z.2.1 t (o t) q = vw Z o' q t ||| Z.2.1 t (o' t) q
    rw [vw_cg (fun j hj => h j (by omega)), h t (by omega)]
theorem vw_up (Z : RW) (o : Nat → Nat) (q t c : Nat) : vw Z (upN o t c) q (t + 1) = vw Z o q t ||| Z.2.1 t c q := by
  show vw Z (upN o t c) q t ||| Z.2.1 t (upN o t c t) q = _
  rw [vw_cg (fun j hj => upN_lt hj), upN_at]
abbrev OV : Int64 := -9187201950435737472
abbrev ldL (Z : RW) (x : Int64) (q : Nat) : Int64 := cntL x + Z.2.2.1 q
def ovr (Z : RW) (x : Int64) (q : Nat) : Bool := decide (¬ ldL Z x q &&& OV = 0)
def mfL (Z : RW) (t q : Nat) (x load left : Int64) : Int64 := if (load + Z.2.2.2.2 t q) &&& OV = 0 then 0 else ((load + Z.2.2.2.2 t q) &&& OV) &&& (cntL (x ||| Z.2.2.2.1 t q) + left)
/-- a row holds -/
def rOK (Z : RW) (n : Nat) (o : Nat → Nat) (q : Nat) : Bool := !ovr Z (vw Z o q n) q
/-- subsets, and how many -/
def sub (a b : Nat) : Prop := ∀ j, a.testBit j = true → b.testBit j = true
theorem sub_or {a b : Nat} (h : sub a b) : a ||| b = b := by
  apply Nat.eq_of_testBit_eq
  intro j
  rw [Nat.testBit_or]
  cases q : a.testBit j with
  | false => simp
  | true => rw [h j q]; simp
theorem sub_cnt {a b : Nat} (h : sub a b) (k : Nat) : cntB a k ≤ cntB b k := by
  have := cntB_or a b k
  rw [sub_or h] at this
  exact this
theorem cnt_or (a b : Nat) : ∀ k, cntB (a ||| b) k ≤ cntB a k + cntB b k
  | 0 => Nat.le_refl _
  | k + 1 => by
    have ih := cnt_or a b k
    show cntB (a ||| b) k + (a ||| b) / 2 ^ k % 2 ≤ cntB a k + a / 2 ^ k % 2 + (cntB b k + b / 2 ^ k % 2)
    have : (a ||| b) / 2 ^ k % 2 ≤ a / 2 ^ k % 2 + b / 2 ^ k % 2 := by
      rw [bit_div, bit_div, bit_div, Nat.testBit_or]
      cases a.testBit k <;> cases b.testBit k <;> simp
    omega
theorem sub_l (a b : Nat) : sub a (a ||| b) := fun j h => by rw [Nat.testBit_or, h]; rfl
theorem sub_tr {a b c : Nat} (h1 : sub a b) (h2 : sub b c) : sub a c := fun j h => h2 j (h1 j h)
theorem sub_orr {a b c : Nat} (h1 : sub a c) (h2 : sub b c) : sub (a ||| b) c := fun j h => by
  rw [Nat.testBit_or, Bool.or_eq_true] at h
  rcases h with h | h
  · exact h1 j h
  · exact h2 j h
/-- the rows are what they are said to be -/
def RWok (C : PC) (Z : RW) (n : Nat) : Prop := n ≤ 10 ∧ (∀ q v, q < Z.1 → v < 8 → Bt (Z.2.2.1 q) v ≤ 127)
  ∧ (∀ t q v, t ≤ n → q < Z.1 → v < 8 → Bt (Z.2.2.2.2 t q) v ≤ n - t)
  ∧ (∀ t c q v, t < n → c < 3 → C.1 t c = true → q < Z.1 → v < 8 → sub (Bt (Z.2.1 t c q) v) (Bt (Z.2.2.2.1 t q) v) ∧ cntB (Bt (Z.2.1 t c q) v) 8 ≤ 1 ∧ (Bt (Z.2.1 t c q) v ≠ 0 → Bt (Z.2.2.2.2 (t + 1) q) v + 1 ≤ Bt (Z.2.2.2.2 t q) v))
  ∧ (∀ t q v, t < n → q < Z.1 → v < 8 → sub (Bt (Z.2.2.2.1 (t + 1) q) v) (Bt (Z.2.2.2.1 t q) v) ∧ Bt (Z.2.2.2.2 (t + 1) q) v ≤ Bt (Z.2.2.2.2 t q) v)
theorem ldL_B {C : PC} {Z : RW} {n : Nat} (hZ : RWok C Z n) (x : Int64) {q v : Nat} (hq : q < Z.1) (hv : v < 8) : Bt (ldL Z x q) v = cntB (Bt x v) 8 + Bt (Z.2.2.1 q) v := by
  have h := Bt_add (x := cntL x) (y := Z.2.2.1 q) (fun u hu => by
    have h1 := cntB8_le (Bt x u)
    have h2 := hZ.2.1 q u hq hu
    rw [Bt_cnt x u hu]; omega) v hv
  rw [Bt_cnt x v hv] at h
  exact h
theorem ovr_iff {C : PC} {Z : RW} {n : Nat} (hZ : RWok C Z n) (x : Int64) {q : Nat} (hq : q < Z.1) : ovr Z x q = false ↔ ∀ v, v < 8 → cntB (Bt x v) 8 + Bt (Z.2.2.1 q) v < 128 := by
  unfold ovr
  rw [decide_eq_false_iff_not, Decidable.not_not, over_0]
  constructor
  · intro h v hv; have := h v hv; rw [ldL_B hZ x hq hv] at this; exact this
  · intro h v hv; rw [ldL_B hZ x hq hv]; exact h v hv
/-- what is seen grows -/
theorem vw_grow {C : PC} {Z : RW} {n t : Nat} {o o' : Nat → Nat} (he : ext C.1 n t o o') {q v : Nat} : ∀ k, t + k ≤ n → sub (Bt (vw Z o q t) v) (Bt (vw Z o' q (t + k)) v)
  | 0, _ => by rw [vw_cg (o := o) (o' := o') (fun j hj => (he.1 j hj).symm)]; exact fun _ h => h
  | k + 1, h => sub_tr (vw_grow he k (by omega)) (by
      show sub _ (Bt (vw Z o' q (t + k) ||| Z.2.1 (t + k) (o' (t + k)) q) v)
      rw [Bt_or]; exact sub_l _ _)
theorem vw_top {C : PC} {Z : RW} {n t : Nat} (hZ : RWok C Z n) {o o' : Nat → Nat} (he : ext C.1 n t o o') {q v : Nat} (hq : q < Z.1) (hv : v < 8) : ∀ k, t + k ≤ n → sub (Bt (vw Z o' q (t + k)) v) (Bt (vw Z o q t) v ||| Bt (Z.2.2.2.1 t q) v) ∧ cntB (Bt (vw Z o' q (t + k)) v) 8 + Bt (Z.2.2.2.2 (t + k) q) v ≤ cntB (Bt (vw Z o q t) v) 8 + Bt (Z.2.2.2.2 t q) v ∧ sub (Bt (Z.2.2.2.1 (t + k) q) v) (Bt (Z.2.2.2.1 t q) v)
  | 0, _ => by
    rw [Nat.add_zero, vw_cg (o := o') (o' := o) (fun j hj => he.1 j hj)]
    exact ⟨sub_l _ _, Nat.le_refl _, fun _ h => h⟩
  | k + 1, h => by
    have ih := vw_top hZ he hq hv k (by omega)
    have hm := he.2 (t + k) (by omega) (by omega)
    have hs := hZ.2.2.2.1 (t + k) (o' (t + k)) q v (by omega) hm.2 hm.1 hq hv
    have hr := hZ.2.2.2.2 (t + k) q v (by omega) hq hv
    have e : vw Z o' q (t + (k + 1)) = vw Z o' q (t + k) ||| Z.2.1 (t + k) (o' (t + k)) q := rfl
    rw [e, Bt_or]
    refine ⟨sub_orr ih.1 (sub_tr hs.1 (sub_tr ih.2.2 (fun j h => by rw [Nat.testBit_or, h]; simp))), ?_, sub_tr hr.1 ih.2.2⟩
    have hc := cnt_or (Bt (vw Z o' q (t + k)) v) (Bt (Z.2.1 (t + k) (o' (t + k)) q) v) 8
    by_cases z : Bt (Z.2.1 (t + k) (o' (t + k)) q) v = 0
    · rw [z, Nat.or_zero]
      have := hr.2
      have e2 : t + (k + 1) = t + k + 1 := by omega
      rw [e2]
      omega
    · have h1 := hs.2.2 z
      have h2 := hs.2.1
      have e2 : t + (k + 1) = t + k + 1 := by omega
      rw [e2]
      omega
theorem over_dead {C : PC} {Z : RW} {n t : Nat} (hZ : RWok C Z n) (ht : t ≤ n) {o o' : Nat → Nat} (he : ext C.1 n t o o') {q : Nat} (hq : q < Z.1) (h : ovr Z (vw Z o q t) q = true) : rOK Z n o' q = false := by
  unfold rOK
  cases c : ovr Z (vw Z o' q n) q with
  | true => rfl
  | false =>
    exfalso
    have h2 : ovr Z (vw Z o q t) q = false := by
      rw [ovr_iff hZ _ hq] at c ⊢
      intro v hv
      have := c v hv
      have hg := sub_cnt (vw_grow (Z := Z) he (q := q) (v := v) (n - t) (by omega)) 8
      rw [show t + (n - t) = n by omega] at hg
      omega
    rw [h] at h2; cases h2
theorem mf_ok {C : PC} {Z : RW} {n t : Nat} (hZ : RWok C Z n) (ht : t ≤ n) {o o' : Nat → Nat} (he : ext C.1 n t o o') {q : Nat} (hq : q < Z.1) (h : mfL Z t q (vw Z o q t) (ldL Z (vw Z o q t) q) (Z.2.2.1 q) = 0) : rOK Z n o' q = true := by
  have hle := hZ.2.2.1
  unfold rOK
  have : ovr Z (vw Z o' q n) q = false := by
    rw [ovr_iff hZ _ hq]
    intro v hv
    have htop := vw_top hZ he hq hv (n - t) (by omega)
    rw [show t + (n - t) = n by omega] at htop
    have hsp := hZ.2.1 q v hq hv
    have hadd : ∀ u, u < 8 → Bt (ldL Z (vw Z o q t) q + Z.2.2.2.2 t q) u = cntB (Bt (vw Z o q t) u) 8 + Bt (Z.2.2.1 q) u + Bt (Z.2.2.2.2 t q) u := by
      intro u hu
      rw [Bt_add (fun y hy => by
        have a1 := cntB8_le (Bt (vw Z o q t) y)
        have a2 := hZ.2.1 q y hq hy
        have a3 := hle t q y ht hq hy
        have a4 := hZ.1
        rw [ldL_B hZ _ hq hy]; omega) u hu, ldL_B hZ _ hq hu]
    have hA : cntB (Bt (vw Z o q t) v) 8 + Bt (Z.2.2.1 q) v + Bt (Z.2.2.2.2 t q) v < 128 → cntB (Bt (vw Z o' q n) v) 8 + Bt (Z.2.2.1 q) v < 128 := by
      intro z
      have := htop.2.1
      omega
    unfold mfL at h
    by_cases c : (ldL Z (vw Z o q t) q + Z.2.2.2.2 t q) &&& OV = 0
    · have := (over_0 _).mp c v hv
      rw [hadd v hv] at this
      exact hA this
    · rw [if_neg c] at h
      have hb := (Bt_0.mp h) v hv
      rw [Bt_and, Bt_over _ hv, hadd v hv] at hb
      by_cases c2 : cntB (Bt (vw Z o q t) v) 8 + Bt (Z.2.2.1 q) v + Bt (Z.2.2.2.2 t q) v < 128
      · exact hA c2
      · rw [if_neg c2] at hb
        have hsum : Bt (cntL (vw Z o q t ||| Z.2.2.2.1 t q) + Z.2.2.1 q) v = cntB (Bt (vw Z o q t) v ||| Bt (Z.2.2.2.1 t q) v) 8 + Bt (Z.2.2.1 q) v := by
          have := ldL_B hZ (vw Z o q t ||| Z.2.2.2.1 t q) hq hv
          rw [Bt_or] at this
          exact this
        have hlt : Bt (cntL (vw Z o q t ||| Z.2.2.2.1 t q) + Z.2.2.1 q) v < 128 := by
          have h3 := and128 _ (Bt_lt (cntL (vw Z o q t ||| Z.2.2.2.1 t q) + Z.2.2.1 q) v)
          rw [Nat.and_comm] at h3
          rw [h3] at hb
          split at hb
          · assumption
          · omega
        rw [hsum] at hlt
        have := sub_cnt htop.1 8
        omega
  rw [this]; rfl
theorem mf_end {C : PC} {Z : RW} {n : Nat} (hZ : RWok C Z n) {x : Int64} {q : Nat} (hq : q < Z.1) (h : ovr Z x q = false) (left : Int64) : mfL Z n q x (ldL Z x q) left = 0 := by
  have hz : Z.2.2.2.2 n q = 0 := Bt_0.mpr (fun v hv => by have := hZ.2.2.1 n q v (Nat.le_refl _) hq hv; omega)
  unfold mfL
  rw [hz]
  have e : ldL Z x q + 0 = ldL Z x q := Int64.add_zero _
  rw [e]
  refine if_pos ?_
  unfold ovr at h
  rw [decide_eq_false_iff_not, Decidable.not_not] at h
  exact h
end
