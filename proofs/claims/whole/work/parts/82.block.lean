/-! a block: whatever later THINGS have -/
section
/-- of one THING: how many choices, how many are the best, their gain, the first of them, the least tallies -/
abbrev LEl := Int × Int × Int × Nat × Int × Int × Int
def mrgL (x y : LEl) : LEl := (x.1 + y.1, (if x.2.2.1 < y.2.2.1 then y.2.1 else if x.2.2.1 = y.2.2.1 then x.2.1 + y.2.1 else x.2.1), max x.2.2.1 y.2.2.1, (if x.2.2.1 < y.2.2.1 then y.2.2.2.1 else x.2.2.2.1), min x.2.2.2.2.1 y.2.2.2.2.1, min x.2.2.2.2.2.1 y.2.2.2.2.2.1, min x.2.2.2.2.2.2 y.2.2.2.2.2.2)
def joinL (m : Bool) (y : LEl) : Option LEl → Option LEl
  | none => if m = true then some y else none
  | some x => if m = true then some (mrgL x y) else some x
theorem joinL_n (m : Bool) (y : LEl) : joinL m y none = if m = true then some y else none := rfl
theorem joinL_s (m : Bool) (x y : LEl) : joinL m y (some x) = if m = true then some (mrgL x y) else some x := rfl
/-- what PAINTINGS are made of -/
abbrev PC := (Nat → Nat → Bool) × (Nat → Nat → Int) × (Nat → Nat → Int) × (Nat → Nat → Int) × (Nat → Nat → Int)
def lE (C : PC) (t c : Nat) : LEl := (1, 1, C.2.1 t c, c, C.2.2.1 t c, C.2.2.2.1 t c, C.2.2.2.2 t c)
def sumL (C : PC) (t : Nat) : Nat → Option LEl
  | 0 => none
  | c + 1 => joinL (C.1 t c) (lE C t c) (sumL C t c)
/-- all choices of a THING -/
def loc (C : PC) (t : Nat) : LEl := (sumL C t 3).getD (0, 0, 0, 0, 0, 0, 0)
/-- of a THING and all later ones -/
abbrev SX := Int × Int × Int × Int × Int × Int
def sx (C : PC) : Nat → Nat → SX
  | 0, _ => (1, 1, 0, 0, 0, 0)
  | r + 1, t => ((sx C r (t + 1)).1 * (loc C t).1, (sx C r (t + 1)).2.1 * (loc C t).2.1, (sx C r (t + 1)).2.2.1 + (loc C t).2.2.1, (sx C r (t + 1)).2.2.2.1 + (loc C t).2.2.2.2.1, (sx C r (t + 1)).2.2.2.2.1 + (loc C t).2.2.2.2.2.1, (sx C r (t + 1)).2.2.2.2.2 + (loc C t).2.2.2.2.2.2)
def blk (C : PC) (r t : Nat) (o : Nat → Nat) : Blk := ((sx C r t).1, (sx C r t).2.1, vs C.2.1 o t + (sx C r t).2.2.1, (fun j => if j < t then o j else (loc C j).2.2.2.1), vs C.2.2.1 o t + (sx C r t).2.2.2.1, vs C.2.2.2.1 o t + (sx C r t).2.2.2.2.1, vs C.2.2.2.2 o t + (sx C r t).2.2.2.2.2)
/-- a GOOD one alone -/
def one (C : PC) (n : Nat) (o : Nat → Nat) : Blk := (1, 1, vs C.2.1 o n, (fun j => if j < n then o j else (loc C j).2.2.2.1), vs C.2.2.1 o n, vs C.2.2.2.1 o n, vs C.2.2.2.2 o n)
def lift (C : PC) (r t : Nat) (o : Nat → Nat) (x : LEl) : Blk := ((sx C r (t + 1)).1 * x.1, (sx C r (t + 1)).2.1 * x.2.1, vs C.2.1 o t + x.2.2.1 + (sx C r (t + 1)).2.2.1, (fun j => if j < t then o j else if j = t then x.2.2.2.1 else (loc C j).2.2.2.1), vs C.2.2.1 o t + x.2.2.2.2.1 + (sx C r (t + 1)).2.2.2.1, vs C.2.2.2.1 o t + x.2.2.2.2.2.1 + (sx C r (t + 1)).2.2.2.2.1, vs C.2.2.2.2 o t + x.2.2.2.2.2.2 + (sx C r (t + 1)).2.2.2.2.2)
theorem lift_mrg (C : PC) (r t : Nat) (o : Nat → Nat) (x y : LEl) : mrg (lift C r t o x) (lift C r t o y) = lift C r t o (mrgL x y) := by
  have hlt : (vs C.2.1 o t + x.2.2.1 + (sx C r (t + 1)).2.2.1 < vs C.2.1 o t + y.2.2.1 + (sx C r (t + 1)).2.2.1) ↔ x.2.2.1 < y.2.2.1 := by omega
  have heq : (vs C.2.1 o t + x.2.2.1 + (sx C r (t + 1)).2.2.1 = vs C.2.1 o t + y.2.2.1 + (sx C r (t + 1)).2.2.1) ↔ x.2.2.1 = y.2.2.1 := by omega
  unfold mrg lift mrgL
  refine Prod.ext ?_ (Prod.ext ?_ (Prod.ext ?_ (Prod.ext ?_ (Prod.ext ?_ (Prod.ext ?_ ?_)))))
  · show (sx C r (t + 1)).1 * x.1 + (sx C r (t + 1)).1 * y.1 = (sx C r (t + 1)).1 * (x.1 + y.1)
    rw [Int.mul_add]
  · show (if vs C.2.1 o t + x.2.2.1 + (sx C r (t + 1)).2.2.1 < vs C.2.1 o t + y.2.2.1 + (sx C r (t + 1)).2.2.1 then (sx C r (t + 1)).2.1 * y.2.1 else if vs C.2.1 o t + x.2.2.1 + (sx C r (t + 1)).2.2.1 = vs C.2.1 o t + y.2.2.1 + (sx C r (t + 1)).2.2.1 then (sx C r (t + 1)).2.1 * x.2.1 + (sx C r (t + 1)).2.1 * y.2.1 else (sx C r (t + 1)).2.1 * x.2.1) = (sx C r (t + 1)).2.1 * (if x.2.2.1 < y.2.2.1 then y.2.1 else if x.2.2.1 = y.2.2.1 then x.2.1 + y.2.1 else x.2.1)
    by_cases c : x.2.2.1 < y.2.2.1
    · rw [if_pos (hlt.mpr c), if_pos c]
    · rw [if_neg (fun z => c (hlt.mp z)), if_neg c]
      by_cases c2 : x.2.2.1 = y.2.2.1
      · rw [if_pos (heq.mpr c2), if_pos c2, Int.mul_add]
      · rw [if_neg (fun z => c2 (heq.mp z)), if_neg c2]
  · show max (vs C.2.1 o t + x.2.2.1 + (sx C r (t + 1)).2.2.1) (vs C.2.1 o t + y.2.2.1 + (sx C r (t + 1)).2.2.1) = vs C.2.1 o t + max x.2.2.1 y.2.2.1 + (sx C r (t + 1)).2.2.1
    omega
  · show (if vs C.2.1 o t + x.2.2.1 + (sx C r (t + 1)).2.2.1 < vs C.2.1 o t + y.2.2.1 + (sx C r (t + 1)).2.2.1 then (fun j => if j < t then o j else if j = t then y.2.2.2.1 else (loc C j).2.2.2.1) else (fun j => if j < t then o j else if j = t then x.2.2.2.1 else (loc C j).2.2.2.1)) = (fun j => if j < t then o j else if j = t then (if x.2.2.1 < y.2.2.1 then y.2.2.2.1 else x.2.2.2.1) else (loc C j).2.2.2.1)
    by_cases c : x.2.2.1 < y.2.2.1
    · rw [if_pos (hlt.mpr c), if_pos c]
    · rw [if_neg (fun z => c (hlt.mp z)), if_neg c]
  · show min (vs C.2.2.1 o t + x.2.2.2.2.1 + (sx C r (t + 1)).2.2.2.1) (vs C.2.2.1 o t + y.2.2.2.2.1 + (sx C r (t + 1)).2.2.2.1) = vs C.2.2.1 o t + min x.2.2.2.2.1 y.2.2.2.2.1 + (sx C r (t + 1)).2.2.2.1
    omega
  · show min (vs C.2.2.2.1 o t + x.2.2.2.2.2.1 + (sx C r (t + 1)).2.2.2.2.1) (vs C.2.2.2.1 o t + y.2.2.2.2.2.1 + (sx C r (t + 1)).2.2.2.2.1) = vs C.2.2.2.1 o t + min x.2.2.2.2.2.1 y.2.2.2.2.2.1 + (sx C r (t + 1)).2.2.2.2.1
    omega
  · show min (vs C.2.2.2.2 o t + x.2.2.2.2.2.2 + (sx C r (t + 1)).2.2.2.2.2) (vs C.2.2.2.2 o t + y.2.2.2.2.2.2 + (sx C r (t + 1)).2.2.2.2.2) = vs C.2.2.2.2 o t + min x.2.2.2.2.2.2 y.2.2.2.2.2.2 + (sx C r (t + 1)).2.2.2.2.2
    omega
theorem lift_one (C : PC) (r t c : Nat) (o : Nat → Nat) : blk C r (t + 1) (upN o t c) = lift C r t o (lE C t c) := by
  unfold blk lift lE
  refine Prod.ext ?_ (Prod.ext ?_ (Prod.ext ?_ (Prod.ext ?_ (Prod.ext ?_ (Prod.ext ?_ ?_)))))
  · show _ = (sx C r (t + 1)).1 * 1; omega
  · show (sx C r (t + 1)).2.1 = (sx C r (t + 1)).2.1 * 1; omega
  · show vs C.2.1 (upN o t c) (t + 1) + _ = _
    rw [vs_up]
  · funext j
    show (if j < t + 1 then upN o t c j else (loc C j).2.2.2.1) = (if j < t then o j else if j = t then c else (loc C j).2.2.2.1)
    by_cases a : j < t
    · rw [if_pos (by omega), if_pos a, upN_lt a]
    · rw [if_neg a]
      by_cases b : j = t
      · rw [if_pos (by omega), if_pos b, b, upN_at]
      · rw [if_neg (by omega), if_neg b]
  · show vs C.2.2.1 (upN o t c) (t + 1) + _ = _
    rw [vs_up]
  · show vs C.2.2.2.1 (upN o t c) (t + 1) + _ = _
    rw [vs_up]
  · show vs C.2.2.2.2 (upN o t c) (t + 1) + _ = _
    rw [vs_up]
theorem lift_all (C : PC) (r t : Nat) (o : Nat → Nat) : lift C r t o (loc C t) = blk C (r + 1) t o := by
  unfold blk lift
  refine Prod.ext rfl (Prod.ext rfl (Prod.ext ?_ (Prod.ext ?_ (Prod.ext ?_ (Prod.ext ?_ ?_)))))
  · show vs C.2.1 o t + (loc C t).2.2.1 + (sx C r (t + 1)).2.2.1 = vs C.2.1 o t + ((sx C r (t + 1)).2.2.1 + (loc C t).2.2.1); omega
  · funext j
    show (if j < t then o j else if j = t then (loc C t).2.2.2.1 else (loc C j).2.2.2.1) = (if j < t then o j else (loc C j).2.2.2.1)
    by_cases a : j < t
    · rw [if_pos a, if_pos a]
    · rw [if_neg a, if_neg a]
      by_cases b : j = t
      · rw [if_pos b, b]
      · rw [if_neg b]
  · show vs C.2.2.1 o t + (loc C t).2.2.2.2.1 + (sx C r (t + 1)).2.2.2.1 = vs C.2.2.1 o t + ((sx C r (t + 1)).2.2.2.1 + (loc C t).2.2.2.2.1); omega
  · show vs C.2.2.2.1 o t + (loc C t).2.2.2.2.2.1 + (sx C r (t + 1)).2.2.2.2.1 = vs C.2.2.2.1 o t + ((sx C r (t + 1)).2.2.2.2.1 + (loc C t).2.2.2.2.2.1); omega
  · show vs C.2.2.2.2 o t + (loc C t).2.2.2.2.2.2 + (sx C r (t + 1)).2.2.2.2.2 = vs C.2.2.2.2 o t + ((sx C r (t + 1)).2.2.2.2.2 + (loc C t).2.2.2.2.2.2); omega
/-- each THING has a choice -/
def hasC (C : PC) (n : Nat) : Prop := ∀ t, t < n → ∃ c, c < 3 ∧ C.1 t c = true
theorem sumL_pos (C : PC) (t : Nat) : ∀ k x, sumL C t k = some x → 0 < x.2.1 ∧ 0 < x.1
  | 0, x, h => by cases h
  | k + 1, x, h => by
    have ih := sumL_pos C t k
    have h : joinL (C.1 t k) (lE C t k) (sumL C t k) = some x := h
    cases hs : sumL C t k with
    | none =>
      rw [hs, joinL_n] at h
      by_cases m : C.1 t k = true
      · rw [if_pos m] at h
        cases h; exact ⟨by show (0 : Int) < 1; omega, by show (0 : Int) < 1; omega⟩
      · rw [if_neg m] at h
        cases h
    | some y =>
      have := ih y hs
      rw [hs, joinL_s] at h
      by_cases m : C.1 t k = true
      · rw [if_pos m] at h
        cases h
        refine ⟨?_, by show 0 < y.1 + 1; omega⟩
        show 0 < (if y.2.2.1 < C.2.1 t k then (1 : Int) else if y.2.2.1 = C.2.1 t k then y.2.1 + 1 else y.2.1)
        split
        · omega
        · split <;> omega
      · rw [if_neg m] at h
        cases h; exact this
theorem sumL_some {C : PC} {t : Nat} : ∀ k, (∃ c, c < k ∧ C.1 t c = true) → ∃ x, sumL C t k = some x
  | 0, ⟨c, h, _⟩ => by omega
  | k + 1, ⟨c, h, hm⟩ => by
    unfold sumL
    cases hs : sumL C t k with
    | none =>
      have : C.1 t k = true := by
        by_cases e : c = k
        · rw [← e]; exact hm
        · obtain ⟨x, hx⟩ := sumL_some k ⟨c, by omega, hm⟩
          rw [hs] at hx; cases hx
      exact ⟨_, if_pos this⟩
    | some y =>
      unfold joinL
      by_cases m : C.1 t k = true
      · exact ⟨_, if_pos m⟩
      · exact ⟨_, if_neg m⟩
theorem loc_pos {C : PC} {n t : Nat} (h : hasC C n) (ht : t < n) : sumL C t 3 = some (loc C t) ∧ 0 < (loc C t).2.1 ∧ 0 < (loc C t).1 := by
  obtain ⟨x, hx⟩ := sumL_some 3 (h t ht)
  have : loc C t = x := by unfold loc; rw [hx]; rfl
  rw [this]
  exact ⟨hx, sumL_pos C t 3 x hx⟩
theorem sx_pos {C : PC} {n : Nat} (h : hasC C n) : ∀ r t, t + r = n → 0 < (sx C r t).2.1 ∧ 0 < (sx C r t).1
  | 0, _, _ => ⟨by show (0 : Int) < 1; omega, by show (0 : Int) < 1; omega⟩
  | r + 1, t, ht => by
    have ih := sx_pos h r (t + 1) (by omega)
    have hl := (loc_pos h (show t < n by omega)).2
    exact ⟨Int.mul_pos ih.1 hl.1, Int.mul_pos ih.2 hl.2⟩
/-- a whole block, if all are GOOD -/
theorem pG_blk {C : PC} {n : Nat} (hC : hasC C n) : ∀ (r t : Nat) (o : Nat → Nat) (s : SA), t + r = n → pG C.1 (fun o s => addB (one C n o) s) r t o s = addB (blk C r t o) s
  | 0, t, o, s, ht => by
    have e : t = n := by omega
    subst e
    show addB (one C t o) s = addB (blk C 0 t o) s
    have : one C t o = blk C 0 t o := by
      unfold one blk sx
      simp only [Int.add_zero]
    rw [this]
  | r + 1, t, o, s, ht => by
    have ih := fun c s => pG_blk hC r (t + 1) (upN o t c) s (by omega)
    have hp := sx_pos hC r (t + 1) (by omega)
    have key : ∀ k, k ≤ 3 → ∀ s', (match sumL C t k with
        | none => s
        | some x => addB (lift C r t o x) s) = s' → (match sumL C t (k + 1) with
        | none => s
        | some x => addB (lift C r t o x) s) = pGc C.1 (fun o s => addB (one C n o) s) r t o k s' := by
      intro k hk s' hs'
      have e1 : sumL C t (k + 1) = joinL (C.1 t k) (lE C t k) (sumL C t k) := rfl
      rw [e1]
      cases hs : sumL C t k with
      | none =>
        rw [hs] at hs'
        rw [joinL_n]
        unfold pGc
        by_cases m : C.1 t k = true
        · rw [if_pos m, if_pos m, ih, lift_one, ← hs']
        · rw [if_neg m, if_neg m, ← hs']
      | some x =>
        rw [hs] at hs'
        rw [joinL_s]
        unfold pGc
        by_cases m : C.1 t k = true
        · rw [if_pos m, if_pos m, ih, lift_one, ← hs']
          show addB (lift C r t o (mrgL x (lE C t k))) s = addB (lift C r t o (lE C t k)) (addB (lift C r t o x) s)
          rw [addB_two (by
            show 0 < (sx C r (t + 1)).2.1 * x.2.1
            exact Int.mul_pos hp.1 (sumL_pos C t k x hs).1), lift_mrg]
        · rw [if_neg m, if_neg m, ← hs']
    rw [pG_s]
    have k0 := key 0 (by omega) s rfl
    have k1 := key 1 (by omega) _ k0
    have k2 := key 2 (by omega) _ k1
    rw [← k2, (loc_pos hC (show t < n by omega)).1]
    show addB (lift C r t o (loc C t)) s = _
    rw [lift_all]
end
