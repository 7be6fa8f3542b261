/-! how many bits each byte has -/
section
def sw1 (b : Nat) : Nat := b - (b / 2 &&& 85)
def sw2 (b : Nat) : Nat := (sw1 b &&& 51) + (sw1 b / 4 &&& 51)
theorem sw_ok : ∀ b, b < 256 → (sw1 b < 256 ∧ sw2 b < 256 ∧ sw2 b % 16 ≤ 6 ∧ sw2 b / 16 ≤ 6 ∧ (sw2 b + sw2 b / 16) % 16 = cntB b 8) := by decide +kernel
theorem and85 : ∀ b, b < 128 → ∀ r, r < 2 → ((b + r * 128) % 256) &&& 85 = b &&& 85 := by decide +kernel
theorem and51 : ∀ b, b < 64 → ∀ r, r < 4 → ((b + r * 64) % 256) &&& 51 = b &&& 51 := by decide +kernel
theorem and15 : ∀ b, b < 256 → b &&& 15 = b % 16 := by decide +kernel
theorem Bt_cnt (x : Int64) : ∀ v, v < 8 → Bt (cntL x) v = cntB (Bt x v) 8 := by
  have lit := Bt_lit
  have a1 : ∀ v, v < 8 → Bt ((lushr x 1) &&& 6148914691236517205) v = Bt x v / 2 &&& 85 := by
    intro v hv
    have hb := Bt_lt x v
    rw [Bt_and, (lit v hv).1, Bt_shr1]
    exact and85 _ (by omega) _ (Nat.mod_lt _ (by omega))
  have a2 : ∀ v, v < 8 → Bt (x - ((lushr x 1) &&& 6148914691236517205)) v = sw1 (Bt x v) := by
    intro v hv
    rw [Bt_sub (fun u hu => by
      rw [a1 u hu]
      have : Bt x u / 2 &&& 85 ≤ Bt x u / 2 := Nat.and_le_left
      omega) v hv, a1 v hv]
    rfl
  have e0 : cntL x = (((((x - ((lushr x 1) &&& 6148914691236517205)) &&& 3689348814741910323) + ((lushr (x - ((lushr x 1) &&& 6148914691236517205)) 2) &&& 3689348814741910323)) + (lushr (((x - ((lushr x 1) &&& 6148914691236517205)) &&& 3689348814741910323) + ((lushr (x - ((lushr x 1) &&& 6148914691236517205)) 2) &&& 3689348814741910323)) 4)) &&& 1085102592571150095) := rfl
  revert e0 a2
  generalize x - ((lushr x 1) &&& 6148914691236517205) = T
  intro a2 e0
  have a3 : ∀ v, v < 8 → Bt (T &&& 3689348814741910323) v = sw1 (Bt x v) &&& 51 := by
    intro v hv
    rw [Bt_and, (lit v hv).2.1, a2 v hv]
  have a4 : ∀ v, v < 8 → Bt ((lushr T 2) &&& 3689348814741910323) v = sw1 (Bt x v) / 4 &&& 51 := by
    intro v hv
    have hb := Bt_lt T v
    rw [Bt_and, (lit v hv).2.1, Bt_shr2, ← a2 v hv]
    exact and51 _ (by omega) _ (Nat.mod_lt _ (by omega))
  have a5 : ∀ v, v < 8 → Bt ((T &&& 3689348814741910323) + ((lushr T 2) &&& 3689348814741910323)) v = sw2 (Bt x v) := by
    intro v hv
    rw [Bt_add (fun u hu => by
      rw [a3 u hu, a4 u hu]
      exact (sw_ok _ (Bt_lt x u)).2.1) v hv, a3 v hv, a4 v hv]
    rfl
  revert e0 a5
  generalize (T &&& 3689348814741910323) + ((lushr T 2) &&& 3689348814741910323) = F
  intro e0 a5
  have hF8 : ∀ v, v < 9 → Bt F v % 16 ≤ 6 := by
    intro v hv
    by_cases c : v < 8
    · rw [a5 v c]; exact (sw_ok _ (Bt_lt x v)).2.2.1
    · have e : v = 8 := by omega
      subst e
      have h1 := nL_lt F
      have h2 : nL F / 2 ^ (8 * 8) = 0 := Nat.div_eq_of_lt h1
      unfold Bt
      rw [h2]
      decide
  have a6 : ∀ v, v < 8 → Bt (lushr F 4) v = Bt F v / 16 + Bt F (v + 1) % 16 * 16 := by
    intro v hv
    rw [Bt_shr4]
    have h1 := hF8 (v + 1) (by omega)
    have h2 := Bt_lt F v
    exact Nat.mod_eq_of_lt (by omega)
  have a7 : ∀ v, v < 8 → Bt (F + lushr F 4) v = Bt F v + (Bt F v / 16 + Bt F (v + 1) % 16 * 16) := by
    intro v hv
    rw [Bt_add (fun u hu => by
      rw [a6 u hu]
      have h1 := hF8 (u + 1) (by omega)
      have h2 := hF8 u (by omega)
      have h3 : Bt F u / 16 ≤ 6 := by rw [a5 u hu]; exact (sw_ok _ (Bt_lt x u)).2.2.2.1
      omega) v hv, a6 v hv]
  intro v hv
  rw [e0, Bt_and, (lit v hv).2.2.1, and15 _ (Bt_lt _ _), a7 v hv]
  have h5 := (sw_ok _ (Bt_lt x v)).2.2.2.2
  rw [← a5 v hv] at h5
  omega
/-- over: the highest bits -/
theorem and128 : ∀ b, b < 256 → b &&& 128 = if b < 128 then 0 else 128 := by decide +kernel
theorem Bt_over (x : Int64) {v : Nat} (hv : v < 8) : Bt (x &&& (-9187201950435737472)) v = if Bt x v < 128 then 0 else 128 := by
  rw [Bt_and, (Bt_lit v hv).2.2.2.1, and128 _ (Bt_lt _ _)]
theorem Bt_0 {x : Int64} : x = 0 ↔ ∀ v, v < 8 → Bt x v = 0 := by
  constructor
  · intro h v hv; rw [h]; exact (Bt_lit v hv).2.2.2.2.2.2.1
  · intro h
    exact Bt_ext (fun v hv => by rw [h v hv, (Bt_lit v hv).2.2.2.2.2.2.1])
theorem over_0 (x : Int64) : x &&& (-9187201950435737472) = 0 ↔ ∀ v, v < 8 → Bt x v < 128 := by
  rw [Bt_0]
  constructor
  · intro h v hv
    have := h v hv
    rw [Bt_over x hv] at this
    split at this
    · assumption
    · omega
  · intro h v hv
    rw [Bt_over x hv, if_pos (h v hv)]
/-- a byte that is not 0 -/
theorem nz128 : ∀ b, b < 9 → ∀ r, r < 128 → (((b + 127) / 128 + r * 2) % 256) &&& 1 = if b = 0 then 0 else 1 := by decide +kernel
theorem cntB8_le (b : Nat) : cntB b 8 ≤ 8 := cntB_le b 8
theorem cntB8_0 : ∀ b, b < 256 → (cntB b 8 = 0 ↔ b = 0) := by decide +kernel
theorem Bt_nz (x : Int64) {v : Nat} (hv : v < 8) : Bt ((lushr ((cntL x) + 9187201950435737471) 7) &&& 72340172838076673) v = if Bt x v = 0 then 0 else 1 := by
  have h1 : ∀ u, u < 8 → Bt (cntL x + 9187201950435737471) u = cntB (Bt x u) 8 + 127 := by
    intro u hu
    rw [Bt_add (fun y hy => by rw [Bt_cnt x y hy, (Bt_lit y hy).2.2.2.2.2.1]; have := cntB8_le (Bt x y); omega) u hu, Bt_cnt x u hu, (Bt_lit u hu).2.2.2.2.2.1]
  rw [Bt_and, (Bt_lit v hv).2.2.2.2.1, Bt_shr7, h1 v hv, nz128 _ (by have := cntB8_le (Bt x v); omega) _ (Nat.mod_lt _ (by omega))]
  by_cases c : Bt x v = 0
  · rw [if_pos c, if_pos ((cntB8_0 _ (Bt_lt x v)).mpr c)]
  · rw [if_neg c, if_neg (fun z => c ((cntB8_0 _ (Bt_lt x v)).mp z))]
/-- a byte of its own -/
theorem nL_lit1 : nL 1 = 1 := by decide +kernel
theorem Bt_put {x : Int64} {b n : Nat} (hb : b < 256) (hn : n < 8) (hx : nL x = b) {v : Nat} (hv : v < 8) : Bt (lshl x (8 * (n : Int))) v = if v = n then b else 0 := by
  have e : (8 * (n : Int)) = ((8 * n : Nat) : Int) := by omega
  have hl := nL_shl x (k := 8 * n) (by omega)
  rw [hx] at hl
  have hp : b * 2 ^ (8 * n) < 18446744073709551616 := by
    rcases lt8v hn with q | q | q | q | q | q | q | q <;> subst q <;> simp only [Nat.reduceMul, Nat.reducePow] <;> omega
  rw [Nat.mod_eq_of_lt hp] at hl
  rw [e]
  refine Bt_is (b := fun u => if u = n then b else 0) (fun u _ => by show (if u = n then b else 0) < 256; split <;> omega) ?_ v hv
  rw [hl]
  rcases lt8v hn with q | q | q | q | q | q | q | q <;> subst q <;> simp <;> omega
end
