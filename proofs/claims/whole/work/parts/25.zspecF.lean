section
variable {w : Wd} {d : Nat} {i : IM} {l : LM}
theorem sp_length (hd : 2 ≤ d) : cI w d X_J0_length_8abf5 [vR (some 3)] i l (fun x i' l' => x = 93 ∧ i' = i ∧ l' = l) := by
  obtain ⟨d, rfl, hd1⟩ := d_pos hd
  exact e_J0_length_8abf5 (s_J0_length_8abf5 hd1 ⟨by decide +kernel, rfl, rfl⟩)
theorem sp_charAt (hd : 4 ≤ d) {j : Int} (h : 0 ≤ j ∧ j < 93) : cI w d X_J0_charAt_5068e [vR (some 3), vI j] i l (fun x i' l' => x = hW j ∧ i' = i ∧ l' = l) := by
  obtain ⟨d, rfl, hd1⟩ := d_pos hd
  refine e_J0_charAt_5068e (s_J0_charAt_5068e _ (by omega) (CI_mono (sp_charAt1 hd1 h) (fun x i' l' hx q => ?_)))
  obtain ⟨rfl, rfl, rfl⟩ := q
  obtain ⟨k, rfl⟩ := Int.eq_ofNat_of_zero_le h.1
  obtain ⟨e1, e2⟩ := hW_nar k (by omega)
  exact ⟨e2, rfl, rfl, rfl⟩
end
/-- how many bits each byte has -/
def cntL (p0 : Int64) : Int64 := (((((p0 - ((lushr p0 1) &&& 6148914691236517205)) &&& 3689348814741910323) + ((lushr (p0 - ((lushr p0 1) &&& 6148914691236517205)) 2) &&& 3689348814741910323)) + (lushr (((p0 - ((lushr p0 1) &&& 6148914691236517205)) &&& 3689348814741910323) + ((lushr (p0 - ((lushr p0 1) &&& 6148914691236517205)) 2) &&& 3689348814741910323)) 4)) &&& 1085102592571150095)
def bytGo (k : Int) : Nat → Int64
  | 0 => 0
  | n + 1 => bytGo k n ||| (lshl ((i2l (iand (ishr k n) 1)) * 255) (8 * n))
def bytL (k : Int) : Int64 := bytGo k 8
def mayF (l : LM) (p0 : Int) (p1 p2 p3 : Int64) : Int64 := if (p2 + (l 58 p0)) &&& (-9187201950435737472) = 0 then 0 else ((p2 + (l 58 p0)) &&& (-9187201950435737472)) &&& (cntL (p1 ||| (l 57 p0)) + p3)
def sparL (l : LM) (row kept eased : Int) : Int64 := if eased = -1 then (l 60 row) &&& bytL kept else ((l 60 row) &&& bytL kept) - (lshl 1 (8 * eased))
def leastI (p0 p1 : Int) : Int := ior (ior (min (iand p0 255) (iand p1 255)) (min (iand p0 65280) (iand p1 65280))) (min (iand p0 16711680) (iand p1 16711680))
section
variable {w : Wd} {d : Nat} {i : IM} {l : LM}
theorem sp_X1_counted (hd : 1 ≤ d) {x : Int64} : cL w d X_X1_counted [vL x] i l (fun y i' l' => y = cntL x ∧ i' = i ∧ l' = l) := by
  obtain ⟨d, rfl, hd1⟩ := d_pos hd
  exact e_X1_counted (s_X1_counted _ ⟨rfl, rfl, rfl⟩)
theorem lp_X1_bytesOf {k : Int} {P : Int64 → IM → LM → Prop} (hP : P (bytL k) i l) : ∀ m n : Nat, n + m = 8 → gLg w d X_X1_bytesOf P i l 4 [(0, vI k), (1, vL (bytGo k n)), (3, vI n)] [] := by
  intro m
  induction m with
  | zero =>
    intro n hn
    have e : n = 8 := by omega
    subst e
    exact s_X1_bytesOf_4 _ _ _ ⟨rg_lit rfl, fun _ => hP, fun h => absurd (by decide) h⟩
  | succ m ih =>
    intro n hn
    exact s_X1_bytesOf_4 _ _ _ ⟨⟨by omega, by omega⟩, fun h => absurd h (by omega), fun _ => ih (n + 1) (by omega)⟩
theorem sp_X1_bytesOf (hd : 1 ≤ d) {k : Int} : cL w d X_X1_bytesOf [vI k] i l (fun y i' l' => y = bytL k ∧ i' = i ∧ l' = l) := by
  obtain ⟨d, rfl, hd1⟩ := d_pos hd
  exact e_X1_bytesOf (s_X1_bytesOf _ (lp_X1_bytesOf ⟨rfl, rfl, rfl⟩ 8 0 rfl))
theorem sp_X1_mayFail (hd : 2 ≤ d) {p0 : Int} {p1 p2 p3 : Int64} (h : 0 ≤ p0 ∧ p0 < 132) : cL w d X_X1_mayFail [vR (some 51), vI p0, vL p1, vL p2, vL p3] i l (fun y i' l' => y = mayF l p0 p1 p2 p3 ∧ i' = i ∧ l' = l) := by
  obtain ⟨d, rfl, hd1⟩ := d_pos hd
  refine e_X1_mayFail (s_X1_mayFail _ _ _ _ ⟨h, fun h0 => ⟨(if_pos h0).symm, rfl, rfl⟩, fun h0 => ⟨h, CL_mono (sp_X1_counted hd1) (fun x i' l' q => ?_)⟩⟩)
  obtain ⟨rfl, rfl, rfl⟩ := q
  exact ⟨(if_neg h0).symm, rfl, rfl⟩
theorem sp_X1_spareOf (hd : 2 ≤ d) {p0 p1 p2 : Int} (h : 0 ≤ p0 ∧ p0 < 12) (h2 : rg p2) : cL w d X_X1_spareOf [vR (some 51), vI p0, vI p1, vI p2] i l (fun y i' l' => y = sparL l p0 p1 p2 ∧ i' = i ∧ l' = l) := by
  obtain ⟨d, rfl, hd1⟩ := d_pos hd
  refine e_X1_spareOf (s_X1_spareOf _ _ _ ⟨h, CL_mono (sp_X1_bytesOf hd1) (fun x i' l' q => ?_)⟩)
  obtain ⟨rfl, rfl, rfl⟩ := q
  exact ⟨h2, rfl, rfl, rfl⟩
theorem sp_X5_leastOf (hd : 2 ≤ d) {a b : Int} : cI w d X_X5_leastOf [vI a, vI b] i l (fun x i' l' => x = leastI a b ∧ i' = i ∧ l' = l) := by
  obtain ⟨d, rfl, hd1⟩ := d_pos hd
  exact e_X5_leastOf (s_X5_leastOf _ _ hd1 ⟨rfl, rfl, rfl⟩)
end
def lowB (x : Int) : Int := (lowFrom x.toNat 10 0 : Nat)
theorem lp_X11_lowestOf {w : Wd} {d : Nat} {i : IM} {l : LM} {a : Nat} (ha : a < 2147483648) {P : Int → IM → LM → Prop} : ∀ m k : Nat, k + m = 10 → P (lowFrom a m k : Nat) i l → gI w d X_X11_lowestOf P i l 2 [(0, vI a), (1, vI k)] [] := by
  intro m
  induction m with
  | zero =>
    intro k hk hP
    have e : k = 10 := by omega
    subst e
    exact s_X11_lowestOf_2 _ _ ⟨rg_lit rfl, fun _ => ⟨rg_lit rfl, hP⟩, fun h => absurd (Or.inl (by decide)) h⟩
  | succ m ih =>
    intro k hk hP
    have hb := ibit_nat (a := a) (k := k) ha (by omega)
    have hlt := ibit_lt a k
    unfold lowFrom at hP
    refine s_X11_lowestOf_2 _ _ ⟨⟨by omega, by omega⟩, fun h => ⟨⟨by omega, by omega⟩, ?_⟩, fun h => ?_⟩
    · rw [hb] at h
      rw [if_pos (by omega)] at hP
      exact hP
    · rw [hb] at h
      rw [if_neg (by omega)] at hP
      exact ih (k + 1) (by omega) hP
theorem sp_X11_lowestOf {w : Wd} {d : Nat} {i : IM} {l : LM} (hd : 1 ≤ d) {x : Int} (h : 0 ≤ x ∧ x < 2147483648) : cI w d X_X11_lowestOf [vI x] i l (fun y i' l' => y = lowB x ∧ i' = i ∧ l' = l) := by
  obtain ⟨d, rfl, hd1⟩ := d_pos hd
  obtain ⟨a, rfl⟩ := Int.eq_ofNat_of_zero_le h.1
  exact e_X11_lowestOf (s_X11_lowestOf _ (lp_X11_lowestOf (by omega) 10 0 rfl ⟨rfl, rfl, rfl⟩))
