section
variable {w : Wd} {d : Nat} {i : IM} {l : LM}
theorem sp_X2_has {lw : Nat} (hL : LawAt w lw) (hd : 1 ≤ d) {h : Int} (hh : 0 ≤ h ∧ h < 4) : cI w d X_X2_has [vR (some lw), vI h] i l (fun x i' l' => x = bI (0 ≤ i (lw + 3) h) ∧ i' = i ∧ l' = l) := by
  obtain ⟨d, rfl, hd1⟩ := d_pos hd
  exact e_X2_has (s_X2_has _ hL ⟨hh, bI_congr (by omega), rfl, rfl⟩)
/-- a LAW's clauses with that head mention that word -/
abbrev menI (i : IM) (lw : Nat) (h x : Int) : Prop := 0 ≤ i (lw + 3) h ∧ iand (ishr (i (lw + 3) h) x) 1 = 1
theorem sp_X2_mentions {lw : Nat} (hL : LawAt w lw) (hd : 1 ≤ d) {h x : Int} (hh : 0 ≤ h ∧ h < 4) : cI w d X_X2_mentions [vR (some lw), vI h, vI x] i l (fun y i' l' => y = bI (menI i lw h x) ∧ i' = i ∧ l' = l) := by
  obtain ⟨d, rfl, hd1⟩ := d_pos hd
  exact e_X2_mentions (s_X2_mentions _ _ hL ⟨hh, fun _ => hh, bI_congr (by show _ ↔ (_ ∧ _); omega), rfl, rfl⟩)
theorem sp_X9_ruling (hd : 1 ≤ d) (hh : 0 ≤ i 7 14 ∧ i 7 14 < i 7 12 → i 7 14 < 6) : cR w d X_X9_ruling [vR (some 7)] i l (fun x i' l' => x = rul w i ∧ i' = i ∧ l' = l) := by
  obtain ⟨d, rfl, hd1⟩ := d_pos hd
  refine e_X9_ruling (s_X9_ruling ⟨fun h => ⟨?_, rfl, rfl⟩, fun h => ⟨fun h2 => ⟨?_, rfl, rfl⟩, fun h2 => ⟨⟨by omega, hh ⟨by omega, by omega⟩⟩, ?_, rfl, rfl⟩⟩⟩)
  · exact (if_neg (by omega)).symm
  · exact (if_neg (by omega)).symm
  · exact (if_pos (by omega)).symm
theorem lp_fill {ar n : Nat} (har : (dw w).2.1 ar = some (.inl (0, n))) (hn : n < 2147483648) {v : Int} (hv : rg v) {P : IM → LM → Prop} {j : IM} (hP : P (fillA j ar n v) l) : ∀ m k : Nat, k + m = n → gV w d X_J7_fill_53178 P (fillA j ar k v) l 5 [(0, vR (some ar)), (1, vI v), (2, vI k), (3, vI ((n : Nat) : Int))] [] := by
  intro m
  induction m with
  | zero =>
    intro k hk
    have e : k = n := by omega
    subst e
    exact s_J7_fill_53178_5 _ _ _ har hn ⟨⟨by omega, by omega⟩, ⟨by omega, by omega⟩, fun _ => hP, fun h => absurd (Int.le_refl _) h⟩
  | succ m ih =>
    intro k hk
    refine s_J7_fill_53178_5 _ _ _ har hn ⟨⟨by omega, by omega⟩, ⟨by omega, by omega⟩, fun h => absurd h (by omega), fun _ => ⟨⟨by omega, by omega⟩, hv, ?_⟩⟩
    have h := ih (k + 1) (by omega)
    have e : u2 (fillA j ar k v) ar k v = fillA j ar ((k + 1 : Nat) : Int) v := by
      funext b q
      unfold u2 fillA
      by_cases h1 : b = ar
      · subst h1
        by_cases h2 : q = (k : Int)
        · rw [if_pos ⟨rfl, h2⟩, if_pos ⟨rfl, by omega, by omega⟩]
        · rw [if_neg (fun z => h2 z.2)]
          by_cases h3 : 0 ≤ q ∧ q < (k : Int)
          · rw [if_pos ⟨rfl, h3⟩, if_pos ⟨rfl, by omega, by omega⟩]
          · rw [if_neg (fun z => h3 z.2), if_neg (fun z => h3 ⟨z.2.1, by omega⟩)]
      · rw [if_neg (fun z => h1 z.1), if_neg (fun z => h1 z.1), if_neg (fun z => h1 z.1)]
    rw [e]
    exact h
theorem fillA_zero (j : IM) (ar : Nat) (v : Int) : fillA j ar 0 v = j := by
  funext b q
  unfold fillA
  rw [if_neg (by omega)]
theorem sp_fill (hd : 1 ≤ d) {ar n : Nat} (har : (dw w).2.1 ar = some (.inl (0, n))) (hn : n < 2147483648) {v : Int} (hv : rg v) : cVd w d X_J7_fill_53178 [vR (some ar), vI v] i l (fun i' l' => i' = fillA i ar n v ∧ l' = l) := by
  obtain ⟨d, rfl, hd1⟩ := d_pos hd
  refine e_J7_fill_53178 (s_J7_fill_53178 _ har hn ?_)
  have h := lp_fill (w := w) (d := d) (l := l) (j := i) har hn hv (P := fun i' l' => i' = fillA i ar n v ∧ l' = l) ⟨rfl, rfl⟩ n 0 (by omega)
  have e := fillA_zero i ar v
  rw [show (((0 : Nat) : Int)) = 0 from rfl, e] at h
  exact h
theorem sp_coder (hd : 1 ≤ d) : cI w d X_J0_coder_7d493 [vR (some 3)] i l (fun x i' l' => x = 0 ∧ i' = i ∧ l' = l) := by
  obtain ⟨d, rfl, hd1⟩ := d_pos hd
  exact e_J0_coder_7d493 (s_J0_coder_7d493 ⟨rfl, rfl, rfl, rfl⟩)
theorem sp_isLatin1 (hd : 1 ≤ d) : cI w d X_J0_isLatin1_aae02 [vR (some 3)] i l (fun x i' l' => x = 1 ∧ i' = i ∧ l' = l) := by
  obtain ⟨d, rfl, hd1⟩ := d_pos hd
  exact e_J0_isLatin1_aae02 (s_J0_isLatin1_aae02 ⟨rfl, rfl, rfl⟩)
theorem sp_checkIndex (hd : 2 ≤ d) {j n : Int} (h : 0 ≤ j ∧ j < n) (hj : rg j) (hn : rg n) : cVd w d X_J0_checkIndex_df160 [vI j, vI n] i l (fun i' l' => i' = i ∧ l' = l) := by
  obtain ⟨d, rfl, hd1⟩ := d_pos hd
  refine e_J0_checkIndex_df160 (s_J0_checkIndex_df160 _ _ (fun o9 => ?_))
  obtain ⟨d, rfl, hd2⟩ := d_pos hd1
  exact e_J3_checkIndex_8e157 (s_J3_checkIndex_8e157 _ _ _ ⟨hj, fun _ => hn, fun z => by omega, fun _ => ⟨hj, rfl, rfl⟩⟩)
theorem hW_nar : ∀ k : Nat, k < 93 → i16u (iand (hW k) 255) = hW k ∧ narrow .char (.int (Int32.ofInt (hW k))) = .int (Int32.ofInt (hW k)) := by decide +kernel
theorem sp_charAt1 (hd : 3 ≤ d) {j : Int} (h : 0 ≤ j ∧ j < 93) : cI w d X_J1_charAt_3b067 [vR (some 4), vI j] i l (fun x i' l' => x = hW j ∧ i' = i ∧ l' = l) := by
  obtain ⟨d, rfl, hd1⟩ := d_pos hd
  refine e_J1_charAt_3b067 (s_J1_charAt_3b067 _ (CV_mono (sp_checkIndex hd1 h ⟨by omega, by omega⟩ (rg_lit rfl)) (fun i' l' q => ?_)))
  obtain ⟨rfl, rfl⟩ := q
  obtain ⟨k, rfl⟩ := Int.eq_ofNat_of_zero_le h.1
  obtain ⟨e1, e2⟩ := hW_nar k (by omega)
  rw [e1]
  exact ⟨h, e2, rfl, rfl, rfl⟩
end
section
variable {w : Wd} {d : Nat} {X : MI} {Qf : QF} {i : IM} {l : LM} {pc pc' : Nat} {L : List (Nat × MV)} {st : List MV}
theorem g_fill {idx a n : Nat} {v : Int} (hd1 : 1 ≤ d) (hs : (dw w).2.1 a = some (.inl (0, n))) (hn : n < 2147483648) (hv : rg v) (hl : Cond.methodLink X.1.cls idx yJ7_fill_53178 ∈ lwG) (hr : (st.map (fun v => if isLg v then 2 else 1)).sum ≤ 8) (hd : decode X.2.1 pc = .ok (.invokestatic idx, 3)) (hp : pc + 3 = pc') (kk : G w.1 (rmD (d + 1) 0 0) X Qf 0 0 (dw w) (fillA i a n v) l pc' L st) : G w.1 (rmD (d + 1) 0 0) X Qf 0 0 (dw w) i l pc L (vI v :: vR (some a) :: st) :=
  g_cSV (vs := [vR (some a), vI v]) (st := st) (sp_fill hd1 hs hn hv) mk_J7_fill_53178 ms_J7_fill_53178 hl rfl hr (Nat.le_of_ble_eq_true rfl) rfl hd hp z2 (fun i' l' q => by
    obtain ⟨rfl, rfl⟩ := q
    exact kk)
end
