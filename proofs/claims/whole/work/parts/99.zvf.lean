/-! WHAT IS KNOWN AT THE START -/
section
theorem tU1 {w : Cond} (j : Nat) (h : tables_1_1[j]? = some w) : w ∈ lw_tbl := List.mem_append_right _ (List.mem_append_left _ (List.mem_of_getElem? h))
theorem tU2 {w : Cond} (j : Nat) (h : tables_1_2[j]? = some w) : w ∈ lw_tbl := List.mem_append_right _ (List.mem_append_right _ (List.mem_append_left _ (List.mem_of_getElem? h)))
theorem tU3 {w : Cond} (j : Nat) (h : tables_1_3[j]? = some w) : w ∈ lw_tbl := List.mem_append_right _ (List.mem_append_right _ (List.mem_append_right _ (List.mem_append_left _ (List.mem_of_getElem? h))))
theorem tU4 {w : Cond} (j : Nat) (h : tables_1_4[j]? = some w) : w ∈ lw_tbl := List.mem_append_right _ (List.mem_append_right _ (List.mem_append_right _ (List.mem_append_right _ (List.mem_append_left _ (List.mem_of_getElem? h)))))
theorem tU5 {w : Cond} (j : Nat) (h : tables_1_5[j]? = some w) : w ∈ lw_tbl := List.mem_append_right _ (List.mem_append_right _ (List.mem_append_right _ (List.mem_append_right _ (List.mem_append_right _ (List.mem_append_left _ (List.mem_of_getElem? h))))))
theorem tU6 {w : Cond} (j : Nat) (h : tables_1_6[j]? = some w) : w ∈ lw_tbl := List.mem_append_right _ (List.mem_append_right _ (List.mem_append_right _ (List.mem_append_right _ (List.mem_append_right _ (List.mem_append_right _ (List.mem_append_left _ (List.mem_of_getElem? h)))))))
theorem tU7 {w : Cond} (j : Nat) (h : tables_1_7[j]? = some w) : w ∈ lw_tbl := List.mem_append_right _ (List.mem_append_right _ (List.mem_append_right _ (List.mem_append_right _ (List.mem_append_right _ (List.mem_append_right _ (List.mem_append_right _ (List.mem_append_left _ (List.mem_of_getElem? h))))))))
theorem tU8 {w : Cond} (j : Nat) (h : tables_1_8[j]? = some w) : w ∈ lw_tbl := List.mem_append_right _ (List.mem_append_right _ (List.mem_append_right _ (List.mem_append_right _ (List.mem_append_right _ (List.mem_append_right _ (List.mem_append_right _ (List.mem_append_right _ (List.mem_append_left _ (List.mem_of_getElem? h)))))))))
theorem tU9 {w : Cond} (j : Nat) (h : tables_1_9[j]? = some w) : w ∈ lw_tbl := List.mem_append_right _ (List.mem_append_right _ (List.mem_append_right _ (List.mem_append_right _ (List.mem_append_right _ (List.mem_append_right _ (List.mem_append_right _ (List.mem_append_right _ (List.mem_append_right _ (List.mem_of_getElem? h)))))))))
theorem ao_T : Cond.arrayOver (.object "ThreeColours$Town") ∈ lw_tbl := (tU1 129 rfl)
theorem ao_L : Cond.arrayOver (.object "ThreeColours$Law") ∈ lw_tbl := (tU1 37 rfl)
theorem zs_ht : Cond.laysStatic "ThreeColours" "HIGHEST_TRAIT" "[I" ∈ lw_tbl := (tU3 120 rfl)
theorem zs_hv : Cond.laysStatic "ThreeColours" "HIGHEST_VIEW" "[I" ∈ lw_tbl := (tU3 145 rfl)
theorem zs_tx : Cond.stringRef "ThreeColours$Reader" 116 wordsText ∈ lw_tbl := (tU4 18 rfl)
theorem zs_cs : Cond.laysStatic "java/lang/String" "COMPACT_STRINGS" "Z" ∈ lw_tbl := (tU4 28 rfl)
theorem zs_si : Cond.laysStatic "jdk/internal/util/Preconditions" "SIOOBE_FORMATTER" "Ljava/util/function/BiFunction;" ∈ lw_tbl := (tU4 44 rfl)
theorem zn_1 : Cond.methodLinkNest "ThreeColours$Asker" 35 yX11_nearestTo "ThreeColours" ∈ lw_tbl := (tU4 189 rfl)
theorem zn_2 : Cond.methodLinkNest "ThreeColours$Sight" 159 yX11_lowestOf "ThreeColours" ∈ lw_tbl := (tU5 30 rfl)
theorem zn_3 : Cond.methodLinkNest "ThreeColours$Walker" 94 yX11_lowestOf "ThreeColours" ∈ lw_tbl := (tU6 42 rfl)
theorem zc_1 : Cond.castable "[I" "java/lang/Cloneable" ∈ lw_tbl := (tU4 122 rfl)
theorem zi_11 : Cond.initialized "ThreeColours" ∈ lw_tbl := (tU1 1 rfl)
theorem zi_str : Cond.initialized "java/lang/String" ∈ lw_tbl := (tU1 14 rfl)
theorem zi_pre : Cond.initialized "jdk/internal/util/Preconditions" ∈ lw_tbl := (tU1 16 rfl)
theorem k_tbl {w : Cond} (h : w ∈ lwG) : w ∈ lw_tbl := (List.mem_filter.mp h).1
set_option maxRecDepth 100000 in
theorem in_all : ∀ q ∈ classes, ∃ n : Nat, Cond.instantiable q.1 n ∈ lw_tbl := by
  intro q hq
  simp only [classes, List.mem_cons, List.not_mem_nil, or_false] at hq
  rcases hq with rfl | rfl | rfl | rfl | rfl | rfl | rfl | rfl | rfl | rfl | rfl | rfl | rfl
  · exact ⟨_, k_tbl nq_0.1⟩
  · exact ⟨_, k_tbl nq_1.1⟩
  · exact ⟨3, (tU4 113 rfl)⟩
  · exact ⟨_, k_tbl nq_3.1⟩
  · exact ⟨_, k_tbl nq_4.1⟩
  · exact ⟨_, k_tbl nq_5.1⟩
  · exact ⟨_, k_tbl nq_6.1⟩
  · exact ⟨_, k_tbl nq_7.1⟩
  · exact ⟨_, k_tbl nq_8.1⟩
  · exact ⟨_, k_tbl nq_9.1⟩
  · exact ⟨_, k_tbl nq_10.1⟩
  · exact ⟨_, k_tbl nq_11.1⟩
  · exact ⟨_, k_tbl nq_12.1⟩
abbrev tHT : Term := .static "ThreeColours" "HIGHEST_TRAIT" "[I"
abbrev tHV : Term := .static "ThreeColours" "HIGHEST_VIEW" "[I"
abbrev tST : Term := .string "ThreeColours$Reader" 116
abbrev tVB : Term := .field tST "java/lang/String" "value" "[B"
set_option maxRecDepth 100000 in
theorem nm_ht : Cond.arrayOf tHT .int ∈ flatC (Jvm.Cond.and given_1 narrow_1) ∧ Cond.eq (.length tHT) (.int 6) ∈ flatC (Jvm.Cond.and given_1 narrow_1) ∧ ∀ j : Fin 6, Cond.eq (.elem tHT (.int (Int32.ofNat j.val))) (.int (Int32.ofInt (hTrait j.val))) ∈ flatC (Jvm.Cond.and given_1 narrow_1) := by decide +kernel
set_option maxRecDepth 100000 in
theorem nm_hv : Cond.arrayOf tHV .int ∈ flatC (Jvm.Cond.and given_1 narrow_1) ∧ Cond.eq (.length tHV) (.int 3) ∈ flatC (Jvm.Cond.and given_1 narrow_1) ∧ ∀ j : Fin 3, Cond.eq (.elem tHV (.int (Int32.ofNat j.val))) (.int (Int32.ofInt (hView j.val))) ∈ flatC (Jvm.Cond.and given_1 narrow_1) := by decide +kernel
set_option maxRecDepth 100000 in
theorem nm_st : (Cond.exactly tST "java/lang/String" ∈ flatC (Jvm.Cond.and given_1 narrow_1) ∧ Cond.eq (.field tST "java/lang/String" "coder" "B") (.int 0) ∈ flatC (Jvm.Cond.and given_1 narrow_1) ∧ Cond.arrayOf tVB .byte ∈ flatC (Jvm.Cond.and given_1 narrow_1) ∧ Cond.eq (.length tVB) (.int 93) ∈ flatC (Jvm.Cond.and given_1 narrow_1)) ∧ ∀ j : Fin 93, Cond.eq (.elem tVB (.int (Int32.ofNat j.val))) (.int (wordsBytes.getD j.val 0)) ∈ flatC (Jvm.Cond.and given_1 narrow_1) := by decide +kernel
set_option maxRecDepth 100000 in
theorem nm_cs : Cond.eq (.static "java/lang/String" "COMPACT_STRINGS" "Z") (.int 1) ∈ flatC (Jvm.Cond.and given_1 narrow_1) ∧ Cond.isRef (.static "jdk/internal/util/Preconditions" "SIOOBE_FORMATTER" "Ljava/util/function/BiFunction;") ∈ flatC (Jvm.Cond.and given_1 narrow_1) := by decide +kernel
theorem arr_prim {s : State} {A : Array Value} {ty : FieldType} (h : (Cond.arrayClass ty).before A s = true) (hp : ∀ C, ty ≠ .object C) : ∃ cA : ClassId, ArrOfT s cA ty ∧ va_RA s cA ty := by
  obtain ⟨cA, kA, comp, h1, h2, h3⟩ := Cond.arrayClass_spec (args := A) (first := s) (o := none) (s := s) (idx := []) h
  refine ⟨cA, fun n z => ⟨fun k h => (by cases h), kA, h2, comp, h3⟩, ?_⟩
  cases ty with
  | object C => exact absurd rfl (hp C)
  | _ => exact h1
theorem arr_obj {s : State} {C : String} (h : va_AO C s) : ∃ cA : ClassId, ArrOfT s cA (.object C) ∧ va_RA s cA (.object C) := by
  obtain ⟨comp, c, k, h1, h2, h3, h4, h5⟩ := Cond.arrayOver_spec h
  exact ⟨c, fun n z => ⟨fun k h => (by cases h), k, h3, comp, h4⟩, k, comp, h3, h4, h1, h5⟩
theorem kn_start {s : State} {b : Nat} (l : Launch) (hts : ∀ w ∈ lw_tbl, w.before #[Value.ref b] s = true) (hgv : (Jvm.Cond.and given_1 narrow_1).before #[Value.ref b] s = true) : ∃ E : GE, E.1 = l ∧ E.2.2.2.1 = s.heap.size ∧ E.2.2.2.2 0 = b ∧ Known E s := by
  have hfl := flat_of_before _ hgv
  have hA : ∀ a : Nat, a < s.heap.size → ¬ (fun q : Nat => s.heap.size ≤ q) a := fun a h q => by have : s.heap.size ≤ a := q; omega
  have hg : ∀ w ∈ lwG, w.before #[Value.ref b] s = true := fun w hw => hts w (k_tbl hw)
  -- classes
  have hcl : ∀ k : Nat, ∃ p : ClassId × (Nat → Nat), ∀ q : vw_C, classes[k]? = some q → u_Kn s q.1 q.2.1 q.2.2 p.1 p.2 := by
    intro k
    cases hk : classes[k]? with
    | none => exact ⟨(0, fun _ => 0), fun q hq => by cases hq⟩
    | some q =>
      have hm := List.mem_of_getElem? hk
      obtain ⟨n, hn⟩ := in_all q hm
      obtain ⟨c, iS, hkn⟩ := u_known hg (ct_all q hm).1 (hts _ hn)
      exact ⟨(c, iS), fun q' hq' => by cases hq'; exact hkn⟩
  obtain ⟨dc, hdc⟩ := Classical.axiomOfChoice hcl
  have ao4 : va_AO "ThreeColours$Town" s := va_AO.of (hts _ ao_T)
  have ao5 : va_AO "ThreeColours$Law" s := va_AO.of (hts _ ao_L)
  have har : ∀ k : Nat, ∃ cA : ClassId, k < 6 → ArrOfT s cA (kTy k) ∧ va_RA s cA (kTy k) := by
    intro k
    by_cases hk : k < 6
    · have h6 : k = 0 ∨ k = 1 ∨ k = 2 ∨ k = 3 ∨ k = 4 ∨ k = 5 := by omega
      rcases h6 with rfl | rfl | rfl | rfl | rfl | rfl
      · obtain ⟨c, h⟩ := arr_prim (hg _ aq_int) (fun C h => by cases h); exact ⟨c, fun _ => h⟩
      · obtain ⟨c, h⟩ := arr_prim (hg _ aq_long) (fun C h => by cases h); exact ⟨c, fun _ => h⟩
      · obtain ⟨c, h⟩ := arr_prim (hg _ aq_boolean) (fun C h => by cases h); exact ⟨c, fun _ => h⟩
      · obtain ⟨c, h⟩ := arr_prim (hg _ aq_byte) (fun C h => by cases h); exact ⟨c, fun _ => h⟩
      · obtain ⟨c, h⟩ := arr_obj ao4; exact ⟨c, fun _ => h⟩
      · obtain ⟨c, h⟩ := arr_obj ao5; exact ⟨c, fun _ => h⟩
    · exact ⟨0, fun h => absurd h hk⟩
  obtain ⟨ac, hac⟩ := Classical.axiomOfChoice har
  -- tables, the text
  obtain ⟨t1, e1, hT1⟩ := va_Tof (tm := tHT) (ty := .int) (N := 6) (f := fun j => .int (Int32.ofInt (hTrait j))) (A := fun q : Nat => s.heap.size ≤ q) (by decide) (hfl _ nm_ht.1) (va_eqt (hfl _ nm_ht.2.1)) (fun j hj => va_eqt (hfl _ (nm_ht.2.2 ⟨j, hj⟩))) hA
  obtain ⟨t2, e2, hT2⟩ := va_Tof (tm := tHV) (ty := .int) (N := 3) (f := fun j => .int (Int32.ofInt (hView j))) (A := fun q : Nat => s.heap.size ≤ q) (by decide) (hfl _ nm_hv.1) (va_eqt (hfl _ nm_hv.2.1)) (fun j hj => va_eqt (hfl _ (nm_hv.2.2 ⟨j, hj⟩))) hA
  obtain ⟨aK, aV, hS, hSe⟩ := vk_Sof (args := #[Value.ref b]) (s := s) (N := 1) (tm := fun _ => tST) (len := [93]) (byt := [wordsBytes]) (A := fun q : Nat => s.heap.size ≤ q) (fun i hi => by rw [show i = 0 by omega]; decide) (fun i hi => hfl _ nm_st.1.1) (fun i hi => hfl _ nm_st.1.2.1) (fun i hi => hfl _ nm_st.1.2.2.1) (fun i hi => by rw [show i = 0 by omega]; exact hfl _ nm_st.1.2.2.2) (fun i hi j hj => by
    rw [show i = 0 by omega] at hj ⊢
    exact hfl _ (nm_st.2 ⟨j, hj⟩)) (fun i j hi hj h => absurd (by omega) h) hA
  obtain ⟨v5, e5, hv5⟩ := Cond.isRef_spec (args := #[Value.ref b]) (first := s) (o := none) (s := s) (idx := []) (hfl _ nm_cs.2)
  obtain ⟨o5, ho5⟩ : ∃ o : Option Nat, v5 = va_rf o := by
    cases v5 with
    | null => exact ⟨none, rfl⟩
    | ref a => exact ⟨some a, rfl⟩
    | _ => cases hv5
  refine ⟨(l, (fun k => (dc k).1, fun k => (dc k).2), ac, s.heap.size, fun k => if k = 0 then b else if k = 1 then t1 else if k = 2 then t2 else if k = 3 then aK 0 else if k = 4 then aV 0 else o5.getD 0), rfl, rfl, rfl, ?_⟩
  refine ⟨⟨fun c q hq => hdc c q hq, fun k q hq => ?_⟩, ⟨va_Zof (hts _ zs_ht) (hts _ zi_11) e1 hA, hT1⟩, ⟨va_Zof (hts _ zs_hv) (hts _ zi_11) e2 hA, hT2⟩, ⟨vk_R.of (hts _ zs_tx) (hSe 0 (by omega)), ⟨fun i hi => ?_, fun i j hi hj _ => by omega⟩, va_Zof (hts _ zs_cs) (hts _ zi_str) (va_eqt (hfl _ nm_cs.1)) hA⟩, va_Nw.of rfl (hts _ zn_1), va_Nw.of rfl (hts _ zn_2), va_Nw.of rfl (hts _ zn_3), ⟨ao4, ao5, va_Nw.of rfl (hts _ zc_1)⟩, o5, ?_, ?_⟩
  · have hk : k < 6 := by
      have := (List.getElem?_eq_some_iff.mp hq).1
      unfold gTys at this
      simpa using this
    have hq2 := gTys_at (l, ((fun k => (dc k).1, fun k => (dc k).2) : va_G), ac, s.heap.size, fun k => if k = 0 then b else if k = 1 then t1 else if k = 2 then t2 else if k = 3 then aK 0 else if k = 4 then aV 0 else o5.getD 0) hk
    cases hq.symm.trans hq2
    exact hac k hk
  · rw [show i = 0 by omega]
    exact hS.1 0 (by omega)
  · rw [← ho5]
    exact va_Zof (hts _ zs_si) (hts _ zi_pre) e5 hA
  · intro q hq
    rw [hq]
    rfl
end
