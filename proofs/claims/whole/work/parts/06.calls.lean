/-! RULES for calls, entries and returns -/
theorem known_move {E : GE} {s U : State} (hK : Known E s) (hW : s.WarmedH U.vm) (hq : ∀ a : Nat, a < s.heap.size → ¬ gA E a → U.heap[a]? = s.heap[a]?) : Known E U := by
  obtain ⟨k1, ⟨k2, k3⟩, ⟨k4, k5⟩, ⟨k6, k7, k8⟩, k9, k10, k11, ⟨k12, k13, k14⟩, o, k15, k16⟩ := hK
  have ha := hW.alike
  exact ⟨k1.moved ha, ⟨(va_Z.moved ha k2).kept hq, (va_T.moved ha k3).kept hq⟩, ⟨(va_Z.moved ha k4).kept hq, (va_T.moved ha k5).kept hq⟩, ⟨k6.warm hW, (vk_S.moved ha k7).kept hq, (va_Z.moved ha k8).kept hq⟩, k9.warmM hW, k10.warmM hW, k11.warmM hW, ⟨va_AO.moved ha k12, va_AO.moved ha k13, k14.warmC hW⟩, o, (va_Z.moved ha k15).kept hq, k16⟩
theorem known_same {E : GE} {s U : State} (hK : Known E s) (hv : U.vm = s.vm) (hh : U.heap = s.heap) : Known E U := by
  obtain ⟨k1, ⟨k2, k3⟩, ⟨k4, k5⟩, ⟨k6, k7, k8⟩, k9, k10, k11, ⟨k12, k13, k14⟩, o, k15, k16⟩ := hK
  have ha : s.vm.Alike U.vm := by rw [hv]; exact Vm.Alike.refl s.vm
  have hq : ∀ a : Nat, a < s.heap.size → ¬ gA E a → U.heap[a]? = s.heap[a]? := fun _ _ _ => by rw [hh]
  exact ⟨k1.moved ha, ⟨(va_Z.moved ha k2).kept hq, (va_T.moved ha k3).kept hq⟩, ⟨(va_Z.moved ha k4).kept hq, (va_T.moved ha k5).kept hq⟩, ⟨k6.same hv, (vk_S.moved ha k7).kept hq, (va_Z.moved ha k8).kept hq⟩, va_Nw.same rfl hv.symm k9, va_Nw.same rfl hv.symm k10, va_Nw.same rfl hv.symm k11, ⟨va_AO.moved ha k12, va_AO.moved ha k13, va_Nw.same rfl hv.symm k14⟩, o, (va_Z.moved ha k15).kept hq, k16⟩
theorem gPc_blind (E : GE) (vs : List MV) (δ : Dl) (i : IM) (l : LM) : FrameBlind (gPc E vs δ i l) := by
  intro a U g mk h
  obtain ⟨h1, h2, h3, h4⟩ := h
  exact ⟨h1, h2, known_same h3 rfl rfl, h4⟩
theorem gPc_at {E : GE} {vs : List MV} {δ : Dl} {i : IM} {l : LM} {s U : State} {H : Heap} {locs : List Loc} (hK : Known E s) (hb : E.2.2.2.1 ≤ s.heap.size) (hR : Rep E δ i l H) (hS : va_S (gA E) s.heap H locs) (hU : U.heap = H) (hW : s.WarmedH U.vm) : gPc E vs δ i l (vs.map (emb E)).toArray U := by
  subst hU
  exact ⟨rfl, hR, known_move hK hW (fun a h1 h2 => hS.2.1 a h1 h2), Nat.le_trans hb hS.1⟩
theorem lwG_good (X : MI) (h : Cond.code X.1 X.2.1 X.2.2.1 X.2.2.2 ∈ lwG) : GoodIn lwG (Cond.code X.1 X.2.1 X.2.2.1 X.2.2.2 :: lwG) := by
  intro w hw
  have hw' : w ∈ lwG := by
    rcases List.mem_cons.mp hw with e | e
    · rw [e]; exact h
    · exact e
  exact ⟨hw', good_of_word (List.mem_filter.mp hw').2⟩
/-- what the tables hold of a method that is called -/
def MK (X : MI) (n : Nat) : Prop := Cond.code X.1 X.2.1 X.2.2.1 X.2.2.2 ∈ lwG ∧ Cond.initialized X.1.cls ∈ lwG ∧ X.1.cls ≠ "java/lang/invoke/MethodHandle" ∧ X.1.cls ≠ "java/lang/invoke/VarHandle" ∧ (parseMethodDescriptor X.1.desc).map (fun d => d.parameters.length) = some n
def MKv (X : MI) (n : Nat) : Prop := MK X n ∧ Cond.instanceMethod X.1 ∈ lwG ∧ Cond.selects X.1.cls X.1 X.1 ∈ lwG
theorem mv_room {E : GE} {st : List MV} (h : (st.map (fun v => if isLg v then 2 else 1)).sum ≤ 8) : ((st.map (emb E)).map fun v => v.category).sum ≤ 8 := by
  have e : (st.map (emb E)).map (fun v => v.category) = st.map (fun v => if isLg v then 2 else 1) := by
    rw [List.map_map]
    apply List.map_congr_left
    intro v _
    rcases v with x | x | o
    · rfl
    · rfl
    · cases o <;> rfl
  rw [e]
  exact h
section
variable {E : GE} {R : Room} {X Y : MI} {Qf : QF} {c0 s0 : Nat} {δ : Dl} {i : IM} {l : LM} {pc pc' : Nat} {L : List (Nat × MV)} {st : List MV}
/-- behind a call -/
theorem g_back {p : Program} {e : Env} {s : State} {m : MethodId} {args : Array Value} {below : List Frame} {meth : Method} {cd : Code} {H : Heap} {locs : List Loc} {ls : Array Slot} {mc ms : Nat} {st0 rest : List Value} {a : Array Value} {Post : PT} {Q : State → Prop} (hr : va_Run p E.1 e R s m args below meth cd H locs c0 s0 mc ms (F0 m pc ls st0) rest (gQc E Post a) (gA E)) (hS : va_S (gA E) s.heap H locs)
    (kk : ∀ (r : Option MV) (δ' : Dl) (i' : IM) (l' : LM) (H1 : Heap) (locs1 : List Loc), Post r δ' i' l' → Rep E δ' i' l' H1 → va_S (gA E) s.heap H1 locs1 → W p E.1 e R s m args below meth cd H1 locs1 (c0 + mc) (s0 + ms) Q (F0 m (pc + 3) ls ((r.map (emb E)).toList ++ rest))) : W p E.1 e R s m args below meth cd H locs c0 s0 Q (F0 m pc ls st0) := by
  intro T hT hX
  obtain ⟨v, st₀, t, T', Lc, h0, X', hL, e1, e2, ⟨⟨r, δ', i', l', hv, hp, hb⟩, hz, hk⟩, stp⟩ := hr T hT hX
  cases hv
  rw [h0] at hz hk
  have hb1 : Rep E δ' i' l' T'.heap := by rw [e1]; exact hb
  obtain ⟨t2, a1, b1⟩ := kk r δ' i' l' T'.heap (locs ++ Lc) hp hb1
    ⟨Nat.le_trans hS.1 (by rw [e1]; exact hz), fun q h1 h2 => by rw [e1, hk q (Nat.lt_of_lt_of_le h1 hS.1) h2]; exact hS.2.1 q h1 h2, fun q hq => by
      rcases List.mem_append.mp hq with h | h
      · exact hS.2.2 q h
      · exact hL q h⟩ T' rfl X'
  exact ⟨t2, stp t2 a1, b1⟩
theorem callB_mk {s : State} {args : Array Value} {d mc ms n idx : Nat} {own : String} (hts : ∀ w ∈ lwG, w.before args s = true) (hm : MK Y n) (hl : Cond.methodLink own idx Y.1 ∈ lwG) (hR : d + 1 ≤ R.frames ∧ 19 + Y.2.2.1 + 64 * d ≤ R.locals) : CallB R s args own idx Y.1 Y.2.1 Y.2.2.1 Y.2.2.2 (Cond.code Y.1 Y.2.1 Y.2.2.1 Y.2.2.2 :: lwG) (rmD d mc ms) mc ms n :=
  callB_of n hts (lwG_good Y hm.1) rfl rfl rfl (hts _ hm.2.1) (hts _ hl) ⟨hm.2.2.1, hm.2.2.2.1, hm.2.2.2.2⟩ ⟨hR.1, by show 8 + (Y.2.2.1 + 11) + 64 * d ≤ R.locals; omega⟩
theorem gx_recv {c b : Nat} {H : Heap} {s : State} {q : vw_C} (hK : Known E s) (hR : Rep E δ i l H) (hs : δ.2.1 b = some (.inr c)) (hc : classes[c]? = some q) : ∃ cellB : Cell, H[gRho E b]? = some cellB ∧ cellB.vm.isStatics = false ∧ s.vm.findClass q.1 = some cellB.cls := by
  obtain ⟨cell, q1, q2, q3, q4⟩ := rep_obj hR hs
  obtain ⟨-, hfc, -⟩ := hK.1.1 c _ hc
  exact ⟨cell, q1, by rw [q3]; rfl, by rw [q2]; exact hfc⟩
/-- a virtual call on an object of class c -/
theorem g_callV {d mc ms n idx b c : Nat} {vs : List MV} {Post : PT} {q : vw_C} (hM : Cn E d mc ms Y (vR (some b) :: vs) δ i l Post) (hm : MKv Y n) (hl : Cond.methodLink X.1.cls idx Y.1 ∈ lwG) (hc : classes[c]? = some q) (hq : q.1 = Y.1.cls) (hs : δ.2.1 b = some (.inr c)) (hn : vs.length = n) (hr : (st.map (fun v => if isLg v then 2 else 1)).sum ≤ 8)
    (hR : d + 1 ≤ R.frames ∧ 19 + Y.2.2.1 + 64 * d ≤ R.locals) (hcs : c0 + mc ≤ R.cells ∧ s0 + ms ≤ R.slots) {st1 : List MV} (hst : st1 = vs.reverse ++ vR (some b) :: st) (hd : decode X.2.1 pc = .ok (.invokevirtual idx, 3)) (hp : pc + 3 = pc') (kk : ∀ r δ' i' l', Post r δ' i' l' → G E R X Qf (c0 + mc) (s0 + ms) δ' i' l' pc' L (r.toList ++ st)) : G E R X Qf c0 s0 δ i l pc L st1 := by
  subst hp
  subst hst
  intro p e s m args below meth cd H locs ls hk hl' hRp hS
  have hts := hk.2.2.2.2.2.2.1
  have hKn := hk.2.2.2.2.2.2.2.1
  refine g_back (va_runV (As := vs.map (emb E)) (rest := st.map (emb E)) (C := Y.1.cls) (b := gRho E b) (n := n) ⟨hk.1, hk.2.1, hk.2.2.1, hk.2.2.2.2.2.1, hts⟩ hM ⟨callB_mk hts hm.1 hl hR, hts _ hm.2.1, hts _ hm.2.2⟩ ⟨gPc_blind E _ δ i l, ?_, fun U hU hW => gPc_at (vs := vR (some b) :: vs) hKn hk.2.2.2.2.2.2.2.2.1 hRp hS hU hW⟩ rfl (by rw [List.length_map]; exact hn) hl'.1 ?_ (lv_room (mv_room hr)) hd hcs) hS (fun r δ' i' l' H1 locs1 hpo hR1 hS1 => ?_)
  · rw [← hq]; exact gx_recv hKn hRp hs hc
  · show List.map (emb E) (vs.reverse ++ vR (some b) :: st) = _
    rw [List.map_append, List.map_reverse, List.map_cons]
    rfl
  · have K := kk r δ' i' l' hpo p e s m args below meth cd H1 locs1 ls hk hl' hR1 hS1
    have e1 : List.map (emb E) (r.toList ++ st) = (r.map (emb E)).toList ++ st.map (emb E) := by cases r <;> simp
    rw [e1] at K
    exact K
theorem g_callS {d mc ms n idx : Nat} {vs : List MV} {Post : PT} (hM : Cn E d mc ms Y vs δ i l Post) (hm : MK Y n) (hsta : Cond.static Y.1 ∈ lwG) (hl : Cond.methodLink X.1.cls idx Y.1 ∈ lwG) (hn : vs.length = n) (hr : (st.map (fun v => if isLg v then 2 else 1)).sum ≤ 8)
    (hR : d + 1 ≤ R.frames ∧ 19 + Y.2.2.1 + 64 * d ≤ R.locals) (hcs : c0 + mc ≤ R.cells ∧ s0 + ms ≤ R.slots) {st1 : List MV} (hst : st1 = vs.reverse ++ st) (hd : decode X.2.1 pc = .ok (.invokestatic idx, 3)) (hp : pc + 3 = pc') (kk : ∀ r δ' i' l', Post r δ' i' l' → G E R X Qf (c0 + mc) (s0 + ms) δ' i' l' pc' L (r.toList ++ st)) : G E R X Qf c0 s0 δ i l pc L st1 := by
  subst hp
  subst hst
  intro p e s m args below meth cd H locs ls hk hl' hRp hS
  have hts := hk.2.2.2.2.2.2.1
  have hKn := hk.2.2.2.2.2.2.2.1
  refine g_back (va_runS (As := vs.map (emb E)) (rest := st.map (emb E)) (n := n) ⟨hk.1, hk.2.1, hk.2.2.1, hk.2.2.2.2.2.1, hts⟩ hM ⟨callB_mk hts hm hl hR, hts _ hsta⟩ ⟨gPc_blind E _ δ i l, fun U hU hW => gPc_at hKn hk.2.2.2.2.2.2.2.2.1 hRp hS hU hW⟩ rfl (by rw [List.length_map]; exact hn) hl'.1 ?_ (lv_room (mv_room hr)) hd hcs) hS (fun r δ' i' l' H1 locs1 hpo hR1 hS1 => ?_)
  · show List.map (emb E) (vs.reverse ++ st) = _
    rw [List.map_append, List.map_reverse]
  · have K := kk r δ' i' l' hpo p e s m args below meth cd H1 locs1 ls hk hl' hR1 hS1
    have e1 : List.map (emb E) (r.toList ++ st) = (r.map (emb E)).toList ++ st.map (emb E) := by cases r <;> simp
    rw [e1] at K
    exact K
theorem g_callN {d mc ms n idx : Nat} {host : String} {vs : List MV} {Post : PT} (hM : Cn E d mc ms Y vs δ i l Post) (hm : MK Y n) (hsta : Cond.static Y.1 ∈ lwG) (hl : ∀ s, Known E s → va_Nw (.methodLinkNest X.1.cls idx Y.1 host) s) (hn : vs.length = n) (hr : (st.map (fun v => if isLg v then 2 else 1)).sum ≤ 8)
    (hR : d + 1 ≤ R.frames ∧ 19 + Y.2.2.1 + 64 * d ≤ R.locals) (hcs : c0 + mc ≤ R.cells ∧ s0 + ms ≤ R.slots) {st1 : List MV} (hst : st1 = vs.reverse ++ st) (hd : decode X.2.1 pc = .ok (.invokestatic idx, 3)) (hp : pc + 3 = pc') (kk : ∀ r δ' i' l', Post r δ' i' l' → G E R X Qf (c0 + mc) (s0 + ms) δ' i' l' pc' L (r.toList ++ st)) : G E R X Qf c0 s0 δ i l pc L st1 := by
  subst hp
  subst hst
  intro p e s m args below meth cd H locs ls hk hl' hRp hS
  have hts := hk.2.2.2.2.2.2.1
  have hKn := hk.2.2.2.2.2.2.2.1
  refine g_back (va_runSN (As := vs.map (emb E)) (rest := st.map (emb E)) (n := n) ⟨hk.1, hk.2.1, hk.2.2.1, hk.2.2.2.2.2.1, hts⟩ hM ⟨va_cnB n hts (lwG_good Y hm.1) rfl rfl rfl (hl s hKn) (hts _ hm.2.1) ⟨hm.2.2.1, hm.2.2.2.1, hm.2.2.2.2⟩ ⟨hR.1, by show 8 + (Y.2.2.1 + 11) + 64 * d ≤ R.locals; omega⟩, hts _ hsta, trivial⟩ ⟨gPc_blind E _ δ i l, fun U hU hW => gPc_at hKn hk.2.2.2.2.2.2.2.2.1 hRp hS hU hW⟩ rfl (by rw [List.length_map]; exact hn) hl'.1 ?_ (lv_room (mv_room hr)) hd hcs) hS (fun r δ' i' l' H1 locs1 hpo hR1 hS1 => ?_)
  · show List.map (emb E) (vs.reverse ++ st) = _
    rw [List.map_append, List.map_reverse]
  · have K := kk r δ' i' l' hpo p e s m args below meth cd H1 locs1 ls hk hl' hR1 hS1
    have e1 : List.map (emb E) (r.toList ++ st) = (r.map (emb E)).toList ++ st.map (emb E) := by cases r <;> simp
    rw [e1] at K
    exact K
/-- a constructor is called -/
theorem g_callI {d mc ms n idx b : Nat} {vs : List MV} {Post : PT} (hM : Cn E d mc ms Y (vR (some b) :: vs) δ i l Post) (hm : MK Y n) (hret : Y.2.2.2 = none) (hnm : Y.1.name = "<init>") (hin : Cond.instanceMethod Y.1 ∈ lwG) (hl : Cond.methodLink X.1.cls idx Y.1 ∈ lwG) (hn : vs.length = n) (hr : (st.map (fun v => if isLg v then 2 else 1)).sum ≤ 8)
    (hR : d + 1 ≤ R.frames ∧ 19 + Y.2.2.1 + 64 * d ≤ R.locals) (hcs : c0 + mc ≤ R.cells ∧ s0 + ms ≤ R.slots) {st1 : List MV} (hst : st1 = vs.reverse ++ vR (some b) :: st) (hd : decode X.2.1 pc = .ok (.invokespecial idx, 3)) (hp : pc + 3 = pc') (kk : ∀ r δ' i' l', Post r δ' i' l' → G E R X Qf (c0 + mc) (s0 + ms) δ' i' l' pc' L (r.toList ++ st)) : G E R X Qf c0 s0 δ i l pc L st1 := by
  subst hp
  subst hst
  intro p e s m args below meth cd H locs ls hk hl' hRp hS
  have hts := hk.2.2.2.2.2.2.1
  have hKn := hk.2.2.2.2.2.2.2.1
  have hcb := callB_mk (R := R) (d := d) (mc := mc) (ms := ms) hts hm hl hR
  rw [hret] at hcb
  have hM' := hM
  unfold Cn at hM'
  rw [hret] at hM'
  refine g_back (va_runI (As := vs.map (emb E)) (rest := st.map (emb E)) (b := gRho E b) (n := n) ⟨hk.1, hk.2.1, hk.2.2.1, hk.2.2.2.2.2.1, hts⟩ hM' ⟨hcb, hnm, hts _ hin⟩ ⟨gPc_blind E _ δ i l, fun U hU hW => gPc_at (vs := vR (some b) :: vs) hKn hk.2.2.2.2.2.2.2.2.1 hRp hS hU hW⟩ rfl (by rw [List.length_map]; exact hn) hl'.1 ?_ (lv_room (mv_room hr)) hd hcs) hS (fun r δ' i' l' H1 locs1 hpo hR1 hS1 => ?_)
  · show List.map (emb E) (vs.reverse ++ vR (some b) :: st) = _
    rw [List.map_append, List.map_reverse, List.map_cons]
    rfl
  · have K := kk r δ' i' l' hpo p e s m args below meth cd H1 locs1 ls hk hl' hR1 hS1
    have e1 : List.map (emb E) (r.toList ++ st) = (r.map (emb E)).toList ++ st.map (emb E) := by cases r <;> simp
    rw [e1] at K
    exact K
/-! returns -/
theorem g_iret {mc ms : Nat} {x : Int} {Post : PT} (hc : c0 ≤ mc) (hs0 : s0 ≤ ms) (hr : X.2.2.2 = some .int) (hd : decode X.2.1 pc = .ok (.ireturn, 1)) (hP : Post (some (vI x)) δ i l) : G E R X (qM E mc ms Post) c0 s0 δ i l pc L [vI x] := by
  intro p e s m args below meth cd H locs ls hk hl hR hS
  have hlocks := hk.2.2.2.2.1
  refine W.widen hc hs0 ?_
  exact W.iret (v := Int32.ofInt x) hk.1 hk.2.1 (hk.2.2.2.1.trans hr) (fun t ht hW => ⟨⟨some (vI x), δ, i, l, rfl, hP, by rw [ht]; exact hR⟩, hS.F ht⟩) hS.2.2 hd
theorem g_zret {mc ms : Nat} {x : Int} {Post : PT} (hc : c0 ≤ mc) (hs0 : s0 ≤ ms) (hr : X.2.2.2 = some .boolean) (hx : x = 0 ∨ x = 1) (hd : decode X.2.1 pc = .ok (.ireturn, 1)) (hP : Post (some (vI x)) δ i l) : G E R X (qM E mc ms Post) c0 s0 δ i l pc L [vI x] := by
  intro p e s m args below meth cd H locs ls hk hl hR hS
  have hlocks := hk.2.2.2.2.1
  refine W.widen hc hs0 ?_
  exact W.zret (v := Int32.ofInt x) (ty := .boolean) hk.1 hk.2.1 (hk.2.2.2.1.trans hr) (by rcases hx with h | h <;> subst h <;> rfl) (fun t ht hW => ⟨⟨some (vI x), δ, i, l, rfl, hP, by rw [ht]; exact hR⟩, hS.F ht⟩) hS.2.2 hd
theorem g_nret {mc ms : Nat} {x : Int} {ty : FieldType} {Post : PT} (hc : c0 ≤ mc) (hs0 : s0 ≤ ms) (hr : X.2.2.2 = some ty) (hx : narrow ty (.int (Int32.ofInt x)) = .int (Int32.ofInt x)) (hd : decode X.2.1 pc = .ok (.ireturn, 1)) (hP : Post (some (vI x)) δ i l) : G E R X (qM E mc ms Post) c0 s0 δ i l pc L [vI x] := by
  intro p e s m args below meth cd H locs ls hk hl hR hS
  have hlocks := hk.2.2.2.2.1
  refine W.widen hc hs0 ?_
  exact W.zret (v := Int32.ofInt x) (ty := ty) hk.1 hk.2.1 (hk.2.2.2.1.trans hr) hx (fun t ht hW => ⟨⟨some (vI x), δ, i, l, rfl, hP, by rw [ht]; exact hR⟩, hS.F ht⟩) hS.2.2 hd
theorem g_lret {mc ms : Nat} {x : Int64} {Post : PT} (hc : c0 ≤ mc) (hs0 : s0 ≤ ms) (hr : X.2.2.2 = some .long) (hd : decode X.2.1 pc = .ok (.lreturn, 1)) (hP : Post (some (vL x)) δ i l) : G E R X (qM E mc ms Post) c0 s0 δ i l pc L [vL x] := by
  intro p e s m args below meth cd H locs ls hk hl hR hS
  have hlocks := hk.2.2.2.2.1
  refine W.widen hc hs0 ?_
  exact W.lret (v := x) hk.1 hk.2.1 (hk.2.2.2.1.trans hr) (fun t ht hW => ⟨⟨some (vL x), δ, i, l, rfl, hP, by rw [ht]; exact hR⟩, hS.F ht⟩) hS.2.2 hd
theorem g_vret {mc ms : Nat} {Post : PT} (hc : c0 ≤ mc) (hs0 : s0 ≤ ms) (hr : X.2.2.2 = none) (hd : decode X.2.1 pc = .ok (.return_, 1)) (hP : Post none δ i l) : G E R X (qM E mc ms Post) c0 s0 δ i l pc L [] := by
  intro p e s m args below meth cd H locs ls hk hl hR hS
  have hlocks := hk.2.2.2.2.1
  refine W.widen hc hs0 ?_
  exact W.vret hk.1 hk.2.1 (hk.2.2.2.1.trans hr) (fun t ht hW => ⟨⟨none, δ, i, l, rfl, hP, by rw [ht]; exact hR⟩, hS.F ht⟩) hS.2.2 hd
theorem g_aret {mc ms : Nat} {o : Option Nat} {rt : FieldType} {Post : PT} (hc : c0 ≤ mc) (hs0 : s0 ≤ ms) (hr : X.2.2.2 = some rt) (hrt : (∃ n, rt = .object n) ∨ ∃ t, rt = .array t) (hd : decode X.2.1 pc = .ok (.areturn, 1)) (hP : Post (some (vR o)) δ i l) : G E R X (qM E mc ms Post) c0 s0 δ i l pc L [vR o] := by
  intro p e s m args below meth cd H locs ls hk hl hR hS
  have hlocks := hk.2.2.2.2.1
  refine W.widen hc hs0 ?_
  exact W.aret (v := emb E (vR o)) hk.1 hk.2.1 (hk.2.2.2.1.trans hr) hrt (va_rf_or _) (fun t ht hW => ⟨⟨some (vR o), δ, i, l, rfl, hP, by rw [ht]; exact hR⟩, hS.F ht⟩) hS.2.2 hd
theorem g_objInit {a : Nat} {idx : Nat} (hl : Cond.methodLink X.1.cls idx Lib.objectInit ∈ lwG) (hin : Cond.instanceMethod Lib.objectInit ∈ lwG) (hco : Cond.code Lib.objectInit ⟨#[0xb1]⟩ 1 none ∈ lwG) (hR : 1 ≤ R.frames ∧ 20 ≤ R.locals) (hr : (st.map (fun v => if isLg v then 2 else 1)).sum ≤ 8) (hd : decode X.2.1 pc = .ok (.invokespecial idx, 3)) (hp : pc + 3 = pc') (k : G E R X Qf c0 s0 δ i l pc' L st) : G E R X Qf c0 s0 δ i l pc L (vR (some a) :: st) := by
  subst hp
  intro p e s m args below meth cd H locs ls hk hl' hRp hS
  have hts := hk.2.2.2.2.2.2.1
  refine W.objInit hk.1 hk.2.1 hk.2.2.2.2.2.1 (hts _ hl) (hts _ hin) (hts _ hco) rfl (hl'.1.trans hk.2.2.1.symm) rfl hd hR.1 ?_ (k p e s m args below meth cd H locs ls hk hl' hRp hS)
  have h8 := mv_room (E := E) hr
  show 2 * 0 + _ + 12 ≤ R.locals
  omega
end
/-! entries -/
def laM : Nat → List MV → List (Nat × MV)
  | _, [] => []
  | k, v :: vs => (k, v) :: laM (if isLg v then k + 2 else k + 1) vs
theorem gL_laM (E : GE) : ∀ (vs : List MV) (k : Nat), lv_args k (vs.map (emb E)) = gL E (laM k vs)
  | [], _ => rfl
  | v :: vs, k => by
    have hv : (if (emb E v).category = 2 then k + 2 else k + 1) = if isLg v then k + 2 else k + 1 := by
      rcases v with x | x | o
      · rfl
      · rfl
      · cases o <;> rfl
    show (k, emb E v) :: lv_args (if (emb E v).category = 2 then k + 2 else k + 1) (vs.map (emb E)) = (k, emb E v) :: gL E (laM (if isLg v then k + 2 else k + 1) vs)
    rw [hv, gL_laM E vs]
theorem lg_len (E : GE) : ∀ vs : List MV, (lg_sl (vs.map (emb E))).length = (vs.map (fun v => if isLg v then 2 else 1)).sum
  | [] => rfl
  | v :: vs => by
    have ih := lg_len E vs
    have e : lg_sl ((v :: vs).map (emb E)) = (if (emb E v).category = 2 then [.val (emb E v), .second] else [.val (emb E v)]) ++ lg_sl (vs.map (emb E)) := by
      unfold lg_sl
      rw [List.map_cons, List.flatMap_cons]
    rw [e, List.length_append, ih, List.map_cons, List.sum_cons]
    rcases v with x | x | o
    · rfl
    · rfl
    · cases o <;> rfl
theorem Cn_of {E : GE} {d mc ms : Nat} {X : MI} {vs : List MV} {δ : Dl} {i : IM} {l : LM} {Post : PT} (hy : plainFor X.1 = true) (hv : (vs.map (fun v => if isLg v then 2 else 1)).sum ≤ X.2.2.1) (h : G E (rmD d mc ms) X (qM E mc ms Post) 0 0 δ i l 0 (laM 0 vs) []) : Cn E d mc ms X vs δ i l Post := by
  refine va_MetF (cc := X.2.1) (maxL := X.2.2.1) (ret := X.2.2.2) hy rfl ?_
  intro p e s m args below meth c s₁ B hml hP
  obtain ⟨rfl, hR, hK, hb⟩ := hP
  have hts := atoms_spec (ws := Cond.code X.1 X.2.1 X.2.2.1 X.2.2.2 :: lwG) B.pre
  have hown : s.vm.findClass X.1.cls = some m.cls := findClass_of_methodNamed B.named
  have hin : meth.name = X.1.name := (name_of_methodNamed B.named B.method).1
  rw [lg_entry_eq]
  refine h p e s m _ below meth c s.heap [] _ ⟨B.exec, B.bytes, hml, B.returns, B.notSynchronized, hown, fun w hw => hts w (List.mem_cons_of_mem _ hw), hK, hb, hin⟩ ?_ hR va_S.rf
  rw [← gL_laM]
  exact lv_entry _ (by rw [lg_len]; exact hv)
theorem Met_mono {l : Launch} {y : MethodName} {ws : List Cond} {rm : Room} {Pc : Array Value → State → Prop} {Qc Qc' : Array Value → State → Outcome → State → Prop} {mc ms : Nat} {free : Addr → Prop} (hq : ∀ a s o t, Qc a s o t → Qc' a s o t) (h : Met l y ws rm Pc Qc mc ms free) : Met l y ws rm Pc Qc' mc ms free := by
  intro p e ha hc hk s m args below hf happ hp hK
  obtain ⟨n, o, h1, h2, h3, h4, h5⟩ := h p e ha hc hk s m args below hf happ hp hK
  exact ⟨n, o, h1, h2, h3, hq _ _ _ _ h4, h5⟩
theorem Cn_mono {E : GE} {d mc ms : Nat} {X : MI} {vs : List MV} {δ : Dl} {i : IM} {l : LM} {P P' : PT} (h : Cn E d mc ms X vs δ i l P) (hp : ∀ r δ' i' l', P r δ' i' l' → P' r δ' i' l') : Cn E d mc ms X vs δ i l P' := by
  refine Met_mono ?_ h
  rintro a s o t ⟨⟨r, δ', i', l', h1, h2, h3⟩, h4⟩
  exact ⟨⟨r, δ', i', l', h1, hp _ _ _ _ h2, h3⟩, h4⟩
