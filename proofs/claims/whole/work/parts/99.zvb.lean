/-! rules for the law itself: its script, its end -/
def R_law : String := "ThreeColoursLaw"
def lw_P (b : Addr) (xs : List Int32) (args : Array Value) (s : State) : Prop := args = #[.ref b] ∧ s.IntsAt b xs ∧ xs.length ≤ 3072 ∧ (Jvm.Cond.and given_1 narrow_1).before args s = true
def lw_Q (_ : Array Value) (s : State) (o : Outcome) (t : State) : Prop := o = .returned (some (.int 1)) ∧ Framed s o t [] 600000 7302250
def lw_Z (below : List Frame) (a : Array Value) (s : State) : State → Prop := fun t => ∃ o, t.status = .running ∧ Ended t below o ∧ lw_Q a s o t
theorem lw_ret {p : Program} {l : Launch} {e : Jvm.Env} {s : State} {m : MethodId} {below : List Frame} {meth : Method} {c : Code} {b : Nat} (hx : p.tables.exec = Jvm.exec) (hb : c.code = code) (hr : meth.sig.returnType = ret) (hlocks : meth.locks = false) {pc : Nat} {H : Heap} {ls : Array Slot} (hdg : decode code pc = .ok (.ireturn, 1)) : W p l e room_1 s m #[Value.ref b] below meth c H [] 600000 7302250 (lw_Z below #[Value.ref b] s) (F0 m pc ls [.int 1]) := by
  intro T hT X
  obtain ⟨fs, hret, hrun, hended, hW, hframe⟩ := X.leave (v := some (.int 1)) (hlocks := hlocks) (fun h => by rw [hr] at h; cases h)
  have hmeth' : T.vm.method? m = some meth := X.method'
  refine ⟨T.setFrames fs, ?_, .returned (some (.int 1)), hrun, hended, rfl, ⟨_, rfl⟩, hW, hframe⟩
  jvm_step X.here [X.here.top, hx, hb, hdg, hmeth', hr, ret, narrow_b1]
  (try refine ⟨rfl, ?_⟩); (try refine ⟨rfl, ?_⟩)
  first | (intro acts; rw [hret _ acts rfl rfl rfl]) | rw [hret _ _ rfl rfl rfl]
  exact Steps.refl _
section
variable {E : GE} {R : Room} {X : MI} {c0 s0 : Nat} {δ : Dl} {i : IM} {l : LM} {pc pc' L : Nat} {Lc : List (Nat × MV)} {st : List MV} {xs : Nat → Int32}
/-- the script lies in cell 0, as it was given -/
def SQ (E : GE) (L : Nat) (xs : Nat → Int32) (args : Array Value) (s : State) : Prop := args = #[Value.ref (E.2.2.2.2 0)] ∧ va_X (E.2.2.2.2 0) L xs s s.heap ∧ E.2.2.2.2 0 < s.heap.size ∧ ¬ gA E (E.2.2.2.2 0) ∧ s.heap.size ≤ E.2.2.2.1
def QL (E : GE) (L : Nat) (xs : Nat → Int32) : QF := fun below args s t => SQ E L xs args s → lw_Z below args s t
def eSc (xs : Nat → Int32) (x j : Int) : Int := (xs (x + j).toNat).toInt
theorem rg_eSc (xs : Nat → Int32) (x j : Int) : rg (eSc xs x j) := rg_of _
theorem W_hyp {p : Program} {l : Launch} {e : Jvm.Env} {R : Room} {s : State} {m : MethodId} {args : Array Value} {below : List Frame} {meth : Method} {c : Code} {H : Heap} {locs : List Loc} {cells slots : Nat} {Q : State → Prop} {g : JFrame} {P : Prop} (h : P → W p l e R s m args below meth c H locs cells slots Q g) (hq : ¬ P → ∀ t, Q t) : W p l e R s m args below meth c H locs cells slots Q g := by
  by_cases hp : P
  · exact h hp
  · exact fun T _ _ => ⟨_, Steps.refl _, hq hp _⟩
theorem g_sld {j : Int} (h0 : 0 ≤ j ∧ j < (L : Int)) (hL : L < 2147483648) (hd : decode X.2.1 pc = .ok (.iaload, 1)) (hp : pc + 1 = pc') (kk : G E R X (QL E L xs) c0 s0 δ i l pc' Lc (vI (xs j.toNat).toInt :: st)) : G E R X (QL E L xs) c0 s0 δ i l pc Lc (vI j :: vR (some 0) :: st) := by
  subst hp
  intro p e s m args below meth cd H locs ls hk hl hR hS
  refine W_hyp (P := SQ E L xs args s) (fun hq => ?_) (fun hn t h => absurd h hn)
  obtain ⟨-, hX, hbl, hbA, -⟩ := hq
  have kw := kk p e s m args below meth cd H locs ls hk hl hR hS
  have e1 : emb E (vI (xs j.toNat).toInt) = .int (xs (Int32.ofInt j).toNatClampNeg) := by
    show Value.int (Int32.ofInt _) = _
    rw [Int32.ofInt_toInt, rg_clamp h0.1 (by omega)]
  rw [List.map_cons, e1] at kw
  exact va_sld hk.1 hk.2.1 hX hbl hbA hS (rg_in h0.1 h0.2 hL) hd kw
theorem g_slen (hL : L < 2147483648) (hd : decode X.2.1 pc = .ok (.arraylength, 1)) (hp : pc + 1 = pc') (kk : G E R X (QL E L xs) c0 s0 δ i l pc' Lc (vI (L : Int) :: st)) : G E R X (QL E L xs) c0 s0 δ i l pc Lc (vR (some 0) :: st) := by
  subst hp
  intro p e s m args below meth cd H locs ls hk hl hR hS
  refine W_hyp (P := SQ E L xs args s) (fun hq => ?_) (fun hn t h => absurd h hn)
  obtain ⟨-, hX, hbl, hbA, -⟩ := hq
  have kw := kk p e s m args below meth cd H locs ls hk hl hR hS
  have e1 : emb E (vI (L : Int)) = .int (Int32.ofNat L) := by
    show Value.int (Int32.ofInt _) = _
    rw [Int32.ofInt_eq_ofNat]
  rw [List.map_cons, e1] at kw
  exact va_slen hk.1 hk.2.1 hX hbl hbA hS hd kw
theorem g_lawret (hd : decode code pc = .ok (.ireturn, 1)) (hc : c0 ≤ 600000) (hs : s0 ≤ 7302250) : G E room_1 X_L_law (QL E L xs) c0 s0 δ i l pc Lc [vI 1] := by
  intro p e s m args below meth cd H locs ls hk hl hR hS
  refine W_hyp (P := SQ E L xs args s) (fun hq => ?_) (fun hn t h => absurd h hn)
  obtain ⟨hargs, -, -, -, hsz⟩ := hq
  subst hargs
  refine W.widen hc hs (va_forget (fun q hq' => Nat.le_trans hsz (hS.2.2 q hq')) ?_)
  have kw := lw_ret (p := p) (l := E.1) (e := e) (s := s) (m := m) (below := below) (meth := meth) (c := cd) (b := E.2.2.2.2 0) (H := H) (ls := ls) (pc := pc) hk.1 hk.2.1 hk.2.2.2.1 hk.2.2.2.2.1 hd
  intro T hT Xs
  obtain ⟨t, a, b⟩ := kw T hT Xs
  exact ⟨t, a, fun _ => b⟩
end
