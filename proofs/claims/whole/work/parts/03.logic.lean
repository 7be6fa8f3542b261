/-! A FLAT MEMORY OVER THE MACHINE: ints are whole numbers (i), longs (l), references (r); the k-th cell that the law makes lies at base + (k - 6); cells 0 .. 5 are those that were there before (the script, two tables, a text and its bytes, a formatter) -/
abbrev MV : Type := Int ⊕ (Int64 ⊕ Option Nat)
abbrev vI (x : Int) : MV := Sum.inl x
abbrev vL (x : Int64) : MV := Sum.inr (Sum.inl x)
abbrev vR (x : Option Nat) : MV := Sum.inr (Sum.inr x)
abbrev IM : Type := Nat → Int → Int
abbrev LM : Type := Nat → Int → Int64
abbrev RM : Type := Nat → Int → Option Nat
abbrev Shp : Type := (Nat × Nat) ⊕ Nat
abbrev Dl : Type := Nat × (Nat → Option Shp) × RM
abbrev GE : Type := Launch × va_G × (Nat → ClassId) × Nat × (Nat → Nat)
abbrev MI : Type := MethodName × ByteArray × Nat × Option FieldType
abbrev QF : Type := List Frame → Array Value → State → State → Prop
def gRho (E : GE) (k : Nat) : Nat := if k < 6 then E.2.2.2.2 k else E.2.2.2.1 + (k - 6)
def emb (E : GE) (v : MV) : Value := match v with
  | .inl x => .int (Int32.ofInt x)
  | .inr (.inl x) => .long x
  | .inr (.inr o) => va_rf (o.map (gRho E))
def kTy (k : Nat) : FieldType := match k with
  | 0 => .int
  | 1 => .long
  | 2 => .boolean
  | 3 => .byte
  | 4 => .object "ThreeColours$Town"
  | _ => .object "ThreeColours$Law"
def gTys (E : GE) : List (ClassId × FieldType) := (List.range 6).map (fun k => (E.2.2.1 k, kTy k))
def kCo (k : Nat) : Nat := if k = 1 then 1 else if k < 4 then 0 else 2
def fKd (c j : Nat) : Nat := (fTab.getD c []).getD j 0
def fN (c : Nat) : Nat := (fTab.getD c []).length
def cV (E : GE) (i : IM) (l : LM) (r : RM) (a co : Nat) (j : Nat) : Value := if co = 1 then .long (l a j) else if co = 2 then va_rf ((r a j).map (gRho E)) else .int (Int32.ofInt (i a j))
def cAt (E : GE) (i : IM) (l : LM) (r : RM) (a : Nat) (q : Shp) (H : Heap) : Prop := match q with
  | .inl q => H[gRho E a]? = some (arrV (E.2.2.1 q.1) q.2 (cV E i l r a (kCo q.1)))
  | .inr c => t_OB (gRho E a) (E.2.1.1 c) (fN c) (E.2.1.2 c) H (fun j => cV E i l r a (fKd c j) j)
def rg (x : Int) : Prop := -2147483648 ≤ x ∧ x < 2147483648
def gA (E : GE) : Nat → Prop := fun q => E.2.2.2.1 ≤ q
def Rep (E : GE) (δ : Dl) (i : IM) (l : LM) (H : Heap) : Prop := 6 ≤ δ.1 ∧ H.size + 6 = E.2.2.2.1 + δ.1 ∧ (∀ a q, δ.2.1 a = some q → 6 ≤ a ∧ a < δ.1 ∧ cAt E i l δ.2.2 a q H) ∧ ∀ a j, rg (i a j)
/-- the tables that were there before: what put() and turn() look up -/
def hTrait (j : Nat) : Int := [3, 7, 7, 99, 99, 1].getD j 0
def hView (j : Nat) : Int := [1023, 1023, 99].getD j 0
def wordsText : String := "window thing place colour sort month minute coat person limit cost free hidden if or and not "
def wordsBytes : List Int32 := [119, 105, 110, 100, 111, 119, 32, 116, 104, 105, 110, 103, 32, 112, 108, 97, 99, 101, 32, 99, 111, 108, 111, 117, 114, 32, 115, 111, 114, 116, 32, 109, 111, 110, 116, 104, 32, 109, 105, 110, 117, 116, 101, 32, 99, 111, 97, 116, 32, 112, 101, 114, 115, 111, 110, 32, 108, 105, 109, 105, 116, 32, 99, 111, 115, 116, 32, 102, 114, 101, 101, 32, 104, 105, 100, 100, 101, 110, 32, 105, 102, 32, 111, 114, 32, 97, 110, 100, 32, 110, 111, 116, 32]
/-- the words that stay as the machine runs -/
def lwG : List Cond := lw_tbl.filter goodWord
theorem lwG_at {w : Cond} (p : Nat) (h : lw_tbl[p]? = some w) (g : goodWord w = true) : w ∈ lwG := List.mem_filter.mpr ⟨List.mem_of_getElem? h, g⟩
/-- what is known of the machine in a state: classes, arrays' classes, what lies outside -/
def Known (E : GE) (U : State) : Prop :=
  va_K E.2.1 classes (gTys E) U ∧
  (va_Z "ThreeColours" "HIGHEST_TRAIT" "[I" (.ref (E.2.2.2.2 1)) (gA E) U U.heap ∧ va_T .int (E.2.2.2.2 1) 6 (fun j => .int (Int32.ofInt (hTrait j))) (gA E) U U.heap) ∧
  (va_Z "ThreeColours" "HIGHEST_VIEW" "[I" (.ref (E.2.2.2.2 2)) (gA E) U U.heap ∧ va_T .int (E.2.2.2.2 2) 3 (fun j => .int (Int32.ofInt (hView j))) (gA E) U U.heap) ∧
  (vk_R "ThreeColours$Reader" 116 wordsText (E.2.2.2.2 3) U ∧ vk_S 1 [93] [wordsBytes] (fun _ => E.2.2.2.2 3) (fun _ => E.2.2.2.2 4) (gA E) U U.heap ∧ va_Z "java/lang/String" "COMPACT_STRINGS" "Z" (.int 1) (gA E) U U.heap) ∧
  (va_Nw (.methodLinkNest "ThreeColours$Asker" 35 yX11_nearestTo "ThreeColours") U) ∧ (va_Nw (.methodLinkNest "ThreeColours$Sight" 159 yX11_lowestOf "ThreeColours") U) ∧ (va_Nw (.methodLinkNest "ThreeColours$Walker" 94 yX11_lowestOf "ThreeColours") U) ∧
  (va_AO "ThreeColours$Town" U ∧ va_AO "ThreeColours$Law" U ∧ va_Nw (.castable "[I" "java/lang/Cloneable") U) ∧
  ∃ o : Option Nat, va_Z "jdk/internal/util/Preconditions" "SIOOBE_FORMATTER" "Ljava/util/function/BiFunction;" (va_rf o) (gA E) U U.heap ∧ ∀ q : Nat, o = some q → q = E.2.2.2.2 5
def GK (E : GE) (X : MI) (p : Program) (s : State) (m : MethodId) (args : Array Value) (meth : Method) (cd : Code) : Prop :=
  p.tables.exec = Jvm.exec ∧ cd.code = X.2.1 ∧ cd.maxLocals = X.2.2.1 ∧ meth.sig.returnType = X.2.2.2 ∧ meth.locks = false ∧ s.vm.findClass X.1.cls = some m.cls ∧ (∀ w ∈ lwG, w.before args s = true) ∧ Known E s ∧ E.2.2.2.1 ≤ s.heap.size ∧ meth.name = X.1.name
def gL (E : GE) (L : List (Nat × MV)) : List (Nat × Value) := L.map (fun q => (q.1, emb E q.2))
/-- THE JUDGEMENT: at pc, with locals L, operand stack st and memory (δ, i, l), method X comes to its end with Qf -/
def G (E : GE) (R : Room) (X : MI) (Qf : QF) (c0 s0 : Nat) (δ : Dl) (i : IM) (l : LM) (pc : Nat) (L : List (Nat × MV)) (st : List MV) : Prop :=
  ∀ (p : Program) (e : Env) (s : State) (m : MethodId) (args : Array Value) (below : List Frame) (meth : Method) (cd : Code) (H : Heap) (locs : List Loc) (ls : Array Slot),
    GK E X p s m args meth cd → lv_has ls X.2.2.1 (gL E L) → Rep E δ i l H → va_S (gA E) s.heap H locs →
    W p E.1 e R s m args below meth cd H locs c0 s0 (Qf below args s) (F0 m pc ls (st.map (emb E)))
def rmD (d mc ms : Nat) : Room := { frames := d, cells := mc, slots := ms, locals := 64 * d }
abbrev PT : Type := Option MV → Dl → IM → LM → Prop
def gPc (E : GE) (vs : List MV) (δ : Dl) (i : IM) (l : LM) : Array Value → State → Prop := fun v U => v = (vs.map (emb E)).toArray ∧ Rep E δ i l U.heap ∧ Known E U ∧ E.2.2.2.1 ≤ U.heap.size
def gQc (E : GE) (Post : PT) : Array Value → State → Outcome → State → Prop := fun _ st oc t => (∃ (r : Option MV) (δ' : Dl) (i' : IM) (l' : LM), oc = .returned (r.map (emb E)) ∧ Post r δ' i' l' ∧ Rep E δ' i' l' t.heap) ∧ va_F (gA E) st t
/-- a method's contract, from one memory -/
def Cn (E : GE) (d mc ms : Nat) (X : MI) (vs : List MV) (δ : Dl) (i : IM) (l : LM) (Post : PT) : Prop :=
  Met E.1 X.1 (Cond.code X.1 X.2.1 X.2.2.1 X.2.2.2 :: lwG) (rmD d mc ms) (gPc E vs δ i l) (gQc E Post) mc ms (gA E)
def qM (E : GE) (mc ms : Nat) (Post : PT) : QF := fun below args s => MQ below (gQc E Post) args s mc ms (gA E)
/-- the answer is an int, nothing is made -/
def CI (E : GE) (d : Nat) (X : MI) (vs : List MV) (δ : Dl) (i : IM) (l : LM) (P : Int → IM → LM → Prop) : Prop := Cn E d 0 0 X vs δ i l (fun r δ' i' l' => δ' = δ ∧ ∃ x : Int, r = some (vI x) ∧ rg x ∧ P x i' l')
def CL (E : GE) (d : Nat) (X : MI) (vs : List MV) (δ : Dl) (i : IM) (l : LM) (P : Int64 → IM → LM → Prop) : Prop := Cn E d 0 0 X vs δ i l (fun r δ' i' l' => δ' = δ ∧ ∃ x : Int64, r = some (vL x) ∧ P x i' l')
def CV (E : GE) (d : Nat) (X : MI) (vs : List MV) (δ : Dl) (i : IM) (l : LM) (P : IM → LM → Prop) : Prop := Cn E d 0 0 X vs δ i l (fun r δ' i' l' => δ' = δ ∧ r = none ∧ P i' l')
def CR (E : GE) (d : Nat) (X : MI) (vs : List MV) (δ : Dl) (i : IM) (l : LM) (P : Option Nat → IM → LM → Prop) : Prop := Cn E d 0 0 X vs δ i l (fun r δ' i' l' => δ' = δ ∧ ∃ x : Option Nat, r = some (vR x) ∧ P x i' l')
def u2 (i : IM) (a : Nat) (j v : Int) : IM := fun b k => if b = a ∧ k = j then v else i b k
def u2l (l : LM) (a : Nat) (j : Int) (v : Int64) : LM := fun b k => if b = a ∧ k = j then v else l b k
def u2r (r : RM) (a : Nat) (j : Int) (v : Option Nat) : RM := fun b k => if b = a ∧ k = j then v else r b k
/-! numbers -/
theorem rg_toInt {x : Int} (h : rg x) : (Int32.ofInt x).toInt = x := Int32.toInt_ofInt_of_le (by have := h.1; omega) (by have := h.2; omega)
theorem rg_of (x : Int32) : rg x.toInt := ⟨by have := x.le_toInt; omega, by have := x.toInt_lt; omega⟩
theorem rg_eq {x y : Int} (hx : rg x) (hy : rg y) : Int32.ofInt x = Int32.ofInt y ↔ x = y := by rw [← Int32.toInt_inj, rg_toInt hx, rg_toInt hy]
theorem rg_lt {x y : Int} (hx : rg x) (hy : rg y) : Int32.ofInt x < Int32.ofInt y ↔ x < y := by rw [Int32.lt_iff_toInt_lt, rg_toInt hx, rg_toInt hy]
theorem rg_le {x y : Int} (hx : rg x) (hy : rg y) : Int32.ofInt x ≤ Int32.ofInt y ↔ x ≤ y := by rw [Int32.le_iff_toInt_le, rg_toInt hx, rg_toInt hy]
theorem rg_lit {x : Int} (h : decide (-2147483648 ≤ x ∧ x < 2147483648) = true) : rg x := by
  show -2147483648 ≤ x ∧ x < 2147483648
  exact of_decide_eq_true h
theorem ofInt0 : Int32.ofInt 0 = 0 := rfl
theorem rg_clamp {j : Int} (h0 : 0 ≤ j) (h1 : j < 2147483648) : (Int32.ofInt j).toNatClampNeg = j.toNat := by
  obtain ⟨n, rfl⟩ := Int.eq_ofNat_of_zero_le h0
  rw [Int32.ofInt_eq_ofNat]
  exact clamp_of rfl (by omega)
theorem rg_in {j : Int} {n : Nat} (h0 : 0 ≤ j) (h1 : j < n) (hn : n < 2147483648) : ¬ (Int32.ofInt j < 0 ∨ n ≤ (Int32.ofInt j).toNatClampNeg) := by
  rw [rg_clamp h0 (by omega)]
  have hr : rg j := ⟨by omega, by omega⟩
  have h2 : ¬ Int32.ofInt j < 0 := by
    rw [← ofInt0, rg_lt hr ⟨by omega, by omega⟩]
    omega
  rintro (h | h)
  · exact h2 h
  · omega
/-! bits, as functions of whole numbers -/
def iand (x y : Int) : Int := (Int32.ofInt x &&& Int32.ofInt y).toInt
def ior (x y : Int) : Int := (Int32.ofInt x ||| Int32.ofInt y).toInt
def ixor (x y : Int) : Int := (Int32.ofInt x ^^^ Int32.ofInt y).toInt
def ishl (x y : Int) : Int := (Int32.ofInt x <<< (Int32.ofInt y &&& 31)).toInt
def ishr (x y : Int) : Int := (Int32.ofInt x >>> (Int32.ofInt y &&& 31)).toInt
def iushr (x y : Int) : Int := ((Int32.ofInt x).toUInt32 >>> ((Int32.ofInt y).toUInt32 &&& Int32.toUInt32 31)).toInt32.toInt
def i8 (x : Int) : Int := (Int32.ofInt x).toInt8.toInt32.toInt
def i16u (x : Int) : Int := ((Int32.ofInt x).toUInt32 % 65536).toInt32.toInt
def i2l (x : Int) : Int64 := (Int32.ofInt x).toInt64
def l2i (x : Int64) : Int := x.toInt32.toInt
def lushr (x : Int64) (y : Int) : Int64 := (x.toUInt64 >>> ((Int32.ofInt y).toInt64.toUInt64 &&& Int64.toUInt64 63)).toInt64
def lshl (x : Int64) (y : Int) : Int64 := x <<< ((Int32.ofInt y).toInt64 &&& 63)
theorem rg_iand (x y : Int) : rg (iand x y) := rg_of _
theorem rg_ior (x y : Int) : rg (ior x y) := rg_of _
theorem rg_ixor (x y : Int) : rg (ixor x y) := rg_of _
theorem rg_ishl (x y : Int) : rg (ishl x y) := rg_of _
theorem rg_ishr (x y : Int) : rg (ishr x y) := rg_of _
theorem rg_iushr (x y : Int) : rg (iushr x y) := rg_of _
theorem rg_i8 (x : Int) : rg (i8 x) := rg_of _
theorem rg_i16u (x : Int) : rg (i16u x) := rg_of _
theorem rg_l2i (x : Int64) : rg (l2i x) := rg_of _
theorem rg_ite {p : Prop} [Decidable p] {x y : Int} (hx : rg x) (hy : rg y) : rg (if p then x else y) := by split <;> assumption
/-! memory -/
theorem u2_self (i : IM) (a : Nat) (j v : Int) : u2 i a j v a j = v := if_pos ⟨rfl, rfl⟩
theorem u2_other (i : IM) {a b : Nat} (j v : Int) (h : b ≠ a) : u2 i a j v b = i b := funext fun _ => if_neg fun q => h q.1
theorem u2l_other (l : LM) {a b : Nat} (j : Int) (v : Int64) (h : b ≠ a) : u2l l a j v b = l b := funext fun _ => if_neg fun q => h q.1
theorem u2r_other (r : RM) {a b : Nat} (j : Int) (v : Option Nat) (h : b ≠ a) : u2r r a j v b = r b := funext fun _ => if_neg fun q => h q.1
theorem rg_u2 {i : IM} (h : ∀ a j, rg (i a j)) {a : Nat} {j v : Int} (hv : rg v) : ∀ b k, rg (u2 i a j v b k) := by
  intro b k
  unfold u2
  split
  · exact hv
  · exact h b k
theorem gRho_hi (E : GE) {a : Nat} (h : 6 ≤ a) : gRho E a = E.2.2.2.1 + (a - 6) := if_neg (by omega)
theorem gRho_A (E : GE) {a : Nat} (h : 6 ≤ a) : gA E (gRho E a) := by
  show E.2.2.2.1 ≤ _
  rw [gRho_hi E h]
  omega
theorem gRho_inj (E : GE) {a b : Nat} (ha : 6 ≤ a) (hb : 6 ≤ b) (h : gRho E a = gRho E b) : a = b := by
  rw [gRho_hi E ha, gRho_hi E hb] at h
  omega
theorem cAt_kept {E : GE} {i : IM} {l : LM} {r : RM} {a : Nat} {q : Shp} {H H1 : Heap} (h : cAt E i l r a q H) (hq : H1[gRho E a]? = H[gRho E a]?) : cAt E i l r a q H1 := by
  cases q with
  | inl q => exact hq.trans h
  | inr c => exact t_OB.kept h hq
theorem cV_congr {E : GE} {i i' : IM} {l l' : LM} {r r' : RM} {a co : Nat} (hi : i' a = i a) (hl : l' a = l a) (hr : r' a = r a) : cV E i' l' r' a co = cV E i l r a co := by
  funext j
  unfold cV
  rw [hi, hl, hr]
theorem cAt_congr {E : GE} {i i' : IM} {l l' : LM} {r r' : RM} {a : Nat} {q : Shp} {H : Heap} (hi : i' a = i a) (hl : l' a = l a) (hr : r' a = r a) (h : cAt E i l r a q H) : cAt E i' l' r' a q H := by
  have e : ∀ co, cV E i' l' r' a co = cV E i l r a co := fun co => cV_congr hi hl hr
  cases q with
  | inl q => simp only [cAt, e] at h ⊢; exact h
  | inr c => simp only [cAt, e] at h ⊢; exact h
/-- one cell is written -/
theorem rep_put {E : GE} {δ : Dl} {r' : RM} {i i' : IM} {l l' : LM} {a : Nat} {q : Shp} {H H1 : Heap} (hR : Rep E δ i l H) (hs : δ.2.1 a = some q) (z : H1.size = H.size) (oq : ∀ x : Nat, x ≠ gRho E a → H1[x]? = H[x]?) (hc : cAt E i' l' r' a q H1) (ho : ∀ b, b ≠ a → i' b = i b ∧ l' b = l b ∧ r' b = δ.2.2 b) (hg : ∀ a j, rg (i' a j)) : Rep E (δ.1, δ.2.1, r') i' l' H1 := by
  obtain ⟨h1, h2, h3, -⟩ := hR
  have ha := (h3 a q hs).1
  refine ⟨h1, by rw [z]; exact h2, fun b w hb => ?_, hg⟩
  obtain ⟨g1, g2, g3⟩ := h3 b w hb
  refine ⟨g1, g2, ?_⟩
  by_cases hba : b = a
  · subst hba
    have hb' : δ.2.1 b = some w := hb
    cases hs.symm.trans hb'
    exact hc
  · obtain ⟨q2, q3, q4⟩ := ho b hba
    exact cAt_congr q2 q3 q4 (cAt_kept g3 (oq _ fun e => hba (gRho_inj E g1 ha e)))
theorem rep_arr {E : GE} {δ : Dl} {i : IM} {l : LM} {H : Heap} (hR : Rep E δ i l H) {a kd n : Nat} (hs : δ.2.1 a = some (.inl (kd, n))) : H[gRho E a]? = some (arrV (E.2.2.1 kd) n (cV E i l δ.2.2 a (kCo kd))) := (hR.2.2.1 a _ hs).2.2
theorem rep_obj {E : GE} {δ : Dl} {i : IM} {l : LM} {H : Heap} (hR : Rep E δ i l H) {a c : Nat} (hs : δ.2.1 a = some (.inr c)) : t_OB (gRho E a) (E.2.1.1 c) (fN c) (E.2.1.2 c) H (fun j => cV E i l δ.2.2 a (fKd c j) j) := (hR.2.2.1 a _ hs).2.2
theorem gTys_at (E : GE) {k : Nat} (h : k < 6) : (gTys E)[k]? = some (E.2.2.1 k, kTy k) := by
  unfold gTys
  rw [List.getElem?_map, List.getElem?_range h]
  rfl
theorem known_arr {E : GE} {s : State} (hK : Known E s) {kd : Nat} (h : kd < 6) (n : Nat) (z : Nat → Value) : s.isArrayOf (arrV (E.2.2.1 kd) n z) (kTy kd) := (hK.1.2 kd _ (gTys_at E h)).1 n z
theorem va_S_put {E : GE} {H0 H H1 : Heap} {locs : List Loc} {a k : Nat} (hS : va_S (gA E) H0 H locs) (ha : 6 ≤ a) (z : H1.size = H.size) (oq : ∀ q : Nat, q ≠ gRho E a → H1[q]? = H[q]?) : va_S (gA E) H0 H1 (locs ++ [⟨gRho E a, k⟩]) := hS.put z oq (gRho_A E ha)
