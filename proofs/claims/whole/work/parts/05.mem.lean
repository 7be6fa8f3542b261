/-! what the tables hold of the classes; rules for memory -/
theorem in_pos (ws : List Cond) (ps : List Nat) (hp : ws = ps.filterMap (fun k => lw_tbl[k]?)) (hg : ws.all goodWord = true) : ∀ w ∈ ws, w ∈ lwG := by
  intro w hw
  have h1 := List.all_eq_true.mp hg w hw
  rw [hp] at hw
  obtain ⟨k, -, hk⟩ := List.mem_filterMap.mp hw
  exact lwG_at k hk h1
set_option maxRecDepth 100000 in
theorem inX0 : ∀ w ∈ u_ws RX0 TX0 4, w ∈ lwG := in_pos _ [297, 299, 301, 303] (by decide +kernel) (by decide +kernel)
set_option maxRecDepth 100000 in
theorem inX1 : ∀ w ∈ u_ws RX1 TX1 16, w ∈ lwG := in_pos _ [395, 397, 399, 401, 403, 405, 407, 409, 411, 413, 415, 417, 419, 421, 423, 425] (by decide +kernel) (by decide +kernel)
set_option maxRecDepth 100000 in
theorem inX2 : ∀ w ∈ u_ws RX2 TX2 3, w ∈ lwG := in_pos _ [971, 973, 975] (by decide +kernel) (by decide +kernel)
set_option maxRecDepth 100000 in
theorem inX3 : ∀ w ∈ u_ws RX3 TX3 12, w ∈ lwG := in_pos _ [516, 518, 520, 522, 524, 526, 528, 530, 532, 534, 536, 538] (by decide +kernel) (by decide +kernel)
set_option maxRecDepth 100000 in
theorem inX4 : ∀ w ∈ u_ws RX4 TX4 5, w ∈ lwG := in_pos _ [590, 592, 594, 596, 598] (by decide +kernel) (by decide +kernel)
set_option maxRecDepth 100000 in
theorem inX5 : ∀ w ∈ u_ws RX5 TX5 19, w ∈ lwG := in_pos _ [457, 459, 461, 463, 465, 467, 469, 471, 473, 475, 477, 479, 481, 483, 485, 487, 489, 491, 493] (by decide +kernel) (by decide +kernel)
set_option maxRecDepth 100000 in
theorem inX6 : ∀ w ∈ u_ws RX6 TX6 6, w ∈ lwG := in_pos _ [615, 617, 619, 621, 623, 625] (by decide +kernel) (by decide +kernel)
set_option maxRecDepth 100000 in
theorem inX7 : ∀ w ∈ u_ws RX7 TX7 12, w ∈ lwG := in_pos _ [262, 264, 266, 268, 270, 272, 274, 276, 278, 280, 282, 284] (by decide +kernel) (by decide +kernel)
set_option maxRecDepth 100000 in
theorem inX8 : ∀ w ∈ u_ws RX8 TX8 15, w ∈ lwG := in_pos _ [333, 335, 337, 339, 341, 343, 345, 347, 349, 351, 353, 355, 357, 359, 361] (by decide +kernel) (by decide +kernel)
set_option maxRecDepth 100000 in
theorem inX9 : ∀ w ∈ u_ws RX9 TX9 16, w ∈ lwG := in_pos _ [209, 211, 213, 215, 217, 219, 221, 223, 225, 227, 229, 231, 233, 235, 237, 239] (by decide +kernel) (by decide +kernel)
set_option maxRecDepth 100000 in
theorem inX10 : ∀ w ∈ u_ws RX10 TX10 9, w ∈ lwG := in_pos _ [558, 560, 562, 564, 566, 568, 570, 572, 574] (by decide +kernel) (by decide +kernel)
set_option maxRecDepth 100000 in
theorem inX11 : ∀ w ∈ u_ws RX11 TX11 19, w ∈ lwG := in_pos _ [647, 649, 651, 653, 655, 657, 659, 661, 663, 665, 667, 669, 671, 673, 675, 677, 679, 681, 683] (by decide +kernel) (by decide +kernel)
set_option maxRecDepth 100000 in
theorem inX12 : ∀ w ∈ u_ws RX12 TX12 52, w ∈ lwG := in_pos _ [1485, 1487, 1489, 1491, 1493, 1495, 1497, 1499, 1501, 1503, 1505, 1507, 1509, 1511, 1513, 1515, 1517, 1519, 1521, 1523, 1525, 1527, 1529, 1531, 1533, 1535, 1537, 1539, 1541, 1543, 1545, 1547, 1549, 1551, 1553, 1555, 1557, 1559, 1561, 1563, 1565, 1567, 1569, 1571, 1573, 1575, 1577, 1579, 1581, 1583, 1585, 1587] (by decide +kernel) (by decide +kernel)
/-- of each class: its words are in the tables, its fields have names of their own and types -/
def CTQ (q : vw_C) : Prop := (∀ w ∈ u_ws q.1 q.2.1 q.2.2, w ∈ lwG) ∧ (∀ a, a < q.2.2 → ∀ b, b < q.2.2 → a ≠ b → (q.2.1 a).2.1 ≠ (q.2.1 b).2.1) ∧ ∃ ty : Nat → FieldType, ∀ k, k < q.2.2 → parseFieldDescriptor (q.2.1 k).2.2.1 = some (ty k)
theorem ct_all : ∀ q ∈ classes, CTQ q := by
  intro q hq
  simp only [classes, List.mem_cons, List.not_mem_nil, or_false] at hq
  rcases hq with rfl | rfl | rfl | rfl | rfl | rfl | rfl | rfl | rfl | rfl | rfl | rfl | rfl
  · exact ⟨inX0, nmX0, tyX0, tyX0_ok⟩
  · exact ⟨inX1, nmX1, tyX1, tyX1_ok⟩
  · exact ⟨inX2, nmX2, tyX2, tyX2_ok⟩
  · exact ⟨inX3, nmX3, tyX3, tyX3_ok⟩
  · exact ⟨inX4, nmX4, tyX4, tyX4_ok⟩
  · exact ⟨inX5, nmX5, tyX5, tyX5_ok⟩
  · exact ⟨inX6, nmX6, tyX6, tyX6_ok⟩
  · exact ⟨inX7, nmX7, tyX7, tyX7_ok⟩
  · exact ⟨inX8, nmX8, tyX8, tyX8_ok⟩
  · exact ⟨inX9, nmX9, tyX9, tyX9_ok⟩
  · exact ⟨inX10, nmX10, tyX10, tyX10_ok⟩
  · exact ⟨inX11, nmX11, tyX11, tyX11_ok⟩
  · exact ⟨inX12, nmX12, tyX12, tyX12_ok⟩
/-- a field's link: in class 'own', entry 'idx' is field k of class c -/
def FL (own : String) (idx c k : Nat) : Prop := ∃ q : vw_C, classes[c]? = some q ∧ q.2.2 = fN c ∧ k < fN c ∧ Cond.fieldLink own idx (q.2.1 k).1 (q.2.1 k).2.1 (q.2.1 k).2.2.1 ∈ lwG
/-- and what is said of it for a store -/
def FP (own : String) (idx c k : Nat) (fin : Bool) (ty : FieldType) : Prop := ∃ q : vw_C, classes[c]? = some q ∧ q.2.2 = fN c ∧ k < fN c ∧ Cond.fieldLink own idx (q.2.1 k).1 (q.2.1 k).2.1 (q.2.1 k).2.2.1 ∈ lwG ∧ (q.2.1 k).2.2.2 = fin ∧ parseFieldDescriptor (q.2.1 k).2.2.1 = some ty ∧ (fin = true → (q.2.1 k).1 = own)
theorem vp_Vr {f : Nat → Value} {n j : Nat} (h : j < n) : f j = vp_V ((List.range n).map f) j := by
  unfold vp_V
  rw [List.getD_eq_getElem?_getD, List.getElem?_map, List.getElem?_range h]
  rfl
section
variable {E : GE} {R : Room} {X : MI} {Qf : QF} {c0 s0 : Nat} {δ : Dl} {i : IM} {l : LM} {pc pc' : Nat} {L : List (Nat × MV)} {st : List MV}
theorem g_get {idx a c k : Nat} {v : MV} (hF : FL X.1.cls idx c k) (hs : δ.2.1 a = some (.inr c)) (hv : cV E i l δ.2.2 a (fKd c k) k = emb E v) (hd : decode X.2.1 pc = .ok (.getfield idx, 3)) (hp : pc + 3 = pc') (kk : (∀ a j, rg (i a j)) → G E R X Qf c0 s0 δ i l pc' L (v :: st)) : G E R X Qf c0 s0 δ i l pc L (vR (some a) :: st) := by
  subst hp
  intro p e s m args below meth cd H locs ls hk hl hR hS
  obtain ⟨q, hc, hN, hkN, hw⟩ := hF
  have hts := hk.2.2.2.2.2.2.1
  have hct := ct_all q (List.mem_of_getElem? hc)
  have hob := rep_obj hR hs
  refine va_get (D := E.2.1) (cl := classes) (ci := c) (fs := (List.range (fN c)).map (fun j => cV E i l δ.2.2 a (fKd c j) j)) (ws := [(gRho E a, .inr (c, (List.range (fN c)).map (fun j => cV E i l δ.2.2 a (fKd c j) j)))]) (T := q.2.1) (N := q.2.2) (C := q.1) hk.1 hk.2.1 hts hct.1 hk.2.2.2.2.2.1 hk.2.2.2.2.2.2.2.1.1 ?_ 0 rfl hc k (by rw [hN]; exact hkN) (hts _ hw) (fun _ h9 => h9) (v := emb E v) ?_ hd (kk hR.2.2.2 p e s m args below meth cd H locs ls hk hl hR hS)
  · intro z w hz
    have hz0 : z < 1 := (List.getElem?_eq_some_iff.mp hz).1
    have hz1 : z = 0 := by omega
    subst hz1
    cases hz
    exact ⟨q, hc, by rw [hN]; exact hob.to (fun j hj => vp_Vr (f := fun j => cV E i l δ.2.2 a (fKd c j) j) hj)⟩
  · rw [List.getElem?_map, List.getElem?_range hkN]
    exact congrArg some hv
theorem g_getI {idx a c k : Nat} {z : Int} (hz : ((k : Nat) : Int) = z) (hF : FL X.1.cls idx c k) (hs : δ.2.1 a = some (.inr c)) (ht : (fKd c k == 0 || fKd c k == 3) = true) (hd : decode X.2.1 pc = .ok (.getfield idx, 3)) (hp : pc + 3 = pc') (kk : rg (i a z) → G E R X Qf c0 s0 δ i l pc' L (vI (i a z) :: st)) : G E R X Qf c0 s0 δ i l pc L (vR (some a) :: st) := by
  subst hz
  refine g_get hF hs (v := vI (i a k)) ?_ hd hp (fun h => kk (h _ _))
  rw [Bool.or_eq_true, beq_iff_eq, beq_iff_eq] at ht
  unfold cV
  rcases ht with h | h <;> rw [h] <;> rfl
theorem g_getL {idx a c k : Nat} {z : Int} (hz : ((k : Nat) : Int) = z) (hF : FL X.1.cls idx c k) (hs : δ.2.1 a = some (.inr c)) (ht : (fKd c k == 1) = true) (hd : decode X.2.1 pc = .ok (.getfield idx, 3)) (hp : pc + 3 = pc') (kk : G E R X Qf c0 s0 δ i l pc' L (vL (l a z) :: st)) : G E R X Qf c0 s0 δ i l pc L (vR (some a) :: st) := by
  subst hz
  refine g_get hF hs (v := vL (l a k)) ?_ hd hp (fun _ => kk)
  rw [beq_iff_eq] at ht
  unfold cV
  rw [ht]
  rfl
theorem g_getR {idx a c k : Nat} {o : Option Nat} (hF : FL X.1.cls idx c k) (hs : δ.2.1 a = some (.inr c)) (ht : (fKd c k == 2) = true) (ho : δ.2.2 a k = o) (hd : decode X.2.1 pc = .ok (.getfield idx, 3)) (hp : pc + 3 = pc') (kk : G E R X Qf c0 s0 δ i l pc' L (vR o :: st)) : G E R X Qf c0 s0 δ i l pc L (vR (some a) :: st) := by
  refine g_get hF hs (v := vR o) ?_ hd hp (fun _ => kk)
  rw [beq_iff_eq] at ht
  unfold cV
  rw [ht, ho]
  rfl
theorem g_put {idx a c k : Nat} {v : MV} {fin : Bool} {ty : FieldType} {i' : IM} {l' : LM} {r' : RM} (hF : FP X.1.cls idx c k fin ty) (hs : δ.2.1 a = some (.inr c)) (hi0 : fin = true → X.1.name = "<init>") (hn : narrow ty (emb E v) = emb E v) (hfit : fits ty (emb E v) = true)
    (hnew : ∀ j, j < fN c → cV E i' l' r' a (fKd c j) j = if j = k then emb E v else cV E i l δ.2.2 a (fKd c j) j) (ho : ∀ b, b ≠ a → i' b = i b ∧ l' b = l b ∧ r' b = δ.2.2 b) (hg : (∀ a j, rg (i a j)) → ∀ a j, rg (i' a j))
    (hd : decode X.2.1 pc = .ok (.putfield idx, 3)) (hp : pc + 3 = pc') (kk : G E R X Qf c0 s0 (δ.1, δ.2.1, r') i' l' pc' L st) : G E R X Qf c0 s0 δ i l pc L (v :: vR (some a) :: st) := by
  subst hp
  intro p e s m args below meth cd H locs ls hk hl hR hS
  obtain ⟨q, hc, hN, hkN, hw, hfin, hdsc, hdcl⟩ := hF
  have hts := hk.2.2.2.2.2.2.1
  have hown := hk.2.2.2.2.2.1
  have hK := hk.2.2.2.2.2.2.2.1.1
  obtain ⟨hin, hnm, ty0, hty⟩ := ct_all q (List.mem_of_getElem? hc)
  have hap := va_apart (own := X.1.cls) hts hin ty0 hty hnm hK hc
  obtain ⟨cell, q1, q2, q3, q4⟩ := rep_obj hR hs
  obtain ⟨hSl, hfc, kC, hkC, hkind⟩ := hK.1 c _ hc
  have hkN' : k < q.2.2 := by rw [hN]; exact hkN
  obtain ⟨cf, kf, fi, f, hi, hsl⟩ := hSl k hkN'
  have hlay := hts _ (hin _ (u_in_lay hkN'))
  have hst := (u_facts hfc hkC (u_lays hts hin hkN') hi).1
  have ha := (hR.2.2.1 a _ hs).1
  have fin_ : ∀ H' : Heap, H'[gRho E a]? = some (cell.setSlot (E.2.1.2 c k) (emb E v)) → H'.size = H.size → (∀ x, x ≠ gRho E a → H'[x]? = H[x]?) → Rep E (δ.1, δ.2.1, r') i' l' H' := by
    intro H' e1 e2 e3
    refine rep_put hR hs e2 e3 ⟨_, e1, q2, q3, fun j hj => ?_⟩ ho (hg hR.2.2.2)
    have h9 := t_set (V := fun j => cV E i l δ.2.2 a (fKd c j) j) q4 (fun x y hx hy => hap x y (by rw [hN]; exact hx) (by rw [hN]; exact hy)) hkN (emb E v) j hj
    rw [h9]
    refine congrArg some ?_
    show _ = cV E i' l' r' a (fKd c j) j
    rw [hnew j hj]
    rfl
  cases fin with
  | false =>
    unfold u_lay at hlay
    rw [if_neg (by rw [hfin]; decide)] at hlay
    have h6 := u_store hfc hkC hkind hlay hi hdsc hn hfit
    refine W.putK hk.1 hk.2.1 (f := f) ⟨hown, hts _ hw, ⟨_, _, _, hi⟩, hst⟩ (by rw [q2]; exact h6) q1 q3 (by rw [hsl]; exact k2_hasslot (q4 k hkN)) rfl rfl hd fun H' e1 e2 e3 => ?_
    rw [hsl] at e1
    exact kk p e s m args below meth cd H' _ ls hk hl (fin_ H' e1 e2 e3) (va_S_put hS ha e2 e3)
  | true =>
    unfold u_lay at hlay
    rw [if_pos hfin] at hlay
    have hcf : m.cls = cf := by
      obtain ⟨_, _, c', _, _, _, -, -, hf', -, -, -, hown2, -⟩ := Cond.laysFinal_spec hlay
      have e1 : c' = cf := by have := hi.symm.trans hf'; simp at this; exact this.1.symm
      rw [hdcl rfl] at hown2
      rw [← e1]; exact Option.some.inj (hown.symm.trans hown2)
    have h6 := u_fits hfc hkC hkind (Or.inr hlay) hi hdsc hn hfit
    refine W.putFinK hk.1 hk.2.1 hown (hts _ hw) hi hst hcf (hk.2.2.2.2.2.2.2.2.2.trans (hi0 rfl)) (by rw [q2]; exact h6) q1 q3 (by rw [hsl]; exact k2_hasslot (q4 k hkN)) rfl rfl hd fun H' e1 e2 e3 => ?_
    rw [hsl] at e1
    exact kk p e s m args below meth cd H' _ ls hk hl (fin_ H' e1 e2 e3) (va_S_put hS ha e2 e3)
theorem cV_u2 {r : RM} {a co k j : Nat} {v : Int} (hco : co = 0 ∨ co = 3) : cV E (u2 i a k v) l r a co j = if j = k then .int (Int32.ofInt v) else cV E i l r a co j := by
  unfold cV u2
  rcases hco with h | h <;> subst h <;> by_cases hj : j = k
  · subst hj; simp
  · have : ¬ (j : Int) = (k : Int) := by omega
    simp [hj, this]
  · subst hj; simp
  · have : ¬ (j : Int) = (k : Int) := by omega
    simp [hj, this]
theorem cV_nu2 {r : RM} {a co k j : Nat} {v : Int} (hj : j ≠ k) : cV E (u2 i a k v) l r a co j = cV E i l r a co j := by
  unfold cV u2
  have : ¬ (j : Int) = (k : Int) := by omega
  simp [this]
theorem cV_nu2l {r : RM} {a co k j : Nat} {v : Int64} (hj : j ≠ k) : cV E i (u2l l a k v) r a co j = cV E i l r a co j := by
  unfold cV u2l
  have : ¬ (j : Int) = (k : Int) := by omega
  simp [this]
theorem cV_nu2r {r : RM} {a co k j : Nat} {v : Option Nat} (hj : j ≠ k) : cV E i l (u2r r a k v) a co j = cV E i l r a co j := by
  unfold cV u2r
  have : ¬ (j : Int) = (k : Int) := by omega
  simp [this]
theorem g_putI {idx a c k : Nat} {v z : Int} (hz : ((k : Nat) : Int) = z) (hF : FP X.1.cls idx c k false .int) (hs : δ.2.1 a = some (.inr c)) (ht : (fKd c k == 0) = true) (hv : rg v) (hd : decode X.2.1 pc = .ok (.putfield idx, 3)) (hp : pc + 3 = pc') (kk : G E R X Qf c0 s0 δ (u2 i a z v) l pc' L st) : G E R X Qf c0 s0 δ i l pc L (vI v :: vR (some a) :: st) := by
  subst hz
  rw [beq_iff_eq] at ht
  refine g_put (i' := u2 i a k v) (l' := l) (r' := δ.2.2) hF hs (fun h => by cases h) rfl rfl (fun j hj => ?_) (fun b hb => ⟨u2_other i _ _ hb, rfl, rfl⟩) (fun h => rg_u2 h hv) hd hp kk
  by_cases hjk : j = k
  · subst hjk; rw [cV_u2 (Or.inl ht)]; rfl
  · rw [cV_nu2 hjk, if_neg hjk]
theorem g_putZ {idx a c k : Nat} {v z : Int} (hz : ((k : Nat) : Int) = z) (hF : FP X.1.cls idx c k false .boolean) (hs : δ.2.1 a = some (.inr c)) (ht : (fKd c k == 3) = true) (hv : v = 0 ∨ v = 1) (hd : decode X.2.1 pc = .ok (.putfield idx, 3)) (hp : pc + 3 = pc') (kk : G E R X Qf c0 s0 δ (u2 i a z v) l pc' L st) : G E R X Qf c0 s0 δ i l pc L (vI v :: vR (some a) :: st) := by
  subst hz
  rw [beq_iff_eq] at ht
  refine g_put (i' := u2 i a k v) (l' := l) (r' := δ.2.2) hF hs (fun h => by cases h) ?_ ?_ (fun j hj => ?_) (fun b hb => ⟨u2_other i _ _ hb, rfl, rfl⟩) (fun h => rg_u2 h (by rcases hv with h | h <;> rw [h] <;> exact ⟨by omega, by omega⟩)) hd hp kk
  · rcases hv with h | h <;> subst h <;> rfl
  · rcases hv with h | h <;> subst h <;> rfl
  · by_cases hjk : j = k
    · subst hjk; rw [cV_u2 (Or.inr ht)]; rfl
    · rw [cV_nu2 hjk, if_neg hjk]
theorem g_putL {idx a c k : Nat} {v : Int64} {z : Int} (hz : ((k : Nat) : Int) = z) (hF : FP X.1.cls idx c k false .long) (hs : δ.2.1 a = some (.inr c)) (ht : (fKd c k == 1) = true) (hd : decode X.2.1 pc = .ok (.putfield idx, 3)) (hp : pc + 3 = pc') (kk : G E R X Qf c0 s0 δ i (u2l l a z v) pc' L st) : G E R X Qf c0 s0 δ i l pc L (vL v :: vR (some a) :: st) := by
  subst hz
  rw [beq_iff_eq] at ht
  refine g_put (i' := i) (l' := u2l l a k v) (r' := δ.2.2) hF hs (fun h => by cases h) rfl rfl (fun j hj => ?_) (fun b hb => ⟨rfl, u2l_other l _ _ hb, rfl⟩) (fun h => h) hd hp kk
  by_cases hjk : j = k
  · subst hjk
    unfold cV u2l
    rw [ht]
    simp [emb]
  · rw [cV_nu2l hjk, if_neg hjk]
/-- a reference into a final field, in a constructor -/
theorem g_putR {idx a c k : Nat} {v : Option Nat} {ty : FieldType} (hF : FP X.1.cls idx c k true ty) (hi0 : X.1.name = "<init>") (hty : ty.isReference = true) (hs : δ.2.1 a = some (.inr c)) (ht : (fKd c k == 2) = true) (hd : decode X.2.1 pc = .ok (.putfield idx, 3)) (hp : pc + 3 = pc') (kk : G E R X Qf c0 s0 (δ.1, δ.2.1, u2r δ.2.2 a k v) i l pc' L st) : G E R X Qf c0 s0 δ i l pc L (vR v :: vR (some a) :: st) := by
  rw [beq_iff_eq] at ht
  refine g_put (i' := i) (l' := l) (r' := u2r δ.2.2 a k v) hF hs (fun _ => hi0) ?_ ?_ (fun j hj => ?_) (fun b hb => ⟨rfl, rfl, u2r_other δ.2.2 _ _ hb⟩) (fun h => h) hd hp kk
  · cases v <;> cases ty <;> first | rfl | cases hty
  · cases v <;> cases ty <;> first | rfl | cases hty
  by_cases hjk : j = k
  · subst hjk
    unfold cV u2r
    rw [ht]
    simp [emb]
  · rw [cV_nu2r hjk, if_neg hjk]
theorem gx_size (c n : Nat) (f : Nat → Value) {j : Int} (h0 : 0 ≤ j) (h1 : j < n) (hn : n < 2147483648) : ¬ (Int32.ofInt j < 0 ∨ (arrV c n f).slots.size ≤ (Int32.ofInt j).toNatClampNeg) := by
  rw [arrV_size]
  exact rg_in h0 h1 hn
theorem gx_read (c n : Nat) (f : Nat → Value) {j : Int} (h0 : 0 ≤ j) (h1 : j < n) (hn : n < 2147483648) : (arrV c n f).slots[(Int32.ofInt j).toNatClampNeg]? = some (f j.toNat) := by
  rw [rg_clamp h0 (by omega), arrV_read _ _ (by omega)]
theorem g_iald {a n : Nat} {j : Int} (hs : δ.2.1 a = some (.inl (0, n))) {N : Int} (hN : ((n : Nat) : Int) = N) (hn : n < 2147483648) (h0 : 0 ≤ j ∧ j < N) (hd : decode X.2.1 pc = .ok (.iaload, 1)) (hp : pc + 1 = pc') (kk : rg (i a j) → G E R X Qf c0 s0 δ i l pc' L (vI (i a j) :: st)) : G E R X Qf c0 s0 δ i l pc L (vI j :: vR (some a) :: st) := by
  subst hp
  subst hN
  intro p e s m args below meth cd H locs ls hk hl hR hS
  have hc := rep_arr hR hs
  refine W.iald (v := emb E (vI (i a j))) hk.1 hk.2.1 hc (known_arr hk.2.2.2.2.2.2.2.1 (kd := 0) (by decide) n _) (fun q => by cases q) (gx_size _ _ _ h0.1 h0.2 hn) ?_ rfl rfl hd (kk (hR.2.2.2 _ _) p e s m args below meth cd H locs ls hk hl hR hS)
  rw [gx_read _ _ _ h0.1 h0.2 hn]
  have e1 : ((j.toNat : Nat) : Int) = j := Int.toNat_of_nonneg h0.1
  unfold cV
  simp [kCo, e1, emb]
theorem g_zald {a n : Nat} {j : Int} (hs : δ.2.1 a = some (.inl (2, n))) {N : Int} (hN : ((n : Nat) : Int) = N) (hn : n < 2147483648) (h0 : 0 ≤ j ∧ j < N) (hd : decode X.2.1 pc = .ok (.baload, 1)) (hp : pc + 1 = pc') (kk : rg (i a j) → G E R X Qf c0 s0 δ i l pc' L (vI (i a j) :: st)) : G E R X Qf c0 s0 δ i l pc L (vI j :: vR (some a) :: st) := by
  subst hp
  subst hN
  intro p e s m args below meth cd H locs ls hk hl hR hS
  have hc := rep_arr hR hs
  refine W.zald (v := emb E (vI (i a j))) hk.1 hk.2.1 hc (known_arr hk.2.2.2.2.2.2.2.1 (kd := 2) (by decide) n _) (fun q => by cases q) (gx_size _ _ _ h0.1 h0.2 hn) ?_ rfl rfl hd (kk (hR.2.2.2 _ _) p e s m args below meth cd H locs ls hk hl hR hS)
  rw [gx_read _ _ _ h0.1 h0.2 hn]
  have e1 : ((j.toNat : Nat) : Int) = j := Int.toNat_of_nonneg h0.1
  unfold cV
  simp [kCo, e1, emb]
theorem g_bald {a n : Nat} {j : Int} (hs : δ.2.1 a = some (.inl (3, n))) {N : Int} (hN : ((n : Nat) : Int) = N) (hn : n < 2147483648) (h0 : 0 ≤ j ∧ j < N) (hd : decode X.2.1 pc = .ok (.baload, 1)) (hp : pc + 1 = pc') (kk : rg (i a j) → G E R X Qf c0 s0 δ i l pc' L (vI (i a j) :: st)) : G E R X Qf c0 s0 δ i l pc L (vI j :: vR (some a) :: st) := by
  subst hp
  subst hN
  intro p e s m args below meth cd H locs ls hk hl hR hS
  have hc := rep_arr hR hs
  refine W.bald (v := emb E (vI (i a j))) hk.1 hk.2.1 hc (known_arr hk.2.2.2.2.2.2.2.1 (kd := 3) (by decide) n _) (fun q => by cases q) (gx_size _ _ _ h0.1 h0.2 hn) ?_ rfl rfl hd (kk (hR.2.2.2 _ _) p e s m args below meth cd H locs ls hk hl hR hS)
  rw [gx_read _ _ _ h0.1 h0.2 hn]
  have e1 : ((j.toNat : Nat) : Int) = j := Int.toNat_of_nonneg h0.1
  unfold cV
  simp [kCo, e1, emb]
theorem g_lald {a n : Nat} {j : Int} (hs : δ.2.1 a = some (.inl (1, n))) {N : Int} (hN : ((n : Nat) : Int) = N) (hn : n < 2147483648) (h0 : 0 ≤ j ∧ j < N) (hd : decode X.2.1 pc = .ok (.laload, 1)) (hp : pc + 1 = pc') (kk : G E R X Qf c0 s0 δ i l pc' L (vL (l a j) :: st)) : G E R X Qf c0 s0 δ i l pc L (vI j :: vR (some a) :: st) := by
  subst hp
  subst hN
  intro p e s m args below meth cd H locs ls hk hl hR hS
  have hc := rep_arr hR hs
  refine W.lald (v := emb E (vL (l a j))) hk.1 hk.2.1 hc (known_arr hk.2.2.2.2.2.2.2.1 (kd := 1) (by decide) n _) (fun q => by cases q) (gx_size _ _ _ h0.1 h0.2 hn) ?_ rfl rfl hd (kk p e s m args below meth cd H locs ls hk hl hR hS)
  rw [gx_read _ _ _ h0.1 h0.2 hn]
  have e1 : ((j.toNat : Nat) : Int) = j := Int.toNat_of_nonneg h0.1
  unfold cV
  simp [kCo, e1, emb]
theorem g_aald {a n kd : Nat} {j : Int} {o : Option Nat} (hs : δ.2.1 a = some (.inl (kd, n))) (hkd : kd = 4 ∨ kd = 5) {N : Int} (hN : ((n : Nat) : Int) = N) (hn : n < 2147483648) (h0 : 0 ≤ j ∧ j < N) (ho : δ.2.2 a j = o) (hd : decode X.2.1 pc = .ok (.aaload, 1)) (hp : pc + 1 = pc') (kk : G E R X Qf c0 s0 δ i l pc' L (vR o :: st)) : G E R X Qf c0 s0 δ i l pc L (vI j :: vR (some a) :: st) := by
  subst hp
  subst hN
  intro p e s m args below meth cd H locs ls hk hl hR hS
  have hc := rep_arr hR hs
  refine W.aald (v := emb E (vR o)) (ty := kTy kd) hk.1 hk.2.1 hc (known_arr hk.2.2.2.2.2.2.2.1 (kd := kd) (by omega) n _) (by rcases hkd with h | h <;> subst h <;> rfl) (fun q => by cases q) (gx_size _ _ _ h0.1 h0.2 hn) ?_ rfl rfl hd (kk p e s m args below meth cd H locs ls hk hl hR hS)
  rw [gx_read _ _ _ h0.1 h0.2 hn]
  have e1 : ((j.toNat : Nat) : Int) = j := Int.toNat_of_nonneg h0.1
  unfold cV
  rcases hkd with h | h <;> subst h <;> simp [kCo, e1, emb, ho]
theorem g_iast {a n : Nat} {j : Int} {v : Int} (hs : δ.2.1 a = some (.inl (0, n))) {N : Int} (hN : ((n : Nat) : Int) = N) (hn : n < 2147483648) (h0 : 0 ≤ j ∧ j < N) (hv : rg v) (hd : decode X.2.1 pc = .ok (.iastore, 1)) (hp : pc + 1 = pc') (kk : G E R X Qf c0 s0 δ (u2 i a j v) l pc' L st) : G E R X Qf c0 s0 δ i l pc L (vI v :: vI j :: vR (some a) :: st) := by
  subst hp
  subst hN
  intro p e s m args below meth cd H locs ls hk hl hR hS
  have hc := rep_arr hR hs
  have ha := (hR.2.2.1 a _ hs).1
  have e1 : ((j.toNat : Nat) : Int) = j := Int.toNat_of_nonneg h0.1
  refine W.iast hk.1 hk.2.1 hc (known_arr hk.2.2.2.2.2.2.2.1 (kd := 0) (by decide) n _) (fun q => by cases q) (gx_size _ _ _ h0.1 h0.2 hn) rfl rfl hd fun H1 z1 z2 z3 => ?_
  refine kk p e s m args below meth cd H1 _ ls hk hl (rep_put hR hs z2 z3 ?_ (fun b hb => ⟨u2_other i _ _ hb, rfl, rfl⟩) (rg_u2 hR.2.2.2 hv)) (va_S_put hS ha z2 z3)
  show H1[gRho E a]? = _
  rw [z1, arrV_store, rg_clamp h0.1 (by omega)]
  congr 2
  funext x
  unfold cV
  by_cases hx : x = j.toNat
  · have hx2 : (x : Int) = j := by omega
    simp only [updV, if_pos hx]
    simp [kCo, u2, hx2]
  · have hx2 : ¬ (x : Int) = j := by omega
    simp only [updV, if_neg hx]
    simp [kCo, u2, hx2]
theorem g_bast {a n : Nat} {j : Int} {v : Int} (hs : δ.2.1 a = some (.inl (3, n))) {N : Int} (hN : ((n : Nat) : Int) = N) (hn : n < 2147483648) (h0 : 0 ≤ j ∧ j < N) (hd : decode X.2.1 pc = .ok (.bastore, 1)) (hp : pc + 1 = pc') (kk : G E R X Qf c0 s0 δ (u2 i a j (i8 v)) l pc' L st) : G E R X Qf c0 s0 δ i l pc L (vI v :: vI j :: vR (some a) :: st) := by
  subst hp
  subst hN
  intro p e s m args below meth cd H locs ls hk hl hR hS
  have hc := rep_arr hR hs
  have ha := (hR.2.2.1 a _ hs).1
  have e1 : ((j.toNat : Nat) : Int) = j := Int.toNat_of_nonneg h0.1
  refine W.bast hk.1 hk.2.1 hc (known_arr hk.2.2.2.2.2.2.2.1 (kd := 3) (by decide) n _) (fun q => by cases q) (gx_size _ _ _ h0.1 h0.2 hn) rfl rfl hd fun H1 z1 z2 z3 => ?_
  refine kk p e s m args below meth cd H1 _ ls hk hl (rep_put hR hs z2 z3 ?_ (fun b hb => ⟨u2_other i _ _ hb, rfl, rfl⟩) (rg_u2 hR.2.2.2 (rg_i8 v))) (va_S_put hS ha z2 z3)
  show H1[gRho E a]? = _
  rw [z1, arrV_store, rg_clamp h0.1 (by omega)]
  congr 2
  funext x
  unfold cV
  by_cases hx : x = j.toNat
  · have hx2 : (x : Int) = j := by omega
    simp only [updV, if_pos hx, narrow_byte]
    have e2 : u2 i a j (i8 v) a (x : Int) = i8 v := by rw [hx2]; exact u2_self _ _ _ _
    rw [e2]
    show _ = Value.int (Int32.ofInt (i8 v))
    unfold i8
    rw [Int32.ofInt_toInt]
  · have hx2 : ¬ (x : Int) = j := by omega
    simp only [updV, if_neg hx]
    simp [kCo, u2, hx2]
theorem g_zast {a n : Nat} {j : Int} {v : Int} (hs : δ.2.1 a = some (.inl (2, n))) {N : Int} (hN : ((n : Nat) : Int) = N) (hn : n < 2147483648) (h0 : 0 ≤ j ∧ j < N) (hv : v = 0 ∨ v = 1) (hd : decode X.2.1 pc = .ok (.bastore, 1)) (hp : pc + 1 = pc') (kk : G E R X Qf c0 s0 δ (u2 i a j v) l pc' L st) : G E R X Qf c0 s0 δ i l pc L (vI v :: vI j :: vR (some a) :: st) := by
  subst hp
  subst hN
  intro p e s m args below meth cd H locs ls hk hl hR hS
  have hc := rep_arr hR hs
  have ha := (hR.2.2.1 a _ hs).1
  have e1 : ((j.toNat : Nat) : Int) = j := Int.toNat_of_nonneg h0.1
  refine W.zast hk.1 hk.2.1 hc (known_arr hk.2.2.2.2.2.2.2.1 (kd := 2) (by decide) n _) (fun q => by cases q) (gx_size _ _ _ h0.1 h0.2 hn) rfl rfl hd fun H1 z1 z2 z3 => ?_
  refine kk p e s m args below meth cd H1 _ ls hk hl (rep_put hR hs z2 z3 ?_ (fun b hb => ⟨u2_other i _ _ hb, rfl, rfl⟩) (rg_u2 hR.2.2.2 (by rcases hv with h | h <;> rw [h] <;> exact ⟨by omega, by omega⟩))) (va_S_put hS ha z2 z3)
  show H1[gRho E a]? = _
  rw [z1, arrV_store, rg_clamp h0.1 (by omega)]
  congr 2
  funext x
  unfold cV
  by_cases hx : x = j.toNat
  · have hx2 : (x : Int) = j := by omega
    simp only [updV, if_pos hx]
    rcases hv with h | h <;> subst h <;> simp [kCo, u2, hx2] <;> rfl
  · have hx2 : ¬ (x : Int) = j := by omega
    simp only [updV, if_neg hx]
    simp [kCo, u2, hx2]
theorem g_last {a n : Nat} {j : Int} {v : Int64} (hs : δ.2.1 a = some (.inl (1, n))) {N : Int} (hN : ((n : Nat) : Int) = N) (hn : n < 2147483648) (h0 : 0 ≤ j ∧ j < N) (hd : decode X.2.1 pc = .ok (.lastore, 1)) (hp : pc + 1 = pc') (kk : G E R X Qf c0 s0 δ i (u2l l a j v) pc' L st) : G E R X Qf c0 s0 δ i l pc L (vL v :: vI j :: vR (some a) :: st) := by
  subst hp
  subst hN
  intro p e s m args below meth cd H locs ls hk hl hR hS
  have hc := rep_arr hR hs
  have ha := (hR.2.2.1 a _ hs).1
  have e1 : ((j.toNat : Nat) : Int) = j := Int.toNat_of_nonneg h0.1
  refine W.last hk.1 hk.2.1 hc (known_arr hk.2.2.2.2.2.2.2.1 (kd := 1) (by decide) n _) (fun q => by cases q) (gx_size _ _ _ h0.1 h0.2 hn) rfl rfl hd fun H1 z1 z2 z3 => ?_
  refine kk p e s m args below meth cd H1 _ ls hk hl (rep_put hR hs z2 z3 ?_ (fun b hb => ⟨rfl, u2l_other l _ _ hb, rfl⟩) (hR.2.2.2)) (va_S_put hS ha z2 z3)
  show H1[gRho E a]? = _
  rw [z1, arrV_store, rg_clamp h0.1 (by omega)]
  congr 2
  funext x
  unfold cV
  by_cases hx : x = j.toNat
  · have hx2 : (x : Int) = j := by omega
    simp only [updV, if_pos hx]
    simp [kCo, u2l, hx2]
  · have hx2 : ¬ (x : Int) = j := by omega
    simp only [updV, if_neg hx]
    simp [kCo, u2l, hx2]
theorem g_alen {a n kd : Nat} {N : Int} (hN : ((n : Nat) : Int) = N) (hs : δ.2.1 a = some (.inl (kd, n))) (hkd : kd < 6) (hd : decode X.2.1 pc = .ok (.arraylength, 1)) (hp : pc + 1 = pc') (kk : G E R X Qf c0 s0 δ i l pc' L (vI N :: st)) : G E R X Qf c0 s0 δ i l pc L (vR (some a) :: st) := by
  subst hp
  subst hN
  intro p e s m args below meth cd H locs ls hk hl hR hS
  have hc := rep_arr hR hs
  refine W.alen (n := Int32.ofInt n) hk.1 hk.2.1 hc (known_arr hk.2.2.2.2.2.2.2.1 hkd n _) ?_ rfl rfl hd (kk p e s m args below meth cd H locs ls hk hl hR hS)
  rw [arrV_size, Int32.ofInt_eq_ofNat]
end
