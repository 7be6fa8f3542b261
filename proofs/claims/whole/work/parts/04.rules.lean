/-! RULES, one an instruction: those that leave memory alone -/
theorem gL_at {E : GE} {L : List (Nat × MV)} {p0 k : Nat} {v : MV} (h : L[p0]? = some (k, v)) : (gL E L)[p0]? = some (k, emb E v) := by
  unfold gL
  rw [List.getElem?_map, h]
  rfl
def isLg (v : MV) : Bool := match v with
  | .inr (.inl _) => true
  | _ => false
theorem emb_cat (E : GE) (v : MV) : ((emb E v).category == 2) = isLg v := by
  rcases v with x | x | o
  · rfl
  · rfl
  · cases o <;> rfl
def stL1 (k : Nat) (v : MV) (L : List (Nat × MV)) : List (Nat × MV) := (k, v) :: L.filter (fun q => !(q.1 == k) && !(q.1 + 1 == k && isLg q.2))
def stL2 (k : Nat) (v : MV) (L : List (Nat × MV)) : List (Nat × MV) := (k, v) :: L.filter (fun q => !(q.1 == k) && (!(q.1 == k + 1) && !(q.1 + 1 == k && isLg q.2)))
theorem gL_st1 (E : GE) (k : Nat) (v : MV) (L : List (Nat × MV)) : (k, emb E v) :: (gL E L).filter (fun q => !(q.1 == k) && !(q.1 + 1 == k && q.2.category == 2)) = gL E (stL1 k v L) := by
  unfold gL stL1
  rw [List.map_cons, List.filter_map]
  congr 3
  funext q
  simp only [Function.comp, emb_cat]
theorem gL_st2 (E : GE) (k : Nat) (v : MV) (L : List (Nat × MV)) : (k, emb E v) :: (gL E L).filter (fun q => !(q.1 == k) && (!(q.1 == k + 1) && !(q.1 + 1 == k && q.2.category == 2))) = gL E (stL2 k v L) := by
  unfold gL stL2
  rw [List.map_cons, List.filter_map]
  congr 3
  funext q
  simp only [Function.comp, emb_cat]
theorem bip {n : Int} (h : decide (-128 ≤ n ∧ n ≤ 127) = true) : (Int8.ofInt n).toInt32 = Int32.ofInt n := by
  have h := of_decide_eq_true h
  rw [← Int32.toInt_inj, Int8.toInt_toInt32, Int8.toInt_ofInt_of_le (by omega) (by omega), Int32.toInt_ofInt_of_le (by omega) (by omega)]
theorem sip {n : Int} (h : decide (-32768 ≤ n ∧ n ≤ 32767) = true) : (Int16.ofInt n).toInt32 = Int32.ofInt n := by
  have h := of_decide_eq_true h
  rw [← Int32.toInt_inj, Int16.toInt_toInt32, Int16.toInt_ofInt_of_le (by omega) (by omega), Int32.toInt_ofInt_of_le (by omega) (by omega)]
def lcmpI (x y : Int64) : Int := if y < x then 1 else if x = y then 0 else -1
theorem lcmpI_of (x y : Int64) : Int32.ofInt (lcmpI x y) = lg_cmp x y := by
  unfold lcmpI lg_cmp
  simp only [gt_iff_lt]
  split
  · rfl
  · split <;> rfl
theorem lcmpI_tri (x y : Int64) : (x < y ∧ lcmpI x y = -1) ∨ (x = y ∧ lcmpI x y = 0) ∨ (y < x ∧ lcmpI x y = 1) := by
  unfold lcmpI
  by_cases h1 : y < x
  · rw [if_pos h1]; exact Or.inr (Or.inr ⟨h1, rfl⟩)
  · rw [if_neg h1]
    by_cases h2 : x = y
    · rw [if_pos h2]; exact Or.inr (Or.inl ⟨h2, rfl⟩)
    · rw [if_neg h2]
      refine Or.inl ⟨?_, rfl⟩
      rw [Int64.lt_iff_toInt_lt] at h1 ⊢
      rw [← Int64.toInt_inj] at h2
      omega
theorem rg_lcmpI (x y : Int64) : rg (lcmpI x y) := by
  rcases lcmpI_tri x y with h | h | h <;> rw [h.2] <;> exact ⟨by omega, by omega⟩
theorem lcmpI_eq (x y : Int64) : lcmpI x y = 0 ↔ x = y := by
  rcases lcmpI_tri x y with ⟨h, e⟩ | ⟨h, e⟩ | ⟨h, e⟩
  · rw [e]; exact ⟨fun q => by omega, fun q => by subst q; exact (Int64.lt_irrefl h).elim⟩
  · rw [e]; exact ⟨fun _ => h, fun _ => rfl⟩
  · rw [e]; exact ⟨fun q => by omega, fun q => by subst q; exact (Int64.lt_irrefl h).elim⟩
theorem lcmpI_lt (x y : Int64) : lcmpI x y < 0 ↔ x < y := by
  rcases lcmpI_tri x y with ⟨h, e⟩ | ⟨h, e⟩ | ⟨h, e⟩
  · rw [e]; exact ⟨fun _ => h, fun _ => by omega⟩
  · rw [e]; exact ⟨fun q => by omega, fun q => by subst h; exact (Int64.lt_irrefl q).elim⟩
  · rw [e]; exact ⟨fun q => by omega, fun q => by rw [Int64.lt_iff_toInt_lt] at h q; omega⟩
theorem lcmpI_gt (x y : Int64) : 0 < lcmpI x y ↔ y < x := by
  rcases lcmpI_tri x y with ⟨h, e⟩ | ⟨h, e⟩ | ⟨h, e⟩
  · rw [e]; exact ⟨fun q => by omega, fun q => by rw [Int64.lt_iff_toInt_lt] at h q; omega⟩
  · rw [e]; exact ⟨fun q => by omega, fun q => by subst h; exact (Int64.lt_irrefl q).elim⟩
  · rw [e]; exact ⟨fun _ => h, fun _ => by omega⟩
theorem lcmpI_le (x y : Int64) : lcmpI x y ≤ 0 ↔ x ≤ y := by
  have h := lcmpI_gt x y
  rw [Int64.le_iff_toInt_le]
  rw [Int64.lt_iff_toInt_lt] at h
  omega
theorem lcmpI_ge (x y : Int64) : 0 ≤ lcmpI x y ↔ y ≤ x := by
  have h := lcmpI_lt x y
  rw [Int64.le_iff_toInt_le]
  rw [Int64.lt_iff_toInt_lt] at h
  omega
/-- a truth as an int -/
def bI (p : Prop) [Decidable p] : Int := if p then 1 else 0
theorem bI_eq (p : Prop) [Decidable p] : bI p = 0 ↔ ¬ p := by
  unfold bI
  split <;> simp [*]
theorem rg_bI (p : Prop) [Decidable p] : rg (bI p) := rg_ite ⟨by omega, by omega⟩ ⟨by omega, by omega⟩
theorem bI_01 (p : Prop) [Decidable p] : bI p = 0 ∨ bI p = 1 := by
  unfold bI
  split
  · exact Or.inr rfl
  · exact Or.inl rfl
section
variable {E : GE} {R : Room} {X : MI} {Qf : QF} {c0 s0 : Nat} {δ : Dl} {i : IM} {l : LM} {pc pc' : Nat} {L L' : List (Nat × MV)} {st : List MV}
/-- fewer locals, by their places -/
theorem g_sub (ks : List Nat) (h : ks.filterMap (fun k => L[k]?) = L') (k : G E R X Qf c0 s0 δ i l pc L' st) : G E R X Qf c0 s0 δ i l pc L st := by
  intro p e s m args below meth cd H locs ls hk hl hR hS
  refine k p e s m args below meth cd H locs ls hk (lv_sub hl ks ?_) hR hS
  subst h
  unfold lv_pick gL
  rw [List.map_filterMap]
  congr 1
  funext q
  rw [List.getElem?_map]
theorem g_iconst {n : Int} (hd : decode X.2.1 pc = .ok (.iconst n, 1)) (hp : pc + 1 = pc') (k : G E R X Qf c0 s0 δ i l pc' L (vI n :: st)) : G E R X Qf c0 s0 δ i l pc L st := by
  subst hp
  intro p e s m args below meth cd H locs ls hk hl hR hS
  exact lv_iconst hk.1 hk.2.1 hd rfl (k p e s m args below meth cd H locs ls hk hl hR hS)
theorem g_bipush {n : Int} (hd : decode X.2.1 pc = .ok (.bipush n, 2)) (hp : pc + 2 = pc') (hn : decide (-128 ≤ n ∧ n ≤ 127) = true) (k : G E R X Qf c0 s0 δ i l pc' L (vI n :: st)) : G E R X Qf c0 s0 δ i l pc L st := by
  subst hp
  intro p e s m args below meth cd H locs ls hk hl hR hS
  exact lv_bipush hk.1 hk.2.1 hd (bip hn) (k p e s m args below meth cd H locs ls hk hl hR hS)
theorem g_sipush {n : Int} (hd : decode X.2.1 pc = .ok (.sipush n, 3)) (hp : pc + 3 = pc') (hn : decide (-32768 ≤ n ∧ n ≤ 32767) = true) (k : G E R X Qf c0 s0 δ i l pc' L (vI n :: st)) : G E R X Qf c0 s0 δ i l pc L st := by
  subst hp
  intro p e s m args below meth cd H locs ls hk hl hR hS
  exact lv_sipush hk.1 hk.2.1 hd (sip hn) (k p e s m args below meth cd H locs ls hk hl hR hS)
theorem g_lconst {n : Fin 2} {v : Int64} (hd : decode X.2.1 pc = .ok (.lconst n, 1)) (hp : pc + 1 = pc') (hv : Int64.ofNat (n : Nat) = v) (k : G E R X Qf c0 s0 δ i l pc' L (vL v :: st)) : G E R X Qf c0 s0 δ i l pc L st := by
  subst hp
  intro p e s m args below meth cd H locs ls hk hl hR hS
  exact lv_lconst hk.1 hk.2.1 hd hv (k p e s m args below meth cd H locs ls hk hl hR hS)
theorem g_anull  (hd : decode X.2.1 pc = .ok (.aconst_null, 1)) (hp : pc + 1 = pc') (k : G E R X Qf c0 s0 δ i l pc' L (vR none :: st)) : G E R X Qf c0 s0 δ i l pc L st := by
  subst hp
  intro p e s m args below meth cd H locs ls hk hl hR hS
  exact lv_null hk.1 hk.2.1 hd (k p e s m args below meth cd H locs ls hk hl hR hS)
theorem g_iload_n {n : Fin 4} {x : Int} (p0 : Nat) (hd : decode X.2.1 pc = .ok (.iload_n n, 1)) (hp : pc + 1 = pc') (hL : L[p0]? = some ((n : Nat), vI x)) (k : G E R X Qf c0 s0 δ i l pc' L (vI x :: st)) : G E R X Qf c0 s0 δ i l pc L st := by
  subst hp
  intro p e s m args below meth cd H locs ls hk hl hR hS
  exact lv_iload_n hk.1 hk.2.1 hd rfl (lv_at hl p0 (gL_at hL)) (k p e s m args below meth cd H locs ls hk hl hR hS)
theorem g_iload {n : Nat} {x : Int} (p0 : Nat) (hd : decode X.2.1 pc = .ok (.iload n, 2)) (hp : pc + 2 = pc') (hL : L[p0]? = some (n, vI x)) (k : G E R X Qf c0 s0 δ i l pc' L (vI x :: st)) : G E R X Qf c0 s0 δ i l pc L st := by
  subst hp
  intro p e s m args below meth cd H locs ls hk hl hR hS
  exact lv_iload hk.1 hk.2.1 hd (lv_at hl p0 (gL_at hL)) (k p e s m args below meth cd H locs ls hk hl hR hS)
theorem g_lload_n {n : Fin 4} {x : Int64} (p0 : Nat) (hd : decode X.2.1 pc = .ok (.lload_n n, 1)) (hp : pc + 1 = pc') (hL : L[p0]? = some ((n : Nat), vL x)) (k : G E R X Qf c0 s0 δ i l pc' L (vL x :: st)) : G E R X Qf c0 s0 δ i l pc L st := by
  subst hp
  intro p e s m args below meth cd H locs ls hk hl hR hS
  exact lv_lload_n hk.1 hk.2.1 hd rfl (lv_at hl p0 (gL_at hL)) (k p e s m args below meth cd H locs ls hk hl hR hS)
theorem g_lload {n : Nat} {x : Int64} (p0 : Nat) (hd : decode X.2.1 pc = .ok (.lload n, 2)) (hp : pc + 2 = pc') (hL : L[p0]? = some (n, vL x)) (k : G E R X Qf c0 s0 δ i l pc' L (vL x :: st)) : G E R X Qf c0 s0 δ i l pc L st := by
  subst hp
  intro p e s m args below meth cd H locs ls hk hl hR hS
  exact lv_lload hk.1 hk.2.1 hd (lv_at hl p0 (gL_at hL)) (k p e s m args below meth cd H locs ls hk hl hR hS)
theorem g_aload_n {n : Fin 4} {x : Nat} (p0 : Nat) (hd : decode X.2.1 pc = .ok (.aload_n n, 1)) (hp : pc + 1 = pc') (hL : L[p0]? = some ((n : Nat), vR (some x))) (k : G E R X Qf c0 s0 δ i l pc' L (vR (some x) :: st)) : G E R X Qf c0 s0 δ i l pc L st := by
  subst hp
  intro p e s m args below meth cd H locs ls hk hl hR hS
  exact lv_aload_n hk.1 hk.2.1 hd rfl (lv_at hl p0 (gL_at hL)) (k p e s m args below meth cd H locs ls hk hl hR hS)
theorem g_aload {n : Nat} {x : Nat} (p0 : Nat) (hd : decode X.2.1 pc = .ok (.aload n, 2)) (hp : pc + 2 = pc') (hL : L[p0]? = some (n, vR (some x))) (k : G E R X Qf c0 s0 δ i l pc' L (vR (some x) :: st)) : G E R X Qf c0 s0 δ i l pc L st := by
  subst hp
  intro p e s m args below meth cd H locs ls hk hl hR hS
  exact lv_aload hk.1 hk.2.1 hd (lv_at hl p0 (gL_at hL)) (k p e s m args below meth cd H locs ls hk hl hR hS)
theorem g_istore_n {n : Fin 4} {x : Int} (hd : decode X.2.1 pc = .ok (.istore_n n, 1)) (hp : pc + 1 = pc') (hb : (n : Nat) < X.2.2.1) (hL : stL1 (n : Nat) (vI x) L = L') (k : G E R X Qf c0 s0 δ i l pc' L' st) : G E R X Qf c0 s0 δ i l pc L (vI x :: st) := by
  subst hp
  subst hL
  intro p e s m args below meth cd H locs ls hk hl hR hS
  exact lv_istore_n hk.1 hk.2.1 hd rfl hl hb (gL_st1 E (n : Nat) (vI x) L) (fun ls hl => (k p e s m args below meth cd H locs ls hk hl hR hS))
theorem g_istore {n : Nat} {x : Int} (hd : decode X.2.1 pc = .ok (.istore n, 2)) (hp : pc + 2 = pc') (hb : n < X.2.2.1) (hL : stL1 n (vI x) L = L') (k : G E R X Qf c0 s0 δ i l pc' L' st) : G E R X Qf c0 s0 δ i l pc L (vI x :: st) := by
  subst hp
  subst hL
  intro p e s m args below meth cd H locs ls hk hl hR hS
  exact lv_istore hk.1 hk.2.1 hd hl hb (gL_st1 E n (vI x) L) (fun ls hl => (k p e s m args below meth cd H locs ls hk hl hR hS))
theorem g_lstore_n {n : Fin 4} {x : Int64} (hd : decode X.2.1 pc = .ok (.lstore_n n, 1)) (hp : pc + 1 = pc') (hb : (n : Nat) + 1 < X.2.2.1) (hL : stL2 (n : Nat) (vL x) L = L') (k : G E R X Qf c0 s0 δ i l pc' L' st) : G E R X Qf c0 s0 δ i l pc L (vL x :: st) := by
  subst hp
  subst hL
  intro p e s m args below meth cd H locs ls hk hl hR hS
  exact lv_lstore_n hk.1 hk.2.1 hd rfl hl hb (gL_st2 E (n : Nat) (vL x) L) (fun ls hl => (k p e s m args below meth cd H locs ls hk hl hR hS))
theorem g_lstore {n : Nat} {x : Int64} (hd : decode X.2.1 pc = .ok (.lstore n, 2)) (hp : pc + 2 = pc') (hb : n + 1 < X.2.2.1) (hL : stL2 n (vL x) L = L') (k : G E R X Qf c0 s0 δ i l pc' L' st) : G E R X Qf c0 s0 δ i l pc L (vL x :: st) := by
  subst hp
  subst hL
  intro p e s m args below meth cd H locs ls hk hl hR hS
  exact lv_lstore hk.1 hk.2.1 hd hl hb (gL_st2 E n (vL x) L) (fun ls hl => (k p e s m args below meth cd H locs ls hk hl hR hS))
theorem g_astore_n {n : Fin 4} {x : Nat} (hd : decode X.2.1 pc = .ok (.astore_n n, 1)) (hp : pc + 1 = pc') (hb : (n : Nat) < X.2.2.1) (hL : stL1 (n : Nat) (vR (some x)) L = L') (k : G E R X Qf c0 s0 δ i l pc' L' st) : G E R X Qf c0 s0 δ i l pc L (vR (some x) :: st) := by
  subst hp
  subst hL
  intro p e s m args below meth cd H locs ls hk hl hR hS
  exact lv_astore_n hk.1 hk.2.1 hd rfl hl hb (gL_st1 E (n : Nat) (vR (some x)) L) (fun ls hl => (k p e s m args below meth cd H locs ls hk hl hR hS))
theorem g_astore {n : Nat} {x : Nat} (hd : decode X.2.1 pc = .ok (.astore n, 2)) (hp : pc + 2 = pc') (hb : n < X.2.2.1) (hL : stL1 n (vR (some x)) L = L') (k : G E R X Qf c0 s0 δ i l pc' L' st) : G E R X Qf c0 s0 δ i l pc L (vR (some x) :: st) := by
  subst hp
  subst hL
  intro p e s m args below meth cd H locs ls hk hl hR hS
  exact lv_astore hk.1 hk.2.1 hd hl hb (gL_st1 E n (vR (some x)) L) (fun ls hl => (k p e s m args below meth cd H locs ls hk hl hR hS))
theorem g_iinc {n : Nat} {z x : Int} (p0 : Nat) (hd : decode X.2.1 pc = .ok (.iinc n z, 3)) (hp : pc + 3 = pc') (hb : n < X.2.2.1) (h0 : L[p0]? = some (n, vI x)) (hL : stL1 n (vI (x + z)) L = L') (k : G E R X Qf c0 s0 δ i l pc' L' st) : G E R X Qf c0 s0 δ i l pc L st := by
  subst hp
  subst hL
  intro p e s m args below meth cd H locs ls hk hl hR hS
  exact lv_iinc (v := Int32.ofInt (x + z)) hk.1 hk.2.1 hd hl (gL_at h0) (Int32.ofInt_add x z).symm hb (gL_st1 E n (vI (x + z)) L) (fun ls hl => (k p e s m args below meth cd H locs ls hk hl hR hS))
theorem g_iadd {x y : Int} (hd : decode X.2.1 pc = .ok (.iadd, 1)) (hp : pc + 1 = pc') (k : G E R X Qf c0 s0 δ i l pc' L (vI (x + y) :: st)) : G E R X Qf c0 s0 δ i l pc L (vI y :: vI x :: st) := by
  subst hp
  intro p e s m args below meth cd H locs ls hk hl hR hS
  have K := (k p e s m args below meth cd H locs ls hk hl hR hS)
  simp only [List.map_cons, emb, Int32.ofInt_add] at K ⊢
  exact lv_iadd hk.1 hk.2.1 hd K
theorem g_isub {x y : Int} (hd : decode X.2.1 pc = .ok (.isub, 1)) (hp : pc + 1 = pc') (k : G E R X Qf c0 s0 δ i l pc' L (vI (x - y) :: st)) : G E R X Qf c0 s0 δ i l pc L (vI y :: vI x :: st) := by
  subst hp
  intro p e s m args below meth cd H locs ls hk hl hR hS
  have K := (k p e s m args below meth cd H locs ls hk hl hR hS)
  simp only [List.map_cons, emb, Int32.ofInt_sub] at K ⊢
  exact lv_isub hk.1 hk.2.1 hd K
theorem g_imul {x y : Int} (hd : decode X.2.1 pc = .ok (.imul, 1)) (hp : pc + 1 = pc') (k : G E R X Qf c0 s0 δ i l pc' L (vI (x * y) :: st)) : G E R X Qf c0 s0 δ i l pc L (vI y :: vI x :: st) := by
  subst hp
  intro p e s m args below meth cd H locs ls hk hl hR hS
  have K := (k p e s m args below meth cd H locs ls hk hl hR hS)
  simp only [List.map_cons, emb, Int32.ofInt_mul] at K ⊢
  exact lv_imul hk.1 hk.2.1 hd K
theorem g_ineg {x : Int} (hd : decode X.2.1 pc = .ok (.ineg, 1)) (hp : pc + 1 = pc') (k : G E R X Qf c0 s0 δ i l pc' L (vI (-x) :: st)) : G E R X Qf c0 s0 δ i l pc L (vI x :: st) := by
  subst hp
  intro p e s m args below meth cd H locs ls hk hl hR hS
  have K := (k p e s m args below meth cd H locs ls hk hl hR hS)
  simp only [List.map_cons, emb, Int32.ofInt_neg] at K ⊢
  exact lv_ineg hk.1 hk.2.1 hd K
theorem g_iand {x y : Int} (hd : decode X.2.1 pc = .ok (.iand, 1)) (hp : pc + 1 = pc') (k : G E R X Qf c0 s0 δ i l pc' L (vI (iand x y) :: st)) : G E R X Qf c0 s0 δ i l pc L (vI y :: vI x :: st) := by
  subst hp
  intro p e s m args below meth cd H locs ls hk hl hR hS
  have K := (k p e s m args below meth cd H locs ls hk hl hR hS)
  simp only [List.map_cons, emb, iand, Int32.ofInt_toInt] at K ⊢
  exact lv_iand hk.1 hk.2.1 hd K
theorem g_ior {x y : Int} (hd : decode X.2.1 pc = .ok (.ior, 1)) (hp : pc + 1 = pc') (k : G E R X Qf c0 s0 δ i l pc' L (vI (ior x y) :: st)) : G E R X Qf c0 s0 δ i l pc L (vI y :: vI x :: st) := by
  subst hp
  intro p e s m args below meth cd H locs ls hk hl hR hS
  have K := (k p e s m args below meth cd H locs ls hk hl hR hS)
  simp only [List.map_cons, emb, ior, Int32.ofInt_toInt] at K ⊢
  exact lv_ior hk.1 hk.2.1 hd K
theorem g_ixor {x y : Int} (hd : decode X.2.1 pc = .ok (.ixor, 1)) (hp : pc + 1 = pc') (k : G E R X Qf c0 s0 δ i l pc' L (vI (ixor x y) :: st)) : G E R X Qf c0 s0 δ i l pc L (vI y :: vI x :: st) := by
  subst hp
  intro p e s m args below meth cd H locs ls hk hl hR hS
  have K := (k p e s m args below meth cd H locs ls hk hl hR hS)
  simp only [List.map_cons, emb, ixor, Int32.ofInt_toInt] at K ⊢
  exact lv_ixor hk.1 hk.2.1 hd K
theorem g_ishl {x y : Int} (hd : decode X.2.1 pc = .ok (.ishl, 1)) (hp : pc + 1 = pc') (k : G E R X Qf c0 s0 δ i l pc' L (vI (ishl x y) :: st)) : G E R X Qf c0 s0 δ i l pc L (vI y :: vI x :: st) := by
  subst hp
  intro p e s m args below meth cd H locs ls hk hl hR hS
  have K := (k p e s m args below meth cd H locs ls hk hl hR hS)
  simp only [List.map_cons, emb, ishl, Int32.ofInt_toInt] at K ⊢
  exact lv_ishl hk.1 hk.2.1 hd K
theorem g_ishr {x y : Int} (hd : decode X.2.1 pc = .ok (.ishr, 1)) (hp : pc + 1 = pc') (k : G E R X Qf c0 s0 δ i l pc' L (vI (ishr x y) :: st)) : G E R X Qf c0 s0 δ i l pc L (vI y :: vI x :: st) := by
  subst hp
  intro p e s m args below meth cd H locs ls hk hl hR hS
  have K := (k p e s m args below meth cd H locs ls hk hl hR hS)
  simp only [List.map_cons, emb, ishr, Int32.ofInt_toInt] at K ⊢
  exact lv_ishr hk.1 hk.2.1 hd K
theorem g_iushr {x y : Int} (hd : decode X.2.1 pc = .ok (.iushr, 1)) (hp : pc + 1 = pc') (k : G E R X Qf c0 s0 δ i l pc' L (vI (iushr x y) :: st)) : G E R X Qf c0 s0 δ i l pc L (vI y :: vI x :: st) := by
  subst hp
  intro p e s m args below meth cd H locs ls hk hl hR hS
  have K := (k p e s m args below meth cd H locs ls hk hl hR hS)
  simp only [List.map_cons, emb, iushr, Int32.ofInt_toInt] at K ⊢
  exact lv_iushr hk.1 hk.2.1 hd rfl K
theorem g_i2b {x : Int} (hd : decode X.2.1 pc = .ok (.i2b, 1)) (hp : pc + 1 = pc') (k : G E R X Qf c0 s0 δ i l pc' L (vI (i8 x) :: st)) : G E R X Qf c0 s0 δ i l pc L (vI x :: st) := by
  subst hp
  intro p e s m args below meth cd H locs ls hk hl hR hS
  have K := (k p e s m args below meth cd H locs ls hk hl hR hS)
  simp only [List.map_cons, emb, i8, Int32.ofInt_toInt] at K ⊢
  exact lv_i2b hk.1 hk.2.1 hd rfl K
theorem g_i2c {x : Int} (hd : decode X.2.1 pc = .ok (.i2c, 1)) (hp : pc + 1 = pc') (k : G E R X Qf c0 s0 δ i l pc' L (vI (i16u x) :: st)) : G E R X Qf c0 s0 δ i l pc L (vI x :: st) := by
  subst hp
  intro p e s m args below meth cd H locs ls hk hl hR hS
  have K := (k p e s m args below meth cd H locs ls hk hl hR hS)
  simp only [List.map_cons, emb, i16u, Int32.ofInt_toInt] at K ⊢
  exact lv_i2c hk.1 hk.2.1 hd rfl K
theorem g_i2l {x : Int} (hd : decode X.2.1 pc = .ok (.i2l, 1)) (hp : pc + 1 = pc') (k : G E R X Qf c0 s0 δ i l pc' L (vL (i2l x) :: st)) : G E R X Qf c0 s0 δ i l pc L (vI x :: st) := by
  subst hp
  intro p e s m args below meth cd H locs ls hk hl hR hS
  exact lv_i2l hk.1 hk.2.1 hd rfl (k p e s m args below meth cd H locs ls hk hl hR hS)
theorem g_l2i {x : Int64} (hd : decode X.2.1 pc = .ok (.l2i, 1)) (hp : pc + 1 = pc') (k : G E R X Qf c0 s0 δ i l pc' L (vI (l2i x) :: st)) : G E R X Qf c0 s0 δ i l pc L (vL x :: st) := by
  subst hp
  intro p e s m args below meth cd H locs ls hk hl hR hS
  have K := (k p e s m args below meth cd H locs ls hk hl hR hS)
  simp only [List.map_cons, emb, l2i, Int32.ofInt_toInt] at K ⊢
  exact lv_l2i hk.1 hk.2.1 hd rfl K
theorem g_ladd {x y : Int64} (hd : decode X.2.1 pc = .ok (.ladd, 1)) (hp : pc + 1 = pc') (k : G E R X Qf c0 s0 δ i l pc' L (vL (x + y) :: st)) : G E R X Qf c0 s0 δ i l pc L (vL y :: vL x :: st) := by
  subst hp
  intro p e s m args below meth cd H locs ls hk hl hR hS
  exact lv_ladd hk.1 hk.2.1 hd (k p e s m args below meth cd H locs ls hk hl hR hS)
theorem g_lsub {x y : Int64} (hd : decode X.2.1 pc = .ok (.lsub, 1)) (hp : pc + 1 = pc') (k : G E R X Qf c0 s0 δ i l pc' L (vL (x - y) :: st)) : G E R X Qf c0 s0 δ i l pc L (vL y :: vL x :: st) := by
  subst hp
  intro p e s m args below meth cd H locs ls hk hl hR hS
  exact lv_lsub hk.1 hk.2.1 hd (k p e s m args below meth cd H locs ls hk hl hR hS)
theorem g_lmul {x y : Int64} (hd : decode X.2.1 pc = .ok (.lmul, 1)) (hp : pc + 1 = pc') (k : G E R X Qf c0 s0 δ i l pc' L (vL (x * y) :: st)) : G E R X Qf c0 s0 δ i l pc L (vL y :: vL x :: st) := by
  subst hp
  intro p e s m args below meth cd H locs ls hk hl hR hS
  exact lv_lmul hk.1 hk.2.1 hd (k p e s m args below meth cd H locs ls hk hl hR hS)
theorem g_land {x y : Int64} (hd : decode X.2.1 pc = .ok (.land, 1)) (hp : pc + 1 = pc') (k : G E R X Qf c0 s0 δ i l pc' L (vL (x &&& y) :: st)) : G E R X Qf c0 s0 δ i l pc L (vL y :: vL x :: st) := by
  subst hp
  intro p e s m args below meth cd H locs ls hk hl hR hS
  exact lv_land hk.1 hk.2.1 hd (k p e s m args below meth cd H locs ls hk hl hR hS)
theorem g_lor {x y : Int64} (hd : decode X.2.1 pc = .ok (.lor, 1)) (hp : pc + 1 = pc') (k : G E R X Qf c0 s0 δ i l pc' L (vL (x ||| y) :: st)) : G E R X Qf c0 s0 δ i l pc L (vL y :: vL x :: st) := by
  subst hp
  intro p e s m args below meth cd H locs ls hk hl hR hS
  exact lv_lor hk.1 hk.2.1 hd (k p e s m args below meth cd H locs ls hk hl hR hS)
theorem g_lxor {x y : Int64} (hd : decode X.2.1 pc = .ok (.lxor, 1)) (hp : pc + 1 = pc') (k : G E R X Qf c0 s0 δ i l pc' L (vL (x ^^^ y) :: st)) : G E R X Qf c0 s0 δ i l pc L (vL y :: vL x :: st) := by
  subst hp
  intro p e s m args below meth cd H locs ls hk hl hR hS
  exact lv_lxor hk.1 hk.2.1 hd (k p e s m args below meth cd H locs ls hk hl hR hS)
theorem g_ldiv {x y : Int64} (hd : decode X.2.1 pc = .ok (.ldiv, 1)) (hp : pc + 1 = pc') (hne : ¬ y = 0) (k : G E R X Qf c0 s0 δ i l pc' L (vL (x / y) :: st)) : G E R X Qf c0 s0 δ i l pc L (vL y :: vL x :: st) := by
  subst hp
  intro p e s m args below meth cd H locs ls hk hl hR hS
  exact lv_ldiv hk.1 hk.2.1 hd hne (k p e s m args below meth cd H locs ls hk hl hR hS)
theorem g_lrem {x y : Int64} (hd : decode X.2.1 pc = .ok (.lrem, 1)) (hp : pc + 1 = pc') (hne : ¬ y = 0) (k : G E R X Qf c0 s0 δ i l pc' L (vL (x - x / y * y) :: st)) : G E R X Qf c0 s0 δ i l pc L (vL y :: vL x :: st) := by
  subst hp
  intro p e s m args below meth cd H locs ls hk hl hR hS
  exact lv_lrem hk.1 hk.2.1 hd hne (k p e s m args below meth cd H locs ls hk hl hR hS)
theorem g_lushr {x : Int64} {y : Int} (hd : decode X.2.1 pc = .ok (.lushr, 1)) (hp : pc + 1 = pc') (k : G E R X Qf c0 s0 δ i l pc' L (vL (lushr x y) :: st)) : G E R X Qf c0 s0 δ i l pc L (vI y :: vL x :: st) := by
  subst hp
  intro p e s m args below meth cd H locs ls hk hl hR hS
  exact lv_lushr hk.1 hk.2.1 hd rfl (k p e s m args below meth cd H locs ls hk hl hR hS)
theorem g_lshl {x : Int64} {y : Int} (hd : decode X.2.1 pc = .ok (.lshl, 1)) (hp : pc + 1 = pc') (k : G E R X Qf c0 s0 δ i l pc' L (vL (lshl x y) :: st)) : G E R X Qf c0 s0 δ i l pc L (vI y :: vL x :: st) := by
  subst hp
  intro p e s m args below meth cd H locs ls hk hl hR hS
  exact lv_lshl hk.1 hk.2.1 hd rfl (k p e s m args below meth cd H locs ls hk hl hR hS)
theorem g_lcmp {x y : Int64} (hd : decode X.2.1 pc = .ok (.lcmp, 1)) (hp : pc + 1 = pc') (k : G E R X Qf c0 s0 δ i l pc' L (vI (lcmpI x y) :: st)) : G E R X Qf c0 s0 δ i l pc L (vL y :: vL x :: st) := by
  subst hp
  intro p e s m args below meth cd H locs ls hk hl hR hS
  have K := (k p e s m args below meth cd H locs ls hk hl hR hS)
  simp only [List.map_cons, emb, lcmpI_of] at K ⊢
  exact W.lcmp hk.1 hk.2.1 hd K
theorem rg_ne0 {y : Int} (hy : rg y) (h : ¬ y = 0) : ¬ Int32.ofInt y = 0 := by
  intro q
  exact h ((rg_eq hy ⟨by omega, by omega⟩).mp (q.trans ofInt0.symm))
theorem idiv_of {x y : Int} (hx : rg x) (hy : rg y) : Int32.ofInt x / Int32.ofInt y = Int32.ofInt (x.tdiv y) := by
  refine (Int32.ofInt_tdiv ?_ ?_ ?_ ?_).symm
  · exact hx.1
  · have h := hx.2
    show x ≤ 2147483647
    omega
  · exact hy.1
  · have h := hy.2
    show y ≤ 2147483647
    omega
theorem g_idiv {x y : Int} (hd : decode X.2.1 pc = .ok (.idiv, 1)) (hp : pc + 1 = pc') (hx : rg x) (hy : rg y) (hne : ¬ y = 0) (k : G E R X Qf c0 s0 δ i l pc' L (vI (x.tdiv y) :: st)) : G E R X Qf c0 s0 δ i l pc L (vI y :: vI x :: st) := by
  subst hp
  intro p e s m args below meth cd H locs ls hk hl hR hS
  have K := (k p e s m args below meth cd H locs ls hk hl hR hS)
  simp only [List.map_cons, emb, ← idiv_of hx hy] at K ⊢
  exact lv_idiv hk.1 hk.2.1 hd (rg_ne0 hy hne) K
theorem g_irem {x y : Int} (hd : decode X.2.1 pc = .ok (.irem, 1)) (hp : pc + 1 = pc') (hx : rg x) (hy : rg y) (hne : ¬ y = 0) (k : G E R X Qf c0 s0 δ i l pc' L (vI (x.tmod y) :: st)) : G E R X Qf c0 s0 δ i l pc L (vI y :: vI x :: st) := by
  subst hp
  intro p e s m args below meth cd H locs ls hk hl hR hS
  have K := (k p e s m args below meth cd H locs ls hk hl hR hS)
  have e1 : x.tmod y = x - x.tdiv y * y := by rw [Int.tmod_def, Int.mul_comm]
  rw [e1] at K
  simp only [List.map_cons, emb, Int32.ofInt_sub, Int32.ofInt_mul, ← idiv_of hx hy] at K ⊢
  exact lv_irem hk.1 hk.2.1 hd (rg_ne0 hy hne) K
theorem emb_c1 {v : MV} (h : isLg v = false) : (emb E v).category = 1 := by
  rcases v with x | x | o
  · rfl
  · cases h
  · cases o <;> rfl
theorem emb_c2 {v : MV} (h : isLg v = true) : (emb E v).category = 2 := by
  rcases v with x | x | o
  · cases h
  · rfl
  · cases h
theorem g_dup {v : MV} (hd : decode X.2.1 pc = .ok (.dup, 1)) (hp : pc + 1 = pc') (hv : isLg v = false) (k : G E R X Qf c0 s0 δ i l pc' L (v :: v :: st)) : G E R X Qf c0 s0 δ i l pc L (v :: st) := by
  subst hp
  intro p e s m args below meth cd H locs ls hk hl hR hS
  exact lv_dup hk.1 hk.2.1 hd (emb_c1 hv) (k p e s m args below meth cd H locs ls hk hl hR hS)
theorem g_pop {v : MV} (hd : decode X.2.1 pc = .ok (.pop, 1)) (hp : pc + 1 = pc') (hv : isLg v = false) (k : G E R X Qf c0 s0 δ i l pc' L st) : G E R X Qf c0 s0 δ i l pc L (v :: st) := by
  subst hp
  intro p e s m args below meth cd H locs ls hk hl hR hS
  exact lv_pop hk.1 hk.2.1 hd (emb_c1 hv) (k p e s m args below meth cd H locs ls hk hl hR hS)
theorem g_dup_x1 {v w : MV} (hd : decode X.2.1 pc = .ok (.dup_x1, 1)) (hp : pc + 1 = pc') (hv : isLg v = false) (hw : isLg w = false) (k : G E R X Qf c0 s0 δ i l pc' L (v :: w :: v :: st)) : G E R X Qf c0 s0 δ i l pc L (v :: w :: st) := by
  subst hp
  intro p e s m args below meth cd H locs ls hk hl hR hS
  exact lv_dup_x1 hk.1 hk.2.1 hd (emb_c1 hv) (emb_c1 hw) (k p e s m args below meth cd H locs ls hk hl hR hS)
theorem g_dup2_11 {v w : MV} (hd : decode X.2.1 pc = .ok (.dup2, 1)) (hp : pc + 1 = pc') (hv : isLg v = false) (hw : isLg w = false) (k : G E R X Qf c0 s0 δ i l pc' L (v :: w :: v :: w :: st)) : G E R X Qf c0 s0 δ i l pc L (v :: w :: st) := by
  subst hp
  intro p e s m args below meth cd H locs ls hk hl hR hS
  exact lv_dup2_11 hk.1 hk.2.1 hd (emb_c1 hv) (emb_c1 hw) (k p e s m args below meth cd H locs ls hk hl hR hS)
theorem g_dup2_2 {v : MV} (hd : decode X.2.1 pc = .ok (.dup2, 1)) (hp : pc + 1 = pc') (hv : isLg v = true) (k : G E R X Qf c0 s0 δ i l pc' L (v :: v :: st)) : G E R X Qf c0 s0 δ i l pc L (v :: st) := by
  subst hp
  intro p e s m args below meth cd H locs ls hk hl hR hS
  exact lv_dup2_2 hk.1 hk.2.1 hd (emb_c2 hv) (k p e s m args below meth cd H locs ls hk hl hR hS)
theorem g_goto {off : Int} {tgt : Nat} (hd : decode X.2.1 pc = .ok (.goto off, 3)) (ht : (pc : Int) + off = (tgt : Int)) (k : G E R X Qf c0 s0 δ i l tgt L st) : G E R X Qf c0 s0 δ i l pc L st := by
  intro p e s m args below meth cd H locs ls hk hl hR hS
  exact lv_goto hk.1 hk.2.1 hd ht (k p e s m args below meth cd H locs ls hk hl hR hS)
theorem g_if_eq {x : Int} {c : Prop} (hx : rg x) {off : Int} {tgt : Nat} (hc : (x = 0) ↔ c) (hd : decode X.2.1 pc = .ok (.ifCond .eq off, 3)) (ht : (pc : Int) + off = (tgt : Int)) (hp : pc + 3 = pc') (kt : c → G E R X Qf c0 s0 δ i l tgt L st) (kf : ¬ c → G E R X Qf c0 s0 δ i l pc' L st) : G E R X Qf c0 s0 δ i l pc L (vI x :: st) := by
  subst hp
  intro p e s m args below meth cd H locs ls hk hl hR hS
  exact lv_if_eq hk.1 hk.2.1 hd ht (fun h => kt (hc.mp ((rg_eq hx ⟨by omega, by omega⟩).mp h)) p e s m args below meth cd H locs ls hk hl hR hS) (fun h => kf (fun q => h ((rg_eq hx ⟨by omega, by omega⟩).mpr (hc.mpr q))) p e s m args below meth cd H locs ls hk hl hR hS)
theorem g_icmp_eq {x y : Int} {c : Prop} (hx : rg x) (hy : rg y) {off : Int} {tgt : Nat} (hc : (x = y) ↔ c) (hd : decode X.2.1 pc = .ok (.if_icmp .eq off, 3)) (ht : (pc : Int) + off = (tgt : Int)) (hp : pc + 3 = pc') (kt : c → G E R X Qf c0 s0 δ i l tgt L st) (kf : ¬ c → G E R X Qf c0 s0 δ i l pc' L st) : G E R X Qf c0 s0 δ i l pc L (vI y :: vI x :: st) := by
  subst hp
  intro p e s m args below meth cd H locs ls hk hl hR hS
  exact lv_icmp_eq hk.1 hk.2.1 hd ht (fun h => kt (hc.mp ((rg_eq hx hy).mp h)) p e s m args below meth cd H locs ls hk hl hR hS) (fun h => kf (fun q => h ((rg_eq hx hy).mpr (hc.mpr q))) p e s m args below meth cd H locs ls hk hl hR hS)
theorem g_if_ne {x : Int} {c : Prop} (hx : rg x) {off : Int} {tgt : Nat} (hc : (x = 0) ↔ c) (hd : decode X.2.1 pc = .ok (.ifCond .ne off, 3)) (ht : (pc : Int) + off = (tgt : Int)) (hp : pc + 3 = pc') (kt : ¬ c → G E R X Qf c0 s0 δ i l tgt L st) (kf : c → G E R X Qf c0 s0 δ i l pc' L st) : G E R X Qf c0 s0 δ i l pc L (vI x :: st) := by
  subst hp
  intro p e s m args below meth cd H locs ls hk hl hR hS
  exact lv_if_ne hk.1 hk.2.1 hd ht (fun h => kt (fun q => h ((rg_eq hx ⟨by omega, by omega⟩).mpr (hc.mpr q))) p e s m args below meth cd H locs ls hk hl hR hS) (fun h => kf (hc.mp ((rg_eq hx ⟨by omega, by omega⟩).mp h)) p e s m args below meth cd H locs ls hk hl hR hS)
theorem g_icmp_ne {x y : Int} {c : Prop} (hx : rg x) (hy : rg y) {off : Int} {tgt : Nat} (hc : (x = y) ↔ c) (hd : decode X.2.1 pc = .ok (.if_icmp .ne off, 3)) (ht : (pc : Int) + off = (tgt : Int)) (hp : pc + 3 = pc') (kt : ¬ c → G E R X Qf c0 s0 δ i l tgt L st) (kf : c → G E R X Qf c0 s0 δ i l pc' L st) : G E R X Qf c0 s0 δ i l pc L (vI y :: vI x :: st) := by
  subst hp
  intro p e s m args below meth cd H locs ls hk hl hR hS
  exact lv_icmp_ne hk.1 hk.2.1 hd ht (fun h => kt (fun q => h ((rg_eq hx hy).mpr (hc.mpr q))) p e s m args below meth cd H locs ls hk hl hR hS) (fun h => kf (hc.mp ((rg_eq hx hy).mp h)) p e s m args below meth cd H locs ls hk hl hR hS)
theorem g_if_lt {x : Int} {c : Prop} (hx : rg x) {off : Int} {tgt : Nat} (hc : (x < 0) ↔ c) (hd : decode X.2.1 pc = .ok (.ifCond .lt off, 3)) (ht : (pc : Int) + off = (tgt : Int)) (hp : pc + 3 = pc') (kt : c → G E R X Qf c0 s0 δ i l tgt L st) (kf : ¬ c → G E R X Qf c0 s0 δ i l pc' L st) : G E R X Qf c0 s0 δ i l pc L (vI x :: st) := by
  subst hp
  intro p e s m args below meth cd H locs ls hk hl hR hS
  exact lv_if_lt hk.1 hk.2.1 hd ht (fun h => kt (hc.mp ((rg_lt hx ⟨by omega, by omega⟩).mp h)) p e s m args below meth cd H locs ls hk hl hR hS) (fun h => kf (fun q => h ((rg_lt hx ⟨by omega, by omega⟩).mpr (hc.mpr q))) p e s m args below meth cd H locs ls hk hl hR hS)
theorem g_icmp_lt {x y : Int} {c : Prop} (hx : rg x) (hy : rg y) {off : Int} {tgt : Nat} (hc : (x < y) ↔ c) (hd : decode X.2.1 pc = .ok (.if_icmp .lt off, 3)) (ht : (pc : Int) + off = (tgt : Int)) (hp : pc + 3 = pc') (kt : c → G E R X Qf c0 s0 δ i l tgt L st) (kf : ¬ c → G E R X Qf c0 s0 δ i l pc' L st) : G E R X Qf c0 s0 δ i l pc L (vI y :: vI x :: st) := by
  subst hp
  intro p e s m args below meth cd H locs ls hk hl hR hS
  exact lv_icmp_lt hk.1 hk.2.1 hd ht (fun h => kt (hc.mp ((rg_lt hx hy).mp h)) p e s m args below meth cd H locs ls hk hl hR hS) (fun h => kf (fun q => h ((rg_lt hx hy).mpr (hc.mpr q))) p e s m args below meth cd H locs ls hk hl hR hS)
theorem g_if_ge {x : Int} {c : Prop} (hx : rg x) {off : Int} {tgt : Nat} (hc : (0 ≤ x) ↔ c) (hd : decode X.2.1 pc = .ok (.ifCond .ge off, 3)) (ht : (pc : Int) + off = (tgt : Int)) (hp : pc + 3 = pc') (kt : c → G E R X Qf c0 s0 δ i l tgt L st) (kf : ¬ c → G E R X Qf c0 s0 δ i l pc' L st) : G E R X Qf c0 s0 δ i l pc L (vI x :: st) := by
  subst hp
  intro p e s m args below meth cd H locs ls hk hl hR hS
  exact lv_if_ge hk.1 hk.2.1 hd ht (fun h => kt (hc.mp ((rg_le ⟨by omega, by omega⟩ hx).mp h)) p e s m args below meth cd H locs ls hk hl hR hS) (fun h => kf (fun q => h ((rg_le ⟨by omega, by omega⟩ hx).mpr (hc.mpr q))) p e s m args below meth cd H locs ls hk hl hR hS)
theorem g_icmp_ge {x y : Int} {c : Prop} (hx : rg x) (hy : rg y) {off : Int} {tgt : Nat} (hc : (y ≤ x) ↔ c) (hd : decode X.2.1 pc = .ok (.if_icmp .ge off, 3)) (ht : (pc : Int) + off = (tgt : Int)) (hp : pc + 3 = pc') (kt : c → G E R X Qf c0 s0 δ i l tgt L st) (kf : ¬ c → G E R X Qf c0 s0 δ i l pc' L st) : G E R X Qf c0 s0 δ i l pc L (vI y :: vI x :: st) := by
  subst hp
  intro p e s m args below meth cd H locs ls hk hl hR hS
  exact lv_icmp_ge hk.1 hk.2.1 hd ht (fun h => kt (hc.mp ((rg_le hy hx).mp h)) p e s m args below meth cd H locs ls hk hl hR hS) (fun h => kf (fun q => h ((rg_le hy hx).mpr (hc.mpr q))) p e s m args below meth cd H locs ls hk hl hR hS)
theorem g_if_gt {x : Int} {c : Prop} (hx : rg x) {off : Int} {tgt : Nat} (hc : (0 < x) ↔ c) (hd : decode X.2.1 pc = .ok (.ifCond .gt off, 3)) (ht : (pc : Int) + off = (tgt : Int)) (hp : pc + 3 = pc') (kt : c → G E R X Qf c0 s0 δ i l tgt L st) (kf : ¬ c → G E R X Qf c0 s0 δ i l pc' L st) : G E R X Qf c0 s0 δ i l pc L (vI x :: st) := by
  subst hp
  intro p e s m args below meth cd H locs ls hk hl hR hS
  exact lv_if_gt hk.1 hk.2.1 hd ht (fun h => kt (hc.mp ((rg_lt ⟨by omega, by omega⟩ hx).mp h)) p e s m args below meth cd H locs ls hk hl hR hS) (fun h => kf (fun q => h ((rg_lt ⟨by omega, by omega⟩ hx).mpr (hc.mpr q))) p e s m args below meth cd H locs ls hk hl hR hS)
theorem g_icmp_gt {x y : Int} {c : Prop} (hx : rg x) (hy : rg y) {off : Int} {tgt : Nat} (hc : (y < x) ↔ c) (hd : decode X.2.1 pc = .ok (.if_icmp .gt off, 3)) (ht : (pc : Int) + off = (tgt : Int)) (hp : pc + 3 = pc') (kt : c → G E R X Qf c0 s0 δ i l tgt L st) (kf : ¬ c → G E R X Qf c0 s0 δ i l pc' L st) : G E R X Qf c0 s0 δ i l pc L (vI y :: vI x :: st) := by
  subst hp
  intro p e s m args below meth cd H locs ls hk hl hR hS
  exact lv_icmp_gt hk.1 hk.2.1 hd ht (fun h => kt (hc.mp ((rg_lt hy hx).mp h)) p e s m args below meth cd H locs ls hk hl hR hS) (fun h => kf (fun q => h ((rg_lt hy hx).mpr (hc.mpr q))) p e s m args below meth cd H locs ls hk hl hR hS)
theorem g_if_le {x : Int} {c : Prop} (hx : rg x) {off : Int} {tgt : Nat} (hc : (x ≤ 0) ↔ c) (hd : decode X.2.1 pc = .ok (.ifCond .le off, 3)) (ht : (pc : Int) + off = (tgt : Int)) (hp : pc + 3 = pc') (kt : c → G E R X Qf c0 s0 δ i l tgt L st) (kf : ¬ c → G E R X Qf c0 s0 δ i l pc' L st) : G E R X Qf c0 s0 δ i l pc L (vI x :: st) := by
  subst hp
  intro p e s m args below meth cd H locs ls hk hl hR hS
  exact lv_if_le hk.1 hk.2.1 hd ht (fun h => kt (hc.mp ((rg_le hx ⟨by omega, by omega⟩).mp h)) p e s m args below meth cd H locs ls hk hl hR hS) (fun h => kf (fun q => h ((rg_le hx ⟨by omega, by omega⟩).mpr (hc.mpr q))) p e s m args below meth cd H locs ls hk hl hR hS)
theorem g_icmp_le {x y : Int} {c : Prop} (hx : rg x) (hy : rg y) {off : Int} {tgt : Nat} (hc : (x ≤ y) ↔ c) (hd : decode X.2.1 pc = .ok (.if_icmp .le off, 3)) (ht : (pc : Int) + off = (tgt : Int)) (hp : pc + 3 = pc') (kt : c → G E R X Qf c0 s0 δ i l tgt L st) (kf : ¬ c → G E R X Qf c0 s0 δ i l pc' L st) : G E R X Qf c0 s0 δ i l pc L (vI y :: vI x :: st) := by
  subst hp
  intro p e s m args below meth cd H locs ls hk hl hR hS
  exact lv_icmp_le hk.1 hk.2.1 hd ht (fun h => kt (hc.mp ((rg_le hx hy).mp h)) p e s m args below meth cd H locs ls hk hl hR hS) (fun h => kf (fun q => h ((rg_le hx hy).mpr (hc.mpr q))) p e s m args below meth cd H locs ls hk hl hR hS)
theorem g_ifnull_s {x : Nat} {off : Int} (hd : decode X.2.1 pc = .ok (.ifnull off, 3)) (hp : pc + 3 = pc') (k : G E R X Qf c0 s0 δ i l pc' L st) : G E R X Qf c0 s0 δ i l pc L (vR (some x) :: st) := by
  subst hp
  intro p e s m args below meth cd H locs ls hk hl hR hS
  exact lv_ifnull hk.1 hk.2.1 hd (k p e s m args below meth cd H locs ls hk hl hR hS)
theorem g_ifnull_n {off : Int} {tgt : Nat} (hd : decode X.2.1 pc = .ok (.ifnull off, 3)) (ht : (pc : Int) + off = (tgt : Int)) (k : G E R X Qf c0 s0 δ i l tgt L st) : G E R X Qf c0 s0 δ i l pc L (vR (none) :: st) := by
  intro p e s m args below meth cd H locs ls hk hl hR hS
  exact lv_ifnullN hk.1 hk.2.1 hd ht (k p e s m args below meth cd H locs ls hk hl hR hS)
theorem g_ifnonnull_s {x : Nat} {off : Int} {tgt : Nat} (hd : decode X.2.1 pc = .ok (.ifnonnull off, 3)) (ht : (pc : Int) + off = (tgt : Int)) (k : G E R X Qf c0 s0 δ i l tgt L st) : G E R X Qf c0 s0 δ i l pc L (vR (some x) :: st) := by
  intro p e s m args below meth cd H locs ls hk hl hR hS
  exact lv_ifnonnull hk.1 hk.2.1 hd ht (k p e s m args below meth cd H locs ls hk hl hR hS)
theorem g_ifnonnull_n {off : Int} (hd : decode X.2.1 pc = .ok (.ifnonnull off, 3)) (hp : pc + 3 = pc') (k : G E R X Qf c0 s0 δ i l pc' L st) : G E R X Qf c0 s0 δ i l pc L (vR (none) :: st) := by
  subst hp
  intro p e s m args below meth cd H locs ls hk hl hR hS
  exact lv_ifnonnullN hk.1 hk.2.1 hd (k p e s m args below meth cd H locs ls hk hl hR hS)
theorem g_tabOut {dflt lo hi : Int} {offs : Array Int} {len : Nat} {x : Int} {tgt : Nat} (hx : rg x) (hd : decode X.2.1 pc = .ok (.tableswitch dflt lo hi offs, len)) (h : x < lo ∨ hi < x) (ht : (pc : Int) + dflt = (tgt : Int)) (k : G E R X Qf c0 s0 δ i l tgt L st) : G E R X Qf c0 s0 δ i l pc L (vI x :: st) := by
  intro p e s m args below meth cd H locs ls hk hl hR hS
  exact lv_tableOut hk.1 hk.2.1 hd (by rw [rg_toInt hx]; exact h) ht (k p e s m args below meth cd H locs ls hk hl hR hS)
theorem g_tabIn {dflt lo hi : Int} {offs : Array Int} {len : Nat} {x off : Int} {tgt : Nat} (hx : rg x) (hd : decode X.2.1 pc = .ok (.tableswitch dflt lo hi offs, len)) (h1 : ¬ x < lo) (h2 : ¬ hi < x) (ho : offs[(x - lo).toNat]? = some off) (ht : (pc : Int) + off = (tgt : Int)) (k : G E R X Qf c0 s0 δ i l tgt L st) : G E R X Qf c0 s0 δ i l pc L (vI x :: st) := by
  intro p e s m args below meth cd H locs ls hk hl hR hS
  exact lv_tableIn hk.1 hk.2.1 hd (by rw [rg_toInt hx]; exact h1) (by rw [rg_toInt hx]; exact h2) (by rw [rg_toInt hx]; exact ho) ht (k p e s m args below meth cd H locs ls hk hl hR hS)
theorem g_ldc {n : Nat} {z : Int} (hd : decode X.2.1 pc = .ok (.ldc n, 2)) (hp : pc + 2 = pc') (hw : Cond.constant X.1.cls n (Int32.ofInt z) ∈ lwG) (k : G E R X Qf c0 s0 δ i l pc' L (vI z :: st)) : G E R X Qf c0 s0 δ i l pc L st := by
  subst hp
  intro p e s m args below meth cd H locs ls hk hl hR hS
  exact lv_ldc hk.1 hk.2.1 hk.2.2.2.2.2.1 (hk.2.2.2.2.2.2.1 _ hw) hd (k p e s m args below meth cd H locs ls hk hl hR hS)
theorem g_ldcw {n : Nat} {z : Int} (hd : decode X.2.1 pc = .ok (.ldc_w n, 3)) (hp : pc + 3 = pc') (hw : Cond.constant X.1.cls n (Int32.ofInt z) ∈ lwG) (k : G E R X Qf c0 s0 δ i l pc' L (vI z :: st)) : G E R X Qf c0 s0 δ i l pc L st := by
  subst hp
  intro p e s m args below meth cd H locs ls hk hl hR hS
  exact lv_ldcw hk.1 hk.2.1 hk.2.2.2.2.2.1 (hk.2.2.2.2.2.2.1 _ hw) hd (k p e s m args below meth cd H locs ls hk hl hR hS)
theorem g_ldc2 {n : Nat} {z : Int64} (hd : decode X.2.1 pc = .ok (.ldc2_w n, 3)) (hp : pc + 3 = pc') (hw : Cond.constantLong X.1.cls n z ∈ lwG) (k : G E R X Qf c0 s0 δ i l pc' L (vL z :: st)) : G E R X Qf c0 s0 δ i l pc L st := by
  subst hp
  intro p e s m args below meth cd H locs ls hk hl hR hS
  exact lv_ldc2 hk.1 hk.2.1 hk.2.2.2.2.2.1 (hk.2.2.2.2.2.2.1 _ hw) hd (k p e s m args below meth cd H locs ls hk hl hR hS)
end
