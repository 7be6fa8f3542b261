/-! RULES THAT MAKE CELLS -/
section
variable {E : GE} {R : Room} {X : MI} {Qf : QF} {c0 s0 : Nat} {δ : Dl} {i : IM} {l : LM} {pc pc' : Nat} {L : List (Nat × MV)} {st : List MV}
def nwD (δ : Dl) (q : Shp) : Dl := (δ.1 + 1, fun a => if a = δ.1 then some q else δ.2.1 a, fun a k => if a = δ.1 then none else δ.2.2 a k)
def nwI (δ : Dl) (i : IM) : IM := fun a k => if a = δ.1 then 0 else i a k
def nwL (δ : Dl) (l : LM) : LM := fun a k => if a = δ.1 then 0 else l a k
theorem rep_new {q : Shp} {H H1 : Heap} (hR : Rep E δ i l H) (z : H1.size = H.size + 1) (o : ∀ x : Nat, x < H.size → H1[x]? = H[x]?) (hc : cAt E (nwI δ i) (nwL δ l) (nwD δ q).2.2 δ.1 q H1) : Rep E (nwD δ q) (nwI δ i) (nwL δ l) H1 := by
  obtain ⟨h1, h2, h3, h4⟩ := hR
  refine ⟨by show 6 ≤ δ.1 + 1; omega, by show H1.size + 6 = E.2.2.2.1 + (δ.1 + 1); omega, fun a w ha => ?_, fun a j => ?_⟩
  · have ha' : (if a = δ.1 then some q else δ.2.1 a) = some w := ha
    by_cases e : a = δ.1
    · rw [if_pos e] at ha'
      cases ha'
      refine ⟨by omega, by show a < δ.1 + 1; omega, ?_⟩
      rw [e]
      exact hc
    · rw [if_neg e] at ha'
      obtain ⟨g1, g2, g3⟩ := h3 a w ha'
      refine ⟨g1, by show a < δ.1 + 1; omega, ?_⟩
      refine cAt_congr (funext fun k => if_neg e) (funext fun k => if_neg e) (funext fun k => if_neg e) (cAt_kept g3 (o _ ?_))
      rw [gRho_hi E g1]
      omega
  · show rg (if a = δ.1 then 0 else i a j)
    split
    · exact rg_lit rfl
    · exact h4 a j
theorem gRho_new {H : Heap} (hR : Rep E δ i l H) : gRho E δ.1 = H.size := by
  have h1 := hR.1
  have h2 := hR.2.1
  rw [gRho_hi E h1]
  omega
theorem va_S_new {H0 H H1 : Heap} {locs : List Loc} (hS : va_S (gA E) H0 H locs) (z : H1.size = H.size + 1) (o : ∀ x : Nat, x < H.size → H1[x]? = H[x]?) : va_S (gA E) H0 H1 locs := ⟨Nat.le_trans hS.1 (by omega), fun x h1 h2 => (o x (Nat.lt_of_lt_of_le h1 hS.1)).trans (hS.2.1 x h1 h2), hS.2.2⟩
/-- fields begin with what their kind begins with -/
def kDf (k : Nat) : Value := if k = 1 then .long 0 else if k = 2 then .null else .int 0
theorem cV_new (co : Nat) (q : Shp) (j : Nat) : cV E (nwI δ i) (nwL δ l) (nwD δ q).2.2 δ.1 co j = kDf co := by
  have h1 : nwI δ i δ.1 (j : Int) = 0 := if_pos rfl
  have h2 : nwL δ l δ.1 (j : Int) = 0 := if_pos rfl
  have h3 : (nwD δ q).2.2 δ.1 (j : Int) = none := if_pos rfl
  unfold cV kDf
  rw [h1, h2, h3]
  rfl
theorem df_all : ∀ c q, classes[c]? = some q → ∀ k, k < fN c → ∀ t, parseFieldDescriptor (q.2.1 k).2.2.1 = some t → defaultValue t = kDf (fKd c k) := by
  intro c q hc k hk t ht
  have hcl : c < 13 := (List.getElem?_eq_some_iff.mp hc).1
  have h13 : c = 0 ∨ c = 1 ∨ c = 2 ∨ c = 3 ∨ c = 4 ∨ c = 5 ∨ c = 6 ∨ c = 7 ∨ c = 8 ∨ c = 9 ∨ c = 10 ∨ c = 11 ∨ c = 12 := by omega
  rcases h13 with rfl | rfl | rfl | rfl | rfl | rfl | rfl | rfl | rfl | rfl | rfl | rfl | rfl <;> cases hc
  · cases (tyX0_ok k hk).symm.trans ht; exact (by decide +kernel : ∀ k, k < 4 → defaultValue (tyX0 k) = kDf (fKd 0 k)) k hk
  · cases (tyX1_ok k hk).symm.trans ht; exact (by decide +kernel : ∀ k, k < 16 → defaultValue (tyX1 k) = kDf (fKd 1 k)) k hk
  · cases (tyX2_ok k hk).symm.trans ht; exact (by decide +kernel : ∀ k, k < 3 → defaultValue (tyX2 k) = kDf (fKd 2 k)) k hk
  · cases (tyX3_ok k hk).symm.trans ht; exact (by decide +kernel : ∀ k, k < 12 → defaultValue (tyX3 k) = kDf (fKd 3 k)) k hk
  · cases (tyX4_ok k hk).symm.trans ht; exact (by decide +kernel : ∀ k, k < 5 → defaultValue (tyX4 k) = kDf (fKd 4 k)) k hk
  · cases (tyX5_ok k hk).symm.trans ht; exact (by decide +kernel : ∀ k, k < 19 → defaultValue (tyX5 k) = kDf (fKd 5 k)) k hk
  · cases (tyX6_ok k hk).symm.trans ht; exact (by decide +kernel : ∀ k, k < 6 → defaultValue (tyX6 k) = kDf (fKd 6 k)) k hk
  · cases (tyX7_ok k hk).symm.trans ht; exact (by decide +kernel : ∀ k, k < 12 → defaultValue (tyX7 k) = kDf (fKd 7 k)) k hk
  · cases (tyX8_ok k hk).symm.trans ht; exact (by decide +kernel : ∀ k, k < 15 → defaultValue (tyX8 k) = kDf (fKd 8 k)) k hk
  · cases (tyX9_ok k hk).symm.trans ht; exact (by decide +kernel : ∀ k, k < 16 → defaultValue (tyX9 k) = kDf (fKd 9 k)) k hk
  · cases (tyX10_ok k hk).symm.trans ht; exact (by decide +kernel : ∀ k, k < 9 → defaultValue (tyX10 k) = kDf (fKd 10 k)) k hk
  · cases (tyX11_ok k hk).symm.trans ht; exact (by decide +kernel : ∀ k, k < 19 → defaultValue (tyX11 k) = kDf (fKd 11 k)) k hk
  · cases (tyX12_ok k hk).symm.trans ht; exact (by decide +kernel : ∀ k, k < 52 → defaultValue (tyX12 k) = kDf (fKd 12 k)) k hk
theorem g_new {idx c : Nat} {q : vw_C} (hc : classes[c]? = some q) (hN : q.2.2 = fN c) (hcl : Cond.classLink X.1.cls idx q.1 ∈ lwG) (hin : Cond.instantiable q.1 (fN c) ∈ lwG) (hini : Cond.initialized q.1 ∈ lwG) (hd : decode X.2.1 pc = .ok (.new idx, 3)) (hp : pc + 3 = pc') (hcell : c0 + 1 ≤ R.cells) (hslot : s0 + fN c ≤ R.slots) (kk : G E R X Qf (c0 + 1) (s0 + fN c) (nwD δ (.inr c)) (nwI δ i) (nwL δ l) pc' L (vR (some δ.1) :: st)) : G E R X Qf c0 s0 δ i l pc L st := by
  subst hp
  intro p e s m args below meth cd H locs ls hk hl hR hS
  have hts := hk.2.2.2.2.2.2.1
  have hown := hk.2.2.2.2.2.1
  have hK := hk.2.2.2.2.2.2.2.1.1
  have hKn := hK.1 c _ hc
  obtain ⟨hin', hnm, ty, hty⟩ := ct_all q (List.mem_of_getElem? hc)
  refine W.newcK hk.1 hk.2.1 hown (hts _ hcl) (hts _ hin) (hts _ hini) rfl hd hcell hslot hKn.2.1 rfl fun H1 kC hkC e1 z1 o1 => ?_
  have hb := u_born ty hts hin' hKn hkC e1 hty
  have hsz := gRho_new hR
  rw [← hsz, hN] at hb
  have hr : Rep E (nwD δ (.inr c)) (nwI δ i) (nwL δ l) H1 := rep_new hR z1 o1 (hb.to fun k hk' => by
    rw [cV_new]
    exact df_all c q hc k hk' _ (hty k (by rw [hN]; exact hk')))
  have kw := kk p e s m args below meth cd H1 locs ls hk hl hr (va_S_new hS z1 o1)
  have ee : emb E (vR (some δ.1)) = .ref H.size := by show Value.ref (gRho E δ.1) = _; rw [hsz]
  rw [List.map_cons, ee] at kw
  exact kw
theorem g_newa {kd n : Nat} {z : Int} {at_ : ArrayType} (hkd : kd < 4) (hty : newarray.typeOf at_ = kTy kd) (hw : Cond.arrayClass (newarray.typeOf at_) ∈ lwG) (hz : ((n : Nat) : Int) = z) (hn : n ≤ 1000000) (hd : decode X.2.1 pc = .ok (.newarray at_, 2)) (hp : pc + 2 = pc') (hcell : c0 + 1 ≤ R.cells) (hslot : s0 + n ≤ R.slots) (kk : G E R X Qf (c0 + 1) (s0 + n) (nwD δ (.inl (kd, n))) (nwI δ i) (nwL δ l) pc' L (vR (some δ.1) :: st)) : G E R X Qf c0 s0 δ i l pc L (vI z :: st) := by
  subst hp
  subst hz
  intro p e s m args below meth cd H locs ls hk hl hR hS
  have hts := hk.2.2.2.2.2.2.1
  have hK := hk.2.2.2.2.2.2.2.1.1
  have hsz := gRho_new hR
  have hra := (hK.2 kd _ (gTys_at E (by omega))).2
  have hnm : s.vm.findClass ("[" ++ (newarray.typeOf at_).toString) = some (E.2.2.1 kd) := by
    rw [hty]
    have h4 : kd = 0 ∨ kd = 1 ∨ kd = 2 ∨ kd = 3 := by omega
    rcases h4 with rfl | rfl | rfl | rfl <;> exact hra
  have hc8 : componentBytes (newarray.typeOf at_) ≤ 8 := by cases at_ <;> decide
  refine va_newaK hk.1 hk.2.1 (hts _ hw) rfl hd rfl (N := n) (by
      have h2 : ¬ Int32.ofInt (n : Int) < 0 := by
        rw [← ofInt0, rg_lt ⟨by omega, by omega⟩ ⟨by omega, by omega⟩]
        omega
      exact h2) (by rw [rg_clamp (by omega) (by omega)]; exact Int.toNat_natCast n) (Nat.le_trans (Nat.mul_le_mul hn hc8) (by decide)) hcell hslot rfl fun H1 cA e1 z1 o1 hAr hNm => ?_
  have hcA : cA = E.2.2.1 kd := Option.some.inj (hNm.symm.trans hnm)
  subst hcA
  have hr : Rep E (nwD δ (.inl (kd, n))) (nwI δ i) (nwL δ l) H1 := rep_new hR z1 o1 (by
    show H1[gRho E δ.1]? = _
    rw [hsz, e1]
    congr 2
    funext x
    rw [cV_new, hty]
    have h4 : kd = 0 ∨ kd = 1 ∨ kd = 2 ∨ kd = 3 := by omega
    rcases h4 with rfl | rfl | rfl | rfl <;> rfl)
  have kw := kk p e s m args below meth cd H1 locs ls hk hl hr (va_S_new hS z1 o1)
  have ee : emb E (vR (some δ.1)) = .ref H.size := by show Value.ref (gRho E δ.1) = _; rw [hsz]
  rw [List.map_cons, ee] at kw
  exact kw
theorem g_newq {idx kd n : Nat} {C : String} {z : Int} (hkd : kd = 4 ∧ C = "ThreeColours$Town" ∨ kd = 5 ∧ C = "ThreeColours$Law") (hcl : Cond.classLink X.1.cls idx C ∈ lwG) (hz : ((n : Nat) : Int) = z) (hn : n ≤ 1000000) (hd : decode X.2.1 pc = .ok (.anewarray idx, 3)) (hp : pc + 3 = pc') (hcell : c0 + 1 ≤ R.cells) (hslot : s0 + n ≤ R.slots) (kk : G E R X Qf (c0 + 1) (s0 + n) (nwD δ (.inl (kd, n))) (nwI δ i) (nwL δ l) pc' L (vR (some δ.1) :: st)) : G E R X Qf c0 s0 δ i l pc L (vI z :: st) := by
  subst hp
  subst hz
  intro p e s m args below meth cd H locs ls hk hl hR hS
  have hts := hk.2.2.2.2.2.2.1
  have hown := hk.2.2.2.2.2.1
  have hKn := hk.2.2.2.2.2.2.2.1
  have hK := hKn.1
  have hsz := gRho_new hR
  have hcn : (Int32.ofInt (n : Int)).toNatClampNeg = n := by rw [rg_clamp (by omega) (by omega)]; exact Int.toNat_natCast n
  have hover : va_AO C s := by
    rcases hkd with h | h
    · rw [h.2]; exact hKn.2.2.2.2.2.2.2.1.1
    · rw [h.2]; exact hKn.2.2.2.2.2.2.2.1.2.1
  have hra : va_RA s (E.2.2.1 kd) (.object C) := by
    have h5 : kd < 6 := by omega
    have := (hK.2 kd _ (gTys_at E h5)).2
    rcases hkd with h | h
    · obtain ⟨rfl, rfl⟩ := h; exact this
    · obtain ⟨rfl, rfl⟩ := h; exact this
  have hco : kCo kd = 2 := by
    rcases hkd with h | h
    · rw [h.1]; rfl
    · rw [h.1]; rfl
  refine W.anew hk.1 hk.2.1 hown (hts _ hcl) (va_AO.use hover) rfl hd rfl (by
      have h2 : ¬ Int32.ofInt (n : Int) < 0 := by
        rw [← ofInt0, rg_lt ⟨by omega, by omega⟩ ⟨by omega, by omega⟩]
        omega
      exact h2) (by rw [hcn]; omega) hcell (by rw [hcn]; exact hslot) fun cA kA comp f1 f2 f3 f4 => ?_
  obtain ⟨kA', comp', -, -, -, h4⟩ := hra
  have hcA : cA = E.2.2.1 kd := Option.some.inj (f1.symm.trans h4)
  subst hcA
  rw [hcn]
  generalize hH1 : H.push ({ cls := E.2.2.1 kd, slots := Array.replicate n .null, vm := .none } : Cell) = H1
  have z1 : H1.size = H.size + 1 := by rw [← hH1, Array.size_push]
  have e1 : H1[H.size]? = some (arrV (E.2.2.1 kd) n (fun _ => .null)) := by rw [← hH1, Array.getElem?_push_size, ← arrV_new]
  have o1 : ∀ q : Nat, q < H.size → H1[q]? = H[q]? := fun q hq => by rw [← hH1, Array.getElem?_push, if_neg (Nat.ne_of_lt hq)]
  have hr : Rep E (nwD δ (.inl (kd, n))) (nwI δ i) (nwL δ l) H1 := rep_new hR z1 o1 (by
    show H1[gRho E δ.1]? = _
    rw [hsz, e1]
    congr 2
    funext x
    rw [cV_new, hco]
    rfl)
  have kw := kk p e s m args below meth cd H1 locs ls hk hl hr (va_S_new hS z1 o1)
  have ee : emb E (vR (some δ.1)) = .ref H.size := by show Value.ref (gRho E δ.1) = _; rw [hsz]
  rw [List.map_cons, ee] at kw
  exact kw
/-- the same memory in other words -/
theorem g_rep {δ2 : Dl} {i2 : IM} {l2 : LM} (h : ∀ H : Heap, Rep E δ i l H → Rep E δ2 i2 l2 H) (kk : G E R X Qf c0 s0 δ2 i2 l2 pc L st) : G E R X Qf c0 s0 δ i l pc L st := fun p e s m args below meth cd H locs ls hk hl hR hS => kk p e s m args below meth cd H locs ls hk hl (h H hR) hS
/-- a reference into a row of references -/
theorem cV_ast {kd a : Nat} {j : Int} {o : Option Nat} (hco : kCo kd = 2) (h0 : 0 ≤ j) : updV (cV E i l δ.2.2 a (kCo kd)) j.toNat (emb E (vR o)) = cV E i l (u2r δ.2.2 a j o) a (kCo kd) := by
  funext x
  rw [hco]
  unfold cV u2r updV
  by_cases hx : x = j.toNat
  · have hx2 : (x : Int) = j := by omega
    rw [if_pos hx, if_neg (by decide), if_pos rfl, hx2, if_pos ⟨rfl, rfl⟩]
    rfl
  · have hx2 : ¬ (x : Int) = j := by omega
    simp [hx2, hx]
theorem g_aast {a n kd c b : Nat} {j : Int} (hs : δ.2.1 a = some (.inl (kd, n))) (hb : δ.2.1 b = some (.inr c)) (hkd : kd = 4 ∧ c = 9 ∨ kd = 5 ∧ c = 2) {N : Int} (hN : ((n : Nat) : Int) = N) (hn : n < 2147483648) (h0 : 0 ≤ j ∧ j < N) (hd : decode X.2.1 pc = .ok (.aastore, 1)) (hp : pc + 1 = pc') (kk : G E R X Qf c0 s0 (δ.1, δ.2.1, u2r δ.2.2 a j (some b)) i l pc' L st) : G E R X Qf c0 s0 δ i l pc L (vR (some b) :: vI j :: vR (some a) :: st) := by
  subst hp
  subst hN
  intro p e s m args below meth cd H locs ls hk hl hR hS
  have hK := hk.2.2.2.2.2.2.2.1.1
  have hc := rep_arr hR hs
  have ha := (hR.2.2.1 a _ hs).1
  obtain ⟨cellV, g1, g2, g3, -⟩ := rep_obj hR hb
  have hco : kCo kd = 2 := by
    rcases hkd with h | h
    · rw [h.1]; rfl
    · rw [h.1]; rfl
  obtain ⟨C, q, hq, hqC, hra⟩ : ∃ (C : String) (q : vw_C), classes[c]? = some q ∧ q.1 = C ∧ va_RA s (E.2.2.1 kd) (.object C) := by
    have h5 : kd < 6 := by omega
    have := (hK.2 kd _ (gTys_at E h5)).2
    rcases hkd with h | h
    · obtain ⟨rfl, rfl⟩ := h; exact ⟨_, _, rfl, rfl, this⟩
    · obtain ⟨rfl, rfl⟩ := h; exact ⟨_, _, rfl, rfl, this⟩
  have hcls := (hK.1 c q hq).2
  obtain ⟨kA, comp, k1, k2, k3, -⟩ := hra
  subst hqC
  have hcomp : comp = E.2.1.1 c := Option.some.inj (k3.symm.trans hcls.1)
  subst hcomp
  obtain ⟨kC, hkC, -⟩ := hcls.2
  refine W.aast hk.1 hk.2.1 hc (fun q h => by cases h) (fun h => by cases h) k1 k2 rfl hkC ⟨fun q => gx_size (E.2.2.1 kd) n (cV E i l δ.2.2 a (kCo kd)) h0.1 h0.2 hn (Or.inl q), Nat.not_le.mp fun q => gx_size (E.2.2.1 kd) n (cV E i l δ.2.2 a (kCo kd)) h0.1 h0.2 hn (Or.inr q)⟩ g1 (fun q h => by rw [g3] at h; cases h) (by rw [g2]; exact hkC) (by rw [g2]; exact va_assign hcls) rfl rfl hd fun H1 z1 z2 z3 => ?_
  refine kk p e s m args below meth cd H1 _ ls hk hl (rep_put hR hs z2 z3 ?_ (fun b hb => ⟨rfl, rfl, u2r_other _ _ _ hb⟩) hR.2.2.2) (va_S_put hS ha z2 z3)
  show H1[gRho E a]? = _
  rw [z1, arrV_store, rg_clamp h0.1 (by omega)]
  congr 2
  exact cV_ast (o := some b) hco h0.1
theorem g_aastN {a n kd : Nat} {j : Int} (hs : δ.2.1 a = some (.inl (kd, n))) (hkd : kd = 4 ∨ kd = 5) {N : Int} (hN : ((n : Nat) : Int) = N) (hn : n < 2147483648) (h0 : 0 ≤ j ∧ j < N) (hd : decode X.2.1 pc = .ok (.aastore, 1)) (hp : pc + 1 = pc') (kk : G E R X Qf c0 s0 (δ.1, δ.2.1, u2r δ.2.2 a j none) i l pc' L st) : G E R X Qf c0 s0 δ i l pc L (vR none :: vI j :: vR (some a) :: st) := by
  subst hp
  subst hN
  intro p e s m args below meth cd H locs ls hk hl hR hS
  have hc := rep_arr hR hs
  have ha := (hR.2.2.1 a _ hs).1
  have hco : kCo kd = 2 := by
    rcases hkd with h | h
    · rw [h]; rfl
    · rw [h]; rfl
  obtain ⟨C, hC⟩ : ∃ C, kTy kd = .object C := by
    rcases hkd with h | h
    · rw [h]; exact ⟨_, rfl⟩
    · rw [h]; exact ⟨_, rfl⟩
  have hka := known_arr hk.2.2.2.2.2.2.2.1 (kd := kd) (by omega) n (cV E i l δ.2.2 a (kCo kd))
  rw [hC] at hka
  refine va_WaastN (C := C) hk.1 hk.2.1 hc hka (fun h => by cases h) (gx_size _ _ _ h0.1 h0.2 hn) rfl rfl hd fun H1 z1 z2 z3 => ?_
  refine kk p e s m args below meth cd H1 _ ls hk hl (rep_put hR hs z2 z3 ?_ (fun b hb => ⟨rfl, rfl, u2r_other _ _ _ hb⟩) hR.2.2.2) (va_S_put hS ha z2 z3)
  show H1[gRho E a]? = _
  rw [z1, arrV_store, rg_clamp h0.1 (by omega)]
  congr 2
  exact cV_ast (o := none) hco h0.1
end
