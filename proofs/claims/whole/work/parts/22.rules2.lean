/-! RULES for what lies outside (two tables, a text), and for System.arraycopy -/
def hT (j : Int) : Int := hTrait j.toNat
def hV (j : Int) : Int := hView j.toNat
def hW (j : Int) : Int := (wordsBytes.getD j.toNat 0).toInt
def cpA (i : IM) (a b : Nat) (n : Int) : IM := fun c k => if c = b ∧ 0 ≤ k ∧ k < n then i a k else i c k
section
variable {E : GE} {R : Room} {X Y : MI} {Qf : QF} {c0 s0 : Nat} {δ : Dl} {i : IM} {l : LM} {pc pc' : Nat} {L : List (Nat × MV)} {st : List MV}
theorem g_stat1 {idx : Nat} (hw : Cond.fieldLink X.1.cls idx "ThreeColours" "HIGHEST_TRAIT" "[I" ∈ lwG) (hd : decode X.2.1 pc = .ok (.getstatic idx, 3)) (hp : pc + 3 = pc') (kk : G E R X Qf c0 s0 δ i l pc' L (vR (some 1) :: st)) : G E R X Qf c0 s0 δ i l pc L st := by
  subst hp
  intro p e s m args below meth cd H locs ls hk hl hR hS
  exact va_gets hk.1 hk.2.1 hk.2.2.2.2.2.2.2.1.2.1.1 hS hk.2.2.2.2.2.1 (hk.2.2.2.2.2.2.1 _ hw) (fun _ h => h) hd (kk p e s m args below meth cd H locs ls hk hl hR hS)
theorem g_stat2 {idx : Nat} (hw : Cond.fieldLink X.1.cls idx "ThreeColours" "HIGHEST_VIEW" "[I" ∈ lwG) (hd : decode X.2.1 pc = .ok (.getstatic idx, 3)) (hp : pc + 3 = pc') (kk : G E R X Qf c0 s0 δ i l pc' L (vR (some 2) :: st)) : G E R X Qf c0 s0 δ i l pc L st := by
  subst hp
  intro p e s m args below meth cd H locs ls hk hl hR hS
  exact va_gets hk.1 hk.2.1 hk.2.2.2.2.2.2.2.1.2.2.1.1 hS hk.2.2.2.2.2.1 (hk.2.2.2.2.2.2.1 _ hw) (fun _ h => h) hd (kk p e s m args below meth cd H locs ls hk hl hR hS)
theorem rg_getD (bs : List Int) (k : Nat) (h : ∀ x ∈ bs, rg x) : rg (bs.getD k 0) := by
  rw [List.getD_eq_getElem?_getD]
  cases e : bs[k]? with
  | none => exact rg_lit rfl
  | some x => exact h x (List.mem_of_getElem? e)
theorem rg_hT (j : Int) : rg (hT j) := rg_getD _ _ (by intro x hx; simp only [List.mem_cons, List.not_mem_nil, or_false] at hx; rcases hx with h | h | h | h | h | h <;> subst h <;> exact rg_lit rfl)
theorem rg_hV (j : Int) : rg (hV j) := rg_getD _ _ (by intro x hx; simp only [List.mem_cons, List.not_mem_nil, or_false] at hx; rcases hx with h | h | h <;> subst h <;> exact rg_lit rfl)
theorem g_xald1 {j : Int} (h0 : 0 ≤ j ∧ j < 6) (hd : decode X.2.1 pc = .ok (.iaload, 1)) (hp : pc + 1 = pc') (kk : rg (hT j) → G E R X Qf c0 s0 δ i l pc' L (vI (hT j) :: st)) : G E R X Qf c0 s0 δ i l pc L (vI j :: vR (some 1) :: st) := by
  subst hp
  intro p e s m args below meth cd H locs ls hk hl hR hS
  exact va_ti (i := Int32.ofInt j) (v := .int (Int32.ofInt (hT j))) hk.1 hk.2.1 hk.2.2.2.2.2.2.2.1.2.1.2 hS (rg_in h0.1 (by omega) (by omega)) (by rw [rg_clamp h0.1 (by omega)]; rfl) hd (kk (rg_hT j) p e s m args below meth cd H locs ls hk hl hR hS)
theorem g_xald2 {j : Int} (h0 : 0 ≤ j ∧ j < 3) (hd : decode X.2.1 pc = .ok (.iaload, 1)) (hp : pc + 1 = pc') (kk : rg (hV j) → G E R X Qf c0 s0 δ i l pc' L (vI (hV j) :: st)) : G E R X Qf c0 s0 δ i l pc L (vI j :: vR (some 2) :: st) := by
  subst hp
  intro p e s m args below meth cd H locs ls hk hl hR hS
  exact va_ti (i := Int32.ofInt j) (v := .int (Int32.ofInt (hV j))) hk.1 hk.2.1 hk.2.2.2.2.2.2.2.1.2.2.1.2 hS (rg_in h0.1 (by omega) (by omega)) (by rw [rg_clamp h0.1 (by omega)]; rfl) hd (kk (rg_hV j) p e s m args below meth cd H locs ls hk hl hR hS)
theorem g_xald4 {j : Int} (h0 : 0 ≤ j ∧ j < 93) (hd : decode X.2.1 pc = .ok (.baload, 1)) (hp : pc + 1 = pc') (kk : rg (hW j) → G E R X Qf c0 s0 δ i l pc' L (vI (hW j) :: st)) : G E R X Qf c0 s0 δ i l pc L (vI j :: vR (some 4) :: st) := by
  subst hp
  intro p e s m args below meth cd H locs ls hk hl hR hS
  have hT := (hk.2.2.2.2.2.2.2.1.2.2.2.1.2.1.1 0 (by decide)).2.2.2
  refine va_tb (i := Int32.ofInt j) (v := .int (Int32.ofInt (hW j))) hk.1 hk.2.1 hT hS (rg_in h0.1 (by exact_mod_cast h0.2) (by decide)) ?_ hd (kk (rg_of _) p e s m args below meth cd H locs ls hk hl hR hS)
  rw [rg_clamp h0.1 (by omega)]
  show Value.int (wordsBytes.getD j.toNat 0) = _
  unfold hW
  rw [Int32.ofInt_toInt]
theorem g_xlen4 (hd : decode X.2.1 pc = .ok (.arraylength, 1)) (hp : pc + 1 = pc') (kk : G E R X Qf c0 s0 δ i l pc' L (vI 93 :: st)) : G E R X Qf c0 s0 δ i l pc L (vR (some 4) :: st) := by
  subst hp
  intro p e s m args below meth cd H locs ls hk hl hR hS
  have hT := (hk.2.2.2.2.2.2.2.1.2.2.2.1.2.1.1 0 (by decide)).2.2.2
  exact va_tlen (v := Int32.ofInt 93) hk.1 hk.2.1 hT hS (by decide) hd (kk p e s m args below meth cd H locs ls hk hl hR hS)
theorem g_ldcS (hc : X.1.cls = "ThreeColours$Reader") (hd : decode X.2.1 pc = .ok (.ldc 116, 2)) (hp : pc + 2 = pc') (kk : G E R X Qf c0 s0 δ i l pc' L (vR (some 3) :: st)) : G E R X Qf c0 s0 δ i l pc L st := by
  subst hp
  intro p e s m args below meth cd H locs ls hk hl hR hS
  exact va_ldcS hk.1 hk.2.1 (by rw [← hc]; exact hk.2.2.2.2.2.1) hk.2.2.2.2.2.2.2.1.2.2.2.1.1 hd (kk p e s m args below meth cd H locs ls hk hl hR hS)
theorem g_xval (hc : X.1.cls = "java/lang/String") (hd : decode X.2.1 pc = .ok (.getfield 9, 3)) (hp : pc + 3 = pc') (kk : G E R X Qf c0 s0 δ i l pc' L (vR (some 4) :: st)) : G E R X Qf c0 s0 δ i l pc L (vR (some 3) :: st) := by
  subst hp
  intro p e s m args below meth cd H locs ls hk hl hR hS
  have hT := (hk.2.2.2.2.2.2.2.1.2.2.2.1.2.1.1 0 (by decide)).2.2.1
  exact vk_getf hk.1 hk.2.1 hT hS (by rw [← hc]; exact hk.2.2.2.2.2.1) (hk.2.2.2.2.2.2.1 _ st_S_9) (fun _ h => h) hd (kk p e s m args below meth cd H locs ls hk hl hR hS)
theorem g_xcod (hc : X.1.cls = "java/lang/String") (hd : decode X.2.1 pc = .ok (.getfield 15, 3)) (hp : pc + 3 = pc') (kk : G E R X Qf c0 s0 δ i l pc' L (vI 0 :: st)) : G E R X Qf c0 s0 δ i l pc L (vR (some 3) :: st) := by
  subst hp
  intro p e s m args below meth cd H locs ls hk hl hR hS
  have hT := (hk.2.2.2.2.2.2.2.1.2.2.2.1.2.1.1 0 (by decide)).2.1
  exact vk_getf hk.1 hk.2.1 hT hS (by rw [← hc]; exact hk.2.2.2.2.2.1) (hk.2.2.2.2.2.2.1 _ st_S_15) (fun _ h => h) hd (kk p e s m args below meth cd H locs ls hk hl hR hS)
theorem g_xcmp (hc : X.1.cls = "java/lang/String") (hd : decode X.2.1 pc = .ok (.getstatic 38, 3)) (hp : pc + 3 = pc') (kk : G E R X Qf c0 s0 δ i l pc' L (vI 1 :: st)) : G E R X Qf c0 s0 δ i l pc L st := by
  subst hp
  intro p e s m args below meth cd H locs ls hk hl hR hS
  exact va_gets hk.1 hk.2.1 hk.2.2.2.2.2.2.2.1.2.2.2.1.2.2 hS (by rw [← hc]; exact hk.2.2.2.2.2.1) (hk.2.2.2.2.2.2.1 _ st_S_38) (fun _ h => h) hd (kk p e s m args below meth cd H locs ls hk hl hR hS)
theorem g_xfmt (hc : X.1.cls = "java/lang/String") (hd : decode X.2.1 pc = .ok (.getstatic 1053, 3)) (hp : pc + 3 = pc') (kk : ∀ o : Option Nat, G E R X Qf c0 s0 δ i l pc' L (vR o :: st)) : G E R X Qf c0 s0 δ i l pc L st := by
  subst hp
  intro p e s m args below meth cd H locs ls hk hl hR hS
  obtain ⟨o, h1, h2⟩ := hk.2.2.2.2.2.2.2.1.2.2.2.2.2.2.2.2
  have e1 : va_rf o = emb E (vR (o.map (fun _ => 5))) := by
    cases o with
    | none => rfl
    | some q => rw [h2 q rfl]; rfl
  rw [e1] at h1
  exact va_gets hk.1 hk.2.1 h1 hS (by rw [← hc]; exact hk.2.2.2.2.2.1) (hk.2.2.2.2.2.2.1 _ st_S_1053) (fun _ h => h) hd (kk _ p e s m args below meth cd H locs ls hk hl hR hS)
/-- a virtual call on the text -/
theorem g_callX {d mc ms n idx : Nat} {vs : List MV} {Post : PT} (hM : Cn E d mc ms Y (vR (some 3) :: vs) δ i l Post) (hm : MKv Y n) (hl : Cond.methodLink X.1.cls idx Y.1 ∈ lwG) (hc : Y.1.cls = "java/lang/String") (hn : vs.length = n) (hr : (st.map (fun v => if isLg v then 2 else 1)).sum ≤ 8)
    (hR : d + 1 ≤ R.frames ∧ 19 + Y.2.2.1 + 64 * d ≤ R.locals) (hcs : c0 + mc ≤ R.cells ∧ s0 + ms ≤ R.slots) {st1 : List MV} (hst : st1 = vs.reverse ++ vR (some 3) :: st) (hd : decode X.2.1 pc = .ok (.invokevirtual idx, 3)) (hp : pc + 3 = pc') (kk : ∀ r δ' i' l', Post r δ' i' l' → G E R X Qf (c0 + mc) (s0 + ms) δ' i' l' pc' L (r.toList ++ st)) : G E R X Qf c0 s0 δ i l pc L st1 := by
  subst hp
  subst hst
  intro p e s m args below meth cd H locs ls hk hl' hRp hS
  have hts := hk.2.2.2.2.2.2.1
  have hKn := hk.2.2.2.2.2.2.2.1
  refine g_back (va_runV (As := vs.map (emb E)) (rest := st.map (emb E)) (C := Y.1.cls) (b := gRho E 3) (n := n) ⟨hk.1, hk.2.1, hk.2.2.1, hk.2.2.2.2.2.1, hts⟩ hM ⟨callB_mk hts hm.1 hl hR, hts _ hm.2.1, hts _ hm.2.2⟩ ⟨gPc_blind E _ δ i l, ?_, fun U hU hW => gPc_at (vs := vR (some 3) :: vs) hKn hk.2.2.2.2.2.2.2.2.1 hRp hS hU hW⟩ rfl (by rw [List.length_map]; exact hn) hl'.1 ?_ (lv_room (mv_room hr)) hd hcs) hS (fun r δ' i' l' H1 locs1 hpo hR1 hS1 => ?_)
  · rw [hc]; exact vk_recv hKn.2.2.2.1.2.1 (i := 0) (by decide) hS
  · show List.map (emb E) (vs.reverse ++ vR (some 3) :: st) = _
    rw [List.map_append, List.map_reverse, List.map_cons]
    rfl
  · have K := kk r δ' i' l' hpo p e s m args below meth cd H1 locs1 ls hk hl' hR1 hS1
    have e1 : List.map (emb E) (r.toList ++ st) = (r.map (emb E)).toList ++ st.map (emb E) := by cases r <;> simp
    rw [e1] at K
    exact K
theorem g_pXI {d n idx mc ms : Nat} {vs st1 : List MV} {val : Int} (hM : CI E d Y (vR (some 3) :: vs) δ i l (fun x i' l' => x = val ∧ i' = i ∧ l' = l)) (hm : MKv Y n) (hl : Cond.methodLink X.1.cls idx Y.1 ∈ lwG) (hc : Y.1.cls = "java/lang/String") (hn : vs.length = n) (hr : (st.map (fun v => if isLg v then 2 else 1)).sum ≤ 8) (hml : Y.2.2.1 ≤ 45) (hst : st1 = vs.reverse ++ vR (some 3) :: st) (hd : decode X.2.1 pc = .ok (.invokevirtual idx, 3)) (hp : pc + 3 = pc') (hcs : c0 ≤ (rmD (d + 1) mc ms).cells ∧ s0 ≤ (rmD (d + 1) mc ms).slots) (kk : rg val → G E (rmD (d + 1) mc ms) X Qf c0 s0 δ i l pc' L (vI val :: st)) : G E (rmD (d + 1) mc ms) X Qf c0 s0 δ i l pc L st1 :=
  g_callX hM hm hl hc hn hr (rm_ok hml) hcs hst hd hp (fun r δ' i' l' h => by
    obtain ⟨rfl, x, rfl, hx, rfl, rfl, rfl⟩ := h
    exact kk hx)
/-- System.arraycopy from the start of one int row to the start of another -/
theorem g_acopy {idx a b n0 n1 : Nat} {n : Int} (hlk : Cond.methodLink X.1.cls idx arraycopyName ∈ lwG) (hs : δ.2.1 a = some (.inl (0, n0))) (hs1 : δ.2.1 b = some (.inl (0, n1))) (hn : 0 ≤ n ∧ n ≤ n0 ∧ n ≤ n1) (hn0 : n0 < 2147483648) (hRm : 1 ≤ R.frames ∧ 26 ≤ R.locals) (hr : (st.map (fun v => if isLg v then 2 else 1)).sum ≤ 8) (hd : decode X.2.1 pc = .ok (.invokestatic idx, 3)) (hp : pc + 3 = pc') (kk : G E R X Qf c0 s0 δ (cpA i a b n) l pc' L st) : G E R X Qf c0 s0 δ i l pc L (vI n :: vI 0 :: vR (some b) :: vI 0 :: vR (some a) :: st) := by
  subst hp
  intro p e s m args below meth cd H locs ls hk hl hR hS
  have hts := hk.2.2.2.2.2.2.1
  have hKn := hk.2.2.2.2.2.2.2.1
  obtain ⟨hn1, hn2, hn3⟩ := hn
  have hc0 : H[gRho E a]? = some (vp_cell (E.2.2.1 0) (n0, .inl (fun j => Int32.ofInt (i a j)))) := rep_arr hR hs
  have hc1 : H[gRho E b]? = some (vp_cell (E.2.2.1 0) (n1, .inl (fun j => Int32.ofInt (i b j)))) := rep_arr hR hs1
  obtain ⟨-, k0, hk0, cm0, hkk0⟩ := (hKn.1.2 0 _ (gTys_at E (by decide))).1 n0 (fun j => .int (Int32.ofInt (i a j)))
  obtain ⟨-, k1, hk1, cm1, hkk1⟩ := (hKn.1.2 0 _ (gTys_at E (by decide))).1 n1 (fun j => .int (Int32.ofInt (i b j)))
  have hrn : rg n := ⟨by omega, by omega⟩
  have hnt := rg_toInt hrn
  have hcl : (Int32.ofInt n).toNatClampNeg = n.toNat := rg_clamp hn1 (by omega)
  have h8 := mv_room (E := E) hr
  intro T hT X0
  obtain ⟨vm', X', step⟩ := X0.arraycopy hk.1 hk.2.2.2.2.2.1 (hts _ hlk) (hts _ ac_nat) (hts _ ac_sta) (hts _ ac_ini) (src := gRho E a) (dst := gRho E b) (cs := vp_cell (E.2.2.1 0) (n0, .inl (fun j => Int32.ofInt (i a j)))) (cd := vp_cell (E.2.2.1 0) (n1, .inl (fun j => Int32.ofInt (i b j)))) (srcPos := 0) (destPos := 0) (n := Int32.ofInt n) (by rw [hT]; exact hc0) (by rw [hT]; exact hc1)
    (fun _ h => by cases h) (fun _ h => by cases h) (fun h => by cases h) (fun h => by cases h) hk0 hk1 hkk0 hkk1 rfl (by decide) (by decide) (by rw [← ofInt0, rg_lt hrn (rg_lit rfl)]; omega)
    (by rw [hnt]; show ¬ (0 : Int32).toInt + n > ((arrV (E.2.2.1 0) n0 (fun j => .int (Int32.ofInt (i a j)))).slots.size : Int); rw [arrV_size]; have : (0 : Int32).toInt = 0 := rfl; omega)
    (by rw [hnt]; show ¬ (0 : Int32).toInt + n > ((arrV (E.2.2.1 0) n1 (fun j => .int (Int32.ofInt (i b j)))).slots.size : Int); rw [arrV_size]; have : (0 : Int32).toInt = 0 := rfl; omega)
    (fun vm₁ _ k hki => by
      rw [hcl] at hki
      have e : (vp_cell (E.2.2.1 0) (n0, .inl (fun j => Int32.ofInt (i a j)))).slots.getD ((0 : Int32).toNatClampNeg + k) .null = .int (Int32.ofInt (i a k)) := by
        show (arrV (E.2.2.1 0) n0 (fun j => .int (Int32.ofInt (i a j)))).slots.getD _ _ = _
        have z0 : (0 : Int32).toNatClampNeg + k = k := by show 0 + k = k; omega
        rw [z0, Array.getD_eq_getD_getElem?, arrV_read _ _ (by omega)]
        rfl
      refine ⟨?_, ?_⟩
      · rw [e]; rfl
      · rw [e]; exact trivial)
    (g := F0 m pc ls ((vI n :: vI 0 :: vR (some b) :: vI 0 :: vR (some a) :: st).map (emb E))) rfl (by rw [hl.1]; exact hk.2.2.1.symm) (rest := st.map (emb E)) rfl (by rw [hk.2.1]; exact hd) hRm.1 (by show 2 * 0 + _ + (7 + 11) ≤ _; omega)
  have e1 : copied (vp_cell (E.2.2.1 0) (n0, .inl (fun j => Int32.ofInt (i a j)))) (vp_cell (E.2.2.1 0) (n1, .inl (fun j => Int32.ofInt (i b j)))) 0 0 (Int32.ofInt n) = vp_cell (E.2.2.1 0) (n1, .inl (va_cpy (fun j => Int32.ofInt (i a j)) (fun j => Int32.ofInt (i b j)) (0 : Int32).toNatClampNeg (0 : Int32).toNatClampNeg (Int32.ofInt n).toNatClampNeg)) := va_copied (n0 := n0) (n1 := n1) (sp := (0 : Int32).toNatClampNeg) (dp := (0 : Int32).toNatClampNeg) (n := (Int32.ofInt n).toNatClampNeg) (fun z : Int32 => Value.int z) (E.2.2.1 0) (E.2.2.1 0) (fun j => Int32.ofInt (i a j)) (fun j => Int32.ofInt (i b j)) (by rw [hcl]; show 0 + _ ≤ _; omega)
  rw [e1] at X' step
  have hlt : gRho E b < H.size := (Array.getElem?_eq_some_iff.mp hc1).1
  have oq : ∀ q : Nat, q ≠ gRho E b → (H.setIfInBounds (gRho E b) (vp_cell (E.2.2.1 0) (n1, .inl (va_cpy (fun j => Int32.ofInt (i a j)) (fun j => Int32.ofInt (i b j)) (0 : Int32).toNatClampNeg (0 : Int32).toNatClampNeg (Int32.ofInt n).toNatClampNeg))))[q]? = H[q]? := fun q hq => by simp [Array.getElem?_setIfInBounds, Ne.symm hq]
  have hb6 := (hR.2.2.1 b _ hs1).1
  have hR1 : Rep E (δ.1, δ.2.1, δ.2.2) (cpA i a b n) l (H.setIfInBounds (gRho E b) (vp_cell (E.2.2.1 0) (n1, .inl (va_cpy (fun j => Int32.ofInt (i a j)) (fun j => Int32.ofInt (i b j)) (0 : Int32).toNatClampNeg (0 : Int32).toNatClampNeg (Int32.ofInt n).toNatClampNeg)))) := by
    refine rep_put hR hs1 (by simp) oq ?_ (fun c hc => ⟨by funext k; unfold cpA; rw [if_neg fun q => hc q.1], rfl, rfl⟩) (fun c k => by unfold cpA; split <;> exact hR.2.2.2 _ _)
    show (H.setIfInBounds (gRho E b) _)[gRho E b]? = _
    rw [Array.getElem?_setIfInBounds, if_pos rfl, if_pos hlt]
    have e2 : (fun j : Nat => Value.int (va_cpy (fun j : Nat => Int32.ofInt (i a j)) (fun j : Nat => Int32.ofInt (i b j)) (0 : Int32).toNatClampNeg (0 : Int32).toNatClampNeg (Int32.ofInt n).toNatClampNeg j)) = cV E (cpA i a b n) l δ.2.2 b 0 := by
      funext j
      unfold cV
      rw [if_neg (by decide), if_neg (by decide)]
      congr 1
      unfold va_cpy cpA
      rw [hcl]
      have z0 : (0 : Int32).toNatClampNeg = 0 := rfl
      rw [z0]
      by_cases hj : (j : Int) < n
      · rw [if_pos ⟨Nat.zero_le _, by omega⟩, if_pos ⟨rfl, by omega, hj⟩]
        show Int32.ofInt (i a ((0 + (j - 0) : Nat) : Int)) = _
        rw [show 0 + (j - 0) = j by omega]
      · rw [if_neg (by omega), if_neg (by omega)]
    exact congrArg (fun z => some (arrV (E.2.2.1 0) n1 z)) e2
  obtain ⟨t, a1, b1⟩ := kk p e s m args below meth cd _ _ ls hk hl hR1 ⟨by simp; exact hS.1, fun q g1 g2 => by
      rw [oq q (fun e => g2 (by rw [e]; exact gRho_A E hb6))]
      exact hS.2.1 q g1 g2, fun q hq => by
      rcases List.mem_append.mp hq with h | h
      · exact hS.2.2 q h
      · obtain ⟨z, -, hz⟩ := List.mem_map.mp h
        rw [← hz]
        exact gRho_A E hb6⟩ _ (by rw [← hT]; rfl) X'
  exact ⟨t, step t a1, b1⟩
theorem g_aload_no {n : Fin 4} {o : Option Nat} (p0 : Nat) (hd : decode X.2.1 pc = .ok (.aload_n n, 1)) (hp : pc + 1 = pc') (hL : L[p0]? = some ((n : Nat), vR o)) (k : G E R X Qf c0 s0 δ i l pc' L (vR o :: st)) : G E R X Qf c0 s0 δ i l pc L st := by
  cases o with
  | some x => exact g_aload_n p0 hd hp hL k
  | none =>
    subst hp
    intro p e s m args below meth cd H locs ls hk hl hR hS
    exact lv_aload_nN hk.1 hk.2.1 hd rfl (lv_at hl p0 (gL_at hL)) (k p e s m args below meth cd H locs ls hk hl hR hS)
theorem g_astore_no {L' : List (Nat × MV)} {n : Fin 4} {o : Option Nat} (hd : decode X.2.1 pc = .ok (.astore_n n, 1)) (hp : pc + 1 = pc') (hb : (n : Nat) < X.2.2.1) (hL : stL1 (n : Nat) (vR o) L = L') (k : G E R X Qf c0 s0 δ i l pc' L' st) : G E R X Qf c0 s0 δ i l pc L (vR o :: st) := by
  cases o with
  | some x => exact g_astore_n hd hp hb hL k
  | none =>
    subst hp
    subst hL
    intro p e s m args below meth cd H locs ls hk hl hR hS
    exact lv_astore_nN hk.1 hk.2.1 hd rfl hl hb (gL_st1 E (n : Nat) (vR none) L) (fun ls hl => (k p e s m args below meth cd H locs ls hk hl hR hS))
end
