/-! THE TWO CONSTRUCTORS: memory as they make it (written by gen_ctor.py) -/
section
variable {E : GE} {R : Room} {X Y : MI} {Qf : QF} {c0 s0 c1 s1 : Nat} {δ δ2 : Dl} {i : IM} {l : LM} {pc pc' : Nat} {L : List (Nat × MV)} {st : List MV}
def nxD (n : Nat) (δ : Dl) (q : Shp) : Dl := (n + 1, fun a => if a = n then some q else δ.2.1 a, fun a k => if a = n then none else δ.2.2 a k)
def ptD (n : Nat) (δ : Dl) (a : Nat) (k : Int) (v : Option Nat) : Dl := (n, δ.2.1, u2r δ.2.2 a k v)
def zL : LM := fun _ _ => 0
theorem zL_nw (δ : Dl) : nwL δ zL = zL := by
  funext a k
  unfold nwL zL
  split <;> rfl
theorem nwI_z {δ : Dl} {i : IM} (h : ∀ k, i δ.1 k = 0) : nwI δ i = i := by
  funext a k
  unfold nwI
  split
  · next e => rw [e, h k]
  · rfl
theorem g_newN {idx c : Nat} {q : vw_C} (n : Nat) (hn : δ.1 = n) (hc : classes[c]? = some q) (hN : q.2.2 = fN c) (hcl : Cond.classLink X.1.cls idx q.1 ∈ lwG) (hin : Cond.instantiable q.1 (fN c) ∈ lwG) (hini : Cond.initialized q.1 ∈ lwG) (hd : decode X.2.1 pc = .ok (.new idx, 3)) (hp : pc + 3 = pc') (h1 : c0 + 1 = c1) (h2 : s0 + fN c = s1) (hcell : c1 ≤ R.cells) (hslot : s1 ≤ R.slots) (hz : ∀ k, i n k = 0) (hδ : nxD n δ (.inr c) = δ2) (kk : G E R X Qf c1 s1 δ2 i zL pc' L (vR (some n) :: st)) : G E R X Qf c0 s0 δ i zL pc L st := by
  subst hn h1 h2 hδ
  have := g_new (E := E) (R := R) (Qf := Qf) (δ := δ) (i := i) (l := zL) (L := L) (st := st) hc hN hcl hin hini hd hp hcell hslot
  rw [zL_nw, nwI_z hz] at this
  exact this kk
theorem g_newaN {kd : Nat} {z : Int} {at_ : ArrayType} (n0 : Nat) (hn0 : δ.1 = n0) {n : Nat} (hkd : kd < 4) (hty : newarray.typeOf at_ = kTy kd) (hw : Cond.arrayClass (newarray.typeOf at_) ∈ lwG) (hz : ((n : Nat) : Int) = z) (hn : n ≤ 1000000) (hd : decode X.2.1 pc = .ok (.newarray at_, 2)) (hp : pc + 2 = pc') (h1 : c0 + 1 = c1) (h2 : s0 + n = s1) (hcell : c1 ≤ R.cells) (hslot : s1 ≤ R.slots) (hzi : ∀ k, i n0 k = 0) (hδ : nxD n0 δ (.inl (kd, n)) = δ2) (kk : G E R X Qf c1 s1 δ2 i zL pc' L (vR (some n0) :: st)) : G E R X Qf c0 s0 δ i zL pc L (vI z :: st) := by
  subst hn0 h1 h2 hδ
  have := g_newa (E := E) (R := R) (Qf := Qf) (δ := δ) (i := i) (l := zL) (L := L) (st := st) hkd hty hw hz hn hd hp hcell hslot
  rw [zL_nw, nwI_z hzi] at this
  exact this kk
theorem g_newqN {idx kd : Nat} {C : String} {z : Int} (n0 : Nat) (hn0 : δ.1 = n0) {n : Nat} (hkd : kd = 4 ∧ C = "ThreeColours$Town" ∨ kd = 5 ∧ C = "ThreeColours$Law") (hcl : Cond.classLink X.1.cls idx C ∈ lwG) (hz : ((n : Nat) : Int) = z) (hn : n ≤ 1000000) (hd : decode X.2.1 pc = .ok (.anewarray idx, 3)) (hp : pc + 3 = pc') (h1 : c0 + 1 = c1) (h2 : s0 + n = s1) (hcell : c1 ≤ R.cells) (hslot : s1 ≤ R.slots) (hzi : ∀ k, i n0 k = 0) (hδ : nxD n0 δ (.inl (kd, n)) = δ2) (kk : G E R X Qf c1 s1 δ2 i zL pc' L (vR (some n0) :: st)) : G E R X Qf c0 s0 δ i zL pc L (vI z :: st) := by
  subst hn0 h1 h2 hδ
  have := g_newq (E := E) (R := R) (Qf := Qf) (δ := δ) (i := i) (l := zL) (L := L) (st := st) hkd hcl hz hn hd hp hcell hslot
  rw [zL_nw, nwI_z hzi] at this
  exact this kk
theorem g_putRN {idx a c k : Nat} {v : Option Nat} {ty : FieldType} (n : Nat) (hn : δ.1 = n) (hF : FP X.1.cls idx c k true ty) (hi0 : X.1.name = "<init>") (hty : ty.isReference = true) (hs : δ.2.1 a = some (.inr c)) (ht : (fKd c k == 2) = true) (hd : decode X.2.1 pc = .ok (.putfield idx, 3)) (hp : pc + 3 = pc') (hδ : ptD n δ a k v = δ2) (kk : G E R X Qf c0 s0 δ2 i l pc' L st) : G E R X Qf c0 s0 δ i l pc L (vR v :: vR (some a) :: st) := by
  subst hn hδ
  exact g_putR hF hi0 hty hs ht hd hp kk
theorem g_aastM {a kd c b : Nat} {j : Int} (n0 : Nat) (hn0 : δ.1 = n0) {n : Nat} (hs : δ.2.1 a = some (.inl (kd, n))) (hb : δ.2.1 b = some (.inr c)) (hkd : kd = 4 ∧ c = 9 ∨ kd = 5 ∧ c = 2) {N : Int} (hN : ((n : Nat) : Int) = N) (hn : n < 2147483648) (h0 : 0 ≤ j ∧ j < N) (hd : decode X.2.1 pc = .ok (.aastore, 1)) (hp : pc + 1 = pc') (hδ : ptD n0 δ a j (some b) = δ2) (kk : G E R X Qf c0 s0 δ2 i l pc' L st) : G E R X Qf c0 s0 δ i l pc L (vR (some b) :: vI j :: vR (some a) :: st) := by
  subst hn0 hδ
  exact g_aast hs hb hkd hN hn h0 hd hp kk
theorem g_toI {i2 : IM} (h : i = i2) (kk : G E R X Qf c0 s0 δ i2 l pc L st) : G E R X Qf c0 s0 δ i l pc L st := by subst h; exact kk
theorem g_top {x y : Int} (h : x = y) (kk : G E R X Qf c0 s0 δ i l pc L (vI y :: st)) : G E R X Qf c0 s0 δ i l pc L (vI x :: st) := by subst h; exact kk
theorem g_ctor {d mc ms n idx b : Nat} {vs : List MV} {δ' : Dl} {i' : IM} {l' : LM} (hM : Cn E d mc ms Y (vR (some b) :: vs) δ i l (fun r δ1 i1 l1 => r = none ∧ δ1 = δ' ∧ i1 = i' ∧ l1 = l')) (hm : MK Y n) (hret : Y.2.2.2 = none) (hnm : Y.1.name = "<init>") (hin : Cond.instanceMethod Y.1 ∈ lwG) (hl : Cond.methodLink X.1.cls idx Y.1 ∈ lwG) (hn : vs.length = n) (hr : (st.map (fun v => if isLg v then 2 else 1)).sum ≤ 8)
    (hR : d + 1 ≤ R.frames ∧ 19 + Y.2.2.1 + 64 * d ≤ R.locals) (h1 : c0 + mc = c1) (h2 : s0 + ms = s1) (hcs : c1 ≤ R.cells ∧ s1 ≤ R.slots) {st1 : List MV} (hst : st1 = vs.reverse ++ vR (some b) :: st) (hd : decode X.2.1 pc = .ok (.invokespecial idx, 3)) (hp : pc + 3 = pc') (kk : G E R X Qf c1 s1 δ' i' l' pc' L st) : G E R X Qf c0 s0 δ i l pc L st1 := by
  subst h1 h2
  refine g_callI hM hm hret hnm hin hl hn hr hR hcs hst hd hp ?_
  rintro r δ1 i1 l1 ⟨rfl, rfl, rfl, rfl⟩
  exact kk
theorem objI : Cond.instanceMethod Lib.objectInit ∈ lwG := lwT1 28 rfl rfl
theorem objC : Cond.code Lib.objectInit ⟨#[0xb1]⟩ 1 none ∈ lwG := lwT1 29 rfl rfl
end

def zD0 : Dl := (6, fun _ => none, fun _ _ => none)
def zI0 : IM := fun _ _ => 0
def zD1 : Dl := nxD 6 zD0 (.inr 11)
def zD2 : Dl := nxD 7 zD1 (.inr 9)
def zD3 : Dl := nxD 8 zD2 (.inl (0, 80))
def zD4 : Dl := ptD 9 zD3 7 0 (some 8)
def zD5 : Dl := nxD 9 zD4 (.inl (0, 24))
def zD6 : Dl := ptD 10 zD5 7 1 (some 9)
def zD7 : Dl := nxD 10 zD6 (.inl (0, 5))
def zD8 : Dl := ptD 11 zD7 7 2 (some 10)
def zD9 : Dl := nxD 11 zD8 (.inl (0, 10))
def zD10 : Dl := ptD 12 zD9 7 3 (some 11)
def zD11 : Dl := nxD 12 zD10 (.inl (0, 8))
def zD12 : Dl := ptD 13 zD11 7 4 (some 12)
def zD13 : Dl := nxD 13 zD12 (.inl (0, 8))
def zD14 : Dl := ptD 14 zD13 7 5 (some 13)
def zD15 : Dl := nxD 14 zD14 (.inl (0, 180))
def zD16 : Dl := ptD 15 zD15 7 6 (some 14)
def zD17 : Dl := nxD 15 zD16 (.inl (5, 6))
def zD18 : Dl := ptD 16 zD17 7 7 (some 15)
def zI1 : IM := u2 zI0 7 14 (-1)
def zI2 : IM := u2 zI1 13 0 0
def zI3 : IM := u2 zI2 13 1 1
def zI4 : IM := u2 zI3 13 2 2
def zI5 : IM := u2 zI4 13 3 3
def zI6 : IM := u2 zI5 13 4 4
def zI7 : IM := u2 zI6 13 5 5
def zI8 : IM := u2 zI7 13 6 6
def zI9 : IM := u2 zI8 13 7 7
def zD19 : Dl := ptD 16 zD18 6 0 (some 7)
def zD20 : Dl := nxD 16 zD19 (.inl (4, 2))
def zD21 : Dl := ptD 17 zD20 6 1 (some 16)
def zD22 : Dl := nxD 17 zD21 (.inr 9)
def zD23 : Dl := nxD 18 zD22 (.inl (0, 80))
def zD24 : Dl := ptD 19 zD23 17 0 (some 18)
def zD25 : Dl := nxD 19 zD24 (.inl (0, 24))
def zD26 : Dl := ptD 20 zD25 17 1 (some 19)
def zD27 : Dl := nxD 20 zD26 (.inl (0, 5))
def zD28 : Dl := ptD 21 zD27 17 2 (some 20)
def zD29 : Dl := nxD 21 zD28 (.inl (0, 10))
def zD30 : Dl := ptD 22 zD29 17 3 (some 21)
def zD31 : Dl := nxD 22 zD30 (.inl (0, 8))
def zD32 : Dl := ptD 23 zD31 17 4 (some 22)
def zD33 : Dl := nxD 23 zD32 (.inl (0, 8))
def zD34 : Dl := ptD 24 zD33 17 5 (some 23)
def zD35 : Dl := nxD 24 zD34 (.inl (0, 180))
def zD36 : Dl := ptD 25 zD35 17 6 (some 24)
def zD37 : Dl := nxD 25 zD36 (.inl (5, 6))
def zD38 : Dl := ptD 26 zD37 17 7 (some 25)
def zI10 : IM := u2 zI9 17 14 (-1)
def zI11 : IM := u2 zI10 23 0 0
def zI12 : IM := u2 zI11 23 1 1
def zI13 : IM := u2 zI12 23 2 2
def zI14 : IM := u2 zI13 23 3 3
def zI15 : IM := u2 zI14 23 4 4
def zI16 : IM := u2 zI15 23 5 5
def zI17 : IM := u2 zI16 23 6 6
def zI18 : IM := u2 zI17 23 7 7
def zD39 : Dl := ptD 26 zD38 16 0 (some 17)
def zD40 : Dl := nxD 26 zD39 (.inr 9)
def zD41 : Dl := nxD 27 zD40 (.inl (0, 80))
def zD42 : Dl := ptD 28 zD41 26 0 (some 27)
def zD43 : Dl := nxD 28 zD42 (.inl (0, 24))
def zD44 : Dl := ptD 29 zD43 26 1 (some 28)
def zD45 : Dl := nxD 29 zD44 (.inl (0, 5))
def zD46 : Dl := ptD 30 zD45 26 2 (some 29)
def zD47 : Dl := nxD 30 zD46 (.inl (0, 10))
def zD48 : Dl := ptD 31 zD47 26 3 (some 30)
def zD49 : Dl := nxD 31 zD48 (.inl (0, 8))
def zD50 : Dl := ptD 32 zD49 26 4 (some 31)
def zD51 : Dl := nxD 32 zD50 (.inl (0, 8))
def zD52 : Dl := ptD 33 zD51 26 5 (some 32)
def zD53 : Dl := nxD 33 zD52 (.inl (0, 180))
def zD54 : Dl := ptD 34 zD53 26 6 (some 33)
def zD55 : Dl := nxD 34 zD54 (.inl (5, 6))
def zD56 : Dl := ptD 35 zD55 26 7 (some 34)
def zI19 : IM := u2 zI18 26 14 (-1)
def zI20 : IM := u2 zI19 32 0 0
def zI21 : IM := u2 zI20 32 1 1
def zI22 : IM := u2 zI21 32 2 2
def zI23 : IM := u2 zI22 32 3 3
def zI24 : IM := u2 zI23 32 4 4
def zI25 : IM := u2 zI24 32 5 5
def zI26 : IM := u2 zI25 32 6 6
def zI27 : IM := u2 zI26 32 7 7
def zD57 : Dl := ptD 35 zD56 16 1 (some 26)
def zD58 : Dl := nxD 35 zD57 (.inl (0, 400))
def zD59 : Dl := ptD 36 zD58 6 2 (some 35)
def zD60 : Dl := nxD 36 zD59 (.inl (0, 5))
def zD61 : Dl := ptD 37 zD60 6 3 (some 36)
def zD62 : Dl := nxD 37 zD61 (.inr 7)
def zD63 : Dl := nxD 38 zD62 (.inl (0, 400))
def zD64 : Dl := ptD 39 zD63 37 1 (some 38)
def zD65 : Dl := nxD 39 zD64 (.inl (0, 48))
def zD66 : Dl := ptD 40 zD65 37 2 (some 39)
def zD67 : Dl := nxD 40 zD66 (.inl (0, 4))
def zD68 : Dl := ptD 41 zD67 37 3 (some 40)
def zD69 : Dl := ptD 41 zD68 37 0 (some 35)
def zD70 : Dl := ptD 41 zD69 6 4 (some 37)
def zD71 : Dl := nxD 41 zD70 (.inr 0)
def zD72 : Dl := nxD 42 zD71 (.inl (0, 9))
def zD73 : Dl := ptD 43 zD72 41 1 (some 42)
def zD74 : Dl := nxD 43 zD73 (.inl (1, 64))
def zD75 : Dl := ptD 44 zD74 41 2 (some 43)
def zD76 : Dl := ptD 44 zD75 41 0 (some 7)
def zD77 : Dl := ptD 44 zD76 6 5 (some 41)
def zD78 : Dl := nxD 44 zD77 (.inr 8)
def zD79 : Dl := nxD 45 zD78 (.inl (0, 600))
def zD80 : Dl := ptD 46 zD79 44 2 (some 45)
def zD81 : Dl := nxD 46 zD80 (.inl (0, 960))
def zD82 : Dl := ptD 47 zD81 44 3 (some 46)
def zD83 : Dl := nxD 47 zD82 (.inl (0, 960))
def zD84 : Dl := ptD 48 zD83 44 4 (some 47)
def zD85 : Dl := nxD 48 zD84 (.inl (0, 400))
def zD86 : Dl := ptD 49 zD85 44 5 (some 48)
def zD87 : Dl := nxD 49 zD86 (.inl (0, 5))
def zD88 : Dl := ptD 50 zD87 44 6 (some 49)
def zD89 : Dl := nxD 50 zD88 (.inl (0, 8))
def zD90 : Dl := ptD 51 zD89 44 7 (some 50)
def zI28 : IM := u2 zI27 44 14 (-1)
def zD91 : Dl := ptD 51 zD90 44 0 (some 7)
def zD92 : Dl := ptD 51 zD91 44 1 (some 41)
def zD93 : Dl := ptD 51 zD92 6 6 (some 44)
def zD94 : Dl := nxD 51 zD93 (.inr 1)
def zD95 : Dl := nxD 52 zD94 (.inl (0, 10))
def zD96 : Dl := ptD 53 zD95 51 2 (some 52)
def zD97 : Dl := nxD 53 zD96 (.inl (0, 30))
def zD98 : Dl := ptD 54 zD97 51 3 (some 53)
def zD99 : Dl := nxD 54 zD98 (.inl (0, 30))
def zD100 : Dl := ptD 55 zD99 51 4 (some 54)
def zD101 : Dl := nxD 55 zD100 (.inl (0, 30))
def zD102 : Dl := ptD 56 zD101 51 5 (some 55)
def zD103 : Dl := nxD 56 zD102 (.inl (1, 360))
def zD104 : Dl := ptD 57 zD103 51 6 (some 56)
def zD105 : Dl := nxD 57 zD104 (.inl (1, 132))
def zD106 : Dl := ptD 58 zD105 51 7 (some 57)
def zD107 : Dl := nxD 58 zD106 (.inl (1, 132))
def zD108 : Dl := ptD 59 zD107 51 8 (some 58)
def zD109 : Dl := nxD 59 zD108 (.inl (0, 30))
def zD110 : Dl := ptD 60 zD109 51 9 (some 59)
def zD111 : Dl := nxD 60 zD110 (.inl (1, 12))
def zD112 : Dl := ptD 61 zD111 51 10 (some 60)
def zD113 : Dl := nxD 61 zD112 (.inl (1, 80))
def zD114 : Dl := ptD 62 zD113 51 11 (some 61)
def zD115 : Dl := nxD 62 zD114 (.inl (0, 10))
def zD116 : Dl := ptD 63 zD115 51 12 (some 62)
def zI29 : IM := u2 zI28 51 15 (-1)
def zD117 : Dl := ptD 63 zD116 51 0 (some 7)
def zD118 : Dl := ptD 63 zD117 51 1 (some 41)
def zD119 : Dl := ptD 63 zD118 6 7 (some 51)
def zD120 : Dl := nxD 63 zD119 (.inr 5)
def zD121 : Dl := nxD 64 zD120 (.inl (1, 132))
def zD122 : Dl := ptD 65 zD121 63 2 (some 64)
def zD123 : Dl := nxD 65 zD122 (.inl (1, 12))
def zD124 : Dl := ptD 66 zD123 63 3 (some 65)
def zD125 : Dl := nxD 66 zD124 (.inl (0, 10))
def zD126 : Dl := ptD 67 zD125 63 4 (some 66)
def zD127 : Dl := nxD 67 zD126 (.inl (0, 11))
def zD128 : Dl := ptD 68 zD127 63 5 (some 67)
def zD129 : Dl := nxD 68 zD128 (.inl (0, 11))
def zD130 : Dl := ptD 69 zD129 63 6 (some 68)
def zD131 : Dl := nxD 69 zD130 (.inl (0, 11))
def zD132 : Dl := ptD 70 zD131 63 7 (some 69)
def zD133 : Dl := nxD 70 zD132 (.inl (0, 11))
def zD134 : Dl := ptD 71 zD133 63 8 (some 70)
def zD135 : Dl := nxD 71 zD134 (.inl (0, 10))
def zD136 : Dl := ptD 72 zD135 63 9 (some 71)
def zD137 : Dl := nxD 72 zD136 (.inl (0, 10))
def zD138 : Dl := ptD 73 zD137 63 10 (some 72)
def zI30 : IM := u2 zI29 63 18 (-1)
def zD139 : Dl := ptD 73 zD138 63 0 (some 7)
def zD140 : Dl := ptD 73 zD139 63 1 (some 51)
def zD141 : Dl := ptD 73 zD140 6 8 (some 63)
def zD142 : Dl := nxD 73 zD141 (.inr 5)
def zD143 : Dl := nxD 74 zD142 (.inl (1, 132))
def zD144 : Dl := ptD 75 zD143 73 2 (some 74)
def zD145 : Dl := nxD 75 zD144 (.inl (1, 12))
def zD146 : Dl := ptD 76 zD145 73 3 (some 75)
def zD147 : Dl := nxD 76 zD146 (.inl (0, 10))
def zD148 : Dl := ptD 77 zD147 73 4 (some 76)
def zD149 : Dl := nxD 77 zD148 (.inl (0, 11))
def zD150 : Dl := ptD 78 zD149 73 5 (some 77)
def zD151 : Dl := nxD 78 zD150 (.inl (0, 11))
def zD152 : Dl := ptD 79 zD151 73 6 (some 78)
def zD153 : Dl := nxD 79 zD152 (.inl (0, 11))
def zD154 : Dl := ptD 80 zD153 73 7 (some 79)
def zD155 : Dl := nxD 80 zD154 (.inl (0, 11))
def zD156 : Dl := ptD 81 zD155 73 8 (some 80)
def zD157 : Dl := nxD 81 zD156 (.inl (0, 10))
def zD158 : Dl := ptD 82 zD157 73 9 (some 81)
def zD159 : Dl := nxD 82 zD158 (.inl (0, 10))
def zD160 : Dl := ptD 83 zD159 73 10 (some 82)
def zI31 : IM := u2 zI30 73 18 (-1)
def zD161 : Dl := ptD 83 zD160 73 0 (some 7)
def zD162 : Dl := ptD 83 zD161 73 1 (some 51)
def zD163 : Dl := ptD 83 zD162 6 9 (some 73)
def zD164 : Dl := nxD 83 zD163 (.inr 3)
def zD165 : Dl := nxD 84 zD164 (.inl (1, 132))
def zD166 : Dl := ptD 85 zD165 83 2 (some 84)
def zD167 : Dl := nxD 85 zD166 (.inl (1, 12))
def zD168 : Dl := ptD 86 zD167 83 3 (some 85)
def zD169 : Dl := nxD 86 zD168 (.inl (0, 10))
def zD170 : Dl := ptD 87 zD169 83 4 (some 86)
def zD171 : Dl := nxD 87 zD170 (.inl (0, 11))
def zD172 : Dl := ptD 88 zD171 83 5 (some 87)
def zD173 : Dl := nxD 88 zD172 (.inl (0, 10))
def zD174 : Dl := ptD 89 zD173 83 6 (some 88)
def zD175 : Dl := nxD 89 zD174 (.inl (0, 10))
def zD176 : Dl := ptD 90 zD175 83 7 (some 89)
def zI32 : IM := u2 zI31 83 11 (-1)
def zD177 : Dl := ptD 90 zD176 83 0 (some 7)
def zD178 : Dl := ptD 90 zD177 83 1 (some 51)
def zD179 : Dl := ptD 90 zD178 6 10 (some 83)
def zD180 : Dl := nxD 90 zD179 (.inr 10)
def zD181 : Dl := nxD 91 zD180 (.inl (0, 120))
def zD182 : Dl := ptD 92 zD181 90 2 (some 91)
def zD183 : Dl := nxD 92 zD182 (.inl (0, 8))
def zD184 : Dl := ptD 93 zD183 90 3 (some 92)
def zD185 : Dl := nxD 93 zD184 (.inl (0, 120))
def zD186 : Dl := ptD 94 zD185 90 4 (some 93)
def zI33 : IM := u2 zI32 90 7 (-1)
def zI34 : IM := u2 zI33 90 8 (-1)
def zD187 : Dl := ptD 94 zD186 90 0 (some 7)
def zD188 : Dl := ptD 94 zD187 90 1 (some 44)
def zD189 : Dl := ptD 94 zD188 6 11 (some 90)
def zD190 : Dl := nxD 94 zD189 (.inr 4)
def zD191 : Dl := nxD 95 zD190 (.inl (0, 600))
def zD192 : Dl := ptD 96 zD191 94 2 (some 95)
def zD193 : Dl := ptD 96 zD192 94 0 (some 7)
def zD194 : Dl := ptD 96 zD193 94 1 (some 44)
def zD195 : Dl := ptD 96 zD194 6 12 (some 94)
def zD196 : Dl := nxD 96 zD195 (.inr 6)
def zD197 : Dl := nxD 97 zD196 (.inl (0, 5))
def zD198 : Dl := ptD 98 zD197 96 1 (some 97)
def zD199 : Dl := nxD 98 zD198 (.inl (0, 5))
def zD200 : Dl := ptD 99 zD199 96 2 (some 98)
def zD201 : Dl := ptD 99 zD200 96 0 (some 7)
def zD202 : Dl := ptD 99 zD201 6 13 (some 96)
def zI35 : IM := u2 zI34 6 16 (-1)
def zD203 : Dl := nxD 99 zD202 (.inr 12)
def zD204 : Dl := nxD 100 zD203 (.inl (0, 7))
def zD205 : Dl := ptD 101 zD204 99 2 (some 100)
def zD206 : Dl := nxD 101 zD205 (.inl (0, 5120))
def zD207 : Dl := ptD 102 zD206 99 3 (some 101)
def zD208 : Dl := nxD 102 zD207 (.inl (0, 10240))
def zD209 : Dl := ptD 103 zD208 99 4 (some 102)
def zD210 : Dl := nxD 103 zD209 (.inl (2, 2))
def zD211 : Dl := ptD 104 zD210 99 5 (some 103)
def zD212 : Dl := nxD 104 zD211 (.inl (3, 93))
def zI36 : IM := u2 zI35 104 0 (i8 108)
def zI37 : IM := u2 zI36 104 1 (i8 105)
def zI38 : IM := u2 zI37 104 2 (i8 109)
def zI39 : IM := u2 zI38 104 3 (i8 105)
def zI40 : IM := u2 zI39 104 4 (i8 116)
def zI41 : IM := u2 zI40 104 5 (i8 32)
def zI42 : IM := u2 zI41 104 6 (i8 99)
def zI43 : IM := u2 zI42 104 7 (i8 111)
def zI44 : IM := u2 zI43 104 8 (i8 115)
def zI45 : IM := u2 zI44 104 9 (i8 116)
def zI46 : IM := u2 zI45 104 10 (i8 32)
def zI47 : IM := u2 zI46 104 11 (i8 102)
def zI48 : IM := u2 zI47 104 12 (i8 114)
def zI49 : IM := u2 zI48 104 13 (i8 101)
def zI50 : IM := u2 zI49 104 14 (i8 101)
def zI51 : IM := u2 zI50 104 15 (i8 32)
def zI52 : IM := u2 zI51 104 16 (i8 104)
def zI53 : IM := u2 zI52 104 17 (i8 105)
def zI54 : IM := u2 zI53 104 18 (i8 100)
def zI55 : IM := u2 zI54 104 19 (i8 100)
def zI56 : IM := u2 zI55 104 20 (i8 101)
def zI57 : IM := u2 zI56 104 21 (i8 110)
def zI58 : IM := u2 zI57 104 22 (i8 32)
def zI59 : IM := u2 zI58 104 23 (i8 105)
def zI60 : IM := u2 zI59 104 24 (i8 102)
def zI61 : IM := u2 zI60 104 25 (i8 32)
def zI62 : IM := u2 zI61 104 26 (i8 111)
def zI63 : IM := u2 zI62 104 27 (i8 114)
def zI64 : IM := u2 zI63 104 28 (i8 32)
def zI65 : IM := u2 zI64 104 29 (i8 97)
def zI66 : IM := u2 zI65 104 30 (i8 110)
def zI67 : IM := u2 zI66 104 31 (i8 100)
def zI68 : IM := u2 zI67 104 32 (i8 32)
def zI69 : IM := u2 zI68 104 33 (i8 110)
def zI70 : IM := u2 zI69 104 34 (i8 111)
def zI71 : IM := u2 zI70 104 35 (i8 116)
def zI72 : IM := u2 zI71 104 36 (i8 32)
def zI73 : IM := u2 zI72 104 37 (i8 119)
def zI74 : IM := u2 zI73 104 38 (i8 105)
def zI75 : IM := u2 zI74 104 39 (i8 110)
def zI76 : IM := u2 zI75 104 40 (i8 100)
def zI77 : IM := u2 zI76 104 41 (i8 111)
def zI78 : IM := u2 zI77 104 42 (i8 119)
def zI79 : IM := u2 zI78 104 43 (i8 32)
def zI80 : IM := u2 zI79 104 44 (i8 116)
def zI81 : IM := u2 zI80 104 45 (i8 104)
def zI82 : IM := u2 zI81 104 46 (i8 105)
def zI83 : IM := u2 zI82 104 47 (i8 110)
def zI84 : IM := u2 zI83 104 48 (i8 103)
def zI85 : IM := u2 zI84 104 49 (i8 32)
def zI86 : IM := u2 zI85 104 50 (i8 112)
def zI87 : IM := u2 zI86 104 51 (i8 108)
def zI88 : IM := u2 zI87 104 52 (i8 97)
def zI89 : IM := u2 zI88 104 53 (i8 99)
def zI90 : IM := u2 zI89 104 54 (i8 101)
def zI91 : IM := u2 zI90 104 55 (i8 32)
def zI92 : IM := u2 zI91 104 56 (i8 99)
def zI93 : IM := u2 zI92 104 57 (i8 111)
def zI94 : IM := u2 zI93 104 58 (i8 108)
def zI95 : IM := u2 zI94 104 59 (i8 111)
def zI96 : IM := u2 zI95 104 60 (i8 117)
def zI97 : IM := u2 zI96 104 61 (i8 114)
def zI98 : IM := u2 zI97 104 62 (i8 32)
def zI99 : IM := u2 zI98 104 63 (i8 115)
def zI100 : IM := u2 zI99 104 64 (i8 111)
def zI101 : IM := u2 zI100 104 65 (i8 114)
def zI102 : IM := u2 zI101 104 66 (i8 116)
def zI103 : IM := u2 zI102 104 67 (i8 32)
def zI104 : IM := u2 zI103 104 68 (i8 109)
def zI105 : IM := u2 zI104 104 69 (i8 111)
def zI106 : IM := u2 zI105 104 70 (i8 110)
def zI107 : IM := u2 zI106 104 71 (i8 116)
def zI108 : IM := u2 zI107 104 72 (i8 104)
def zI109 : IM := u2 zI108 104 73 (i8 32)
def zI110 : IM := u2 zI109 104 74 (i8 109)
def zI111 : IM := u2 zI110 104 75 (i8 105)
def zI112 : IM := u2 zI111 104 76 (i8 110)
def zI113 : IM := u2 zI112 104 77 (i8 117)
def zI114 : IM := u2 zI113 104 78 (i8 116)
def zI115 : IM := u2 zI114 104 79 (i8 101)
def zI116 : IM := u2 zI115 104 80 (i8 32)
def zI117 : IM := u2 zI116 104 81 (i8 99)
def zI118 : IM := u2 zI117 104 82 (i8 111)
def zI119 : IM := u2 zI118 104 83 (i8 97)
def zI120 : IM := u2 zI119 104 84 (i8 116)
def zI121 : IM := u2 zI120 104 85 (i8 32)
def zI122 : IM := u2 zI121 104 86 (i8 112)
def zI123 : IM := u2 zI122 104 87 (i8 101)
def zI124 : IM := u2 zI123 104 88 (i8 114)
def zI125 : IM := u2 zI124 104 89 (i8 115)
def zI126 : IM := u2 zI125 104 90 (i8 111)
def zI127 : IM := u2 zI126 104 91 (i8 110)
def zI128 : IM := u2 zI127 104 92 (i8 32)
def zD213 : Dl := ptD 105 zD212 99 7 (some 104)
def zD214 : Dl := nxD 105 zD213 (.inl (3, 400))
def zD215 : Dl := ptD 106 zD214 99 8 (some 105)
def zD216 : Dl := nxD 106 zD215 (.inl (0, 5))
def zD217 : Dl := ptD 107 zD216 99 9 (some 106)
def zI129 : IM := u2 zI128 99 11 (-1)
def zD218 : Dl := nxD 107 zD217 (.inl (0, 401))
def zD219 : Dl := ptD 108 zD218 99 12 (some 107)
def zD220 : Dl := nxD 108 zD219 (.inl (0, 401))
def zD221 : Dl := ptD 109 zD220 99 13 (some 108)
def zD222 : Dl := nxD 109 zD221 (.inl (0, 401))
def zD223 : Dl := ptD 110 zD222 99 14 (some 109)
def zD224 : Dl := nxD 110 zD223 (.inl (0, 9))
def zD225 : Dl := ptD 111 zD224 99 22 (some 110)
def zD226 : Dl := nxD 111 zD225 (.inl (0, 2880))
def zD227 : Dl := ptD 112 zD226 99 23 (some 111)
def zD228 : Dl := nxD 112 zD227 (.inl (0, 96))
def zD229 : Dl := ptD 113 zD228 99 24 (some 112)
def zD230 : Dl := nxD 113 zD229 (.inl (0, 1056))
def zD231 : Dl := ptD 114 zD230 99 25 (some 113)
def zD232 : Dl := nxD 114 zD231 (.inl (0, 30))
def zD233 : Dl := ptD 115 zD232 99 26 (some 114)
def zD234 : Dl := nxD 115 zD233 (.inl (2, 30))
def zD235 : Dl := ptD 116 zD234 99 27 (some 115)
def zD236 : Dl := nxD 116 zD235 (.inl (0, 10))
def zD237 : Dl := ptD 117 zD236 99 28 (some 116)
def zD238 : Dl := nxD 117 zD237 (.inl (0, 10))
def zD239 : Dl := ptD 118 zD238 99 29 (some 117)
def zD240 : Dl := nxD 118 zD239 (.inl (0, 10))
def zD241 : Dl := ptD 119 zD240 99 30 (some 118)
def zD242 : Dl := nxD 119 zD241 (.inl (2, 256))
def zD243 : Dl := ptD 120 zD242 99 31 (some 119)
def zI130 : IM := u2 zI129 99 32 (-1)
def zI131 : IM := u2 zI130 99 34 (-2)
def zD244 : Dl := nxD 120 zD243 (.inl (2, 1200))
def zD245 : Dl := ptD 121 zD244 99 44 (some 120)
def zD246 : Dl := nxD 121 zD245 (.inl (2, 1200))
def zD247 : Dl := ptD 122 zD246 99 45 (some 121)
def zD248 : Dl := nxD 122 zD247 (.inl (0, 5))
def zD249 : Dl := ptD 123 zD248 99 46 (some 122)
def zD250 : Dl := nxD 123 zD249 (.inl (0, 5))
def zD251 : Dl := ptD 124 zD250 99 47 (some 123)
def zD252 : Dl := nxD 124 zD251 (.inl (0, 600))
def zD253 : Dl := ptD 125 zD252 99 49 (some 124)
def zI132 : IM := u2 zI131 99 50 (-1)
def zI133 : IM := u2 zI132 101 312 (-1)
def zI134 : IM := u2 zI133 101 119 1
def zI135 : IM := u2 zI134 101 120 2
def zI136 : IM := u2 zI135 101 121 4
def zI137 : IM := u2 zI136 101 122 8
def zI138 : IM := u2 zI137 101 123 16
def zI139 : IM := u2 zI138 101 124 32
def zI140 : IM := u2 zI139 101 125 64
def zI141 : IM := u2 zI140 101 126 128
theorem aq_boolean : Cond.arrayClass (newarray.typeOf .boolean) ∈ lwG := (lwT7 36 rfl rfl)
theorem aq_byte : Cond.arrayClass (newarray.typeOf .byte) ∈ lwG := (lwT4 144 rfl rfl)
theorem aq_int : Cond.arrayClass (newarray.typeOf .int) ∈ lwG := (lwT1 128 rfl rfl)
theorem aq_long : Cond.arrayClass (newarray.typeOf .long) ∈ lwG := (lwT1 192 rfl rfl)
theorem cq_L_10 : Cond.classLink "ThreeColoursLaw" 10 "ThreeColoursModel" ∈ lwG := (lwT6 113 rfl rfl)
theorem cq_L_7 : Cond.classLink "ThreeColoursLaw" 7 "ThreeColours" ∈ lwG := (lwT1 22 rfl rfl)
theorem cq_X11_27 : Cond.classLink "ThreeColours" 27 "ThreeColours$Reader" ∈ lwG := (lwT1 130 rfl rfl)
theorem cq_X11_36 : Cond.classLink "ThreeColours" 36 "ThreeColours$Asker" ∈ lwG := (lwT1 173 rfl rfl)
theorem cq_X11_45 : Cond.classLink "ThreeColours" 45 "ThreeColours$Sight" ∈ lwG := (lwT1 193 rfl rfl)
theorem cq_X11_54 : Cond.classLink "ThreeColours" 54 "ThreeColours$Canvas" ∈ lwG := (lwT2 10 rfl rfl)
theorem cq_X11_61 : Cond.classLink "ThreeColours" 61 "ThreeColours$Painter" ∈ lwG := (lwT2 74 rfl rfl)
theorem cq_X11_7 : Cond.classLink "ThreeColours" 7 "ThreeColours$Town" ∈ lwG := (lwT1 30 rfl rfl)
theorem cq_X11_73 : Cond.classLink "ThreeColours" 73 "ThreeColours$Mender" ∈ lwG := (lwT2 142 rfl rfl)
theorem cq_X11_80 : Cond.classLink "ThreeColours" 80 "ThreeColours$Walker" ∈ lwG := (lwT2 187 rfl rfl)
theorem cq_X11_89 : Cond.classLink "ThreeColours" 89 "ThreeColours$Outing" ∈ lwG := (lwT2 223 rfl rfl)
theorem cq_X11_96 : Cond.classLink "ThreeColours" 96 "ThreeColours$Procession" ∈ lwG := (lwT3 7 rfl rfl)
theorem cq_X9_33 : Cond.classLink "ThreeColours$Town" 33 "ThreeColours$Law" ∈ lwG := (lwT1 36 rfl rfl)
theorem fg_X11_10 : FL "ThreeColours" 10 11 0 := ⟨(RX11, TX11, 19), rfl, rfl, by decide, (lwT3 34 rfl rfl)⟩
theorem fg_X11_16 : FL "ThreeColours" 16 11 1 := ⟨(RX11, TX11, 19), rfl, rfl, by decide, (lwT3 35 rfl rfl)⟩
theorem fg_X11_20 : FL "ThreeColours" 20 11 2 := ⟨(RX11, TX11, 19), rfl, rfl, by decide, (lwT3 36 rfl rfl)⟩
theorem fg_X11_41 : FL "ThreeColours" 41 11 5 := ⟨(RX11, TX11, 19), rfl, rfl, by decide, (lwT3 39 rfl rfl)⟩
theorem fg_X11_50 : FL "ThreeColours" 50 11 6 := ⟨(RX11, TX11, 19), rfl, rfl, by decide, (lwT3 40 rfl rfl)⟩
theorem fg_X11_57 : FL "ThreeColours" 57 11 7 := ⟨(RX11, TX11, 19), rfl, rfl, by decide, (lwT3 41 rfl rfl)⟩
theorem fg_X12_20 : FL "ThreeColoursModel" 20 12 3 := ⟨(RX12, TX12, 52), rfl, rfl, by decide, (lwT6 122 rfl rfl)⟩
theorem fg_X9_27 : FL "ThreeColours$Town" 27 9 5 := ⟨(RX9, TX9, 16), rfl, rfl, by decide, (lwT1 53 rfl rfl)⟩
theorem fq_X0_15 : FP "ThreeColours$Asker" 15 0 2 true (tyX0 2) := ⟨(RX0, TX0, 4), rfl, rfl, by decide, (lwT1 181 rfl rfl), rfl, by decide +kernel, fun _ => rfl⟩
theorem fq_X0_19 : FP "ThreeColours$Asker" 19 0 0 true (tyX0 0) := ⟨(RX0, TX0, 4), rfl, rfl, by decide, (lwT1 179 rfl rfl), rfl, by decide +kernel, fun _ => rfl⟩
theorem fq_X0_9 : FP "ThreeColours$Asker" 9 0 1 true (tyX0 1) := ⟨(RX0, TX0, 4), rfl, rfl, by decide, (lwT1 180 rfl rfl), rfl, by decide +kernel, fun _ => rfl⟩
theorem fq_X10_15 : FP "ThreeColours$Walker" 15 10 3 true (tyX10 3) := ⟨(RX10, TX10, 9), rfl, rfl, by decide, (lwT2 196 rfl rfl), rfl, by decide +kernel, fun _ => rfl⟩
theorem fq_X10_18 : FP "ThreeColours$Walker" 18 10 4 true (tyX10 4) := ⟨(RX10, TX10, 9), rfl, rfl, by decide, (lwT2 197 rfl rfl), rfl, by decide +kernel, fun _ => rfl⟩
theorem fq_X10_21 : FP "ThreeColours$Walker" 21 10 7 false .int := ⟨(RX10, TX10, 9), rfl, rfl, by decide, (lwT2 202 rfl rfl), rfl, by decide +kernel, fun h => by cases h⟩
theorem fq_X10_25 : FP "ThreeColours$Walker" 25 10 8 false .int := ⟨(RX10, TX10, 9), rfl, rfl, by decide, (lwT2 203 rfl rfl), rfl, by decide +kernel, fun h => by cases h⟩
theorem fq_X10_28 : FP "ThreeColours$Walker" 28 10 0 true (tyX10 0) := ⟨(RX10, TX10, 9), rfl, rfl, by decide, (lwT2 193 rfl rfl), rfl, by decide +kernel, fun _ => rfl⟩
theorem fq_X10_32 : FP "ThreeColours$Walker" 32 10 1 true (tyX10 1) := ⟨(RX10, TX10, 9), rfl, rfl, by decide, (lwT2 194 rfl rfl), rfl, by decide +kernel, fun _ => rfl⟩
theorem fq_X10_9 : FP "ThreeColours$Walker" 9 10 2 true (tyX10 2) := ⟨(RX10, TX10, 9), rfl, rfl, by decide, (lwT2 195 rfl rfl), rfl, by decide +kernel, fun _ => rfl⟩
theorem fq_X11_10 : FP "ThreeColours" 10 11 0 true (tyX11 0) := ⟨(RX11, TX11, 19), rfl, rfl, by decide, (lwT3 34 rfl rfl), rfl, by decide +kernel, fun _ => rfl⟩
theorem fq_X11_103 : FP "ThreeColours" 103 11 16 false .int := ⟨(RX11, TX11, 19), rfl, rfl, by decide, (lwT3 50 rfl rfl), rfl, by decide +kernel, fun h => by cases h⟩
theorem fq_X11_16 : FP "ThreeColours" 16 11 1 true (tyX11 1) := ⟨(RX11, TX11, 19), rfl, rfl, by decide, (lwT3 35 rfl rfl), rfl, by decide +kernel, fun _ => rfl⟩
theorem fq_X11_20 : FP "ThreeColours" 20 11 2 true (tyX11 2) := ⟨(RX11, TX11, 19), rfl, rfl, by decide, (lwT3 36 rfl rfl), rfl, by decide +kernel, fun _ => rfl⟩
theorem fq_X11_24 : FP "ThreeColours" 24 11 3 true (tyX11 3) := ⟨(RX11, TX11, 19), rfl, rfl, by decide, (lwT3 37 rfl rfl), rfl, by decide +kernel, fun _ => rfl⟩
theorem fq_X11_32 : FP "ThreeColours" 32 11 4 true (tyX11 4) := ⟨(RX11, TX11, 19), rfl, rfl, by decide, (lwT3 38 rfl rfl), rfl, by decide +kernel, fun _ => rfl⟩
theorem fq_X11_41 : FP "ThreeColours" 41 11 5 true (tyX11 5) := ⟨(RX11, TX11, 19), rfl, rfl, by decide, (lwT3 39 rfl rfl), rfl, by decide +kernel, fun _ => rfl⟩
theorem fq_X11_50 : FP "ThreeColours" 50 11 6 true (tyX11 6) := ⟨(RX11, TX11, 19), rfl, rfl, by decide, (lwT3 40 rfl rfl), rfl, by decide +kernel, fun _ => rfl⟩
theorem fq_X11_57 : FP "ThreeColours" 57 11 7 true (tyX11 7) := ⟨(RX11, TX11, 19), rfl, rfl, by decide, (lwT3 41 rfl rfl), rfl, by decide +kernel, fun _ => rfl⟩
theorem fq_X11_66 : FP "ThreeColours" 66 11 8 true (tyX11 8) := ⟨(RX11, TX11, 19), rfl, rfl, by decide, (lwT3 42 rfl rfl), rfl, by decide +kernel, fun _ => rfl⟩
theorem fq_X11_70 : FP "ThreeColours" 70 11 9 true (tyX11 9) := ⟨(RX11, TX11, 19), rfl, rfl, by decide, (lwT3 43 rfl rfl), rfl, by decide +kernel, fun _ => rfl⟩
theorem fq_X11_76 : FP "ThreeColours" 76 11 10 true (tyX11 10) := ⟨(RX11, TX11, 19), rfl, rfl, by decide, (lwT3 44 rfl rfl), rfl, by decide +kernel, fun _ => rfl⟩
theorem fq_X11_85 : FP "ThreeColours" 85 11 11 true (tyX11 11) := ⟨(RX11, TX11, 19), rfl, rfl, by decide, (lwT3 45 rfl rfl), rfl, by decide +kernel, fun _ => rfl⟩
theorem fq_X11_92 : FP "ThreeColours" 92 11 12 true (tyX11 12) := ⟨(RX11, TX11, 19), rfl, rfl, by decide, (lwT3 46 rfl rfl), rfl, by decide +kernel, fun _ => rfl⟩
theorem fq_X11_99 : FP "ThreeColours" 99 11 13 true (tyX11 13) := ⟨(RX11, TX11, 19), rfl, rfl, by decide, (lwT3 47 rfl rfl), rfl, by decide +kernel, fun _ => rfl⟩
theorem fq_X12_100 : FP "ThreeColoursModel" 100 12 49 true (tyX12 49) := ⟨(RX12, TX12, 52), rfl, rfl, by decide, (lwT6 168 rfl rfl), rfl, by decide +kernel, fun _ => rfl⟩
theorem fq_X12_103 : FP "ThreeColoursModel" 103 12 50 false .int := ⟨(RX12, TX12, 52), rfl, rfl, by decide, (lwT6 169 rfl rfl), rfl, by decide +kernel, fun h => by cases h⟩
theorem fq_X12_20 : FP "ThreeColoursModel" 20 12 3 true (tyX12 3) := ⟨(RX12, TX12, 52), rfl, rfl, by decide, (lwT6 122 rfl rfl), rfl, by decide +kernel, fun _ => rfl⟩
theorem fq_X12_23 : FP "ThreeColoursModel" 23 12 4 true (tyX12 4) := ⟨(RX12, TX12, 52), rfl, rfl, by decide, (lwT6 123 rfl rfl), rfl, by decide +kernel, fun _ => rfl⟩
theorem fq_X12_26 : FP "ThreeColoursModel" 26 12 5 true (tyX12 5) := ⟨(RX12, TX12, 52), rfl, rfl, by decide, (lwT6 124 rfl rfl), rfl, by decide +kernel, fun _ => rfl⟩
theorem fq_X12_30 : FP "ThreeColoursModel" 30 12 7 true (tyX12 7) := ⟨(RX12, TX12, 52), rfl, rfl, by decide, (lwT6 126 rfl rfl), rfl, by decide +kernel, fun _ => rfl⟩
theorem fq_X12_34 : FP "ThreeColoursModel" 34 12 8 true (tyX12 8) := ⟨(RX12, TX12, 52), rfl, rfl, by decide, (lwT6 127 rfl rfl), rfl, by decide +kernel, fun _ => rfl⟩
theorem fq_X12_37 : FP "ThreeColoursModel" 37 12 9 true (tyX12 9) := ⟨(RX12, TX12, 52), rfl, rfl, by decide, (lwT6 128 rfl rfl), rfl, by decide +kernel, fun _ => rfl⟩
theorem fq_X12_40 : FP "ThreeColoursModel" 40 12 11 false .int := ⟨(RX12, TX12, 52), rfl, rfl, by decide, (lwT6 130 rfl rfl), rfl, by decide +kernel, fun h => by cases h⟩
theorem fq_X12_43 : FP "ThreeColoursModel" 43 12 12 true (tyX12 12) := ⟨(RX12, TX12, 52), rfl, rfl, by decide, (lwT6 131 rfl rfl), rfl, by decide +kernel, fun _ => rfl⟩
theorem fq_X12_46 : FP "ThreeColoursModel" 46 12 13 true (tyX12 13) := ⟨(RX12, TX12, 52), rfl, rfl, by decide, (lwT6 132 rfl rfl), rfl, by decide +kernel, fun _ => rfl⟩
theorem fq_X12_49 : FP "ThreeColoursModel" 49 12 14 true (tyX12 14) := ⟨(RX12, TX12, 52), rfl, rfl, by decide, (lwT6 133 rfl rfl), rfl, by decide +kernel, fun _ => rfl⟩
theorem fq_X12_52 : FP "ThreeColoursModel" 52 12 22 true (tyX12 22) := ⟨(RX12, TX12, 52), rfl, rfl, by decide, (lwT6 141 rfl rfl), rfl, by decide +kernel, fun _ => rfl⟩
theorem fq_X12_55 : FP "ThreeColoursModel" 55 12 23 true (tyX12 23) := ⟨(RX12, TX12, 52), rfl, rfl, by decide, (lwT6 142 rfl rfl), rfl, by decide +kernel, fun _ => rfl⟩
theorem fq_X12_58 : FP "ThreeColoursModel" 58 12 24 true (tyX12 24) := ⟨(RX12, TX12, 52), rfl, rfl, by decide, (lwT6 143 rfl rfl), rfl, by decide +kernel, fun _ => rfl⟩
theorem fq_X12_61 : FP "ThreeColoursModel" 61 12 25 true (tyX12 25) := ⟨(RX12, TX12, 52), rfl, rfl, by decide, (lwT6 144 rfl rfl), rfl, by decide +kernel, fun _ => rfl⟩
theorem fq_X12_64 : FP "ThreeColoursModel" 64 12 26 true (tyX12 26) := ⟨(RX12, TX12, 52), rfl, rfl, by decide, (lwT6 145 rfl rfl), rfl, by decide +kernel, fun _ => rfl⟩
theorem fq_X12_67 : FP "ThreeColoursModel" 67 12 27 true (tyX12 27) := ⟨(RX12, TX12, 52), rfl, rfl, by decide, (lwT6 146 rfl rfl), rfl, by decide +kernel, fun _ => rfl⟩
theorem fq_X12_7 : FP "ThreeColoursModel" 7 12 2 true (tyX12 2) := ⟨(RX12, TX12, 52), rfl, rfl, by decide, (lwT6 121 rfl rfl), rfl, by decide +kernel, fun _ => rfl⟩
theorem fq_X12_70 : FP "ThreeColoursModel" 70 12 28 true (tyX12 28) := ⟨(RX12, TX12, 52), rfl, rfl, by decide, (lwT6 147 rfl rfl), rfl, by decide +kernel, fun _ => rfl⟩
theorem fq_X12_73 : FP "ThreeColoursModel" 73 12 29 true (tyX12 29) := ⟨(RX12, TX12, 52), rfl, rfl, by decide, (lwT6 148 rfl rfl), rfl, by decide +kernel, fun _ => rfl⟩
theorem fq_X12_76 : FP "ThreeColoursModel" 76 12 30 true (tyX12 30) := ⟨(RX12, TX12, 52), rfl, rfl, by decide, (lwT6 149 rfl rfl), rfl, by decide +kernel, fun _ => rfl⟩
theorem fq_X12_79 : FP "ThreeColoursModel" 79 12 31 true (tyX12 31) := ⟨(RX12, TX12, 52), rfl, rfl, by decide, (lwT6 150 rfl rfl), rfl, by decide +kernel, fun _ => rfl⟩
theorem fq_X12_82 : FP "ThreeColoursModel" 82 12 32 false .int := ⟨(RX12, TX12, 52), rfl, rfl, by decide, (lwT6 151 rfl rfl), rfl, by decide +kernel, fun h => by cases h⟩
theorem fq_X12_85 : FP "ThreeColoursModel" 85 12 34 false .int := ⟨(RX12, TX12, 52), rfl, rfl, by decide, (lwT6 153 rfl rfl), rfl, by decide +kernel, fun h => by cases h⟩
theorem fq_X12_88 : FP "ThreeColoursModel" 88 12 44 true (tyX12 44) := ⟨(RX12, TX12, 52), rfl, rfl, by decide, (lwT6 163 rfl rfl), rfl, by decide +kernel, fun _ => rfl⟩
theorem fq_X12_91 : FP "ThreeColoursModel" 91 12 45 true (tyX12 45) := ⟨(RX12, TX12, 52), rfl, rfl, by decide, (lwT6 164 rfl rfl), rfl, by decide +kernel, fun _ => rfl⟩
theorem fq_X12_94 : FP "ThreeColoursModel" 94 12 46 true (tyX12 46) := ⟨(RX12, TX12, 52), rfl, rfl, by decide, (lwT6 165 rfl rfl), rfl, by decide +kernel, fun _ => rfl⟩
theorem fq_X12_97 : FP "ThreeColoursModel" 97 12 47 true (tyX12 47) := ⟨(RX12, TX12, 52), rfl, rfl, by decide, (lwT6 166 rfl rfl), rfl, by decide +kernel, fun _ => rfl⟩
theorem fq_X1_11 : FP "ThreeColours$Canvas" 11 1 2 true (tyX1 2) := ⟨(RX1, TX1, 16), rfl, rfl, by decide, (lwT2 18 rfl rfl), rfl, by decide +kernel, fun _ => rfl⟩
theorem fq_X1_15 : FP "ThreeColours$Canvas" 15 1 3 true (tyX1 3) := ⟨(RX1, TX1, 16), rfl, rfl, by decide, (lwT2 21 rfl rfl), rfl, by decide +kernel, fun _ => rfl⟩
theorem fq_X1_18 : FP "ThreeColours$Canvas" 18 1 4 true (tyX1 4) := ⟨(RX1, TX1, 16), rfl, rfl, by decide, (lwT2 23 rfl rfl), rfl, by decide +kernel, fun _ => rfl⟩
theorem fq_X1_21 : FP "ThreeColours$Canvas" 21 1 5 true (tyX1 5) := ⟨(RX1, TX1, 16), rfl, rfl, by decide, (lwT2 25 rfl rfl), rfl, by decide +kernel, fun _ => rfl⟩
theorem fq_X1_24 : FP "ThreeColours$Canvas" 24 1 6 true (tyX1 6) := ⟨(RX1, TX1, 16), rfl, rfl, by decide, (lwT2 27 rfl rfl), rfl, by decide +kernel, fun _ => rfl⟩
theorem fq_X1_28 : FP "ThreeColours$Canvas" 28 1 7 true (tyX1 7) := ⟨(RX1, TX1, 16), rfl, rfl, by decide, (lwT2 30 rfl rfl), rfl, by decide +kernel, fun _ => rfl⟩
theorem fq_X1_31 : FP "ThreeColours$Canvas" 31 1 8 true (tyX1 8) := ⟨(RX1, TX1, 16), rfl, rfl, by decide, (lwT2 31 rfl rfl), rfl, by decide +kernel, fun _ => rfl⟩
theorem fq_X1_34 : FP "ThreeColours$Canvas" 34 1 9 true (tyX1 9) := ⟨(RX1, TX1, 16), rfl, rfl, by decide, (lwT2 32 rfl rfl), rfl, by decide +kernel, fun _ => rfl⟩
theorem fq_X1_37 : FP "ThreeColours$Canvas" 37 1 10 true (tyX1 10) := ⟨(RX1, TX1, 16), rfl, rfl, by decide, (lwT2 33 rfl rfl), rfl, by decide +kernel, fun _ => rfl⟩
theorem fq_X1_40 : FP "ThreeColours$Canvas" 40 1 11 true (tyX1 11) := ⟨(RX1, TX1, 16), rfl, rfl, by decide, (lwT2 34 rfl rfl), rfl, by decide +kernel, fun _ => rfl⟩
theorem fq_X1_43 : FP "ThreeColours$Canvas" 43 1 12 true (tyX1 12) := ⟨(RX1, TX1, 16), rfl, rfl, by decide, (lwT2 35 rfl rfl), rfl, by decide +kernel, fun _ => rfl⟩
theorem fq_X1_46 : FP "ThreeColours$Canvas" 46 1 15 false .int := ⟨(RX1, TX1, 16), rfl, rfl, by decide, (lwT2 40 rfl rfl), rfl, by decide +kernel, fun h => by cases h⟩
theorem fq_X1_50 : FP "ThreeColours$Canvas" 50 1 0 true (tyX1 0) := ⟨(RX1, TX1, 16), rfl, rfl, by decide, (lwT2 16 rfl rfl), rfl, by decide +kernel, fun _ => rfl⟩
theorem fq_X1_54 : FP "ThreeColours$Canvas" 54 1 1 true (tyX1 1) := ⟨(RX1, TX1, 16), rfl, rfl, by decide, (lwT2 17 rfl rfl), rfl, by decide +kernel, fun _ => rfl⟩
theorem fq_X3_15 : FP "ThreeColours$Mender" 15 3 3 true (tyX3 3) := ⟨(RX3, TX3, 12), rfl, rfl, by decide, (lwT2 151 rfl rfl), rfl, by decide +kernel, fun _ => rfl⟩
theorem fq_X3_18 : FP "ThreeColours$Mender" 18 3 4 true (tyX3 4) := ⟨(RX3, TX3, 12), rfl, rfl, by decide, (lwT2 152 rfl rfl), rfl, by decide +kernel, fun _ => rfl⟩
theorem fq_X3_22 : FP "ThreeColours$Mender" 22 3 5 true (tyX3 5) := ⟨(RX3, TX3, 12), rfl, rfl, by decide, (lwT2 153 rfl rfl), rfl, by decide +kernel, fun _ => rfl⟩
theorem fq_X3_25 : FP "ThreeColours$Mender" 25 3 6 true (tyX3 6) := ⟨(RX3, TX3, 12), rfl, rfl, by decide, (lwT2 154 rfl rfl), rfl, by decide +kernel, fun _ => rfl⟩
theorem fq_X3_28 : FP "ThreeColours$Mender" 28 3 7 true (tyX3 7) := ⟨(RX3, TX3, 12), rfl, rfl, by decide, (lwT2 155 rfl rfl), rfl, by decide +kernel, fun _ => rfl⟩
theorem fq_X3_31 : FP "ThreeColours$Mender" 31 3 11 false .int := ⟨(RX3, TX3, 12), rfl, rfl, by decide, (lwT2 161 rfl rfl), rfl, by decide +kernel, fun h => by cases h⟩
theorem fq_X3_35 : FP "ThreeColours$Mender" 35 3 0 true (tyX3 0) := ⟨(RX3, TX3, 12), rfl, rfl, by decide, (lwT2 148 rfl rfl), rfl, by decide +kernel, fun _ => rfl⟩
theorem fq_X3_39 : FP "ThreeColours$Mender" 39 3 1 true (tyX3 1) := ⟨(RX3, TX3, 12), rfl, rfl, by decide, (lwT2 149 rfl rfl), rfl, by decide +kernel, fun _ => rfl⟩
theorem fq_X3_9 : FP "ThreeColours$Mender" 9 3 2 true (tyX3 2) := ⟨(RX3, TX3, 12), rfl, rfl, by decide, (lwT2 150 rfl rfl), rfl, by decide +kernel, fun _ => rfl⟩
theorem fq_X4_15 : FP "ThreeColours$Outing" 15 4 0 true (tyX4 0) := ⟨(RX4, TX4, 5), rfl, rfl, by decide, (lwT2 229 rfl rfl), rfl, by decide +kernel, fun _ => rfl⟩
theorem fq_X4_19 : FP "ThreeColours$Outing" 19 4 1 true (tyX4 1) := ⟨(RX4, TX4, 5), rfl, rfl, by decide, (lwT2 230 rfl rfl), rfl, by decide +kernel, fun _ => rfl⟩
theorem fq_X4_9 : FP "ThreeColours$Outing" 9 4 2 true (tyX4 2) := ⟨(RX4, TX4, 5), rfl, rfl, by decide, (lwT2 231 rfl rfl), rfl, by decide +kernel, fun _ => rfl⟩
theorem fq_X5_15 : FP "ThreeColours$Painter" 15 5 3 true (tyX5 3) := ⟨(RX5, TX5, 19), rfl, rfl, by decide, (lwT2 83 rfl rfl), rfl, by decide +kernel, fun _ => rfl⟩
theorem fq_X5_18 : FP "ThreeColours$Painter" 18 5 4 true (tyX5 4) := ⟨(RX5, TX5, 19), rfl, rfl, by decide, (lwT2 84 rfl rfl), rfl, by decide +kernel, fun _ => rfl⟩
theorem fq_X5_22 : FP "ThreeColours$Painter" 22 5 5 true (tyX5 5) := ⟨(RX5, TX5, 19), rfl, rfl, by decide, (lwT2 85 rfl rfl), rfl, by decide +kernel, fun _ => rfl⟩
theorem fq_X5_25 : FP "ThreeColours$Painter" 25 5 6 true (tyX5 6) := ⟨(RX5, TX5, 19), rfl, rfl, by decide, (lwT2 86 rfl rfl), rfl, by decide +kernel, fun _ => rfl⟩
theorem fq_X5_28 : FP "ThreeColours$Painter" 28 5 7 true (tyX5 7) := ⟨(RX5, TX5, 19), rfl, rfl, by decide, (lwT2 87 rfl rfl), rfl, by decide +kernel, fun _ => rfl⟩
theorem fq_X5_31 : FP "ThreeColours$Painter" 31 5 8 true (tyX5 8) := ⟨(RX5, TX5, 19), rfl, rfl, by decide, (lwT2 88 rfl rfl), rfl, by decide +kernel, fun _ => rfl⟩
theorem fq_X5_34 : FP "ThreeColours$Painter" 34 5 9 true (tyX5 9) := ⟨(RX5, TX5, 19), rfl, rfl, by decide, (lwT2 89 rfl rfl), rfl, by decide +kernel, fun _ => rfl⟩
theorem fq_X5_37 : FP "ThreeColours$Painter" 37 5 10 true (tyX5 10) := ⟨(RX5, TX5, 19), rfl, rfl, by decide, (lwT2 90 rfl rfl), rfl, by decide +kernel, fun _ => rfl⟩
theorem fq_X5_40 : FP "ThreeColours$Painter" 40 5 18 false .int := ⟨(RX5, TX5, 19), rfl, rfl, by decide, (lwT2 102 rfl rfl), rfl, by decide +kernel, fun h => by cases h⟩
theorem fq_X5_44 : FP "ThreeColours$Painter" 44 5 0 true (tyX5 0) := ⟨(RX5, TX5, 19), rfl, rfl, by decide, (lwT2 80 rfl rfl), rfl, by decide +kernel, fun _ => rfl⟩
theorem fq_X5_48 : FP "ThreeColours$Painter" 48 5 1 true (tyX5 1) := ⟨(RX5, TX5, 19), rfl, rfl, by decide, (lwT2 81 rfl rfl), rfl, by decide +kernel, fun _ => rfl⟩
theorem fq_X5_9 : FP "ThreeColours$Painter" 9 5 2 true (tyX5 2) := ⟨(RX5, TX5, 19), rfl, rfl, by decide, (lwT2 82 rfl rfl), rfl, by decide +kernel, fun _ => rfl⟩
theorem fq_X6_15 : FP "ThreeColours$Procession" 15 6 2 true (tyX6 2) := ⟨(RX6, TX6, 6), rfl, rfl, by decide, (lwT3 15 rfl rfl), rfl, by decide +kernel, fun _ => rfl⟩
theorem fq_X6_18 : FP "ThreeColours$Procession" 18 6 0 true (tyX6 0) := ⟨(RX6, TX6, 6), rfl, rfl, by decide, (lwT3 13 rfl rfl), rfl, by decide +kernel, fun _ => rfl⟩
theorem fq_X6_9 : FP "ThreeColours$Procession" 9 6 1 true (tyX6 1) := ⟨(RX6, TX6, 6), rfl, rfl, by decide, (lwT3 14 rfl rfl), rfl, by decide +kernel, fun _ => rfl⟩
theorem fq_X7_11 : FP "ThreeColours$Reader" 11 7 1 true (tyX7 1) := ⟨(RX7, TX7, 12), rfl, rfl, by decide, (lwT1 137 rfl rfl), rfl, by decide +kernel, fun _ => rfl⟩
theorem fq_X7_17 : FP "ThreeColours$Reader" 17 7 2 true (tyX7 2) := ⟨(RX7, TX7, 12), rfl, rfl, by decide, (lwT1 138 rfl rfl), rfl, by decide +kernel, fun _ => rfl⟩
theorem fq_X7_20 : FP "ThreeColours$Reader" 20 7 3 true (tyX7 3) := ⟨(RX7, TX7, 12), rfl, rfl, by decide, (lwT1 139 rfl rfl), rfl, by decide +kernel, fun _ => rfl⟩
theorem fq_X7_23 : FP "ThreeColours$Reader" 23 7 0 true (tyX7 0) := ⟨(RX7, TX7, 12), rfl, rfl, by decide, (lwT1 136 rfl rfl), rfl, by decide +kernel, fun _ => rfl⟩
theorem fq_X8_15 : FP "ThreeColours$Sight" 15 8 3 true (tyX8 3) := ⟨(RX8, TX8, 15), rfl, rfl, by decide, (lwT1 202 rfl rfl), rfl, by decide +kernel, fun _ => rfl⟩
theorem fq_X8_18 : FP "ThreeColours$Sight" 18 8 4 true (tyX8 4) := ⟨(RX8, TX8, 15), rfl, rfl, by decide, (lwT1 203 rfl rfl), rfl, by decide +kernel, fun _ => rfl⟩
theorem fq_X8_21 : FP "ThreeColours$Sight" 21 8 5 true (tyX8 5) := ⟨(RX8, TX8, 15), rfl, rfl, by decide, (lwT1 204 rfl rfl), rfl, by decide +kernel, fun _ => rfl⟩
theorem fq_X8_24 : FP "ThreeColours$Sight" 24 8 6 true (tyX8 6) := ⟨(RX8, TX8, 15), rfl, rfl, by decide, (lwT1 205 rfl rfl), rfl, by decide +kernel, fun _ => rfl⟩
theorem fq_X8_27 : FP "ThreeColours$Sight" 27 8 7 true (tyX8 7) := ⟨(RX8, TX8, 15), rfl, rfl, by decide, (lwT1 207 rfl rfl), rfl, by decide +kernel, fun _ => rfl⟩
theorem fq_X8_30 : FP "ThreeColours$Sight" 30 8 14 false .int := ⟨(RX8, TX8, 15), rfl, rfl, by decide, (lwT1 218 rfl rfl), rfl, by decide +kernel, fun h => by cases h⟩
theorem fq_X8_34 : FP "ThreeColours$Sight" 34 8 0 true (tyX8 0) := ⟨(RX8, TX8, 15), rfl, rfl, by decide, (lwT1 199 rfl rfl), rfl, by decide +kernel, fun _ => rfl⟩
theorem fq_X8_38 : FP "ThreeColours$Sight" 38 8 1 true (tyX8 1) := ⟨(RX8, TX8, 15), rfl, rfl, by decide, (lwT1 200 rfl rfl), rfl, by decide +kernel, fun _ => rfl⟩
theorem fq_X8_9 : FP "ThreeColours$Sight" 9 8 2 true (tyX8 2) := ⟨(RX8, TX8, 15), rfl, rfl, by decide, (lwT1 201 rfl rfl), rfl, by decide +kernel, fun _ => rfl⟩
theorem fq_X9_15 : FP "ThreeColours$Town" 15 9 1 true (tyX9 1) := ⟨(RX9, TX9, 16), rfl, rfl, by decide, (lwT1 40 rfl rfl), rfl, by decide +kernel, fun _ => rfl⟩
theorem fq_X9_18 : FP "ThreeColours$Town" 18 9 2 true (tyX9 2) := ⟨(RX9, TX9, 16), rfl, rfl, by decide, (lwT1 42 rfl rfl), rfl, by decide +kernel, fun _ => rfl⟩
theorem fq_X9_21 : FP "ThreeColours$Town" 21 9 3 true (tyX9 3) := ⟨(RX9, TX9, 16), rfl, rfl, by decide, (lwT1 47 rfl rfl), rfl, by decide +kernel, fun _ => rfl⟩
theorem fq_X9_24 : FP "ThreeColours$Town" 24 9 4 true (tyX9 4) := ⟨(RX9, TX9, 16), rfl, rfl, by decide, (lwT1 51 rfl rfl), rfl, by decide +kernel, fun _ => rfl⟩
theorem fq_X9_27 : FP "ThreeColours$Town" 27 9 5 true (tyX9 5) := ⟨(RX9, TX9, 16), rfl, rfl, by decide, (lwT1 53 rfl rfl), rfl, by decide +kernel, fun _ => rfl⟩
theorem fq_X9_30 : FP "ThreeColours$Town" 30 9 6 true (tyX9 6) := ⟨(RX9, TX9, 16), rfl, rfl, by decide, (lwT1 58 rfl rfl), rfl, by decide +kernel, fun _ => rfl⟩
theorem fq_X9_35 : FP "ThreeColours$Town" 35 9 7 true (tyX9 7) := ⟨(RX9, TX9, 16), rfl, rfl, by decide, (lwT1 60 rfl rfl), rfl, by decide +kernel, fun _ => rfl⟩
theorem fq_X9_39 : FP "ThreeColours$Town" 39 9 14 false .int := ⟨(RX9, TX9, 16), rfl, rfl, by decide, (lwT1 87 rfl rfl), rfl, by decide +kernel, fun h => by cases h⟩
theorem fq_X9_9 : FP "ThreeColours$Town" 9 9 0 true (tyX9 0) := ⟨(RX9, TX9, 16), rfl, rfl, by decide, (lwT1 38 rfl rfl), rfl, by decide +kernel, fun _ => rfl⟩
theorem mq_L_12 : Cond.methodLink "ThreeColoursLaw" 12 yX12_init ∈ lwG := (lwT6 115 rfl rfl)
theorem mq_L_9 : Cond.methodLink "ThreeColoursLaw" 9 yX11_init ∈ lwG := (lwT1 24 rfl rfl)
theorem mq_X0_3 : Cond.methodLink "ThreeColours$Asker" 3 Lib.objectInit ∈ lwG := (lwT1 178 rfl rfl)
theorem mq_X10_3 : Cond.methodLink "ThreeColours$Walker" 3 Lib.objectInit ∈ lwG := (lwT2 192 rfl rfl)
theorem mq_X11_1 : Cond.methodLink "ThreeColours" 1 Lib.objectInit ∈ lwG := (lwT1 27 rfl rfl)
theorem mq_X11_29 : Cond.methodLink "ThreeColours" 29 yX7_init ∈ lwG := (lwT1 132 rfl rfl)
theorem mq_X11_38 : Cond.methodLink "ThreeColours" 38 yX0_init ∈ lwG := (lwT1 175 rfl rfl)
theorem mq_X11_47 : Cond.methodLink "ThreeColours" 47 yX8_init ∈ lwG := (lwT1 195 rfl rfl)
theorem mq_X11_56 : Cond.methodLink "ThreeColours" 56 yX1_init ∈ lwG := (lwT2 12 rfl rfl)
theorem mq_X11_63 : Cond.methodLink "ThreeColours" 63 yX5_init ∈ lwG := (lwT2 76 rfl rfl)
theorem mq_X11_75 : Cond.methodLink "ThreeColours" 75 yX3_init ∈ lwG := (lwT2 144 rfl rfl)
theorem mq_X11_82 : Cond.methodLink "ThreeColours" 82 yX10_init ∈ lwG := (lwT2 189 rfl rfl)
theorem mq_X11_9 : Cond.methodLink "ThreeColours" 9 yX9_init ∈ lwG := (lwT1 32 rfl rfl)
theorem mq_X11_91 : Cond.methodLink "ThreeColours" 91 yX4_init ∈ lwG := (lwT2 225 rfl rfl)
theorem mq_X11_98 : Cond.methodLink "ThreeColours" 98 yX6_init ∈ lwG := (lwT3 9 rfl rfl)
theorem mq_X12_14 : Cond.methodLink "ThreeColoursModel" 14 Lib.objectInit ∈ lwG := (lwT6 118 rfl rfl)
theorem mq_X1_5 : Cond.methodLink "ThreeColours$Canvas" 5 Lib.objectInit ∈ lwG := (lwT2 15 rfl rfl)
theorem mq_X3_3 : Cond.methodLink "ThreeColours$Mender" 3 Lib.objectInit ∈ lwG := (lwT2 147 rfl rfl)
theorem mq_X4_3 : Cond.methodLink "ThreeColours$Outing" 3 Lib.objectInit ∈ lwG := (lwT2 228 rfl rfl)
theorem mq_X5_3 : Cond.methodLink "ThreeColours$Painter" 3 Lib.objectInit ∈ lwG := (lwT2 79 rfl rfl)
theorem mq_X6_3 : Cond.methodLink "ThreeColours$Procession" 3 Lib.objectInit ∈ lwG := (lwT3 12 rfl rfl)
theorem mq_X7_5 : Cond.methodLink "ThreeColours$Reader" 5 Lib.objectInit ∈ lwG := (lwT1 135 rfl rfl)
theorem mq_X8_3 : Cond.methodLink "ThreeColours$Sight" 3 Lib.objectInit ∈ lwG := (lwT1 198 rfl rfl)
theorem mq_X9_3 : Cond.methodLink "ThreeColours$Town" 3 Lib.objectInit ∈ lwG := (lwT1 35 rfl rfl)
theorem nq_0 : Cond.instantiable RX0 (fN 0) ∈ lwG ∧ Cond.initialized RX0 ∈ lwG := ⟨(lwT1 174 rfl rfl), (lwT1 4 rfl rfl)⟩
theorem nq_1 : Cond.instantiable RX1 (fN 1) ∈ lwG ∧ Cond.initialized RX1 ∈ lwG := ⟨(lwT2 11 rfl rfl), (lwT1 6 rfl rfl)⟩
theorem nq_10 : Cond.instantiable RX10 (fN 10) ∈ lwG ∧ Cond.initialized RX10 ∈ lwG := ⟨(lwT2 188 rfl rfl), (lwT1 9 rfl rfl)⟩
theorem nq_11 : Cond.instantiable RX11 (fN 11) ∈ lwG ∧ Cond.initialized RX11 ∈ lwG := ⟨(lwT1 23 rfl rfl), (lwT1 1 rfl rfl)⟩
theorem nq_12 : Cond.instantiable RX12 (fN 12) ∈ lwG ∧ Cond.initialized RX12 ∈ lwG := ⟨(lwT6 114 rfl rfl), (lwT1 12 rfl rfl)⟩
theorem nq_3 : Cond.instantiable RX3 (fN 3) ∈ lwG ∧ Cond.initialized RX3 ∈ lwG := ⟨(lwT2 143 rfl rfl), (lwT1 8 rfl rfl)⟩
theorem nq_4 : Cond.instantiable RX4 (fN 4) ∈ lwG ∧ Cond.initialized RX4 ∈ lwG := ⟨(lwT2 224 rfl rfl), (lwT1 10 rfl rfl)⟩
theorem nq_5 : Cond.instantiable RX5 (fN 5) ∈ lwG ∧ Cond.initialized RX5 ∈ lwG := ⟨(lwT2 75 rfl rfl), (lwT1 7 rfl rfl)⟩
theorem nq_6 : Cond.instantiable RX6 (fN 6) ∈ lwG ∧ Cond.initialized RX6 ∈ lwG := ⟨(lwT3 8 rfl rfl), (lwT1 11 rfl rfl)⟩
theorem nq_7 : Cond.instantiable RX7 (fN 7) ∈ lwG ∧ Cond.initialized RX7 ∈ lwG := ⟨(lwT1 131 rfl rfl), (lwT1 3 rfl rfl)⟩
theorem nq_8 : Cond.instantiable RX8 (fN 8) ∈ lwG ∧ Cond.initialized RX8 ∈ lwG := ⟨(lwT1 194 rfl rfl), (lwT1 5 rfl rfl)⟩
theorem nq_9 : Cond.instantiable RX9 (fN 9) ∈ lwG ∧ Cond.initialized RX9 ∈ lwG := ⟨(lwT1 31 rfl rfl), (lwT1 2 rfl rfl)⟩
