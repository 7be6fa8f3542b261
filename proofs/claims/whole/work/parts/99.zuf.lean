/-! THE BEGINNING: what the two constructors leave is the world, and the invariant holds there -/
section
variable {E : GE} {i : IM} {l : LM}
theorem arrV_cg {c n : Nat} {f g : Nat → Value} (h : ∀ j, j < n → f j = g j) : arrV c n f = arrV c n g := by
  unfold arrV
  congr 2
  funext j
  exact h j.val j.isLt
def rfIn (q : Shp) (j : Nat) : Prop := match q with
  | .inl q => 4 ≤ q.1 ∧ j < q.2
  | .inr c => j < fN c ∧ fKd c j = 2
theorem rep_cast {δ δ2 : Dl} {H : Heap} (h1 : δ2.1 = δ.1) (hs : ∀ a q, δ2.2.1 a = some q → δ.2.1 a = some q ∧ ∀ j : Nat, rfIn q j → δ2.2.2 a (j : Int) = δ.2.2 a (j : Int)) (hR : Rep E δ i l H) : Rep E δ2 i l H := by
  obtain ⟨g1, g2, g3, g4⟩ := hR
  refine ⟨by rw [h1]; exact g1, by rw [h1]; exact g2, fun a q ha => ?_, g4⟩
  obtain ⟨k1, k2⟩ := hs a q ha
  obtain ⟨m1, m2, m3⟩ := g3 a q k1
  refine ⟨m1, by rw [h1]; exact m2, ?_⟩
  rcases q with ⟨kd, n⟩ | c
  · have m3' : H[gRho E a]? = some (arrV (E.2.2.1 kd) n (cV E i l δ.2.2 a (kCo kd))) := m3
    show H[gRho E a]? = some (arrV (E.2.2.1 kd) n (cV E i l δ2.2.2 a (kCo kd)))
    rw [m3', arrV_cg (fun j hj => ?_)]
    by_cases c : 4 ≤ kd
    · have := k2 j ⟨c, hj⟩
      unfold cV
      rw [this]
    · have e : ∀ r : RM, cV E i l r a (kCo kd) j = if kCo kd = 1 then .long (l a j) else .int (Int32.ofInt (i a j)) := fun r => by
        unfold cV
        have h2 : kCo kd ≠ 2 := by
          unfold kCo
          by_cases e1 : kd = 1
          · rw [if_pos e1]; decide
          · rw [if_neg e1, if_pos (by omega)]; decide
        rw [if_neg h2]
      rw [e, e]
  · have m3' : t_OB (gRho E a) (E.2.1.1 c) (fN c) (E.2.1.2 c) H (fun j => cV E i l δ.2.2 a (fKd c j) j) := m3
    show t_OB (gRho E a) (E.2.1.1 c) (fN c) (E.2.1.2 c) H (fun j => cV E i l δ2.2.2 a (fKd c j) j)
    refine m3'.to (fun j hj => ?_)
    show cV E i l δ.2.2 a (fKd c j) j = cV E i l δ2.2.2 a (fKd c j) j
    unfold cV
    by_cases h2 : fKd c j = 2
    · rw [k2 j ⟨hj, h2⟩]
    · rw [if_neg h2, if_neg h2]
def w0 (E : GE) : Wd := (E, 125, fun _ => 0, fun _ _ => none)
def isRc (a : Nat) : Bool := match SHt.getD a none with
  | none => false
  | some (.inl q) => Nat.ble 4 q.1
  | some (.inr _) => true
set_option maxRecDepth 100000 in
theorem ck_sh : ∀ a : Fin 125, zD253.2.1 a.val = SHt.getD a.val none := by decide +kernel
set_option maxRecDepth 100000 in
theorem ck_rf : ∀ a : Fin 125, isRc a.val = true → ∀ j : Fin 52, rfW (fun _ _ => none) a.val ((j.val : Nat) : Int) = zD253.2.2 a.val ((j.val : Nat) : Int) := by decide +kernel
theorem ck_n : ∀ a : Fin 125, ∀ q, SHt.getD a.val none = some q → ∀ j : Nat, rfIn q j → j < 52 ∧ isRc a.val = true := by
  intro a q ha j hj
  have hn : ∀ a : Fin 125, (match SHt.getD a.val none with | none => true | some (.inl q) => Nat.ble q.1 3 || Nat.ble q.2 52 | some (.inr c) => Nat.ble (fN c) 52) = true := by decide +kernel
  have := hn a
  rw [ha] at this
  unfold isRc
  rw [ha]
  rcases q with ⟨kd, n⟩ | c
  · have h4 : 4 ≤ kd ∧ j < n := hj
    have h5 : (Nat.ble kd 3 || Nat.ble n 52) = true := this
    rw [Bool.or_eq_true] at h5
    refine ⟨?_, Nat.ble_eq_true_of_le h4.1⟩
    rcases h5 with h | h
    · have := Nat.le_of_ble_eq_true h; omega
    · have := Nat.le_of_ble_eq_true h; omega
  · have h4 : j < fN c ∧ fKd c j = 2 := hj
    have h5 := Nat.le_of_ble_eq_true (show Nat.ble (fN c) 52 = true from this)
    exact ⟨by omega, rfl⟩
set_option maxRecDepth 100000 in
theorem rep_w0 {H : Heap} (h : Rep E zD253 i l H) : Rep E (dw (w0 E)) i l H := by
  refine rep_cast (δ := zD253) (δ2 := dw (w0 E)) rfl (fun a q ha => ?_) h
  have ha' : shW 125 (fun _ => 0) a = some q := ha
  unfold shW at ha'
  by_cases c : a < 125
  · rw [if_pos c] at ha'
    refine ⟨(ck_sh ⟨a, c⟩).trans ha', fun j hj => ?_⟩
    obtain ⟨h1, h2⟩ := ck_n ⟨a, c⟩ q ha' j hj
    exact ck_rf ⟨a, c⟩ h2 ⟨j, h1⟩
  · rw [if_neg c, if_neg c] at ha'
    cases ha'
theorem fz {n : Nat} {P : Int → Prop} (h : ∀ j : Fin n, P ((j.val : Nat) : Int)) : ∀ j : Int, 0 ≤ j → j < (n : Int) → P j := by
  intro j j0 j1
  obtain ⟨m, rfl⟩ := Int.eq_ofNat_of_zero_le j0
  exact h ⟨m, by omega⟩
set_option maxRecDepth 100000 in
theorem ini_t1 : ∀ j : Fin 80, zI141 8 ((j.val : Nat) : Int) = zI141 101 ((j.val : Nat) : Int) := by decide +kernel
set_option maxRecDepth 100000 in
theorem ini_t2 : ∀ j : Fin 24, zI141 9 ((j.val : Nat) : Int) = zI141 101 (80 + ((j.val : Nat) : Int)) := by decide +kernel
set_option maxRecDepth 100000 in
theorem ini_t3 : ∀ j : Fin 5, zI141 10 ((j.val : Nat) : Int) = zI141 101 (114 + ((j.val : Nat) : Int)) := by decide +kernel
set_option maxRecDepth 100000 in
theorem ini_t4 : ∀ j : Fin 10, zI141 11 ((j.val : Nat) : Int) = zI141 101 (104 + ((j.val : Nat) : Int)) := by decide +kernel
set_option maxRecDepth 100000 in
theorem ini_t5 : ∀ j : Fin 8, zI141 13 ((j.val : Nat) : Int) = mLow (fun _ => zI141 101) ((j.val : Nat) : Int) := by decide +kernel
set_option maxRecDepth 100000 in
theorem ini_t6 : ∀ j : Fin 180, zI141 14 ((j.val : Nat) : Int) = zI141 101 (127 + ((j.val : Nat) : Int)) := by decide +kernel
set_option maxRecDepth 100000 in
theorem ini_kb : ∀ p : Fin 314, ((p.val : Nat) : Int) ≠ 312 → kLo ((p.val : Nat) : Int) ≤ zI141 101 ((p.val : Nat) : Int) ∧ zI141 101 ((p.val : Nat) : Int) ≤ kHi ((p.val : Nat) : Int) := by decide +kernel
set_option maxRecDepth 100000 in
theorem ini_td : ∀ c : Fin 8, (0 ≤ zI141 12 ((c.val : Nat) : Int) ∧ zI141 12 ((c.val : Nat) : Int) < 256) ∧ (zI141 101 (119 + ((c.val : Nat) : Int))).toNat = (zI141 12 ((c.val : Nat) : Int)).toNat ||| 2 ^ c.val := by decide +kernel
set_option maxRecDepth 100000 in
theorem ini_s1 : ∀ a b : Fin 10, ((zI141 101 (104 + ((a.val : Nat) : Int))).toNat.testBit b.val = true ↔ (zI141 101 (104 + ((b.val : Nat) : Int))).toNat.testBit a.val = true) := by decide +kernel
set_option maxRecDepth 100000 in
theorem ini_s2 : ∀ a b : Fin 8, (zI141 101 (119 + ((a.val : Nat) : Int))).toNat.testBit b.val = true → (zI141 101 (119 + ((b.val : Nat) : Int))).toNat.testBit a.val = true := by decide +kernel
set_option maxRecDepth 100000 in
theorem ini_w : ∀ j : Fin 93, zI141 104 ((j.val : Nat) : Int) = mWds.getD j.val 0 := by decide +kernel
set_option maxRecDepth 100000 in
theorem Inv0 (E : GE) : Inv (w0 E) 0 zI141 zL := by
  refine ⟨fun _ => [], ⟨⟨⟨fz ini_t1, fz ini_t2, fz ini_t3, fz ini_t4, fz ini_t5, fz ini_t6, by decide +kernel⟩, fun c hc => ini_td ⟨c, hc⟩⟩, ⟨kOK_of (fun p p0 p1 p2 => fz (n := 314) (P := fun p => p ≠ 312 → kLo p ≤ zI141 101 p ∧ zI141 101 p ≤ kHi p) ini_kb p p0 p1 p2), ⟨fun a b ha hb => ini_s1 ⟨a, ha⟩ ⟨b, hb⟩, fun a b ha hb => ini_s2 ⟨a, ha⟩ ⟨b, hb⟩⟩, Or.inl (by decide +kernel)⟩, fun j hj => ?_⟩, ⟨⟨?_, ?_, ?_, ?_, ?_⟩, ?_⟩, ⟨?_, ?_⟩, ⟨?_, ?_⟩, ⟨?_, ?_, ?_, ?_⟩, ?_, ?_, ?_⟩
  · have e : zI141 101 311 = 0 := by decide +kernel
    rw [e] at hj
    omega
  · exact ⟨by decide +kernel, fun z => absurd z (by decide +kernel)⟩
  · exact ⟨by decide +kernel, fun z => absurd z (by decide +kernel)⟩
  · exact ⟨by decide +kernel, fun z => absurd z (by decide +kernel)⟩
  · exact ⟨by decide +kernel, fun z => absurd z (by decide +kernel)⟩
  · exact ⟨by decide +kernel, fun z => absurd z (by decide +kernel)⟩
  · exact ⟨by decide +kernel, fun z => absurd z (by decide +kernel)⟩
  · decide +kernel
  · intro m hm
    have h : ∀ m : Fin 2, zI141 103 ((m.val : Nat) : Int) = iand (ishr (zI141 6 14) ((m.val : Nat) : Int)) 1 ∧ zI141 103 ((m.val : Nat) : Int) ≠ 1 := by decide +kernel
    have := h ⟨m, hm⟩
    exact ⟨this.1, fun z => absurd z this.2⟩
  · decide +kernel
  · intro j j0 j1
    have e1 : zI141 35 j = 0 := rfl
    have e2 : zI141 105 j = 0 := rfl
    rw [e1, e2]
    exact ⟨⟨by decide, by decide⟩, by decide +kernel⟩
  · decide +kernel
  · intro r r0 r5
    have e1 : zI141 36 r = 0 := rfl
    rw [e1]
    exact ⟨by decide, by decide⟩
  · decide +kernel
  · intro x x0 x1
    have e1 : zI141 112 x = 0 := rfl
    rw [e1]
    exact ⟨by decide, by decide⟩
  · unfold Msc; decide +kernel
  · exact Or.inl (by decide +kernel)
  · exact fun j hj => ini_w ⟨j, hj⟩
end
