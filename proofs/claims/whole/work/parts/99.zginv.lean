/-! THE INVARIANT that stands between two calls -/
section
variable {w : Wd} {d : Nat} {i : IM} {l : LM}
/-- the TOWN in cells b to b + 8 is as it is kept -/
def TWg (b : Nat) (K : Int → Int) (i : IM) : Prop := (∀ j : Int, 0 ≤ j → j < 80 → i (b + 1) j = K j) ∧ (∀ j : Int, 0 ≤ j → j < 24 → i (b + 2) j = K (80 + j)) ∧ (∀ j : Int, 0 ≤ j → j < 5 → i (b + 3) j = K (114 + j)) ∧ (∀ j : Int, 0 ≤ j → j < 10 → i (b + 4) j = K (104 + j)) ∧ (∀ c : Int, 0 ≤ c → c < 8 → i (b + 6) c = mLow (fun _ => K) c) ∧ (∀ j : Int, 0 ≤ j → j < 180 → i (b + 7) j = K (127 + j)) ∧ (i b 8 = K 307 ∧ i b 9 = K 308 ∧ i b 10 = K 309 ∧ i b 11 = K 310 ∧ i b 12 = K 311 ∧ i b 13 = K 313 ∧ i b 14 = K 312)
def TLd (b : Nat) (K : Int → Int) (i : IM) : Prop := ∀ c : Nat, c < 8 → (0 ≤ i (b + 5) (c : Int) ∧ i (b + 5) (c : Int) < 256) ∧ (K (119 + (c : Int))).toNat = (i (b + 5) (c : Int)).toNat ||| 2 ^ c
def SyK (K : Int → Int) : Prop := SymS (fun a => (K (104 + (a : Int))).toNat) ∧ Symm (fun c => (K (119 + (c : Int))).toNat)
def FrK (K : Int → Int) : Prop := K 312 = -1 ∨ (0 ≤ K 312 ∧ K 312 < K 311)
def LwK (w : Wd) (i : IM) (b : Nat) (K : Int → Int) (A : Nat → List Cla) : Prop := ∀ j : Nat, (j : Int) < K 311 → (∃ a, w.2.2.2 (b + 8) (j : Int) = some a ∧ lawC w i a (A j)) ∧ lawM K j (A j)
def TK (w : Wd) (i : IM) (b : Nat) (K : Int → Int) (A : Nat → List Cla) : Prop := (TWg b K i ∧ TLd b K i) ∧ (kOK K ∧ SyK K ∧ FrK K) ∧ LwK w i b K A
def CHs (i : IM) (l : LM) (cs : List Cla) : Prop := SgC i cs ∧ WkC i cs ∧ CvC i l cs ∧ PtC i cs ∧ MdC i l cs
def Tpe (i : IM) : Prop := (0 ≤ i 6 15 ∧ i 6 15 ≤ 400 ∧ i 99 10 = i 6 15) ∧ ∀ j : Int, 0 ≤ j → j < 400 → (0 ≤ i 35 j ∧ i 35 j ≤ 255) ∧ i 105 j = i8 (i 35 j)
def Ctr (k : Nat) (i : IM) : Prop := ((0 ≤ i 7 15 ∧ i 7 15 ≤ (k : Int)) ∧ (0 ≤ i 99 1 ∧ i 99 1 ≤ (k : Int))) ∧ (∀ r : Int, 0 ≤ r → r < 5 → 0 ≤ i 36 r ∧ i 36 r ≤ (k : Int)) ∧ (i 36 0 = i 100 1 ∧ i 36 1 = i 100 2 ∧ i 36 2 = i 100 3 ∧ i 36 3 = i 100 5 ∧ i 36 4 = i 100 6) ∧ limB i (8 + 2 * (k : Int))
def Msc (i : IM) : Prop := i 6 18 = i 99 0 ∧ i 6 17 = i 99 6 ∧ i 6 16 = i 99 11
def Dy (i : IM) : Prop := (i 94 3 = 0 ∧ i 99 50 = -1) ∨ ((0 ≤ i 94 3 ∧ i 94 3 ≤ 5) ∧ i 99 50 = i 94 3 ∧ ∀ p m : Int, 0 ≤ p → p < i 94 3 → 0 ≤ m → m < 120 → i 95 (p * 120 + m) = i 124 (5 * m + p))
def Img (w : Wd) (i : IM) : Prop := (0 ≤ i 6 14 ∧ i 6 14 < 4) ∧ ∀ m : Nat, m < 2 → i 103 (m : Int) = iand (ishr (i 6 14) (m : Int)) 1 ∧ (i 103 (m : Int) = 1 → ∃ A, TK w i (17 + 9 * m) (fun j => i 102 (5120 * (m : Int) + j)) A)
def mWds : List Int := [108, 105, 109, 105, 116, 32, 99, 111, 115, 116, 32, 102, 114, 101, 101, 32, 104, 105, 100, 100, 101, 110, 32, 105, 102, 32, 111, 114, 32, 97, 110, 100, 32, 110, 111, 116, 32, 119, 105, 110, 100, 111, 119, 32, 116, 104, 105, 110, 103, 32, 112, 108, 97, 99, 101, 32, 99, 111, 108, 111, 117, 114, 32, 115, 111, 114, 116, 32, 109, 111, 110, 116, 104, 32, 109, 105, 110, 117, 116, 101, 32, 99, 111, 97, 116, 32, 112, 101, 114, 115, 111, 110, 32]
def Wrd (i : IM) : Prop := ∀ j : Nat, j < 93 → i 104 (j : Int) = mWds.getD j 0
/-- all but the TOWN and what is worked out from it -/
def Rst (w : Wd) (k : Nat) (i : IM) : Prop := Img w i ∧ Tpe i ∧ Ctr k i ∧ Msc i ∧ Dy i ∧ Wrd i
def InA (w : Wd) (k : Nat) (i : IM) (l : LM) (A : Nat → List Cla) : Prop := TK w i 7 (i 101) A ∧ (CHs i l (inForce (i 101) A) ∧ PnC i (inForce (i 101) A)) ∧ Rst w k i
def Inv (w : Wd) (k : Nat) (i : IM) (l : LM) : Prop := ∃ A, InA w k i l A
/-! what follows from it -/
theorem TK_TW {A : Nat → List Cla} (h : TK w i 7 (i 101) A) : TW i := h.1.1
theorem TK_fM {b : Nat} {K : Int → Int} {A : Nat → List Cla} (h : TK w i b K A) : forceM K A := by
  rcases h.2.1.2.2 with z | z
  · exact Or.inl z
  · have h6 := h.2.1.1.1.2.2.2.2.1
    exact Or.inr ⟨z.1, by omega, (h.2.2 (K 312).toNat (by omega)).2⟩
theorem TK_Cx {A : Nat → List Cla} (h : TK w i 7 (i 101) A) : Cx w i (inForce (i 101) A) := by
  have ht : TW i := h.1.1
  have h7 : i 7 8 = i 101 307 ∧ i 7 9 = i 101 308 ∧ i 7 10 = i 101 309 ∧ i 7 11 = i 101 310 ∧ i 7 12 = i 101 311 ∧ i 7 13 = i 101 313 ∧ i 7 14 = i 101 312 := ht.2.2.2.2.2.2
  have h6 := h.2.1.1.1.2.2.2.2.1
  refine ⟨ht, h.2.1.1, ⟨fun z => by rw [h7.2.2.2.2.2.2] at z ⊢; rw [h7.2.2.2.2.1] at z; omega, ?_⟩, forceM_dep (TK_fM h)⟩
  have er : rul w i = if 0 ≤ i 101 312 ∧ i 101 312 < i 101 311 then w.2.2.2 15 (i 101 312) else none := by
    unfold rul; rw [h7.2.2.2.2.2.2, h7.2.2.2.2.1]
  rw [er]
  rcases h.2.1.2.2 with z | z
  · left
    exact ⟨if_neg (by omega), by unfold inForce; rw [if_pos z]⟩
  · right
    obtain ⟨a, h1, h2⟩ := (h.2.2 (i 101 312).toNat (by omega)).1
    have e : (((i 101 312).toNat : Nat) : Int) = i 101 312 := by omega
    rw [e] at h1
    refine ⟨a, by rw [if_pos z]; exact h1, ?_⟩
    unfold inForce
    rw [if_neg (by omega)]
    exact h2
theorem TK_sym {A : Nat → List Cla} (h : TK w i 7 (i 101) A) : SymS (sS i) := h.2.1.2.1.1
/-! all stays, where nothing of it changes -/
theorem lawC_same {i i' : IM} {a : Nat} {cs : List Cla} (h : ∀ b, 125 ≤ b → i' b = i b) (hL : lawC w i a cs) : lawC w i' a cs := lawC_K h hL
theorem TK_eq {i i' : IM} {b : Nat} {K : Int → Int} {A : Nat → List Cla} (h : ∀ a, (b ≤ a ∧ a ≤ b + 7 ∧ a ≠ b) → i' a = i a) (hb : ∀ k : Int, k ≠ 15 → i' b k = i b k) (h5 : ∀ a, 125 ≤ a → i' a = i a) (hk : TK w i b K A) : TK w i' b K A := by
  obtain ⟨⟨h1, h2⟩, h3, h4⟩ := hk
  refine ⟨⟨?_, ?_⟩, h3, fun j hj => ?_⟩
  · unfold TWg
    rw [h (b + 1) (by omega), h (b + 2) (by omega), h (b + 3) (by omega), h (b + 4) (by omega), h (b + 6) (by omega), h (b + 7) (by omega), hb 8 (by decide), hb 9 (by decide), hb 10 (by decide), hb 11 (by decide), hb 12 (by decide), hb 13 (by decide), hb 14 (by decide)]
    exact h1
  · unfold TLd
    rw [h (b + 5) (by omega)]
    exact h2
  · obtain ⟨⟨a, q1, q2⟩, q3⟩ := h4 j hj
    exact ⟨⟨a, q1, lawC_same h5 q2⟩, q3⟩
theorem SgC_eq {i i' : IM} {cs : List Cla} (e7 : i' 7 15 = i 7 15) (h : ∀ a, 44 ≤ a → a ≤ 50 → i' a = i a) (e101 : i' 101 = i 101) (hs : SgC i cs) : SgC i' cs := SgC_d e7 (h 44 (by omega) (by omega)) (fun a h1 h2 => h a (by omega) (by omega)) e101 hs
theorem WkC_eq {i i' : IM} {cs : List Cla} (e7 : i' 7 15 = i 7 15) (e90 : i' 90 = i 90) (e93 : i' 93 = i 93) (e101 : i' 101 = i 101) (hs : WkC i cs) : WkC i' cs := by
  unfold WkC
  rw [e7, e90, e93, e101]
  exact ⟨hs.1, fun z p m f t a1 a2 a3 a4 a5 => wkR_K e101 (hs.2 z p m f t a1 a2 a3 a4 a5)⟩
theorem CHs_eq {i i' : IM} {l l' : LM} {cs : List Cla} (h : ∀ a, a = 7 ∨ (44 ≤ a ∧ a ≤ 93) ∨ a = 101 → i' a = i a) (hl : ∀ a, 51 ≤ a ∧ a ≤ 83 → l' a = l a) (hs : CHs i l cs) : CHs i' l' cs := by
  obtain ⟨h1, h2, h3, h4, h5⟩ := hs
  have e7 := h 7 (by omega)
  have e101 := h 101 (by omega)
  exact ⟨SgC_eq (by rw [e7]) (fun a x y => h a (by omega)) e101 h1, WkC_eq (by rw [e7]) (h 90 (by omega)) (h 93 (by omega)) e101 h2, CvC_eq (fun a x => h a (by omega)) (fun a x => hl a (by omega)) h3, PtC_eq e7 (h 63 (by omega)) (h 72 (by omega)) e101 h4, MdC_eq e7 (h 83 (by omega)) (h 89 (by omega)) e101 (hl 83 (by omega)) h5⟩
theorem PnC_eq {i i' : IM} {cs : List Cla} (h99 : ∀ k : Int, (k = 1 ∨ (32 ≤ k ∧ k ≤ 42)) → i' 99 k = i 99 k) (h : ∀ a, a = 101 ∨ (117 ≤ a ∧ a ≤ 119) → i' a = i a) (hs : PnC i cs) : PnC i' cs := by
  have e101 := h 101 (by omega)
  refine ⟨by rw [h99 32 (by omega), h99 1 (by omega)]; exact hs.1, fun z => ?_⟩
  rw [h99 32 (by omega), h99 1 (by omega)] at z
  have hq := hs.2 z
  rw [e101, enX_K e101, h99 33 (by omega), h99 34 (by omega)]
  obtain ⟨q1, q2, q3⟩ := hq
  refine ⟨?_, ?_, ?_⟩
  · unfold eA
    rw [h99 35 (by omega), h99 36 (by omega), h99 37 (by omega), h99 40 (by omega), h99 41 (by omega), h99 42 (by omega), h 117 (by omega)]
    exact q1
  · exact eM_cg (h99 38 (by omega)) (h99 39 (by omega)) (h 118 (by omega)) q2
  · intro k hk
    rw [h 119 (by omega)]
    exact q3 k hk
theorem Img_eq {i i' : IM} (h6 : i' 6 14 = i 6 14) (h : ∀ a, (17 ≤ a ∧ a ≤ 34) ∨ a = 102 ∨ a = 103 ∨ 125 ≤ a → i' a = i a) (hs : Img w i) : Img w i' := by
  refine ⟨by rw [h6]; exact hs.1, fun m hm => ?_⟩
  rw [h6, h 103 (by omega), h 102 (by omega)]
  obtain ⟨q1, q2⟩ := hs.2 m hm
  refine ⟨q1, fun z => ?_⟩
  obtain ⟨A, q3⟩ := q2 z
  exact ⟨A, TK_eq (fun a x => h a (by omega)) (fun k _ => by rw [h (17 + 9 * m) (by omega)]) (fun a x => h a (by omega)) q3⟩
theorem Tpe_eq {i i' : IM} (h6 : i' 6 15 = i 6 15) (h99 : i' 99 10 = i 99 10) (h35 : i' 35 = i 35) (h105 : i' 105 = i 105) (hs : Tpe i) : Tpe i' := by
  unfold Tpe; rw [h6, h99, h35, h105]; exact hs
theorem Ctr_up {k : Nat} (hs : Ctr k i) : Ctr (k + 1) i := by
  obtain ⟨⟨h1, h2⟩, h3, h4, h5⟩ := hs
  refine ⟨⟨⟨h1.1, by omega⟩, h2.1, by omega⟩, fun r r0 r5 => ⟨(h3 r r0 r5).1, by have := (h3 r r0 r5).2; omega⟩, h4, fun x x0 x1 => ⟨(h5 x x0 x1).1, by have := (h5 x x0 x1).2; omega⟩⟩
theorem Dy_eq {i i' : IM} (h94 : i' 94 3 = i 94 3) (h95 : i' 95 = i 95) (h99 : i' 99 50 = i 99 50) (h124 : i' 124 = i 124) (hs : Dy i) : Dy i' := by
  unfold Dy; rw [h94, h95, h99, h124]; exact hs
theorem inForce_K {K K' : Int → Int} {A : Nat → List Cla} (h : K' 312 = K 312) : inForce K' A = inForce K A := by unfold inForce; rw [h]
/-- a call that only asks -/
theorem InA_ro {k : Nat} {A : Nat → List Cla} {i' : IM} {l' : LM} (hI : InA w k i l A) (h : ∀ a, (a < 37 ∨ a = 94 ∨ a = 95 ∨ (100 ≤ a ∧ a ≤ 105) ∨ 124 ≤ a) → i' a = i a) (h99 : ∀ x : Int, (x = 0 ∨ x = 1 ∨ x = 6 ∨ x = 10 ∨ x = 11 ∨ x = 50) → i' 99 x = i 99 x) (hc : CHs i' l' (inForce (i 101) A)) (hp : PnC i' (inForce (i 101) A)) (hB : limB i' (8 + 2 * ((k : Int) + 1))) : InA w (k + 1) i' l' A := by
  obtain ⟨h1, -, r1, r2, r3, r4, r5, r6⟩ := hI
  have e101 := h 101 (by omega)
  refine ⟨?_, ⟨by rw [e101]; exact hc, by rw [e101]; exact hp⟩, Img_eq (by rw [h 6 (by omega)]) (fun a x => h a (by omega)) r1, Tpe_eq (by rw [h 6 (by omega)]) (h99 10 (by omega)) (h 35 (by omega)) (h 105 (by omega)) r2, ?_, ?_, Dy_eq (by rw [h 94 (by omega)]) (h 95 (by omega)) (h99 50 (by omega)) (h 124 (by omega)) r5, ?_⟩
  · rw [e101]
    exact TK_eq (fun a x => h a (by omega)) (fun x _ => by rw [h 7 (by omega)]) (fun a x => h a (by omega)) h1
  · obtain ⟨⟨c1, c2⟩, c3, c4, c5⟩ := r3
    refine ⟨⟨?_, ?_⟩, fun r r0 r5 => ?_, ?_, ?_⟩
    · rw [h 7 (by omega)]; exact ⟨c1.1, by omega⟩
    · rw [h99 1 (by omega)]; exact ⟨c2.1, by omega⟩
    · rw [h 36 (by omega)]; exact ⟨(c3 r r0 r5).1, by have := (c3 r r0 r5).2; omega⟩
    · rw [h 36 (by omega), h 100 (by omega)]; exact c4
    · have e : ((k + 1 : Nat) : Int) = (k : Int) + 1 := by omega
      rw [e]; exact hB
  · unfold Msc; rw [h 6 (by omega), h99 0 (by omega), h99 6 (by omega), h99 11 (by omega)]; exact r4
  · unfold Wrd; rw [h 104 (by omega)]; exact r6
theorem limB_up {B B' : Int} (h : limB i B) (hb : B ≤ B') : limB i B' := fun k h0 h1 => ⟨(h k h0 h1).1, by have := (h k h0 h1).2; omega⟩
theorem limB_eq {i i' : IM} {B : Int} (e : i' 112 = i 112) (h : limB i B) : limB i' B := by unfold limB; rw [e]; exact h
/-- caches of what stood before are not used any more -/
theorem CHs_old {i i' : IM} {l l' : LM} {cs cs' : List Cla} (h7 : i' 7 15 = i 7 15 + 1) (h44 : i' 44 14 = i 44 14) (h51 : i' 51 15 = i 51 15) (h63 : i' 63 18 = i 63 18) (h83 : i' 83 11 = i 83 11) (h90 : i' 90 8 = i 90 8) (hs : CHs i l cs) : CHs i' l' cs' := by
  obtain ⟨h1, h2, h3, h4, h5⟩ := hs
  have q1 := h1.1
  have q2 := h2.1
  have q3 := h3.1
  have q4 := h4.1
  have q5 := h5.1
  exact ⟨⟨by omega, fun z => by omega⟩, ⟨by omega, fun z => by omega⟩, ⟨by omega, fun z => by omega⟩, ⟨by omega, fun z => by omega⟩, ⟨by omega, fun z => by omega⟩⟩
theorem PnC_old {i i' : IM} {cs cs' : List Cla} (h1 : i' 99 1 = i 99 1 + 1) (h32 : i' 99 32 = i 99 32) (hs : PnC i cs) : PnC i' cs' := by
  have q1 := hs.1
  exact ⟨by omega, fun z => by omega⟩
/-- a call that changes the TOWN -/
theorem InA_ch {k : Nat} {A A' : Nat → List Cla} {i' : IM} {l' : LM} {w' : Wd} (hI : InA w k i l A) (h : ∀ a, (16 ≤ a ∧ a ≤ 36) ∨ a = 44 ∨ a = 51 ∨ a = 63 ∨ a = 83 ∨ a = 90 ∨ a = 94 ∨ a = 95 ∨ a = 100 ∨ a = 104 ∨ a = 105 ∨ a = 112 ∨ a = 124 → i' a = i a) (hT : TK w' i' 7 (i' 101) A') (h7 : i' 7 15 = i 7 15 + 1) (h1 : i' 99 1 = i 99 1 + 1) (h32 : i' 99 32 = i 99 32) (h50 : i' 99 50 = i 99 50) (hm : Img w' i') (ht : Tpe i') (hs : Msc i') : InA w' (k + 1) i' l' A' := by
  obtain ⟨-, ⟨g1, g2⟩, r1, r2, r3, r4, r5, r6⟩ := hI
  refine ⟨hT, ⟨CHs_old h7 (by rw [h 44 (by omega)]) (by rw [h 51 (by omega)]) (by rw [h 63 (by omega)]) (by rw [h 83 (by omega)]) (by rw [h 90 (by omega)]) g1, PnC_old h1 h32 g2⟩, hm, ht, ?_, hs, Dy_eq (by rw [h 94 (by omega)]) (h 95 (by omega)) h50 (h 124 (by omega)) r5, ?_⟩
  · obtain ⟨⟨c1, c2⟩, c3, c4, c5⟩ := r3
    refine ⟨⟨?_, ?_⟩, fun r r0 r5 => ?_, ?_, ?_⟩
    · rw [h7]; omega
    · rw [h1]; omega
    · rw [h 36 (by omega)]; exact ⟨(c3 r r0 r5).1, by have := (c3 r r0 r5).2; omega⟩
    · rw [h 36 (by omega), h 100 (by omega)]; exact c4
    · have e : ((k + 1 : Nat) : Int) = (k : Int) + 1 := by omega
      rw [e]; exact limB_up (limB_eq (h 112 (by omega)) c5) (by omega)
  · unfold Wrd; rw [h 104 (by omega)]; exact r6
end
