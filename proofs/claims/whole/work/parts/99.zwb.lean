/-! TOKENS in the class -/
section
variable {w : Wd} {d : Nat} {i : IM} {l : LM}
def BT (i : IM) : Nat → Int := fun j => i 35 (j : Int)
theorem sB_eq {B : Nat → Int} {k e : Nat} {wd : List Int} : sB B k e = wd ↔ (e - k = wd.length ∧ ∀ j, j < wd.length → B (k + j) = wd.getD j 0) := by
  unfold sB
  constructor
  · intro h
    subst h
    refine ⟨by simp, fun j hj => ?_⟩
    simp only [List.length_map, List.length_range] at hj
    simp [List.getD_eq_getElem?_getD, List.getElem?_map, List.getElem?_range hj]
  · rintro ⟨h1, h2⟩
    apply List.ext_getElem
    · simp [h1]
    · intro j h3 h4
      simp only [List.getElem_map, List.getElem_range]
      rw [h2 j h4, List.getD_eq_getElem?_getD, List.getElem?_eq_getElem h4]
      rfl
def mtc (B : Nat → Int) (k e : Nat) (wd : List Int) (q : Nat) : Prop := q ≤ e - k ∧ ∀ j, j < q → B (k + j) = wd.getD j 0
theorem lp_word {P : Int → IM → LM → Prop} (hd : 4 ≤ d) {k e : Nat} (hke : k ≤ e) (he : e ≤ 400) (h5 : i 37 5 = (k : Int)) (h6 : i 37 6 = (e : Int)) {wd : List Int} {o : Nat} (ho : o + wd.length < 93) (hw : ∀ q, q < wd.length → hW ((o + q : Nat) : Int) = wd.getD q 0 ∧ ¬ wd.getD q 0 = 32) (hsp : hW ((o + wd.length : Nat) : Int) = 32) {x1 : Int} (hx1 : 0 ≤ x1 ∧ x1 ≤ 100) (hY : sB (BT i) k e = wd → P (300 + x1) i l) (hN : ¬ sB (BT i) k e = wd → gI w d X_X7_wordThere P i l 6 [(0, vR (some 37)), (1, vI (x1 + 1)), (2, vI 0), (3, vI ((o + wd.length + 1 : Nat) : Int))] []) : ∀ r q : Nat, q + r = wd.length → ∀ x2 : Int, ((mtc (BT i) k e wd q ∧ x2 = (q : Int)) ∨ (¬ mtc (BT i) k e wd q ∧ x2 = -1)) → gI w d X_X7_wordThere P i l 6 [(0, vR (some 37)), (1, vI x1), (2, vI x2), (3, vI ((o + q : Nat) : Int))] [] := by
  intro r
  induction r with
  | zero =>
    intro q hq x2 hx
    have e0 : q = wd.length := by omega
    subst e0
    have hx2 : rg x2 := by rcases hx with h | h <;> exact ⟨by omega, by omega⟩
    refine s_X7_wordThere_6 _ _ _ hd ⟨⟨by omega, by omega⟩, fun z => by omega, fun _ => ⟨⟨by omega, by omega⟩, fun z => absurd hsp z, fun z => absurd hsp z, fun _ => hx2, fun _ => by rw [h5, h6]; exact ⟨by omega, by omega⟩, fun z => absurd hsp z.1, fun z => absurd hsp z.1, fun z => absurd hsp z.1, fun z => ?_, fun z => ⟨⟨by omega, by omega⟩, hY ?_⟩⟩⟩
    · refine hN (fun h => z.2 ?_)
      obtain ⟨g1, g2⟩ := sB_eq.mp h
      rw [h5, h6]
      rcases hx with h | h
      · omega
      · exact absurd ⟨by omega, g2⟩ h.1
    · have z2 := z.2
      rw [h5, h6] at z2
      rcases hx with h | h
      · exact sB_eq.mpr ⟨by omega, h.1.2⟩
      · omega
  | succ r ih =>
    intro q hq x2 hx
    obtain ⟨w1, w2⟩ := hw q (by omega)
    have n32 : ¬ hW ((o + q : Nat) : Int) = 32 := by rw [w1]; exact w2
    have hx2 : rg x2 := by rcases hx with h | h <;> exact ⟨by omega, by omega⟩
    have nx := ih (q + 1) (by omega)
    rw [show ((o + (q + 1) : Nat) : Int) = ((o + q : Nat) : Int) + 1 by omega] at nx
    refine s_X7_wordThere_6 _ _ _ hd ⟨⟨by omega, by omega⟩, fun z => by omega, fun _ => ⟨⟨by omega, by omega⟩, fun _ => hx2, fun _ z => by rw [h5]; rcases hx with h | h <;> exact ⟨by omega, by omega⟩, fun z => absurd z n32, fun z => absurd z n32, fun z => ?_, fun z => ?_, fun z => ?_, fun z => absurd z.1 n32, fun z => absurd z.1 n32⟩⟩
    · refine nx x2 (Or.inr ⟨fun m => ?_, z.2⟩)
      rcases hx with h | h
      · omega
      · exact h.1 ⟨by have := m.1; omega, fun j hj => m.2 j (by omega)⟩
    · have z2 := z.2.2
      rw [h5, h6] at z2
      refine nx (-1) (Or.inr ⟨fun m => ?_, rfl⟩)
      rcases hx with h | h
      · have := m.1; omega
      · exact z.2.1 h.2
    · have z2 := z.2.2
      rw [h5, h6] at z2
      rcases hx with h | h
      · obtain ⟨hm, rfl⟩ := h
        rw [h5]
        refine ⟨⟨by omega, by omega⟩, ?_⟩
        have eb : i 35 ((k : Int) + (q : Int)) = BT i (k + q) := by show _ = i 35 ((k + q : Nat) : Int); congr 1
        rw [eb, w1]
        by_cases c : BT i (k + q) = wd.getD q 0
        · rw [if_pos c]
          refine nx _ (Or.inl ⟨⟨by omega, fun j hj => ?_⟩, by omega⟩)
          by_cases ej : j = q
          · rw [ej]; exact c
          · exact hm.2 j (by omega)
        · rw [if_neg c]
          exact nx _ (Or.inr ⟨fun m => c (m.2 q (by omega)), rfl⟩)
      · exact absurd h.2 z.2.1
def flW : List (List Int) → List Int
  | [] => []
  | wd :: ws => wd ++ 32 :: flW ws
theorem getD_app1 {a b : List Int} {j : Nat} (h : j < a.length) : (a ++ b).getD j 0 = a.getD j 0 := by
  rw [List.getD_eq_getElem?_getD, List.getD_eq_getElem?_getD, List.getElem?_append_left h]
theorem getD_app2 {a b : List Int} {j : Nat} : (a ++ b).getD (a.length + j) 0 = b.getD j 0 := by
  rw [List.getD_eq_getElem?_getD, List.getD_eq_getElem?_getD, List.getElem?_append_right (by omega)]
  congr 2; omega
theorem lp_words {P : Int → IM → LM → Prop} (hd : 4 ≤ d) {k e : Nat} (hke : k ≤ e) (he : e ≤ 400) (h5 : i 37 5 = (k : Int)) (h6 : i 37 6 = (e : Int)) : ∀ (ws : List (List Int)) (o : Nat) (x1 : Int), (0 ≤ x1 ∧ x1 + (ws.length : Int) ≤ 17) → o + (flW ws).length = 93 → (∀ j, j < (flW ws).length → hW ((o + j : Nat) : Int) = (flW ws).getD j 0) → (∀ wd ∈ ws, ∀ q, q < wd.length → ¬ wd.getD q 0 = 32) → P (wcF (sB (BT i) k e) ws x1) i l → gI w d X_X7_wordThere P i l 6 [(0, vR (some 37)), (1, vI x1), (2, vI 0), (3, vI (o : Int))] []
  | [], o, x1, hx, ho, hh, hs, hP => by
    have e0 : o = 93 := by simpa [flW] using ho
    subst e0
    exact s_X7_wordThere_6 _ _ _ hd ⟨⟨by omega, by omega⟩, fun _ => hP, fun z => by omega⟩
  | wd :: ws, o, x1, hx, ho, hh, hs, hP => by
    have hl : (flW (wd :: ws)).length = wd.length + 1 + (flW ws).length := by show (wd ++ 32 :: flW ws).length = _; simp; omega
    simp only [List.length_cons] at hx
    have hP' : P (if sB (BT i) k e = wd then 300 + x1 else wcF (sB (BT i) k e) ws (x1 + 1)) i l := hP
    have h0 := lp_word (w := w) (d := d) (i := i) (l := l) (P := P) hd hke he h5 h6 (wd := wd) (o := o) (by omega) (fun q hq => ?_) ?_ (x1 := x1) (by omega) (fun c => by rw [if_pos c] at hP'; exact hP') (fun c => ?_) wd.length 0 (by omega) 0 (Or.inl ⟨⟨Nat.zero_le _, fun j hj => by omega⟩, rfl⟩)
    · exact h0
    · rw [hh q (by omega)]
      refine ⟨getD_app1 hq, hs wd (List.mem_cons_self ..) q hq⟩
    · rw [hh wd.length (by omega)]
      have := getD_app2 (a := wd) (b := 32 :: flW ws) (j := 0)
      exact this
    · rw [if_neg c] at hP'
      refine lp_words hd hke he h5 h6 ws (o + wd.length + 1) (x1 + 1) (by omega) (by omega) (fun j hj => ?_) (fun wd' hm => hs wd' (List.mem_cons_of_mem _ hm)) hP'
      have := hh (wd.length + 1 + j) (by omega)
      rw [show o + wd.length + 1 + j = o + (wd.length + 1 + j) by omega, this]
      have e2 := getD_app2 (a := wd) (b := 32 :: flW ws) (j := 1 + j)
      rw [show wd.length + 1 + j = wd.length + (1 + j) by omega]
      refine e2.trans ?_
      rw [show 1 + j = j + 1 by omega]
      rfl
theorem sp_X7_wordThere (hd : 5 ≤ d) {P : Int → IM → LM → Prop} {k e : Nat} (hke : k ≤ e) (he : e ≤ 400) (h5 : i 37 5 = (k : Int)) (h6 : i 37 6 = (e : Int)) (hP : P (wcF (sB (BT i) k e) cWs 0) i l) : cI w d X_X7_wordThere [vR (some 37)] i l P := by
  obtain ⟨d, rfl, hd1⟩ := d_pos hd
  refine e_X7_wordThere (s_X7_wordThere ?_)
  have hh : ∀ j : Fin 93, hW ((j.val : Nat) : Int) = (flW cWs).getD j.val 0 := by decide +kernel
  have h32 : ∀ wd ∈ cWs, ∀ q, q < wd.length → ¬ wd.getD q 0 = 32 := by decide +kernel
  have hl : (flW cWs).length = 93 := by decide +kernel
  refine lp_words hd1 hke he h5 h6 cWs 0 0 (by decide) (by rw [hl]) (fun j hj => ?_) h32 hP
  rw [hl] at hj
  rw [show 0 + j = j by omega]
  exact hh ⟨j, hj⟩
end
