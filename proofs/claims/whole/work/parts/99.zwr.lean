/-! CLAUSES one behind the other, in the class's rows -/
section
theorem pClause_ok {t : Tk} (ht : tkOK t) {k lv u : Nat} {q : Nat × Nat × Cla} (hk : k ≤ t.2.2) (hlv : lv ≤ 50) (hu : u ≤ k) (h : pClause t k lv u = .inr q) : q.2.2.1 < 4 ∧ (k < q.1 ∧ q.1 ≤ t.2.2) ∧ q.2.1 ≤ 50 ∧ u + claLen q.2.2 < q.1 ∧ (dep q.2.2.2.1 q.2.2.2.2.2.2.1 ∧ dep q.2.2.2.1 q.2.2.2.2.2.2.2) ∧ gdC u q.2.2.2.2.1 q.2.2.2.2.2.2.1 ∧ gdC (u + q.2.2.2.2.1.length) q.2.2.2.2.2.1 q.2.2.2.2.2.2.2 := by
  unfold pClause at h
  cases hh : pHead t k lv u with
  | inl z => rw [hh] at h; cases h
  | inr r =>
    rw [hh] at h
    simp only at h
    obtain ⟨p1, p2, p3, p4, p5, p6, p7, p8⟩ := pHead_ok ht hk hlv hu hh
    have hd1 : dep r.2.2.1 r.2.2.2.2 ∧ gdC u r.2.2.2.1 r.2.2.2.2 := by
      by_cases c : t.1 k = 1 ∨ t.1 k = 2
      · have hk1 := tk_lt ht hk (by omega)
        have g := sg_sum ht 8 (k + 1) lv u r hk1 hlv (by omega) (p7 c)
        exact ⟨g.2.2.2.2.1, Or.inr ⟨_, by have := g.2.1; omega, g.2.2.2.1⟩⟩
      · have e := p8 (by omega)
        subst e
        exact ⟨fun _ _ _ => rfl, Or.inl ⟨rfl, rfl⟩⟩
    split at h
    · next h5 =>
      have hr1 : r.1 < t.2.2 := tk_lt ht p3 (by omega)
      cases hs : pTest t 8 (r.1 + 1) r.2.1 (u + r.2.2.2.1.length) with
      | inl z => rw [hs] at h; cases h
      | inr s =>
        rw [hs] at h
        simp only at h
        cases h
        have g := (sg_test ht 8 (r.1 + 1) r.2.1 (u + r.2.2.2.1.length) s hr1 p4 (by omega) hs).1
        have g3 := g.2.2.1
        have g1 := g.1
        refine ⟨by show (t.1 k - 1).toNat < 4; omega, ⟨by show k < s.1; omega, g1.2⟩, g.2.1.2, ?_, ⟨dep_or hd1.1, dep_or2 g.2.2.2.2.1⟩, hd1.2, Or.inr ⟨_, by have := g.2.1; omega, g.2.2.2.1⟩⟩
        show u + (r.2.2.2.1.length + s.2.2.2.1.length) < s.1
        omega
    · cases h
      refine ⟨by show (t.1 k - 1).toNat < 4; omega, ⟨p2, p3⟩, p4, ?_, ⟨hd1.1, fun _ _ _ => rfl⟩, hd1.2, Or.inl ⟨rfl, rfl⟩⟩
      show u + (r.2.2.2.1.length + 0) < r.1
      omega
def claR (J : IM) (j u : Nat) (c : Cla) : Prop := (J 39 (4 * (j : Int)) = (c.1 : Int) ∧ J 39 (4 * (j : Int) + 1) = (u : Int) ∧ J 39 (4 * (j : Int) + 2) = ((u + c.2.2.1.length : Nat) : Int) ∧ J 39 (4 * (j : Int) + 3) = ((u + c.2.2.1.length + c.2.2.2.1.length : Nat) : Int)) ∧ atC J 38 u (c.2.2.1 ++ c.2.2.2.1) ∧ gdC u c.2.2.1 c.2.2.2.2.1 ∧ gdC (u + c.2.2.1.length) c.2.2.2.1 c.2.2.2.2.2
def rowCs (J : IM) : Nat → Nat → List Cla → Prop
  | _, _, [] => True
  | j, u, c :: cs => claR J j u c ∧ rowCs J (j + 1) (u + claLen c) cs
def totL : List Cla → Nat
  | [] => 0
  | c :: cs => claLen c + totL cs
theorem totL_app (a : List Cla) (c : Cla) : totL (a ++ [c]) = totL a + claLen c := by
  induction a with
  | nil => show claLen c + 0 = 0 + claLen c; omega
  | cons x a ih => show claLen x + totL (a ++ [c]) = claLen x + totL a + claLen c; omega
theorem rowCs_app {J J' : IM} {c : Cla} : ∀ (cs : List Cla) (j u : Nat), rowCs J j u cs → (∀ y : Int, y < ((u + totL cs : Nat) : Int) → J' 38 y = J 38 y) → (∀ y : Int, y < 4 * ((j + cs.length : Nat) : Int) → J' 39 y = J 39 y) → claR J' (j + cs.length) (u + totL cs) c → rowCs J' j u (cs ++ [c])
  | [], j, u, _, _, _, hc => ⟨hc, trivial⟩
  | x :: cs, j, u, h, h38, h39, hc => by
    have el : (x :: cs).length = cs.length + 1 := rfl
    have et : totL (x :: cs) = claLen x + totL cs := rfl
    rw [el] at h39 hc
    rw [et] at h38 hc
    have lx : claLen x = x.2.2.1.length + x.2.2.2.1.length := rfl
    refine ⟨⟨?_, fun q hq => ?_, h.1.2.2⟩, rowCs_app cs (j + 1) (u + claLen x) h.2 (fun y hy => h38 y (by omega)) (fun y hy => h39 y (by omega)) ?_⟩
    · rw [h39 _ (by omega), h39 _ (by omega), h39 _ (by omega), h39 _ (by omega)]
      exact h.1.1
    · rw [List.length_append] at hq
      rw [h38 _ (by omega)]
      exact h.1.2.1 q (by rw [List.length_append]; exact hq)
    · rw [show j + 1 + cs.length = j + (cs.length + 1) by omega, show u + claLen x + totL cs = u + (claLen x + totL cs) by omega]
      exact hc
def LwR (J : IM) (cs : List Cla) : Prop := rowCs J 0 0 cs ∧ ∀ h : Nat, h < 4 → (-1 ≤ J 40 (h : Int) ∧ J 40 (h : Int) < 512) ∧ (0 ≤ J 40 (h : Int) ↔ ∃ c ∈ cs, c.1 = h) ∧ ∀ c ∈ cs, c.1 = h → dep (J 40 (h : Int)).toNat c.2.2.2.2.1 ∧ dep (J 40 (h : Int)).toNat c.2.2.2.2.2
theorem LwR_app {J J' : IM} {cs : List Cla} {c : Cla} (h : LwR J cs) (hc : c.1 < 4) (hw : c.2.1 < 512) (hd : dep c.2.1 c.2.2.2.2.1 ∧ dep c.2.1 c.2.2.2.2.2) (hg : gdC (totL cs) c.2.2.1 c.2.2.2.2.1 ∧ gdC (totL cs + c.2.2.1.length) c.2.2.2.1 c.2.2.2.2.2) (hr : clR cs.length (totL cs) c J J') : LwR J' (cs ++ [c]) := by
  obtain ⟨r1, r2, r3, r4, r5⟩ := hr
  refine ⟨rowCs_app cs 0 0 h.1 (fun y hy => r4 y (by omega)) (fun y hy => r5 y (by omega)) ?_, fun q hq => ?_⟩
  · rw [Nat.zero_add, Nat.zero_add]
    exact ⟨r1, r2, hg⟩
  · obtain ⟨h1, h2, h3⟩ := h.2 q hq
    rw [r3]
    by_cases e : (q : Int) = (c.1 : Int)
    · have eq : q = c.1 := by omega
      subst eq
      rw [if_pos rfl]
      have hm : (max (J 40 (c.1 : Int)) 0).toNat < 512 := by omega
      have ho := or512 hm hw
      refine ⟨⟨by omega, by omega⟩, ⟨fun _ => ⟨c, List.mem_append_right _ (List.mem_singleton.mpr rfl), rfl⟩, fun _ => by omega⟩, fun x hx ex => ?_⟩
      rw [Int.toNat_natCast]
      rcases List.mem_append.mp hx with hx | hx
      · have h0 : 0 ≤ J 40 (c.1 : Int) := h2.mpr ⟨x, hx, ex⟩
        have em : (max (J 40 (c.1 : Int)) 0).toNat = (J 40 (c.1 : Int)).toNat := by omega
        rw [em]
        have := h3 x hx ex
        exact ⟨dep_or this.1, dep_or this.2⟩
      · have ex2 := List.mem_singleton.mp hx
        subst ex2
        exact ⟨dep_or2 hd.1, dep_or2 hd.2⟩
    · rw [if_neg e]
      refine ⟨h1, ⟨fun z => ?_, ?_⟩, fun x hx ex => ?_⟩
      · obtain ⟨x, hx, ex⟩ := h2.mp z
        exact ⟨x, List.mem_append_left _ hx, ex⟩
      · rintro ⟨x, hx, ex⟩
        rcases List.mem_append.mp hx with hx | hx
        · exact h2.mpr ⟨x, hx, ex⟩
        · have ex2 := List.mem_singleton.mp hx
          subst ex2
          omega
      · rcases List.mem_append.mp hx with hx | hx
        · exact h3 x hx ex
        · have ex2 := List.mem_singleton.mp hx
          subst ex2
          omega
/-- what was read lies in a LAW's rows -/
theorem lawCs_of {w : Wd} {J i' : IM} {a U m : Nat} (h38 : ∀ k : Int, 0 ≤ k → k < U → i' (a + 1) k = J 38 k) (h39 : ∀ k : Int, 0 ≤ k → k < 4 * (m : Int) → i' (a + 2) k = J 39 k) (hU : w.2.2.1 (a + 1) = U) : ∀ (cs : List Cla) (j u : Nat), rowCs J j u cs → j + cs.length ≤ m → u + totL cs ≤ U → lawCs w i' a j u cs
  | [], _, _, _, _, _ => trivial
  | c :: cs, j, u, h, hj, hu => by
    have el : (c :: cs).length = cs.length + 1 := rfl
    have et : totL (c :: cs) = claLen c + totL cs := rfl
    have lx : claLen c = c.2.2.1.length + c.2.2.2.1.length := rfl
    refine ⟨⟨?_, fun q hq => ?_, by rw [hU]; omega, h.1.2.2.1, h.1.2.2.2⟩, lawCs_of h38 h39 hU cs (j + 1) (u + claLen c) h.2 (by omega) (by omega)⟩
    · rw [h39 _ (by omega) (by omega), h39 _ (by omega) (by omega), h39 _ (by omega) (by omega), h39 _ (by omega) (by omega)]
      exact h.1.1
    · rw [List.length_append] at hq
      rw [h38 _ (by omega) (by omega)]
      exact h.1.2.1 q (by rw [List.length_append]; exact hq)
theorem lawC_of {w : Wd} {J i' : IM} {cs : List Cla} {U : Nat} (hN : 125 ≤ w.2.1) (hN4 : (w.2.1 - 125) % 4 = 0) (hU : totL cs = U) (hU4 : U ≤ 400) (h12 : cs.length ≤ 12) (hR : LwR J cs) (h38 : ∀ k : Int, 0 ≤ k → k < U → i' (w.2.1 + 1) k = J 38 k) (h39 : ∀ k : Int, 0 ≤ k → k < 4 * (cs.length : Int) → i' (w.2.1 + 2) k = J 39 k) (h40 : ∀ k : Int, 0 ≤ k → k < 4 → i' (w.2.1 + 3) k = J 40 k) : lawC (wL w U (4 * cs.length)) i' w.2.1 cs := by
  have l1 : (wL w U (4 * cs.length)).2.2.1 (w.2.1 + 1) = U := if_pos rfl
  have l2 : (wL w U (4 * cs.length)).2.2.1 (w.2.1 + 2) = 4 * cs.length := by
    show (if w.2.1 + 2 = w.2.1 + 1 then U else if w.2.1 + 2 = w.2.1 + 2 then 4 * cs.length else _) = _
    rw [if_neg (by omega), if_pos rfl]
  have l3 : (wL w U (4 * cs.length)).2.2.1 (w.2.1 + 3) = 4 := by
    show (if w.2.1 + 3 = w.2.1 + 1 then U else if w.2.1 + 3 = w.2.1 + 2 then 4 * cs.length else if w.2.1 + 3 = w.2.1 + 3 then 4 else _) = _
    rw [if_neg (by omega), if_neg (by omega), if_pos rfl]
  refine ⟨⟨hN, by show w.2.1 + 3 < w.2.1 + 4; omega, hN4, by rw [l1]; exact hU4, by rw [l2]; omega, l3⟩, l2, lawCs_of (U := U) (m := cs.length) h38 h39 l1 cs 0 0 hR.1 (by omega) (by omega), fun h hh => ?_⟩
  obtain ⟨q1, q2, q3⟩ := hR.2 h hh
  rw [h40 _ (by omega) (by omega)]
  exact ⟨q2, fun z => ⟨(J 40 (h : Int)).toNat, by omega, by omega, q3⟩⟩
end
