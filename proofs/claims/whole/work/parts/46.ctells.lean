/-! what a LAW tells, in the class -/
def gdC (u : Nat) (c : List Int) (f : Mean) : Prop := (c = [] ∧ f = fun _ => some 1) ∨ ∃ n, n ≤ 50 ∧ CG u c f n
/-- nothing but what was told last, and the pile, has changed -/
def tsc (i i' : IM) : Prop := ∀ (a : Nat) (k : Int), (a ≠ 41 ∨ k ≠ 3) → i' a k = i a k
def psc (l l' : LM) : Prop := ∀ a : Nat, a ≠ 43 → l' a = l a
theorem tsc_rf (i : IM) : tsc i i := fun _ _ _ => rfl
theorem tsc_tr {i j k : IM} (h1 : tsc i j) (h2 : tsc j k) : tsc i k := fun a x h => (h2 a x h).trans (h1 a x h)
theorem tsc_c {i i' : IM} (h : tsc i i') {a : Nat} (ha : a ≠ 41) : i' a = i a := funext fun k => h a k (Or.inl ha)
theorem tsc_u (i : IM) (v : Int) : tsc i (u2 i 41 3 v) := fun a k h => if_neg (fun q => by omega)
theorem psc_rf (l : LM) : psc l l := fun _ _ => rfl
theorem psc_tr {l m n : LM} (h1 : psc l m) (h2 : psc m n) : psc l n := fun a h => (h2 a h).trans (h1 a h)
theorem sp_X0_runs {w : Wd} {d : Nat} {P : Int → IM → LM → Prop} {i : IM} {l : LM} {cd u : Nat} {c : List Int} {f : Mean} (hd : 1 ≤ d) (hcd : CodeAt w cd) (hg : gdC u c f) (hc : atC i cd u c) (hlen : u + c.length ≤ w.2.2.1 cd) (he : envOK i) (k0 : ∀ l', f (envOf i) = none → psc l l' → P 0 i l') (k1 : ∀ v l', f (envOf i) = some v → bd v → psc l l' → P 1 (u2 i 41 3 v) l') : cI w d X_X0_runs [vR (some 41), vR (some cd), vI (u : Int), vI ((u + c.length : Nat) : Int)] i l P := by
  obtain ⟨d, rfl, hd1⟩ := d_pos hd
  have h31 := hcd.2
  refine e_X0_runs (s_X0_runs _ _ hcd ?_)
  rcases hg with ⟨rfl, rfl⟩ | ⟨n, hn, hg⟩
  · have e0 : u + ([] : List Int).length = u := rfl
    rw [e0] at hlen ⊢
    refine s_X0_runs_6 _ _ _ hcd ⟨⟨by omega, by omega⟩, ⟨by omega, by omega⟩, fun q => absurd (Int.le_refl _) q, fun _ => ?_, fun q => absurd (Or.inl (Int.le_refl _)) q⟩
    refine s_X0_runs_440 _ hcd ⟨rg_lit rfl, fun q => absurd (by decide) q, ?_⟩
    exact k1 1 l rfl ⟨by omega, by omega⟩ (psc_rf l)
  · refine hg.2 w d cd P i l (u + c.length) 0 hcd hlen hc (Nat.le_refl _) (by omega) he (fun l' e hp => k0 l' e hp.1) (fun v l' e hv hp hl => ?_)
    refine s_X0_runs_6 _ _ _ hcd ⟨⟨by omega, by omega⟩, ⟨by omega, by omega⟩, fun q => absurd (Int.le_refl _) q, fun _ => ?_, fun q => absurd (Or.inl (Int.le_refl _)) q⟩
    refine s_X0_runs_440 _ hcd ⟨rg_lit rfl, fun _ => by decide, ?_⟩
    have e1 : (if ((0 + 1 : Nat) : Int) ≤ 0 then (1 : Int) else l2i (l' 43 (((0 + 1 : Nat) : Int) - 1))) = v := by
      rw [if_neg (by decide)]
      show l2i (l' 43 ((0 : Nat) : Int)) = v
      rw [hl]
      unfold bd at hv
      exact l2i_L64 ⟨by omega, by omega⟩
    rw [e1]
    exact k1 v l' e hv hp.1
/-- the j-th CLAUSE of a LAW's rows, its code from u on -/
def claC (w : Wd) (i : IM) (a j u : Nat) (c : Cla) : Prop := (i (a + 2) (4 * (j : Int)) = (c.1 : Int) ∧ i (a + 2) (4 * (j : Int) + 1) = (u : Int) ∧ i (a + 2) (4 * (j : Int) + 2) = ((u + c.2.2.1.length : Nat) : Int) ∧ i (a + 2) (4 * (j : Int) + 3) = ((u + c.2.2.1.length + c.2.2.2.1.length : Nat) : Int)) ∧ atC i (a + 1) u (c.2.2.1 ++ c.2.2.2.1) ∧ u + c.2.2.1.length + c.2.2.2.1.length ≤ w.2.2.1 (a + 1) ∧ gdC u c.2.2.1 c.2.2.2.2.1 ∧ gdC (u + c.2.2.1.length) c.2.2.2.1 c.2.2.2.2.2
def lawCs (w : Wd) (i : IM) (a : Nat) : Nat → Nat → List Cla → Prop
  | _, _, [] => True
  | j, u, c :: cs => claC w i a j u c ∧ lawCs w i a (j + 1) (u + claLen c) cs
/-- a LAW in memory: its rows, and the words of each head -/
def lawC (w : Wd) (i : IM) (a : Nat) (cs : List Cla) : Prop := LawAt w a ∧ w.2.2.1 (a + 2) = 4 * cs.length ∧ lawCs w i a 0 0 cs ∧ ∀ h : Nat, h < 4 → ((0 ≤ i (a + 3) (h : Int) ↔ ∃ c ∈ cs, c.1 = h) ∧ (0 ≤ i (a + 3) (h : Int) → ∃ m : Nat, i (a + 3) (h : Int) = (m : Int) ∧ m < 512 ∧ ∀ c ∈ cs, c.1 = h → dep m c.2.2.2.2.1 ∧ dep m c.2.2.2.2.2))
theorem lawCs_at {w : Wd} {i : IM} {a : Nat} : ∀ (cs : List Cla) (j u : Nat), lawCs w i a j u cs → ∀ (p : Nat) (c : Cla), cs[p]? = some c → ∃ u', claC w i a (j + p) u' c
  | [], _, _, _, p, c, h => by cases h
  | x :: cs, j, u, hl, p, c, h => by
    cases p with
    | zero => cases h; exact ⟨u, hl.1⟩
    | succ p =>
      obtain ⟨u', hu⟩ := lawCs_at cs (j + 1) (u + claLen x) hl.2 p c h
      exact ⟨u', by rw [show j + (p + 1) = j + 1 + p by omega]; exact hu⟩
theorem lawTells_none {e : LEnv} {h : Nat} : ∀ cs : List Cla, (∀ c ∈ cs, c.1 ≠ h) → lawTells e h cs = none
  | [], _ => rfl
  | c :: cs, hn => by
    unfold lawTells
    rw [lawTells_none cs (fun x hx => hn x (List.mem_cons_of_mem _ hx))]
    exact if_neg (hn c (List.mem_cons_self ..))
theorem claC_kept {w : Wd} {i i' : IM} {a j u : Nat} {c : Cla} (ha : 125 ≤ a) (h : tsc i i') (hc : claC w i a j u c) : claC w i' a j u c := by
  obtain ⟨h1, h2, h3⟩ := hc
  have e1 := tsc_c h (a := a + 1) (by omega)
  have e2 := tsc_c h (a := a + 2) (by omega)
  unfold claC
  rw [e2]
  refine ⟨h1, fun q hq => ?_, h3⟩
  rw [e1]
  exact h2 q hq
theorem lp_tells {w : Wd} {d : Nat} {P : Int → IM → LM → Prop} {i : IM} {l : LM} (hd : 1 ≤ d) {lw h : Nat} {cs : List Cla} (hL : lawC w i lw cs) (hh : h < 4) (he : envOK i) (k1 : ∀ v i' l', lawTells (envOf i) h cs = some v → tsc i i' → psc l l' → i' 41 3 = v → P 1 i' l') (k0 : ∀ i' l', lawTells (envOf i) h cs = none → tsc i i' → psc l l' → P 0 i' l') : ∀ n, n ≤ cs.length → lawTells (envOf i) h (cs.drop n) = none → ∀ i' l', tsc i i' → psc l l' → gI w d X_X0_tells P i' l' 33 [(0, vR (some 41)), (1, vI (h : Int)), (2, vR (some lw)), (3, vR (some (lw + 2))), (4, vI (4 * (n : Int) - 4))] [] := by
  obtain ⟨hA, hlen, hcs, hw⟩ := hL
  have ha := hA.1
  have h48 := hA.2.2.2.2.1
  intro n
  induction n with
  | zero =>
    intro _ hn i' l' hi hl
    exact s_X0_tells_33 _ _ hA ⟨⟨by omega, by omega⟩, fun q => absurd (by omega) q, fun q => absurd (by omega) q, fun _ => k0 i' l' hn hi hl, fun q => absurd (by omega) q.1, fun q => absurd (by omega) q.1⟩
  | succ n ih =>
    intro hnl hn i' l' hi hl
    have hnc : n < cs.length := by omega
    have hget : cs[n]? = some cs[n] := List.getElem?_eq_getElem hnc
    have hdrop : cs.drop n = cs[n] :: cs.drop (n + 1) := List.drop_eq_getElem_cons hnc
    obtain ⟨u, hc⟩ := lawCs_at cs 0 0 hcs n cs[n] hget
    rw [Nat.zero_add] at hc
    obtain ⟨⟨c1, c2, c3, c4⟩, c5, c6, c7, c8⟩ := claC_kept ha hi hc
    have hE' : envOf i' = envOf i := by
      unfold envOf
      rw [tsc_c hi (by decide)]
    have heO : envOK i' := fun x hx => by rw [tsc_c hi (by decide)]; exact he x hx
    have hdn : lawTells (envOf i) h (cs.drop n) = if cs[n].1 = h then claTells (envOf i) cs[n] else none := by
      rw [hdrop]
      unfold lawTells
      rw [hn]
    have hstep : ∀ i2 l2, tsc i i2 → psc l l2 → lawTells (envOf i) h (cs.drop n) = none → gI w d X_X0_tells P i2 l2 33 [(0, vR (some 41)), (1, vI (h : Int)), (2, vR (some lw)), (3, vR (some (lw + 2))), (4, vI (4 * ((n + 1 : Nat) : Int) - 4 + (-4)))] [] := by
      intro i2 l2 a1 a2 a3
      rw [show 4 * ((n + 1 : Nat) : Int) - 4 + (-4) = 4 * (n : Int) - 4 by omega]
      exact ih (by omega) a3 i2 l2 a1 a2
    have e4 : 4 * ((n + 1 : Nat) : Int) - 4 = 4 * (n : Int) := by omega
    rw [e4] at hstep ⊢
    refine s_X0_tells_33 _ _ hA ⟨⟨by omega, by omega⟩, fun _ => ⟨by omega, by omega⟩, fun _ => ⟨by omega, by omega⟩, fun q => by omega, fun q => ?_, fun q => ⟨⟨by omega, by omega⟩, ⟨by omega, by omega⟩, ?_⟩⟩
    · refine hstep i' l' hi hl ?_
      rw [hdn, if_neg]
      intro z
      apply q.2
      rw [c1, z]
    · have hch : cs[n].1 = h := by
        have := q.2
        rw [c1] at this
        omega
      rw [if_pos hch] at hdn
      rw [c3, c4]
      refine sp_X0_runs hd (codeAt hA) c8 (atC_r c5) c6 heO (fun l2 e1 hp => ⟨fun _ => ?_, fun z => absurd (Or.inl rfl) z⟩) (fun v l2 e1 hv hp => ⟨fun z => ?_, fun z => ⟨⟨by omega, by omega⟩, ⟨by omega, by omega⟩, ?_⟩⟩)
      · refine hstep i' l2 hi (psc_tr hl hp) (hdn.trans ?_)
        rw [hE'] at e1
        unfold claTells
        rw [e1]
        cases cs[n].2.2.2.2.1 (envOf i) <;> rfl
      · rw [u2_self] at z
        have hv0 : v = 0 := by
          rcases z with z | z
          · cases z
          · exact z
        refine hstep _ l2 (tsc_tr hi (tsc_u i' v)) (psc_tr hl hp) (hdn.trans ?_)
        rw [hE'] at e1
        unfold claTells
        rw [e1]
        cases cs[n].2.2.2.2.1 (envOf i) with
        | none => rfl
        | some a =>
          show (if v = 0 then none else some a) = none
          rw [if_pos hv0]
      · have hv0 : ¬ v = 0 := by
          intro e
          apply z
          rw [u2_self]
          exact Or.inr e
        rw [hE'] at e1
        have hi2 := tsc_tr hi (tsc_u i' v)
        obtain ⟨⟨d1, d2, d3, d4⟩, d5, d6, d7, d8⟩ := claC_kept ha (tsc_u i' v) (show claC w i' lw n u cs[n] from ⟨⟨c1, c2, c3, c4⟩, c5, c6, c7, c8⟩)
        have hE2 : envOf (u2 i' 41 3 v) = envOf i := by
          unfold envOf
          rw [tsc_c hi2 (by decide)]
        have heO2 : envOK (u2 i' 41 3 v) := fun x hx => by rw [tsc_c hi2 (by decide)]; exact he x hx
        rw [d2, d3]
        refine sp_X0_runs hd (codeAt hA) d7 (atC_l d5) (by omega) heO2 (fun l3 e2 hp2 => ⟨fun _ => ?_, fun z => absurd rfl z⟩) (fun x l3 e2 hx hp2 => ⟨fun z => absurd z (by decide), fun _ => ?_⟩)
        · refine hstep _ l3 hi2 (psc_tr (psc_tr hl hp) hp2) (hdn.trans ?_)
          rw [hE2] at e2
          unfold claTells
          rw [e2]
        · rw [hE2] at e2
          have hall : lawTells (envOf i) h (cs.drop n) = some x := by
            rw [hdn]
            unfold claTells
            rw [e1, e2]
            show (if v = 0 then none else some x) = some x
            rw [if_neg hv0]
          have hfull : ∀ m, m ≤ n → lawTells (envOf i) h (cs.drop m) = some x := by
            intro m hm
            obtain ⟨r, hr⟩ := Nat.exists_eq_add_of_le hm
            clear hm
            induction r generalizing m with
            | zero => rw [show m = n by omega]; exact hall
            | succ r ih2 =>
              have h2 := ih2 (m + 1) (by omega)
              have hmc : m < cs.length := by omega
              rw [List.drop_eq_getElem_cons hmc]
              unfold lawTells
              rw [h2]
          have := hfull 0 (Nat.zero_le _)
          rw [List.drop_zero] at this
          exact k1 x _ l3 this (tsc_tr hi2 (tsc_u _ x)) (psc_tr (psc_tr hl hp) hp2) (u2_self _ _ _ _)
/-- what the class holds of the LAW in FORCE -/
def forceC (w : Wd) (i : IM) (cs : List Cla) : Prop := (0 ≤ i 7 14 ∧ i 7 14 < i 7 12 → i 7 14 < 6) ∧ ((rul w i = none ∧ cs = []) ∨ ∃ lw, rul w i = some lw ∧ lawC w i lw cs)
theorem sp_X0_tells {w : Wd} {d : Nat} {P : Int → IM → LM → Prop} {i : IM} {l : LM} (hd : 2 ≤ d) {h : Nat} (hh : h < 4) {cs : List Cla} (hf : forceC w i cs) (he : envOK i) (k1 : ∀ v i' l', lawTells (envOf i) h cs = some v → tsc i i' → psc l l' → i' 41 3 = v → P 1 i' l') (k0 : ∀ i' l', lawTells (envOf i) h cs = none → tsc i i' → psc l l' → P 0 i' l') : cI w d X_X0_tells [vR (some 41), vI (h : Int)] i l P := by
  obtain ⟨d, rfl, hd1⟩ := d_pos hd
  refine e_X0_tells (s_X0_tells _ hd1 ⟨hf.1, fun hn => ?_, fun lw hs => ?_⟩)
  · rcases hf.2 with ⟨-, rfl⟩ | ⟨lw, h1, -⟩
    · exact k0 i l rfl (tsc_rf i) (psc_rf l)
    · rw [hn] at h1; cases h1
  · rcases hf.2 with ⟨h1, -⟩ | ⟨lw2, h1, hL⟩
    · rw [hs] at h1; cases h1
    · rw [hs] at h1
      cases h1
      refine ⟨hL.1, ⟨by omega, by omega⟩, fun _ => ?_, fun hneg => ?_⟩
      · have := lp_tells hd1 hL hh he k1 k0 cs.length (Nat.le_refl _) (by rw [List.drop_length]; rfl) i l (tsc_rf i) (psc_rf l)
        rw [hL.2.1, show (((4 * cs.length : Nat) : Int)) - 4 = 4 * (cs.length : Int) - 4 by omega]
        exact this
      · refine k0 i l (lawTells_none cs (fun c hc e => hneg ((hL.2.2.2 h hh).1.mpr ⟨c, hc, e⟩))) (tsc_rf i) (psc_rf l)
