/-! of, counts, where, costs, in the model -/
section
variable {w : Wd} {d : Nat} {l : LM} {i : IM}
def mOf (i : IM) (t what : Int) : Int := if (0 ≤ t ∧ t < i 101 307) ∧ (0 ≤ what ∧ what ≤ 8) then (if 8 ≤ what then mShows i t (i 101 (8 * t + 1)) (i 101 313) else i 101 (8 * t + what)) else -1
theorem sp_X12_of (hd : 3 ≤ d) {P : Int → IM → LM → Prop} (hk : kOK (i 101)) {t what : Int} (h0 : rg t) (h1 : rg what) (hP : P (mOf i t what) i l) : cI w d X_X12_of [vR (some 99), vI t, vI what] i l P := by
  obtain ⟨d, rfl, hd1⟩ := d_pos hd
  have h307 := hk.1.1
  unfold mOf at hP
  refine e_X12_of (g_rg (fun hrg => s_X12_of _ _ hd1 ⟨h0, ⟨by omega, by omega⟩, fun _ => h1, fun q => ⟨h1, fun _ => ⟨by omega, by omega⟩, fun _ => ⟨by omega, by omega⟩, fun _ => ⟨by omega, by omega⟩, ?_, ?_⟩, fun q => ?_⟩))
  · split
    · have ht := hk.2.1 t (by omega) (by omega)
      have := mShows_lt (i := i) (t := t) (m := i 101 313) ht.2.1 ht.2.2.2.2.2.2.2
      exact ⟨by omega, by omega⟩
    · exact hrg _ _
  · rw [if_pos q] at hP
    exact hP
  · rw [if_neg q] at hP
    exact hP
def mCounts (i : IM) (c : Int) : Int := if 0 ≤ c ∧ c ≤ 7 then mLow i c else -1
theorem sp_X12_counts (hd : 3 ≤ d) {P : Int → IM → LM → Prop} (hk : kOK (i 101)) {c : Int} (h0 : rg c) (hP : P (mCounts i c) i l) : cI w d X_X12_counts [vR (some 99), vI c] i l P := by
  obtain ⟨d, rfl, hd1⟩ := d_pos hd
  refine e_X12_counts (s_X12_counts _ hd1 ⟨h0, fun q => ⟨by omega, by omega⟩, fun _ => kOK_same hk, ?_, hP⟩)
  split
  · rename_i q
    obtain ⟨n, hn, hn8⟩ := mLow_nat (i := i) c ⟨by omega, by omega⟩
    rw [hn]
    exact ⟨by omega, by omega⟩
  · exact rg_lit rfl
def mWhereF (i : IM) (p m : Int) : Int := if 0 ≤ p ∧ p < i 101 309 then (if 0 ≤ m ∧ m ≤ 119 then mWhere i p m else -1) else -1
theorem sp_X12_where (hd : 3 ≤ d) {P : Int → IM → LM → Prop} (hk : kOK (i 101)) {p m : Int} (h0 : rg p) (h1 : rg m) (hP : P (mWhereF i p m) i l) : cI w d X_X12_where [vR (some 99), vI p, vI m] i l P := by
  obtain ⟨d, rfl, hd1⟩ := d_pos hd
  have h309 := hk.1.2.2.1
  have h310 := hk.1.2.2.2.1
  have hw := mWhere_lt hk p m
  refine e_X12_where (s_X12_where _ _ hd1 ⟨h0, ⟨by omega, by omega⟩, fun _ => h1, fun _ _ => h310, ?_, hP⟩)
  split
  · split
    · exact ⟨by omega, by omega⟩
    · exact rg_lit rfl
  · exact rg_lit rfl
def mCosts (i : IM) (cs : List Cla) (t c : Int) : Int := if (0 ≤ t ∧ t < i 101 307) ∧ (0 ≤ c ∧ c ≤ 7) then (if c = i 101 (8 * t + 1) then 0 else fPrice cs t c (i 101 (8 * t + 0)) (i 101 (8 * t + 3))) else -1
theorem sp_X12_costs (hd : 74 ≤ d) {P : Int → IM → LM → Prop} {A : Nat → List Cla} (hk : kOK (i 101)) (hf : forceM (i 101) A) (hc : hasDep (inForce (i 101) A)) {t c : Int} (h0 : rg t) (h1 : rg c) (hP : ∀ i', scrM i i' → P (mCosts i (inForce (i 101) A) t c) i' l) : cI w d X_X12_costs [vR (some 99), vI t, vI c] i l P := by
  obtain ⟨d, rfl, hd1⟩ := d_pos hd
  have h307 := hk.1.1
  unfold mCosts at hP
  refine e_X12_costs (s_X12_costs _ _ (by omega) ⟨h0, ⟨by omega, by omega⟩, fun _ => h1, fun q => ⟨⟨by omega, by omega⟩, h1, fun q2 => ?_, fun q2 => ?_⟩, fun q => ?_⟩)
  · have := hP i (scrM_rf i)
    rw [if_pos q, if_pos q2] at this
    exact this
  · rw [if_pos q, if_neg q2] at hP
    have ht := hk.2.1 t (by omega) (by omega)
    exact sp_X12_priceOf (by omega) hf hc ⟨by omega, by omega⟩ ⟨by omega, by omega⟩ ⟨by omega, by omega⟩ hP
  · have := hP i (scrM_rf i)
    rw [if_neg q] at this
    exact this
end
/-! the clauses that the grammar reads hang on nine words alone -/
theorem pClause_dep {t : Tk} (ht : tkOK t) {k lv u : Nat} {q : Nat × Nat × Cla} (hk : k ≤ t.2.2) (hlv : lv ≤ 50) (hu : u ≤ k) (h : pClause t k lv u = .inr q) : (∃ m, dep m q.2.2.2.2.2.2.1 ∧ dep m q.2.2.2.2.2.2.2) ∧ k < q.1 ∧ q.1 ≤ t.2.2 ∧ q.2.1 ≤ 50 ∧ u + claLen q.2.2 ≤ q.1 ∧ q.2.2.1 < 4 := by
  unfold pClause at h
  cases hh : pHead t k lv u with
  | inl z => rw [hh] at h; cases h
  | inr r =>
    rw [hh] at h
    simp only at h
    have hr : dep r.2.2.1 r.2.2.2.2 ∧ k < r.1 ∧ r.1 ≤ t.2.2 ∧ r.2.1 ≤ 50 ∧ u + r.2.2.2.1.length ≤ r.1 ∧ (t.1 k - 1).toNat < 4 := by
      unfold pHead at hh
      split at hh
      · have hk1 := tk_lt ht hk (by omega)
        obtain ⟨⟨a1, a2⟩, ⟨a3, a4⟩, a5, a6, a7, a8⟩ := sg_sum ht 8 (k + 1) lv u r hk1 hlv (by omega) hh
        exact ⟨a7, by omega, a2, a4, by omega, by omega⟩
      · split at hh
        · have hk1 := tk_lt ht hk (by omega)
          cases hh
          exact ⟨fun _ _ _ => rfl, Nat.lt_succ_self _, hk1, hlv, by show u + 0 ≤ k + 1; omega, by omega⟩
        · cases hh
    split at h
    · have hr5 := tk_lt ht hr.2.2.1 (by omega)
      cases hs : pTest t 8 (r.1 + 1) r.2.1 (u + r.2.2.2.1.length) with
      | inl z => rw [hs] at h; cases h
      | inr s =>
        rw [hs] at h
        cases h
        obtain ⟨⟨⟨a1, a2⟩, ⟨a3, a4⟩, a5, a6, a7, a8⟩, -⟩ := sg_test ht 8 (r.1 + 1) r.2.1 (u + r.2.2.2.1.length) s hr5 hr.2.2.2.1 (by omega) hs
        refine ⟨⟨r.2.2.1 ||| s.2.2.1, dep_or hr.1, dep_or2 a7⟩, by show k < s.1; omega, a2, a4, ?_, hr.2.2.2.2.2⟩
        show u + (r.2.2.2.1.length + s.2.2.2.1.length) ≤ s.1
        omega
    · cases h
      refine ⟨⟨r.2.2.1, hr.1, fun _ _ _ => rfl⟩, hr.2.1, hr.2.2.1, hr.2.2.2.1, ?_, hr.2.2.2.2.2⟩
      show u + (r.2.2.2.1.length + 0) ≤ r.1
      omega
theorem pLaw_dep {t : Tk} (ht : tkOK t) : ∀ n k lv u cs, k ≤ t.2.2 → lv ≤ 50 → u ≤ k → pLaw t n k lv u = .inr cs → hasDep cs ∧ ∀ c ∈ cs, c.1 < 4 := by
  intro n
  induction n with
  | zero => intro k lv u cs _ _ _ h; cases h
  | succ n ih =>
    intro k lv u cs hk hlv hu h
    unfold pLaw at h
    cases hc : pClause t k lv u with
    | inl q => rw [hc] at h; cases h
    | inr q =>
      rw [hc] at h
      simp only at h
      obtain ⟨g1, g2, g3, g4, g5, g6⟩ := pClause_dep ht hk hlv hu hc
      split at h
      · cases h
        constructor
        · intro c hcm
          rcases List.mem_cons.mp hcm with e | e
          · rw [e]; exact g1
          · cases e
        · intro c hcm
          rcases List.mem_cons.mp hcm with e | e
          · rw [e]; exact g6
          · cases e
      · split at h
        · rename_i hne h159
          have hq1 := tk_lt ht g3 (by omega)
          cases hl : pLaw t n (q.1 + 1) q.2.1 (u + claLen q.2.2) with
          | inl z => rw [hl] at h; cases h
          | inr cs' =>
            rw [hl] at h
            cases h
            obtain ⟨i1, i2⟩ := ih (q.1 + 1) q.2.1 (u + claLen q.2.2) cs' hq1 g4 (by omega) hl
            constructor
            · intro c hcm
              rcases List.mem_cons.mp hcm with e | e
              · rw [e]; exact g1
              · exact i1 c e
            · intro c hcm
              rcases List.mem_cons.mp hcm with e | e
              · rw [e]; exact g6
              · exact i2 c e
        · cases h
theorem forceM_dep {K : Int → Int} {A : Nat → List Cla} (h : forceM K A) : hasDep (inForce K A) := by
  unfold inForce
  rcases h with h | ⟨h0, h6, ht, hT, hw⟩
  · rw [if_pos h]
    intro c hc
    cases hc
  · rw [if_neg (by omega)]
    exact (pLaw_dep ht 12 0 0 0 _ (Nat.zero_le _) (by omega) (Nat.le_refl _) hw).1
