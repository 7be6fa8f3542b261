/-! asking a LAW, in the class -/
/-- the class's asked words, and what was told last, may change -/
def cscr (i i' : IM) : Prop := ∀ (a : Nat) (k : Int), a ≠ 42 → (a ≠ 41 ∨ k ≠ 3) → i' a k = i a k
theorem cscr_rf (i : IM) : cscr i i := fun _ _ _ _ => rfl
theorem cscr_tr {i j k : IM} (h1 : cscr i j) (h2 : cscr j k) : cscr i k := fun a x h h' => (h2 a x h h').trans (h1 a x h h')
theorem cscr_of {i i' : IM} (h : tsc i i') : cscr i i' := fun a k _ h' => h a k h'
theorem cscr_c {i i' : IM} (h : cscr i i') {a : Nat} (ha : a ≠ 42) (hb : a ≠ 41) : i' a = i a := funext fun k => h a k ha (Or.inl hb)
theorem cscr_u {i : IM} {k v : Int} : cscr i (u2 i 42 k v) := fun a x h _ => if_neg (fun q => h q.1)
theorem cscr_fill {i : IM} {n v : Int} : cscr i (fillA i 42 n v) := fun a x h _ => if_neg (fun q => h q.1)
theorem lawC_kept {w : Wd} {i i' : IM} {a : Nat} {cs : List Cla} (h : cscr i i') (hL : lawC w i a cs) : lawC w i' a cs := by
  obtain ⟨h1, h2, h3, h4⟩ := hL
  have ha := h1.1
  have e1 := cscr_c h (a := a + 1) (by omega) (by omega)
  have e2 := cscr_c h (a := a + 2) (by omega) (by omega)
  have e3 := cscr_c h (a := a + 3) (by omega) (by omega)
  refine ⟨h1, h2, ?_, fun n hn => by rw [e3]; exact h4 n hn⟩
  have key : ∀ (l : List Cla) (j u : Nat), lawCs w i a j u l → lawCs w i' a j u l := by
    intro l
    induction l with
    | nil => intro j u _; trivial
    | cons c l ih =>
      intro j u hl
      refine ⟨?_, ih _ _ hl.2⟩
      obtain ⟨g1, g2, g3⟩ := hl.1
      unfold claC
      rw [e2]
      refine ⟨g1, fun q hq => ?_, g3⟩
      rw [e1]
      exact g2 q hq
  exact key cs 0 0 h3
theorem forceC_kept {w : Wd} {i i' : IM} {cs : List Cla} (h : cscr i i') (hf : forceC w i cs) : forceC w i' cs := by
  have e7 := cscr_c h (a := 7) (by decide) (by decide)
  have er : rul w i' = rul w i := by unfold rul; rw [e7]
  refine ⟨by rw [e7]; exact hf.1, ?_⟩
  rw [er]
  rcases hf.2 with h1 | ⟨lw, h1, h2⟩
  · exact Or.inl h1
  · exact Or.inr ⟨lw, h1, lawC_kept h h2⟩
abbrev askC (i : IM) (p0 p1 p2 : Int) : IM := u2 (u2 (u2 (fillA i 42 9 0) 42 0 p0) 42 5 p1) 42 6 p2
theorem askC_scr (i : IM) (p0 p1 p2 : Int) : cscr i (askC i p0 p1 p2) := cscr_tr (cscr_tr (cscr_tr cscr_fill cscr_u) cscr_u) cscr_u
theorem clampMM {lo hi v : Int} (h : lo ≤ hi) : max lo (min hi v) = clampI lo hi v := by
  unfold clampI
  split
  · omega
  · split <;> omega
theorem lawC_dep {w : Wd} {i : IM} {a : Nat} {cs : List Cla} (hL : lawC w i a cs) (h4 : ∀ c ∈ cs, c.1 < 4) : hasDep cs := by
  intro c hc
  obtain ⟨q1, q2⟩ := hL.2.2.2 c.1 (h4 c hc)
  obtain ⟨m, -, -, h3⟩ := q2 (q1.mpr ⟨c, hc, rfl⟩)
  exact ⟨m, h3 c hc rfl⟩
section
variable {w : Wd} {d : Nat} {i : IM} {l : LM}
theorem sp_X0_ask (hd : 2 ≤ d) {P : IM → LM → Prop} {p0 p1 p2 : Int} (h0 : rg p0) (h1 : rg p1) (h2 : rg p2) (hP : P (askC i p0 p1 p2) l) : cVd w d X_X0_ask [vR (some 41), vI p0, vI p1, vI p2] i l P := by
  obtain ⟨d, rfl, hd1⟩ := d_pos hd
  exact e_X0_ask (s_X0_ask _ _ _ hd1 ⟨h0, h1, h2, hP⟩)
theorem envOK_of {e : LEnv} (h : eq9 (envOf i) e) (hb : ∀ x, x < 9 → bd (e x)) : envOK i := by
  intro x hx
  show bd (envOf i x)
  rw [h x hx]
  exact hb x hx
theorem mkEnv_bd {p0 p1 p2 p3 p4 p5 p6 p7 p8 : Int} (h0 : bd p0) (h1 : bd p1) (h2 : bd p2) (h3 : bd p3) (h4 : bd p4) (h5 : bd p5) (h6 : bd p6) (h7 : bd p7) (h8 : bd p8) : ∀ x, x < 9 → bd (mkEnv p0 p1 p2 p3 p4 p5 p6 p7 p8 x) := by
  intro x hx
  rcases lt9 hx with h | h | h | h | h | h | h | h | h <;> subst h <;> assumption
theorem askC_env (i : IM) (p0 p1 p2 : Int) : eq9 (envOf (askC i p0 p1 p2)) (mkEnv p0 0 0 0 0 p1 p2 0 0) := by
  intro x hx
  rcases lt9 hx with h | h | h | h | h | h | h | h | h <;> subst h <;> simp [envOf, u2, fillA, mkEnv]
theorem sp_X0_limitOf (hd : 4 ≤ d) {P : Int → IM → LM → Prop} {cs : List Cla} (hf : forceC w i cs) (hc : hasDep cs) {p0 p1 p2 : Int} (h0 : bd p0) (h1 : bd p1) (h2 : bd p2) (hP : ∀ i' l', cscr i i' → psc l l' → P (fLimit cs p0 p1 p2) i' l') : cI w d X_X0_limitOf [vR (some 41), vI p0, vI p1, vI p2] i l P := by
  obtain ⟨d, rfl, hd1⟩ := d_pos hd
  have hs := askC_scr i p0 p1 p2
  have he := askC_env i p0 p1 p2
  have hE := lawTells_eq9 he (n := 0) hc
  refine e_X0_limitOf (s_X0_limitOf _ _ _ (by omega) (sp_X0_ask (by omega) (bd_rg h0) (bd_rg h1) (bd_rg h2) ?_))
  refine sp_X0_tells (by omega) (h := 0) (by omega) (forceC_kept hs hf) (envOK_of he (mkEnv_bd h0 bd0 bd0 bd0 bd0 h1 h2 bd0 bd0)) (fun v i' l' hv ht hp h3 => ?_) (fun i' l' hv ht hp => ?_)
  · have e1 : fLimit cs p0 p1 p2 = max 0 (min 8 (i' 41 3)) := by
      rw [clampMM (by omega), h3]
      unfold fLimit
      rw [← hE, hv]
    rw [if_neg (by decide)]
    have := hP i' l' (cscr_tr hs (cscr_of ht)) hp
    rw [e1] at this
    exact ⟨⟨by omega, by omega⟩, this⟩
  · have e1 : fLimit cs p0 p1 p2 = 3 := by
      unfold fLimit
      rw [← hE, hv]
    rw [if_pos rfl]
    have := hP i' l' (cscr_tr hs (cscr_of ht)) hp
    rw [e1] at this
    exact ⟨rg_lit rfl, this⟩
theorem askP_env (i : IM) (t c s : Int) : eq9 (envOf (u2 (u2 (u2 (askC i 0 0 0) 42 1 t) 42 4 s) 42 3 c)) (mkEnv 0 t 0 c s 0 0 0 0) := by
  intro x hx
  rcases lt9 hx with h | h | h | h | h | h | h | h | h <;> subst h <;> simp [envOf, u2, fillA, mkEnv]
theorem sp_X0_priceOf (hd : 4 ≤ d) {P : Int → IM → LM → Prop} {cs : List Cla} (hf : forceC w i cs) (hc : hasDep cs) {p0 p1 : Int} (h0 : 0 ≤ p0 ∧ p0 < 10) (h1 : bd p1) (hs1 : bd (i 8 (p0 * 8 + 0))) (hP : ∀ i' l', cscr i i' → psc l l' → P (if i 8 (p0 * 8 + 1) = p1 then 0 else fPrice cs p0 p1 (i 8 (p0 * 8 + 0)) (i 8 (p0 * 8 + 3))) i' l') : cI w d X_X0_priceOf [vR (some 41), vI p0, vI p1] i l P := by
  obtain ⟨d, rfl, hd1⟩ := d_pos hd
  have b0 : bd p0 := ⟨by omega, by omega⟩
  refine e_X0_priceOf (g_rg (fun hrg => s_X0_priceOf _ _ (by omega) ⟨⟨by omega, by omega⟩, bd_rg h1, fun q => ?_, fun q => ?_⟩))
  · have := hP i l (cscr_rf i) (psc_rf l)
    rw [if_pos q] at this
    exact this
  · rw [if_neg q] at hP
    have hs := askC_scr i 0 0 0
    refine sp_X0_ask (by omega) (rg_lit rfl) (rg_lit rfl) (rg_lit rfl) ⟨bd_rg b0, ⟨by omega, by omega⟩, bd_rg h1, ?_⟩
    have e8 : u2 (askC i 0 0 0) 42 1 p0 8 (p0 * 8 + 0) = i 8 (p0 * 8 + 0) := by
      rw [u2_other _ _ _ (by decide), cscr_c hs (by decide) (by decide)]
    rw [e8]
    have hs2 : cscr i (u2 (u2 (u2 (askC i 0 0 0) 42 1 p0) 42 4 (i 8 (p0 * 8 + 0))) 42 3 p1) := cscr_tr (cscr_tr (cscr_tr hs cscr_u) cscr_u) cscr_u
    have he := askP_env i p0 p1 (i 8 (p0 * 8 + 0))
    have hE := lawTells_eq9 he (n := 1) hc
    refine sp_X0_tells (by omega) (h := 1) (by omega) (forceC_kept hs2 hf) (envOK_of he (mkEnv_bd bd0 b0 bd0 h1 hs1 bd0 bd0 bd0 bd0)) (fun v i' l' hv ht hp h3 => ⟨fun z => absurd z (by decide), ?_⟩) (fun i' l' hv ht hp => ⟨fun _ => ⟨by omega, by omega⟩, ?_⟩)
    · have e1 : fPrice cs p0 p1 (i 8 (p0 * 8 + 0)) (i 8 (p0 * 8 + 3)) = max 0 (min 99 (i' 41 3)) := by
        rw [clampMM (by omega), h3]
        unfold fPrice
        rw [← hE, hv]
      rw [if_neg (by decide)]
      have := hP i' l' (cscr_tr hs2 (cscr_of ht)) hp
      rw [e1] at this
      exact ⟨⟨by omega, by omega⟩, this⟩
    · have hi' := cscr_tr hs2 (cscr_of ht)
      have e1 : fPrice cs p0 p1 (i 8 (p0 * 8 + 0)) (i 8 (p0 * 8 + 3)) = i' 8 (p0 * 8 + 3) := by
        unfold fPrice
        rw [← hE, hv, cscr_c hi' (by decide) (by decide)]
      rw [if_pos rfl]
      have := hP i' l' hi' hp
      rw [e1] at this
      refine ⟨?_, this⟩
      rw [cscr_c hi' (by decide) (by decide)]
      exact hrg _ _
end
