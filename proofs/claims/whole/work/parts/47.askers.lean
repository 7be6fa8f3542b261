/-! ASKING A LAW, both sides -/
def mkEnv (w t pl c s mo mi co p : Int) : LEnv := fun x => match x with
  | 0 => w
  | 1 => t
  | 2 => pl
  | 3 => c
  | 4 => s
  | 5 => mo
  | 6 => mi
  | 7 => co
  | 8 => p
  | _ => 0
def eq9 (e e' : LEnv) : Prop := ∀ x, x < 9 → e x = e' x
theorem lt9 {x : Nat} (h : x < 9) : x = 0 ∨ x = 1 ∨ x = 2 ∨ x = 3 ∨ x = 4 ∨ x = 5 ∨ x = 6 ∨ x = 7 ∨ x = 8 := by omega
def hasDep (cs : List Cla) : Prop := ∀ c ∈ cs, ∃ m, dep m c.2.2.2.2.1 ∧ dep m c.2.2.2.2.2
theorem claTells_eq9 {e e' : LEnv} (h : eq9 e e') {c : Cla} (hc : ∃ m, dep m c.2.2.2.2.1 ∧ dep m c.2.2.2.2.2) : claTells e c = claTells e' c := by
  obtain ⟨m, h1, h2⟩ := hc
  unfold claTells
  rw [h1 e e' (fun x hx _ => h x hx), h2 e e' (fun x hx _ => h x hx)]
theorem lawTells_eq9 {e e' : LEnv} (h : eq9 e e') {n : Nat} : ∀ {cs : List Cla}, hasDep cs → lawTells e n cs = lawTells e' n cs
  | [], _ => rfl
  | c :: cs, hd => by
    have ih := lawTells_eq9 (n := n) h (cs := cs) (fun x hx => hd x (List.mem_cons_of_mem _ hx))
    have hc := claTells_eq9 h (hd c (List.mem_cons_self ..))
    unfold lawTells
    rw [ih, hc]
def fLimit (cs : List Cla) (w mo mi : Int) : Int := match lawTells (mkEnv w 0 0 0 0 mo mi 0 0) 0 cs with
  | some v => clampI 0 8 v
  | none => 3
def fPrice (cs : List Cla) (t c s cost : Int) : Int := match lawTells (mkEnv 0 t 0 c s 0 0 0 0) 1 cs with
  | some v => clampI 0 99 v
  | none => cost
/-- neither hidden nor free -/
def fCount (cs : List Cla) (e : LEnv) : Prop := lawTells e 3 cs = none ∧ lawTells e 2 cs = none
theorem fCount_dec (cs : List Cla) (e : LEnv) : fCount cs e ∨ ¬ fCount cs e := by
  unfold fCount
  cases lawTells e 3 cs <;> cases lawTells e 2 cs <;> simp
/-- the model's asked words, and its reading marks, may change -/
def scrM (i i' : IM) : Prop := ∀ (a : Nat) (k : Int), a ≠ 110 → (a ≠ 99 ∨ (k ≠ 19 ∧ k ≠ 20 ∧ k ≠ 21)) → i' a k = i a k
theorem scrM_rf (i : IM) : scrM i i := fun _ _ _ _ => rfl
theorem scrM_tr {i j k : IM} (h1 : scrM i j) (h2 : scrM j k) : scrM i k := fun a x h h' => (h2 a x h h').trans (h1 a x h h')
theorem scrM_of {i i' : IM} (h : scr i i') : scrM i i' := fun a k _ h' => h a k h'
theorem scrM_c {i i' : IM} (h : scrM i i') {a : Nat} (ha : a ≠ 110) (hb : a ≠ 99) : i' a = i a := funext fun k => h a k ha (Or.inl hb)
theorem scrM_u {i : IM} {k v : Int} : scrM i (u2 i 110 k v) := fun a x h _ => if_neg (fun q => h q.1)
abbrev askM (i : IM) (p0 p1 p2 p3 p4 p5 p6 p7 p8 : Int) : IM := u2 (u2 (u2 (u2 (u2 (u2 (u2 (u2 (u2 i 110 0 p0) 110 1 p1) 110 2 p2) 110 3 p3) 110 4 p4) 110 5 p5) 110 6 p6) 110 7 p7) 110 8 p8
theorem askM_scr (i : IM) (p0 p1 p2 p3 p4 p5 p6 p7 p8 : Int) : scrM i (askM i p0 p1 p2 p3 p4 p5 p6 p7 p8) := by
  intro a k h _
  unfold askM
  rw [u2_other _ _ _ h, u2_other _ _ _ h, u2_other _ _ _ h, u2_other _ _ _ h, u2_other _ _ _ h, u2_other _ _ _ h, u2_other _ _ _ h, u2_other _ _ _ h, u2_other _ _ _ h]
theorem askM_env (i : IM) (p0 p1 p2 p3 p4 p5 p6 p7 p8 : Int) : eq9 (envM (askM i p0 p1 p2 p3 p4 p5 p6 p7 p8)) (mkEnv p0 p1 p2 p3 p4 p5 p6 p7 p8) := by
  intro x hx
  rcases lt9 hx with h | h | h | h | h | h | h | h | h <;> subst h <;> simp [envM, u2, mkEnv]
theorem askM_ok {i : IM} {p0 p1 p2 p3 p4 p5 p6 p7 p8 : Int} (h0 : bd p0) (h1 : bd p1) (h2 : bd p2) (h3 : bd p3) (h4 : bd p4) (h5 : bd p5) (h6 : bd p6) (h7 : bd p7) (h8 : bd p8) : envMOK (askM i p0 p1 p2 p3 p4 p5 p6 p7 p8) := by
  intro x hx
  have e := askM_env i p0 p1 p2 p3 p4 p5 p6 p7 p8 x hx
  show bd (envM (askM i p0 p1 p2 p3 p4 p5 p6 p7 p8) x)
  rw [e]
  rcases lt9 hx with h | h | h | h | h | h | h | h | h <;> subst h <;> assumption
theorem bd_rg {x : Int} (h : bd x) : rg x := ⟨by have := h.1; omega, by have := h.2; omega⟩
theorem bd0 : bd 0 := ⟨by omega, by omega⟩
theorem bd1 : bd 1 := ⟨by omega, by omega⟩
section
variable {w : Wd} {d : Nat} {i : IM} {l : LM}
theorem sp_X12_asksOf (hd : 1 ≤ d) {P : IM → LM → Prop} {p0 p1 p2 p3 p4 p5 p6 p7 p8 : Int} (h0 : bd p0) (h1 : bd p1) (h2 : bd p2) (h3 : bd p3) (h4 : bd p4) (h5 : bd p5) (h6 : bd p6) (h7 : bd p7) (h8 : bd p8) (hP : P (askM i p0 p1 p2 p3 p4 p5 p6 p7 p8) l) : cVd w d X_X12_asksOf [vR (some 99), vI p0, vI p1, vI p2, vI p3, vI p4, vI p5, vI p6, vI p7, vI p8] i l P := by
  obtain ⟨d, rfl, hd1⟩ := d_pos hd
  exact e_X12_asksOf (s_X12_asksOf _ _ _ _ _ _ _ _ _ ⟨bd_rg h0, bd_rg h1, bd_rg h2, bd_rg h3, bd_rg h4, bd_rg h5, bd_rg h6, bd_rg h7, bd_rg h8, hP⟩)
theorem askM_101 (i : IM) (p0 p1 p2 p3 p4 p5 p6 p7 p8 : Int) : askM i p0 p1 p2 p3 p4 p5 p6 p7 p8 101 = i 101 := scrM_c (askM_scr i p0 p1 p2 p3 p4 p5 p6 p7 p8) (by decide) (by decide)
theorem toldGo_e {e e' : LEnv} (h : eq9 e e') {cs : List Cla} (hc : hasDep cs) (n : Nat) (lo hi x : Int) : toldGo e ((n : Int) + 1) lo hi cs x = match lawTells e' n cs with
    | some v => clampI lo hi v
    | none => x := by
  rw [toldGo_eq, lawTells_eq9 h hc]
  cases lawTells e' n cs <;> rfl
theorem sp_X12_limitOf (hd : 72 ≤ d) {P : Int → IM → LM → Prop} {A : Nat → List Cla} (hf : forceM (i 101) A) (hc : hasDep (inForce (i 101) A)) {p0 p1 p2 : Int} (h0 : bd p0) (h1 : bd p1) (h2 : bd p2) (hP : ∀ i', scrM i i' → P (fLimit (inForce (i 101) A) p0 p1 p2) i' l) : cI w d X_X12_limitOf [vR (some 99), vI p0, vI p1, vI p2] i l P := by
  obtain ⟨d, rfl, hd1⟩ := d_pos hd
  refine e_X12_limitOf (s_X12_limitOf _ _ _ (sp_X12_asksOf (by omega) h0 bd0 bd0 bd0 bd0 h1 h2 bd0 bd0 ?_))
  have e1 := askM_101 i p0 0 0 0 0 p1 p2 0 0
  refine sp_X12_told (by omega) (A := A) (by rw [e1]; exact hf) (askM_ok h0 bd0 bd0 bd0 bd0 h1 h2 bd0 bd0) (rg_lit rfl) (rg_lit rfl) (rg_lit rfl) (rg_lit rfl) (fun i' hi => ?_)
  have e2 := toldGo_e (n := 0) (askM_env i p0 0 0 0 0 p1 p2 0 0) hc 0 8 3
  rw [e1]
  show P (toldGo (envM (askM i p0 0 0 0 0 p1 p2 0 0)) (((0 : Nat) : Int) + 1) 0 8 (inForce (i 101) A) 3) i' l
  rw [e2]
  exact hP i' (scrM_tr (askM_scr _ _ _ _ _ _ _ _ _ _) (scrM_of hi))
theorem sp_X12_priceOf (hd : 72 ≤ d) {P : Int → IM → LM → Prop} {A : Nat → List Cla} (hf : forceM (i 101) A) (hc : hasDep (inForce (i 101) A)) {p0 p1 : Int} (h0 : 0 ≤ p0 ∧ p0 < 10) (h1 : bd p1) (hs : bd (i 101 (8 * p0 + 0))) (hP : ∀ i', scrM i i' → P (fPrice (inForce (i 101) A) p0 p1 (i 101 (8 * p0 + 0)) (i 101 (8 * p0 + 3))) i' l) : cI w d X_X12_priceOf [vR (some 99), vI p0, vI p1] i l P := by
  obtain ⟨d, rfl, hd1⟩ := d_pos hd
  have b0 : bd p0 := ⟨by omega, by omega⟩
  refine e_X12_priceOf (g_rg (fun hrg => s_X12_priceOf _ _ (by omega) ⟨⟨by omega, by omega⟩, sp_X12_asksOf (by omega) bd0 b0 bd0 h1 hs bd0 bd0 bd0 bd0 ⟨⟨by omega, by omega⟩, ?_⟩⟩))
  have e1 := askM_101 i 0 p0 0 p1 (i 101 (8 * p0 + 0)) 0 0 0 0
  refine sp_X12_told (by omega) (A := A) (by rw [e1]; exact hf) (askM_ok bd0 b0 bd0 h1 hs bd0 bd0 bd0 bd0) (rg_lit rfl) (rg_lit rfl) (rg_lit rfl) (by rw [e1]; exact hrg _ _) (fun i' hi => ?_)
  have e2 := toldGo_e (n := 1) (askM_env i 0 p0 0 p1 (i 101 (8 * p0 + 0)) 0 0 0 0) hc 0 99 (i 101 (8 * p0 + 3))
  rw [e1]
  show P (toldGo (envM (askM i 0 p0 0 p1 (i 101 (8 * p0 + 0)) 0 0 0 0)) (((1 : Nat) : Int) + 1) 0 99 (inForce (i 101) A) (i 101 (8 * p0 + 3))) i' l
  rw [e2]
  exact hP i' (scrM_tr (askM_scr _ _ _ _ _ _ _ _ _ _) (scrM_of hi))
theorem tell01 (e : LEnv) (n : Nat) (cs : List Cla) : (match lawTells e n cs with
    | some v => clampI 1 1 v
    | none => 0) = 0 ↔ lawTells e n cs = none := by
  cases lawTells e n cs with
  | none => simp
  | some v =>
    simp only [clampI]
    constructor
    · intro h
      split at h
      · cases h
      · split at h
        · cases h
        · omega
    · intro h; cases h
theorem sp_X12_doesCount (hd : 72 ≤ d) {P : Int → IM → LM → Prop} {A : Nat → List Cla} (hf : forceM (i 101) A) (hc : hasDep (inForce (i 101) A)) (hE : envMOK i) (hP1 : ∀ i', scr i i' → fCount (inForce (i 101) A) (envM i) → P 1 i' l) (hP0 : ∀ i', scr i i' → ¬ fCount (inForce (i 101) A) (envM i) → P 0 i' l) : cI w d X_X12_doesCount [vR (some 99)] i l P := by
  obtain ⟨d, rfl, hd1⟩ := d_pos hd
  have rf9 : eq9 (envM i) (envM i) := fun _ _ => rfl
  refine e_X12_doesCount (s_X12_doesCount (sp_X12_told (by omega) (A := A) hf hE (rg_lit rfl) (rg_lit rfl) (rg_lit rfl) (rg_lit rfl) (fun i1 hi => ?_)))
  have e3 := toldGo_e (n := 3) rf9 hc 1 1 0
  have t3 := tell01 (envM i) 3 (inForce (i 101) A)
  rw [← e3] at t3
  refine ⟨fun h => ?_, fun h => hP0 i1 hi (fun q => h (t3.mpr q.1))⟩
  have c1 : i1 101 = i 101 := scr_c hi (by decide)
  have c2 : envM i1 = envM i := by
    unfold envM
    rw [scr_c hi (by decide)]
  have hE1 : envMOK i1 := fun x hx => by rw [scr_c hi (by decide)]; exact hE x hx
  refine sp_X12_told (by omega) (A := A) (by rw [c1]; exact hf) hE1 (rg_lit rfl) (rg_lit rfl) (rg_lit rfl) (rg_lit rfl) (fun i2 hi2 => ?_)
  rw [c1, c2]
  have e2 := toldGo_e (n := 2) rf9 hc 1 1 0
  have t2 := tell01 (envM i) 2 (inForce (i 101) A)
  rw [← e2] at t2
  by_cases q : toldGo (envM i) (((2 : Nat) : Int) + 1) 1 1 (inForce (i 101) A) 0 = 0
  · have := hP1 i2 (scr_tr hi hi2) ⟨t3.mp h, t2.mp q⟩
    rw [← bI_t q] at this
    exact this
  · have := hP0 i2 (scr_tr hi hi2) (fun z => q (t2.mpr z.2))
    rw [← bI_f q] at this
    exact this
end
