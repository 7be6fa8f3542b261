/-! tests, in the model -/
def evRt (live brk : Int) (f : Mean) (e : LEnv) (x b : Int) : Prop := l01 b ∧ l01 x ∧ (live = 0 → b = brk) ∧ (live = 1 → brk = 1 → b = 1) ∧ (live = 1 → brk = 0 → (f e = none → b = 1) ∧ ∀ v, f e = some v → b = 0 ∧ x = v)
def evI (X : MI) (n : Nat) (t : Tk) (k k' : Nat) (f : Mean) : Prop := ∀ (w : Wd) (d : Nat) (P : Int → IM → LM → Prop) (i : IM) (l : LM) (B : Nat) (live brk : Int), n ≤ d → TokAt i B t → envMOK i → l01 live → l01 brk → (∀ x b, evRt live brk f (envM i) x b → P x (ev i ((B + k' : Nat) : Int) b) l) → cI w d X [vR (some 99), vI live] (ev i ((B + k : Nat) : Int) brk) l P
def EvSt (t : Tk) (X : MI) (n : Nat) (p : Sub) : Prop := ∀ k lv u r, k ≤ t.2.2 → lv ≤ 50 → u ≤ k → p k lv u = .inr r → evI X n t k r.1 r.2.2.2.2
theorem l01_bI (p : Prop) [Decidable p] : l01 (bI p) := by
  unfold bI
  split
  · exact Or.inr rfl
  · exact Or.inl rfl
theorem evRt_cmp {live brk b b2 q : Int} {f g : Mean} {e : LEnv} {x y : Int64} {op : Int → Int → Option Int} (h1 : evR live brk f e x b) (h2 : evR live b g e y b2) (hq : l01 q) (hop : live = 1 → b2 = 0 → ∀ a c, bd a → bd c → x = Int64.ofInt a → y = Int64.ofInt c → op a c = some q) : evRt live brk (m2 f g op) e q b2 := by
  obtain ⟨a1, a2, a3, a4⟩ := h1
  obtain ⟨c1, c2, c3, c4⟩ := h2
  refine ⟨c1, hq, fun h => (c2 h).trans (a2 h), fun h h' => c3 h (a3 h h'), fun h h' => ?_⟩
  obtain ⟨a5, a6⟩ := a4 h h'
  unfold m2
  cases hf : f e with
  | none => exact ⟨fun _ => c3 h (a5 hf), fun v q => by cases q⟩
  | some a =>
    obtain ⟨e1, e2, e3⟩ := a6 a hf
    obtain ⟨c5, c6⟩ := c4 h e1
    cases hg : g e with
    | none => exact ⟨fun _ => c5 hg, fun v q => by cases q⟩
    | some c =>
      obtain ⟨g1, g2, g3⟩ := c6 c hg
      have h3 := hop h g1 a c e3 g3 e2 g2
      show (op a c = none → b2 = 1) ∧ ∀ v, op a c = some v → b2 = 0 ∧ q = v
      rw [h3]
      exact ⟨fun z => (by cases z), fun v z => (by cases z; exact ⟨g1, rfl⟩)⟩
theorem ev_pos {t : Tk} (ht : tkOK t) {inner : Option Sub} {n m N : Nat} (hi : ∀ s, inner = some s → SGt t s ∧ EvSt t X_X12_testOf m s) (hN : 3 * n + 6 ≤ N) (hm : inner ≠ none → m + 1 ≤ N) : EvSt t X_X12_positiveOf N (pPos t n inner) := by
  intro k lv u r hk hlv hu h w d P i l B live brk hd hT hE hl hb hP
  obtain ⟨d, rfl, hd1⟩ := d_pos (Nat.le_trans hN hd)
  have h24 := hT.2.1
  refine e_X12_positiveOf (s_X12_positiveOf _ (by omega) ?_)
  unfold pPos at h
  split at h
  · rename_i hc
    have hk1 := tk_lt ht hk (by omega)
    refine sp_passes ht hT hk (by omega) (rg_lit rfl) (fun _ => ⟨fun q => absurd q (by decide), fun _ => ?_⟩) (fun q => absurd hc q)
    cases inner with
    | none => cases h
    | some s =>
      simp only at h
      cases hs : s (k + 1) lv u with
      | inl q => rw [hs] at h; cases h
      | inr r1 =>
        rw [hs] at h
        simp only at h
        split at h
        · rename_i hc1
          cases h
          obtain ⟨g1, g2⟩ := hi s rfl
          have gp := g1 (k + 1) lv u r1 (by omega) hlv (by omega) hs
          have hmd := hm (fun e => by cases e)
          refine g2 (k + 1) lv u r1 (by omega) hlv (by omega) hs w d _ i l B live brk (by omega) hT hE hl hb (fun x b hR => ?_)
          rw [ev_u_go, ev_go]
          have h2 := gp.1.1.2
          exact ⟨⟨by omega, by omega⟩, hR.2.1, hP x b hR⟩
        · cases h
  · rename_i hc
    refine sp_passes ht hT hk (by omega) (rg_lit rfl) (fun q => absurd q hc) (fun _ => ⟨fun _ => ?_, fun q => absurd rfl q⟩)
    cases hs : pSum t n k lv u with
    | inl q => rw [hs] at h; cases h
    | inr r1 =>
      rw [hs] at h
      simp only at h
      have g1 := sg_sum ht n k lv u r1 hk hlv hu hs
      have hr1 := g1.1.2
      cases ho : opC (t.1 r1.1) with
      | none => rw [ho] at h; cases h
      | some o =>
        rw [ho] at h
        simp only at h
        have ho2 : (t.1 r1.1 = 160 ∧ o.2 = fun a b => some (if a < b then 1 else 0)) ∨ (t.1 r1.1 = 162 ∧ o.2 = fun a b => some (if b < a then 1 else 0)) ∨ (t.1 r1.1 = 161 ∧ o.2 = fun a b => some (if a = b then 1 else 0)) := by
          unfold opC at ho
          split at ho
          · cases ho; exact Or.inl ⟨by assumption, rfl⟩
          · split at ho
            · cases ho; exact Or.inr (Or.inl ⟨by assumption, rfl⟩)
            · split at ho
              · cases ho; exact Or.inr (Or.inr ⟨by assumption, rfl⟩)
              · cases ho
        obtain ⟨hc2, -, -⟩ := opC_ok ho
        have hk1 := tk_lt ht hr1 hc2
        cases hs2 : pSum t n (r1.1 + 1) r1.2.1 (u + r1.2.2.2.1.length) with
        | inl q => rw [hs2] at h; cases h
        | inr s =>
          rw [hs2] at h
          simp only at h
          cases h
          refine ev_sum ht n k lv u r1 hk hlv hu hs w d _ i l B live brk (by omega) hT hE hl hb (fun x b hR => ?_)
          rw [tok_c ht hT hr1, ev_u_go, ev_go, ev_end]
          refine ⟨fun _ => ⟨by omega, by omega⟩, ⟨by omega, by omega⟩, ?_⟩
          refine ev_sum ht n (r1.1 + 1) r1.2.1 (u + r1.2.2.2.1.length) s hk1 g1.2.1.2 (by have := g1.2.2.1; have := g1.1.1; omega) hs2 w d _ i l B live b (by omega) hT hE hl hR.1 (fun y b2 hR2 => ?_)
          rw [ev_brk]
          have lt_ : ∀ a c : Int, bd a → bd c → x = Int64.ofInt a → y = Int64.ofInt c → ((y ≤ x ↔ c ≤ a) ∧ (x ≤ y ↔ a ≤ c) ∧ (x = y ↔ a = c)) := by
            intro a c ha hc' hx hy
            unfold bd at ha hc'
            rw [hx, hy]
            exact ⟨L64_le ⟨by omega, by omega⟩ ⟨by omega, by omega⟩, L64_le ⟨by omega, by omega⟩ ⟨by omega, by omega⟩, L64_eq ⟨by omega, by omega⟩ ⟨by omega, by omega⟩⟩
          refine ⟨rg01 hl, fun q => ?_, fun q => ?_, fun q => ⟨fun q2 => ?_, fun q2 => ?_⟩, fun q => ?_⟩
          · refine hP 0 b2 (evRt_cmp hR hR2 (Or.inl rfl) (fun h1 h0 a c ha hc' hx hy => ?_))
            obtain ⟨z1, z2, z3⟩ := lt_ a c ha hc' hx hy
            rcases q with q | q | q
            · omega
            · exact absurd h0 q
            · rcases ho2 with ⟨e1, e2⟩ | ⟨e1, e2⟩ | ⟨e1, e2⟩
              · rw [e2]
                have := z1.mp q.2
                show some (if a < c then (1 : Int) else 0) = some 0
                rw [if_neg (by omega)]
              · omega
              · omega
          · refine hP _ b2 (evRt_cmp hR hR2 (l01_bI _) (fun h1 h0 a c ha hc' hx hy => ?_))
            obtain ⟨z1, z2, z3⟩ := lt_ a c ha hc' hx hy
            rcases ho2 with ⟨e1, e2⟩ | ⟨e1, e2⟩ | ⟨e1, e2⟩
            · exact absurd e1 q.2.2.1
            · exact absurd e1 q.2.2.2
            · rw [e2, bI_congr z3]
              rfl
          · refine hP 0 b2 (evRt_cmp hR hR2 (Or.inl rfl) (fun h1 h0 a c ha hc' hx hy => ?_))
            obtain ⟨z1, z2, z3⟩ := lt_ a c ha hc' hx hy
            rcases ho2 with ⟨e1, e2⟩ | ⟨e1, e2⟩ | ⟨e1, e2⟩
            · exact absurd e1 q.2.2.1
            · rw [e2]
              have := z2.mp q2
              show some (if c < a then (1 : Int) else 0) = some 0
              rw [if_neg (by omega)]
            · have := q.2.2.2; omega
          · refine hP 1 b2 (evRt_cmp hR hR2 (Or.inr rfl) (fun h1 h0 a c ha hc' hx hy => ?_))
            obtain ⟨z1, z2, z3⟩ := lt_ a c ha hc' hx hy
            rcases ho2 with ⟨e1, e2⟩ | ⟨e1, e2⟩ | ⟨e1, e2⟩
            · exact absurd e1 q.2.2.1
            · rw [e2]
              have : ¬ a ≤ c := fun z => q2 (z2.mpr z)
              show some (if c < a then (1 : Int) else 0) = some 1
              rw [if_pos (by omega)]
            · have := q.2.2.2; omega
          · refine hP 1 b2 (evRt_cmp hR hR2 (Or.inr rfl) (fun h1 h0 a c ha hc' hx hy => ?_))
            obtain ⟨z1, z2, z3⟩ := lt_ a c ha hc' hx hy
            rcases ho2 with ⟨e1, e2⟩ | ⟨e1, e2⟩ | ⟨e1, e2⟩
            · rw [e2]
              have : ¬ c ≤ a := fun z => q.2.2.2 (z1.mpr z)
              show some (if a < c then (1 : Int) else 0) = some 1
              rw [if_pos (by omega)]
            · have := q.2.2.1; omega
            · have := q.2.2.1; omega
theorem lp_plain {t : Tk} (ht : tkOK t) {w : Wd} {d : Nat} {P : Int → IM → LM → Prop} {i : IM} {l : LM} {B : Nat} {live brk : Int} (hd : 2 ≤ d) (hT : TokAt i B t) : ∀ n k x2, l01 x2 → k ≤ t.2.2 → t.2.2 + 1 ≤ k + n → (∀ x2', x2' = (if (pNots t n k).2 = true then 1 - x2 else x2) → cI w d X_X12_positiveOf [vR (some 99), vI live] (ev i ((B + (pNots t n k).1 : Nat) : Int) brk) l (fun r i' l' => rg x2' ∧ P (bI (¬ (r = x2'))) i' l')) → gI w d X_X12_plainOf P (ev i ((B + k : Nat) : Int) brk) l 2 [(0, vR (some 99)), (1, vI live), (2, vI x2)] [] := by
  intro n
  induction n with
  | zero => intro k x2 _ h1 h2; omega
  | succ n ih =>
    intro k x2 hx h1 h2 hP
    refine s_X12_plainOf_2 _ _ (sp_passes ht hT h1 hd (rg_lit rfl) (fun q => ⟨fun z => absurd z (by decide), fun _ => ⟨rg01 hx, ?_⟩⟩) (fun q => ⟨fun _ => ?_, fun z => absurd rfl z⟩))
    · have hk1 := tk_lt ht h1 (by omega)
      refine ih (k + 1) _ (l01_bI _) hk1 (by omega) (fun x2' hx2 => ?_)
      have e : pNots t (n + 1) k = ((pNots t n (k + 1)).1, !(pNots t n (k + 1)).2) := if_pos q
      rw [e] at hP
      refine hP x2' (hx2.trans ?_)
      cases (pNots t n (k + 1)).2
      · rcases hx with rfl | rfl <;> rfl
      · rcases hx with rfl | rfl <;> rfl
    · have e : pNots t (n + 1) k = (k, false) := if_neg q
      rw [e] at hP
      exact hP x2 rfl
theorem ev_plain {t : Tk} (ht : tkOK t) {inner : Option Sub} {n N : Nat} (hi : ∀ s, inner = some s → SGt t s) (hev : EvSt t X_X12_positiveOf N (pPos t n inner)) (hN : 2 ≤ N) : EvSt t X_X12_plainOf (N + 1) (pPlain t n inner) := by
  intro k lv u r hk hlv hu h w d P i l B live brk hd hT hE hl hb hP
  obtain ⟨d, rfl, hd1⟩ := d_pos hd
  obtain ⟨n1, n2, n3⟩ := pNots_le t ht (t.2.2 + 1 - k) k hk
  refine e_X12_plainOf (s_X12_plainOf _ ?_)
  unfold pPlain at h
  cases hs : pPos t n inner (pNots t (t.2.2 + 1 - k) k).1 lv u with
  | inl q => rw [hs] at h; cases h
  | inr r1 =>
    rw [hs] at h
    simp only at h
    refine lp_plain ht (by omega) hT (t.2.2 + 1 - k) k 0 (Or.inl rfl) hk (by omega) (fun x2' hx2 => ?_)
    refine hev _ lv u r1 n2 hlv (by omega) hs w d _ i l B live brk hd1 hT hE hl hb (fun x b hR => ?_)
    split at h
    · rename_i ht2
      rw [if_pos ht2] at hx2
      cases h
      subst hx2
      refine ⟨rg_lit rfl, hP _ b ⟨hR.1, l01_bI _, hR.2.2.1, hR.2.2.2.1, fun h1 h0 => ?_⟩⟩
      obtain ⟨z1, z2⟩ := hR.2.2.2.2 h1 h0
      show (mNot r1.2.2.2.2 (envM i) = none → b = 1) ∧ ∀ v, mNot r1.2.2.2.2 (envM i) = some v → b = 0 ∧ bI (¬ x = 1 - 0) = v
      unfold mNot
      cases hf : r1.2.2.2.2 (envM i) with
      | none => exact ⟨fun _ => z1 hf, fun v q => by cases q⟩
      | some a =>
        obtain ⟨y1, y2⟩ := z2 a hf
        refine ⟨fun q => (by cases q), fun v q => ?_⟩
        cases q
        refine ⟨y1, ?_⟩
        rw [← y2]
        rcases hR.2.1 with e | e
        · rw [e]; rfl
        · rw [e]; rfl
    · rename_i ht2
      rw [if_neg ht2] at hx2
      cases h
      subst hx2
      have e : bI (¬ x = 0) = x := by rcases hR.2.1 with e | e <;> rw [e] <;> rfl
      rw [e]
      exact ⟨rg_lit rfl, hP x b hR⟩
/-- 'or' and 'and' -/
theorem evRt_jump {live brk b b2 x y : Int} {isOr : Bool} {f g : Mean} {e : LEnv} (hl : l01 live) (h1 : evRt live brk f e x b) (h01 : is01 g) (h2 : evRt (if live = 0 then 0 else if isOr = true then bI (x = 0) else bI (¬ x = 0)) b g e y b2) : evRt live brk (mJump isOr f g) e (if isOr = true then bI (¬ x = 0 ∨ ¬ y = 0) else bI (¬ x = 0 ∧ ¬ y = 0)) b2 := by
  obtain ⟨a1, a2, a3, a4, a5⟩ := h1
  obtain ⟨c1, c2, c3, c4, c5⟩ := h2
  refine ⟨c1, ?_, fun h => ?_, fun h h' => ?_, fun h h' => ?_⟩
  · cases isOr
    · exact l01_bI _
    · exact l01_bI _
  · rw [if_pos h] at c3
    exact (c3 rfl).trans (a3 h)
  · have hb := a4 h h'
    rw [if_neg (by omega)] at c3 c4
    have hlv : l01 (if isOr = true then bI (x = 0) else bI (¬ x = 0)) := by cases isOr <;> exact l01_bI _
    rcases hlv with e1 | e1
    · exact (c3 e1).trans hb
    · exact c4 e1 hb
  · obtain ⟨a6, a7⟩ := a5 h h'
    rw [if_neg (by omega)] at c3 c4 c5
    have hlv : l01 (if isOr = true then bI (x = 0) else bI (¬ x = 0)) := by cases isOr <;> exact l01_bI _
    unfold mJump
    cases hf : f e with
    | none =>
      have hb := a6 hf
      refine ⟨fun _ => ?_, fun v q => by cases q⟩
      rcases hlv with e1 | e1
      · exact (c3 e1).trans hb
      · exact c4 e1 hb
    | some v =>
      obtain ⟨hb, hxv⟩ := a7 v hf
      subst hxv
      simp only
      by_cases hj : (x ≠ 0 ↔ isOr = true)
      · rw [if_pos hj]
        refine ⟨fun q => (by cases q), fun v q => ?_⟩
        cases q
        have hz : (if isOr = true then bI (x = 0) else bI (¬ x = 0)) = 0 := by
          cases isOr
          · have : x = 0 := Decidable.of_not_not fun z => by cases hj.mp z
            rw [this]; rfl
          · have : x ≠ 0 := hj.mpr rfl
            exact bI_f this
        refine ⟨(c3 hz).trans hb, ?_⟩
        cases isOr
        · have : x = 0 := Decidable.of_not_not fun z => by cases hj.mp z
          rw [this]
          exact bI_f (p := ¬ (0 : Int) = 0 ∧ ¬ y = 0) (fun q => q.1 rfl)
        · have hx0 : x ≠ 0 := hj.mpr rfl
          have : x = 1 := by rcases a2 with q | q; exact absurd q hx0; exact q
          rw [this]
          exact bI_t (p := ¬ (1 : Int) = 0 ∨ ¬ y = 0) (Or.inl (by decide))
      · rw [if_neg hj]
        have ho : (if isOr = true then bI (x = 0) else bI (¬ x = 0)) = 1 := by
          cases isOr
          · have : x ≠ 0 := fun z => hj ⟨fun q => absurd z q, fun q => by cases q⟩
            exact bI_t this
          · have : x = 0 := Decidable.of_not_not fun z => hj ⟨fun _ => rfl, fun _ => z⟩
            exact bI_t this
        obtain ⟨c6, c7⟩ := c5 ho hb
        refine ⟨c6, fun v q => ?_⟩
        obtain ⟨d1, d2⟩ := c7 v q
        refine ⟨d1, ?_⟩
        cases isOr
        · have hx0 : x ≠ 0 := fun z => hj ⟨fun q => absurd z q, fun q => by cases q⟩
          show bI (¬ x = 0 ∧ ¬ y = 0) = v
          rw [d2]
          rcases h01 e v q with rfl | rfl
          · exact bI_f (fun q => q.2 rfl)
          · exact bI_t ⟨hx0, by decide⟩
        · have hx0 : x = 0 := Decidable.of_not_not fun z => hj ⟨fun _ => rfl, fun _ => z⟩
          show bI (¬ x = 0 ∨ ¬ y = 0) = v
          rw [d2]
          rcases h01 e v q with rfl | rfl
          · exact bI_f (fun q => by rcases q with q | q; exact q hx0; exact q rfl)
          · exact bI_t (Or.inr (by decide))
