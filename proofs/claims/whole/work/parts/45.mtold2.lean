theorem rg_claUpd {e : LEnv} {h lo hi x : Int} {c : Cla} (h1 : rg lo) (h2 : rg hi) (hx : rg x) : rg (claUpd e h lo hi c x) := by
  unfold claUpd
  split
  · split
    · unfold clampI rg at *
      split
      · omega
      · split
        · omega
        · omega
    · exact hx
  · exact hx
theorem lp_told {t : Tk} (ht : tkOK t) {w : Wd} {d : Nat} {P : Int → IM → LM → Prop} {i : IM} {l : LM} {B : Nat} (hT : TokAt i B t) (hE : envMOK i) (hd : 69 ≤ d) {x1 x2 x3 : Int} (hx1 : rg x1) (hx2 : rg x2) (hx3 : rg x3) : ∀ n k lv u cs x5, pLaw t n k lv u = .inr cs → k ≤ t.2.2 → lv ≤ 50 → u ≤ k → rg x5 → (∀ b g, P (toldGo (envM i) x1 x2 x3 cs x5) (ev i g b) l) → ∀ b, gI w d X_X12_told P (ev i ((B + k : Nat) : Int) b) l 61 [(0, vR (some 99)), (1, vI x1), (2, vI x2), (3, vI x3), (5, vI x5)] [] := by
  have h24 := hT.2.1
  intro n
  induction n with
  | zero => intro k lv u cs x5 h; cases h
  | succ n ih =>
    intro k lv u cs x5 h hk hlv hu h5 hP b
    unfold pLaw at h
    cases hc : pClause t k lv u with
    | inl q => rw [hc] at h; cases h
    | inr q =>
      rw [hc] at h
      simp only at h
      unfold pClause at hc
      cases hh : pHead t k lv u with
      | inl z => rw [hh] at hc; cases hc
      | inr r =>
        rw [hh] at hc
        simp only at hc
        -- what the head is, and what is known behind it
        have hhead : (t.1 k = 1 ∨ t.1 k = 2) ∧ pSum t 8 (k + 1) lv u = .inr r ∨ (t.1 k = 3 ∨ t.1 k = 4) ∧ r = (k + 1, lv, 0, [], fun _ => some 1) := by
          unfold pHead at hh
          split at hh
          · exact Or.inl ⟨by assumption, hh⟩
          · split at hh
            · cases hh; exact Or.inr ⟨by assumption, rfl⟩
            · cases hh
        have hk1 : k < t.2.2 := tk_lt ht hk (by omega)
        have hr : k < r.1 ∧ r.1 ≤ t.2.2 ∧ r.2.1 ≤ 50 ∧ u + r.2.2.2.1.length ≤ r.1 := by
          rcases hhead with ⟨-, hs⟩ | ⟨-, rfl⟩
          · obtain ⟨⟨a1, a2⟩, ⟨a3, a4⟩, a5, -⟩ := sg_sum ht 8 (k + 1) lv u r hk1 hlv (by omega) hs
            exact ⟨by omega, a2, a4, by omega⟩
          · exact ⟨Nat.lt_succ_self _, hk1, hlv, by show u + 0 ≤ k + 1; omega⟩
        have hq : r.1 ≤ q.1 ∧ q.1 ≤ t.2.2 ∧ q.2.1 ≤ 50 ∧ u + claLen q.2.2 ≤ q.1 := by
          split at hc
          · rename_i h5'
            have hr5 := tk_lt ht hr.2.1 (by omega)
            cases hs : pTest t 8 (r.1 + 1) r.2.1 (u + r.2.2.2.1.length) with
            | inl z => rw [hs] at hc; cases hc
            | inr s =>
              rw [hs] at hc
              cases hc
              obtain ⟨⟨⟨a1, a2⟩, ⟨a3, a4⟩, a5, -⟩, -⟩ := sg_test ht 8 (r.1 + 1) r.2.1 (u + r.2.2.2.1.length) s hr5 hr.2.2.1 (by omega) hs
              refine ⟨by show r.1 ≤ s.1; omega, a2, a4, ?_⟩
              show u + (r.2.2.2.1.length + s.2.2.2.1.length) ≤ s.1
              omega
          · cases hc
            refine ⟨Nat.le_refl _, hr.2.1, hr.2.2.1, ?_⟩
            show u + (r.2.2.2.1.length + 0) ≤ r.1
            omega
        have hnext : ∀ b, gI w d X_X12_told P (ev i ((B + (q.1 + 1) : Nat) : Int) b) l 61 [(0, vR (some 99)), (1, vI x1), (2, vI x2), (3, vI x3), (5, vI (claUpd (envM i) x1 x2 x3 q.2.2 x5))] [] := by
          intro b
          have h5' := rg_claUpd (e := envM i) (h := x1) (c := q.2.2) hx2 hx3 h5
          split at h
          · rename_i hT1
            cases h
            refine s_X12_told_61 _ _ _ _ (by omega) ⟨fun _ => ⟨h5', hP b _⟩, fun z => absurd ?_ z⟩
            rw [ev_end, ev_go, hT.1]
            omega
          · split at h
            · rename_i hne h159
              have hq1 := tk_lt ht hq.2.1 (by omega)
              cases hl : pLaw t n (q.1 + 1) q.2.1 (u + claLen q.2.2) with
              | inl z => rw [hl] at h; cases h
              | inr cs' =>
                rw [hl] at h
                cases h
                exact ih (q.1 + 1) q.2.1 (u + claLen q.2.2) cs' _ hl hq1 hq.2.2.1 (by omega) h5' hP b
            · cases h
        refine s_X12_told_61 _ _ _ _ (by omega) ⟨fun z => ?_, fun _ => ?_⟩
        · rw [ev_end, ev_go, hT.1] at z
          omega
        simp only [ev_u_b, ev_u_go, ev_go, ev_brk, ev_end, ev_101, tok_d ht hT hk]
        refine ⟨fun _ => ⟨by omega, by omega⟩, ⟨by omega, by omega⟩, fun h3 => ?_, fun h3 => ?_⟩
        · rcases hhead with ⟨h12, -⟩ | ⟨h34, rfl⟩
          · omega
          · exact told_test ht hT hE hd (lv := lv) (r := (k + 1, lv, 0, [], fun _ => some 1)) (x7 := 1) (b1 := 0) hx1 hx2 hx3 (Or.inl rfl) (by omega) ⟨hk1, hlv, by show u + 0 ≤ k + 1; omega⟩ ⟨fun z => (by cases z), fun v z => (by cases z; exact ⟨rfl, rfl, by unfold bd; omega⟩)⟩ hc hnext
        · rcases hhead with ⟨h12, hs⟩ | ⟨h34, -⟩
          · refine ev_sum ht 8 (k + 1) lv u r hk1 hlv (by omega) hs w d _ i l B 1 0 (by omega) hT hE (Or.inr rfl) (Or.inl rfl) (fun x b1 hR => ?_)
            simp only [ev_u_b, ev_brk]
            exact told_test ht hT hE hd (lv := lv) (r := r) (x7 := x) (b1 := b1) hx1 hx2 hx3 hR.1 (by omega) ⟨hr.2.1, hr.2.2.1, hr.2.2.2⟩ (hR.2.2.2 rfl rfl) hc hnext
          · omega
/-- nothing but the model's reading marks has changed -/
def scr (i i' : IM) : Prop := ∀ (a : Nat) (k : Int), (a ≠ 99 ∨ (k ≠ 19 ∧ k ≠ 20 ∧ k ≠ 21)) → i' a k = i a k
theorem scr_rf (i : IM) : scr i i := fun _ _ _ => rfl
theorem scr_tr {i j k : IM} (h1 : scr i j) (h2 : scr j k) : scr i k := fun a x h => (h2 a x h).trans (h1 a x h)
theorem scr_c {i i' : IM} (h : scr i i') {a : Nat} (ha : a ≠ 99) : i' a = i a := funext fun k => h a k (Or.inl ha)
theorem scr_ev (i : IM) (e g b : Int) : scr i (ev (u2 i 99 20 e) g b) := by
  intro a k h
  unfold ev u2
  rw [if_neg (by omega), if_neg (by omega), if_neg (by omega)]
/-- the tokens of the f-th LAW, as the model keeps them -/
def tkOf (K : Int → Int) (f : Nat) : Tk := (fun k => if k < (K (314 + (f : Int))).toNat then K (320 + ((400 * f + k : Nat) : Int)) else 0, fun k => if k < (K (314 + (f : Int))).toNat then K (2720 + ((400 * f + k : Nat) : Int)) else 0, (K (314 + (f : Int))).toNat)
def lawM (K : Int → Int) (f : Nat) (cs : List Cla) : Prop := tkOK (tkOf K f) ∧ 0 ≤ K (314 + (f : Int)) ∧ pWhole (tkOf K f) = .inr cs
/-- the LAW in FORCE, if there is one; A are the LAWS that were read -/
def forceM (K : Int → Int) (A : Nat → List Cla) : Prop := K 312 = -1 ∨ (0 ≤ K 312 ∧ K 312 < 6 ∧ lawM K (K 312).toNat (A (K 312).toNat))
def inForce (K : Int → Int) (A : Nat → List Cla) : List Cla := if K 312 = -1 then [] else A (K 312).toNat
theorem sp_X12_told {w : Wd} {d : Nat} {P : Int → IM → LM → Prop} {i : IM} {l : LM} (hd : 70 ≤ d) {A : Nat → List Cla} (hf : forceM (i 101) A) (hE : envMOK i) {h lo hi x : Int} (hh : rg h) (hlo : rg lo) (hhi : rg hi) (hx : rg x) (hP : ∀ i', scr i i' → P (toldGo (envM i) h lo hi (inForce (i 101) A) x) i' l) : cI w d X_X12_told [vR (some 99), vI h, vI lo, vI hi, vI x] i l P := by
  obtain ⟨d, rfl, hd1⟩ := d_pos hd
  refine e_X12_told (s_X12_told _ _ _ _ ⟨fun h1 => ⟨hx, ?_⟩, fun h1 => ?_⟩)
  · have := hP i (scr_rf i)
    unfold inForce at this
    rw [if_pos h1] at this
    exact this
  · rcases hf with hf | ⟨h0, h6, hL⟩
    · exact absurd hf h1
    · obtain ⟨f, hf⟩ := Int.eq_ofNat_of_zero_le h0
      rw [hf, Int.toNat_natCast] at hL
      obtain ⟨ht, hT0, hw⟩ := hL
      have hT4 : (i 101 (314 + (f : Int))).toNat ≤ 400 := ht.1
      have e1 : ∀ (v : Int) (k : Int), u2 i 99 19 v 101 k = i 101 k := fun v k => if_neg (fun q => by omega)
      have e2 : ∀ v : Int, u2 i 99 19 v 99 19 = v := fun v => u2_self i 99 19 v
      simp only [e1, e2, hf]
      refine ⟨⟨by omega, by omega⟩, ⟨by omega, by omega⟩, ⟨by omega, by omega⟩, ?_⟩
      have em : u2 (u2 i 99 19 (400 * (f : Int))) 99 20 (400 * (f : Int) + i 101 (314 + (f : Int))) = ev (u2 i 99 20 (400 * (f : Int) + i 101 (314 + (f : Int)))) ((400 * f + 0 : Nat) : Int) (i 99 21) := by
        funext a k
        unfold u2 ev
        by_cases q1 : a = 99 ∧ k = 20
        · rw [if_pos q1, if_neg (by omega), if_neg (by omega)]
          exact (if_pos q1).symm
        · rw [if_neg q1]
          by_cases q2 : a = 99 ∧ k = 19
          · rw [if_pos q2, if_pos q2]; omega
          · rw [if_neg q2, if_neg q2]
            by_cases q3 : a = 99 ∧ k = 21
            · rw [if_pos q3, q3.1, q3.2]
            · rw [if_neg q3]
              exact (if_neg q1).symm
      rw [em]
      have hTA : TokAt (u2 i 99 20 (400 * (f : Int) + i 101 (314 + (f : Int)))) (400 * f) (tkOf (i 101) f) := by
        refine ⟨?_, ?_, fun k hk => ?_⟩
        · rw [u2_self]
          show _ = ((400 * f + (i 101 (314 + (f : Int))).toNat : Nat) : Int)
          omega
        · show 400 * f + (i 101 (314 + (f : Int))).toNat ≤ 2400
          omega
        · have hk' : k < (i 101 (314 + (f : Int))).toNat := hk
          rw [u2_other i _ _ (by decide)]
          exact ⟨(if_pos hk').symm, (if_pos hk').symm⟩
      have hEA : envM (u2 i 99 20 (400 * (f : Int) + i 101 (314 + (f : Int)))) = envM i := by
        funext z
        unfold envM
        rw [u2_other i _ _ (by decide)]
      have hEO : envMOK (u2 i 99 20 (400 * (f : Int) + i 101 (314 + (f : Int)))) := by
        intro z hz
        rw [u2_other i _ _ (by decide)]
        exact hE z hz
      refine lp_told ht hTA hEO hd1 hh hlo hhi 12 0 0 0 (A f) x hw (Nat.zero_le _) (by omega) (Nat.le_refl _) hx (fun b g => ?_) _
      have := hP _ (scr_ev i (400 * (f : Int) + i 101 (314 + (f : Int))) g b)
      unfold inForce at this
      rw [if_neg h1, hf, Int.toNat_natCast] at this
      rw [hEA]
      exact this
