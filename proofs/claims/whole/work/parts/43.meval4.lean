theorem evlBoth {t : Tk} (ht : tkOK t) {p : Sub} {n : Nat} (hp : SGt t p) (hev : EvSt t X_X12_plainOf n p) {k lv u : Nat} (hu : u ≤ k) : ∀ m r r', PG t k lv u r → is01 r.2.2.2.2 → pJump t p false m u r = .inr r' → ∀ (w : Wd) (d : Nat) (P : Int → IM → LM → Prop) (i : IM) (l : LM) (B : Nat) (live brk x b : Int), n ≤ d → 2 ≤ d → TokAt i B t → envMOK i → l01 live → evRt live brk r.2.2.2.2 (envM i) x b → (∀ x b, evRt live brk r'.2.2.2.2 (envM i) x b → P x (ev i ((B + r'.1 : Nat) : Int) b) l) → gI w d X_X12_bothOf P (ev i ((B + r.1 : Nat) : Int) b) l 6 [(0, vR (some 99)), (1, vI live), (2, vI x)] [] := by
  intro m
  induction m with
  | zero => intro r r' _ _ h; cases h
  | succ m ih =>
    intro r r' hr h01 h w d P i l B live brk x b hd hd2 hT hE hl hR hP
    have h24 := hT.2.1
    have hrT := hr.1.2
    have hr0 := hr
    unfold pJump at h
    split at h
    · rename_i hc
      have hc7 : t.1 r.1 = 7 := hc
      have hk1 := tk_lt ht hrT (by omega)
      obtain ⟨⟨a1, a2⟩, ⟨a3, a4⟩, a5, a6, a7, a8⟩ := hr
      cases hs : p (r.1 + 1) r.2.1 (u + r.2.2.2.1.length + 1) with
      | inl q => rw [hs] at h; cases h
      | inr s =>
        rw [hs] at h
        simp only at h
        have hsg := hp (r.1 + 1) r.2.1 (u + r.2.2.2.1.length + 1) s hk1 a4 (by omega) hs
        have hes := hev (r.1 + 1) r.2.1 (u + r.2.2.2.1.length + 1) s hk1 a4 (by omega) hs
        have hb := pg_jump ht (b := false) hu hr0 hsg.1
        have hgo := fun (y b2 : Int) (hR2 : evRt (if live = 0 then 0 else if false = true then bI (x = 0) else bI (¬ x = 0)) b s.2.2.2.2 (envM i) y b2) => ih _ r' hb (is01_jump h01 hsg.2) h w d P i l B live brk _ b2 hd hd2 hT hE hl (evRt_jump (isOr := false) hl hR hsg.2 hR2) hP
        refine s_X12_bothOf_6 _ _ (sp_passes ht hT hrT hd2 (rg_lit rfl) (fun _ => ⟨fun _ => rg01 hl, fun z => absurd z (by decide), fun z => ?_, fun z => ⟨rg01 hR.2.1, ?_⟩⟩) (fun z => absurd hc7 z))
        · refine hes w d _ i l B 0 b hd hT hE (Or.inl rfl) hR.1 (fun y b2 hR2 => ⟨rg01 hR.2.1, hgo y b2 ?_⟩)
          rw [if_pos z.2]
          exact hR2
        · refine hes w d _ i l B _ b hd hT hE (l01_bI _) hR.1 (fun y b2 hR2 => ⟨rg01 hR.2.1, hgo y b2 ?_⟩)
          rw [if_neg z.2]
          exact hR2
    · rename_i hc
      cases h
      exact s_X12_bothOf_6 _ _ (sp_passes ht hT hrT hd2 (rg_lit rfl) (fun z => absurd z hc) (fun _ => ⟨fun z => absurd rfl z, fun _ => ⟨hR.2.1, hP x b hR⟩, fun z => absurd rfl z.1, fun z => absurd rfl z.1⟩))
theorem evlTest {t : Tk} (ht : tkOK t) {p : Sub} {n : Nat} (hp : SGt t p) (hev : EvSt t X_X12_bothOf n p) {k lv u : Nat} (hu : u ≤ k) : ∀ m r r', PG t k lv u r → is01 r.2.2.2.2 → pJump t p true m u r = .inr r' → ∀ (w : Wd) (d : Nat) (P : Int → IM → LM → Prop) (i : IM) (l : LM) (B : Nat) (live brk x b : Int), n ≤ d → 2 ≤ d → TokAt i B t → envMOK i → l01 live → evRt live brk r.2.2.2.2 (envM i) x b → (∀ x b, evRt live brk r'.2.2.2.2 (envM i) x b → P x (ev i ((B + r'.1 : Nat) : Int) b) l) → gI w d X_X12_testOf P (ev i ((B + r.1 : Nat) : Int) b) l 6 [(0, vR (some 99)), (1, vI live), (2, vI x)] [] := by
  intro m
  induction m with
  | zero => intro r r' _ _ h; cases h
  | succ m ih =>
    intro r r' hr h01 h w d P i l B live brk x b hd hd2 hT hE hl hR hP
    have h24 := hT.2.1
    have hrT := hr.1.2
    have hr0 := hr
    unfold pJump at h
    split at h
    · rename_i hc
      have hc7 : t.1 r.1 = 6 := hc
      have hk1 := tk_lt ht hrT (by omega)
      obtain ⟨⟨a1, a2⟩, ⟨a3, a4⟩, a5, a6, a7, a8⟩ := hr
      cases hs : p (r.1 + 1) r.2.1 (u + r.2.2.2.1.length + 1) with
      | inl q => rw [hs] at h; cases h
      | inr s =>
        rw [hs] at h
        simp only at h
        have hsg := hp (r.1 + 1) r.2.1 (u + r.2.2.2.1.length + 1) s hk1 a4 (by omega) hs
        have hes := hev (r.1 + 1) r.2.1 (u + r.2.2.2.1.length + 1) s hk1 a4 (by omega) hs
        have hb := pg_jump ht (b := true) hu hr0 hsg.1
        have hgo := fun (y b2 : Int) (hR2 : evRt (if live = 0 then 0 else if true = true then bI (x = 0) else bI (¬ x = 0)) b s.2.2.2.2 (envM i) y b2) => ih _ r' hb (is01_jump h01 hsg.2) h w d P i l B live brk _ b2 hd hd2 hT hE hl (evRt_jump (isOr := true) hl hR hsg.2 hR2) hP
        refine s_X12_testOf_6 _ _ (sp_passes ht hT hrT hd2 (rg_lit rfl) (fun _ => ⟨fun _ => rg01 hl, fun z => absurd z (by decide), fun z => ?_, fun z => ⟨rg01 hR.2.1, ?_⟩⟩) (fun z => absurd hc7 z))
        · refine hes w d _ i l B 0 b hd hT hE (Or.inl rfl) hR.1 (fun y b2 hR2 => ⟨rg01 hR.2.1, hgo y b2 ?_⟩)
          rw [if_pos z.2]
          exact hR2
        · refine hes w d _ i l B _ b hd hT hE (l01_bI _) hR.1 (fun y b2 hR2 => ⟨rg01 hR.2.1, hgo y b2 ?_⟩)
          rw [if_neg z.2]
          exact hR2
    · rename_i hc
      cases h
      exact s_X12_testOf_6 _ _ (sp_passes ht hT hrT hd2 (rg_lit rfl) (fun z => absurd z hc) (fun _ => ⟨fun z => absurd rfl z, fun _ => ⟨hR.2.1, hP x b hR⟩, fun z => absurd rfl z.1, fun z => absurd rfl z.1⟩))
theorem ev_both1 {t : Tk} (ht : tkOK t) {p : Sub} {n : Nat} (hp : SGt t p) (hev : EvSt t X_X12_plainOf n p) (hn : 2 ≤ n) : EvSt t X_X12_bothOf (n + 1) (pJumps t p false) := by
  intro k lv u r hk hlv hu h w d P i l B live brk hd hT hE hl hb hP
  obtain ⟨d, rfl, hd1⟩ := d_pos hd
  unfold pJumps at h
  cases hs : p k lv u with
  | inl q => rw [hs] at h; cases h
  | inr s =>
    rw [hs] at h
    have hsg := hp k lv u s hk hlv hu hs
    refine e_X12_bothOf (s_X12_bothOf _ (hev k lv u s hk hlv hu hs w d _ i l B live brk hd1 hT hE hl hb (fun x b hR => ?_)))
    exact evlBoth ht hp hev hu _ s r hsg.1 hsg.2 h w d P i l B live brk x b hd1 (by omega) hT hE hl hR hP
theorem ev_test1 {t : Tk} (ht : tkOK t) {p : Sub} {n : Nat} (hp : SGt t p) (hev : EvSt t X_X12_bothOf n p) (hn : 2 ≤ n) : EvSt t X_X12_testOf (n + 1) (pJumps t p true) := by
  intro k lv u r hk hlv hu h w d P i l B live brk hd hT hE hl hb hP
  obtain ⟨d, rfl, hd1⟩ := d_pos hd
  unfold pJumps at h
  cases hs : p k lv u with
  | inl q => rw [hs] at h; cases h
  | inr s =>
    rw [hs] at h
    have hsg := hp k lv u s hk hlv hu hs
    refine e_X12_testOf (s_X12_testOf _ (hev k lv u s hk hlv hu hs w d _ i l B live brk hd1 hT hE hl hb (fun x b hR => ?_)))
    exact evlTest ht hp hev hu _ s r hsg.1 hsg.2 h w d P i l B live brk x b hd1 (by omega) hT hE hl hR hP
theorem ev_test {t : Tk} (ht : tkOK t) : ∀ n, EvSt t X_X12_testOf (6 * n + 20) (pTest t n)
  | 0 => ev_test1 ht (sg_jumps ht (sg_plain ht (fun s h => by cases h))) (ev_both1 ht (sg_plain ht (fun s h => by cases h)) (ev_plain ht (fun s h => by cases h) (ev_pos ht (N := 17) (m := 0) (fun s h => by cases h) (by omega) (fun h => absurd rfl h)) (by omega)) (by omega)) (by omega)
  | n + 1 => ev_test1 ht (sg_jumps ht (sg_plain ht (fun s h => by cases h; exact sg_test ht n))) (ev_both1 ht (sg_plain ht (fun s h => by cases h; exact sg_test ht n)) (ev_plain ht (fun s h => by cases h; exact sg_test ht n) (ev_pos ht (N := 6 * n + 23) (m := 6 * n + 20) (fun s h => by cases h; exact ⟨sg_test ht n, ev_test ht n⟩) (by omega) (fun _ => by omega)) (by omega)) (by omega)) (by omega)
