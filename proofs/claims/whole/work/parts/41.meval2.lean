theorem bd_prod {a b : Int} (ha : bd a) (hb : bd b) : -9000000000000000000 ≤ a * b ∧ a * b ≤ 9000000000000000000 := by
  unfold bd at ha hb
  have h1 : (a * b).natAbs ≤ 1000000000 * 1000000000 := by
    rw [Int.natAbs_mul]
    exact Nat.mul_le_mul (by omega) (by omega)
  omega
theorem bd_tdiv {a b : Int} (ha : bd a) : -9000000000000000000 ≤ a.tdiv b ∧ a.tdiv b ≤ 9000000000000000000 := by
  unfold bd at ha
  have h1 := Int.natAbs_tdiv_le_natAbs a b
  omega
theorem evlT {t : Tk} (ht : tkOK t) {p : Sub} {n : Nat} (hp : SG t p) (hev : EvS t X_X12_partOf n p) {k lv u : Nat} (hu : u ≤ k) : ∀ m r r', PG t k lv u r → pLoop t p opT m u r = .inr r' → ∀ (w : Wd) (d : Nat) (P : Int64 → IM → LM → Prop) (i : IM) (l : LM) (B : Nat) (live brk : Int) (x : Int64) (b : Int), n ≤ d → 2 ≤ d → TokAt i B t → envMOK i → l01 live → l01 brk → evR live brk r.2.2.2.2 (envM i) x b → (∀ x b, evR live brk r'.2.2.2.2 (envM i) x b → P x (ev i ((B + r'.1 : Nat) : Int) b) l) → gLg w d X_X12_termOf P (ev i ((B + r.1 : Nat) : Int) b) l 6 [(0, vR (some 99)), (1, vI live), (2, vL x)] [] := by
  intro m
  induction m with
  | zero => intro r r' _ h; cases h
  | succ m ih =>
    intro r r' hr h w d P i l B live brk x b hd hd2 hT hE hl hbk hR hP
    have h24 := hT.2.1
    have hrT := hr.1.2
    unfold pLoop at h
    cases ho : opT (t.1 r.1) with
    | none =>
      rw [ho] at h
      cases h
      have hn : ¬ (t.1 r.1 = 142 ∨ t.1 r.1 = 147) := by
        unfold opT at ho
        split at ho
        · cases ho
        · split at ho
          · cases ho
          · omega
      refine s_X12_termOf_6 _ _ (by omega) ⟨tok_in hT hrT b, fun _ => tok_in hT hrT b, fun q => ?_, fun _ => hP x b hR⟩
      rw [tok_c ht hT hrT] at q
      exact absurd q hn
    | some o =>
      rw [ho] at h
      simp only at h
      obtain ⟨hc, mo, hm, hok⟩ := opT_ok ho
      have hk1 := tk_lt ht hrT hc
      have ho2 : (t.1 r.1 = 142 ∧ o.2 = fun a b => bnd (a * b)) ∨ (t.1 r.1 = 147 ∧ o.2 = fun a b => if b = 0 then none else bnd (a.tdiv b)) := by
        unfold opT at ho
        split at ho
        · cases ho; exact Or.inl ⟨by assumption, rfl⟩
        · split at ho
          · cases ho; exact Or.inr ⟨by assumption, rfl⟩
          · cases ho
      cases hs : p (r.1 + 1) r.2.1 (u + r.2.2.2.1.length) with
      | inl q => rw [hs] at h; cases h
      | inr s =>
        rw [hs] at h
        simp only at h
        have hsg := hp (r.1 + 1) r.2.1 (u + r.2.2.2.1.length) s hk1 hr.2.1.2 (by have := hr.2.2.1; have := hr.1.1; omega) hs
        have hb := pg_bin hok hr hsg
        rw [← hm] at hb
        have hes := hev (r.1 + 1) r.2.1 (u + r.2.2.2.1.length) s hk1 hr.2.1.2 (by have := hr.2.2.1; have := hr.1.1; omega) hs
        refine s_X12_termOf_6 _ _ (by omega) ⟨tok_in hT hrT b, fun _ => tok_in hT hrT b, fun _ => ?_, fun q => ?_⟩
        · refine s_X12_termOf_38 _ _ (by omega) ⟨tok_in hT hrT b, ?_⟩
          rw [tok_c ht hT hrT, ev_u_go, ev_go]
          refine ⟨⟨by omega, by omega⟩, ?_⟩
          refine hes w d _ i l B live b hd hT hE hl hR.1 (fun y b2 hR2 => ?_)
          have hgo : ∀ (z : Nat) q b3, evR live brk (m2 r.2.2.2.2 s.2.2.2.2 o.2) (envM i) q b3 → gLg w d X_X12_termOf P (ev i ((B + s.1 : Nat) : Int) b3) l 6 [(0, vR (some 99)), (1, vI live), (2, vL q)] [] := fun z q b3 hq => ih _ r' hb h w d P i l B live brk q b3 hd hd2 hT hE hl hbk hq hP
          refine ⟨fun c1 => ⟨fun c2 => ?_, ?_⟩, fun c1 => ?_, fun c1 => ⟨rg01 hl, ?_⟩⟩
          · rcases c1 with c1 | c1
            · exact absurd c1 c2
            · exact c1
          · refine sp_bounded (by omega) hl hR2.1 (fun q b3 h3 => hgo 0 q b3 (evR_bin hl hbk hR hR2 h3 (fun _ _ a c ha hc' hx hy => ?_)))
            rcases ho2 with ⟨e1, e2⟩ | ⟨e1, e2⟩
            · rw [if_pos e1, hx, hy, ← Int64.ofInt_mul]
              exact ⟨a * c, bd_prod ha hc', rfl, by rw [e2]⟩
            · have e3 : ¬ t.1 r.1 = 142 := by omega
              have hy0 : ¬ y = 0 := by
                rcases c1 with c1 | c1
                · exact absurd c1 e3
                · exact c1
              have hc0 : ¬ c = 0 := fun e => hy0 (by rw [hy, e]; rfl)
              rw [if_neg e3, hx, hy, L64_div ha hc']
              exact ⟨a.tdiv c, bd_tdiv ha, rfl, by rw [e2]; exact if_neg hc0⟩
          · have hb2 : b2 = 1 := by
              rcases hR2.1 with e | e
              · exact absurd (by rw [ev_brk]; exact e) c1.2.2
              · exact e
            rw [ev_u_b, ← hb2]
            exact sp_bounded (by omega) hl hR2.1 (fun q b3 h3 => hgo 0 q b3 (evR_bin hl hbk hR hR2 h3 (fun _ h0 => by omega)))
          · have hb2 : b2 = 0 := by
              have := c1.2.2
              rw [ev_brk] at this
              exact this
            rw [ev_u_b]
            rcases hl with e | e
            · rw [bI_f (p := ¬ live = 0) (fun z => z e), ← hb2]
              exact sp_bounded (by omega) (Or.inl e) hR2.1 (fun q b3 h3 => hgo 0 q b3 (evR_bin (Or.inl e) hbk hR hR2 h3 (fun h1 => by omega)))
            · rw [bI_t (p := ¬ live = 0) (by omega)]
              refine sp_bounded (by omega) (Or.inr e) (Or.inr rfl) (fun q b3 h3 => hgo 0 q b3 ?_)
              have hb3 := h3.2.2.1 rfl
              refine ⟨h3.1, fun z => by omega, fun _ _ => hb3, fun _ z => ⟨fun _ => hb3, fun v hv => ?_⟩⟩
              exfalso
              rcases ho2 with ⟨e1, e2⟩ | ⟨e1, e2⟩
              · exact c1.1 e1
              · unfold m2 at hv
                cases hf : r.2.2.2.2 (envM i) with
                | none => rw [hf] at hv; cases hv
                | some a =>
                  have hb0 := ((hR.2.2.2 e z).2 a hf).1
                  cases hg : s.2.2.2.2 (envM i) with
                  | none => rw [hf, hg] at hv; cases hv
                  | some c =>
                    obtain ⟨g1, g2, g3⟩ := (hR2.2.2.2 e hb0).2 c hg
                    unfold bd at g3
                    have hc0 : c = 0 := (L64_eq (b := 0) ⟨by omega, by omega⟩ ⟨by omega, by omega⟩).mp (g2.symm.trans c1.2.1)
                    rw [hf, hg, e2] at hv
                    simp only at hv
                    rw [if_pos hc0] at hv
                    cases hv
        · rw [tok_c ht hT hrT] at q
          exact absurd (by rcases ho2 with e | e; exact Or.inl e.1; exact Or.inr e.1) q
theorem evlS {t : Tk} (ht : tkOK t) {p : Sub} {n : Nat} (hp : SG t p) (hev : EvS t X_X12_termOf n p) {k lv u : Nat} (hu : u ≤ k) : ∀ m r r', PG t k lv u r → pLoop t p opS m u r = .inr r' → ∀ (w : Wd) (d : Nat) (P : Int64 → IM → LM → Prop) (i : IM) (l : LM) (B : Nat) (live brk : Int) (x : Int64) (b : Int), n ≤ d → 2 ≤ d → TokAt i B t → envMOK i → l01 live → l01 brk → evR live brk r.2.2.2.2 (envM i) x b → (∀ x b, evR live brk r'.2.2.2.2 (envM i) x b → P x (ev i ((B + r'.1 : Nat) : Int) b) l) → gLg w d X_X12_sumOf P (ev i ((B + r.1 : Nat) : Int) b) l 6 [(0, vR (some 99)), (1, vI live), (2, vL x)] [] := by
  intro m
  induction m with
  | zero => intro r r' _ h; cases h
  | succ m ih =>
    intro r r' hr h w d P i l B live brk x b hd hd2 hT hE hl hbk hR hP
    have h24 := hT.2.1
    have hrT := hr.1.2
    unfold pLoop at h
    cases ho : opS (t.1 r.1) with
    | none =>
      rw [ho] at h
      cases h
      have hn : ¬ (t.1 r.1 = 143 ∨ t.1 r.1 = 145) := by
        unfold opS at ho
        split at ho
        · cases ho
        · split at ho
          · cases ho
          · omega
      refine s_X12_sumOf_6 _ _ (by omega) ⟨tok_in hT hrT b, fun _ => tok_in hT hrT b, fun q => ?_, fun _ => hP x b hR⟩
      rw [tok_c ht hT hrT] at q
      exact absurd q hn
    | some o =>
      rw [ho] at h
      simp only at h
      obtain ⟨hc, mo, hm, hok⟩ := opS_ok ho
      have hk1 := tk_lt ht hrT hc
      have ho2 : (t.1 r.1 = 143 ∧ o.2 = fun a b => bnd (a + b)) ∨ (t.1 r.1 = 145 ∧ o.2 = fun a b => bnd (a - b)) := by
        unfold opS at ho
        split at ho
        · cases ho; exact Or.inl ⟨by assumption, rfl⟩
        · split at ho
          · cases ho; exact Or.inr ⟨by assumption, rfl⟩
          · cases ho
      cases hs : p (r.1 + 1) r.2.1 (u + r.2.2.2.1.length) with
      | inl q => rw [hs] at h; cases h
      | inr s =>
        rw [hs] at h
        simp only at h
        have hsg := hp (r.1 + 1) r.2.1 (u + r.2.2.2.1.length) s hk1 hr.2.1.2 (by have := hr.2.2.1; have := hr.1.1; omega) hs
        have hb := pg_bin hok hr hsg
        rw [← hm] at hb
        have hes := hev (r.1 + 1) r.2.1 (u + r.2.2.2.1.length) s hk1 hr.2.1.2 (by have := hr.2.2.1; have := hr.1.1; omega) hs
        refine s_X12_sumOf_6 _ _ (by omega) ⟨tok_in hT hrT b, fun _ => tok_in hT hrT b, fun _ => ?_, fun q => ?_⟩
        · refine s_X12_sumOf_38 _ _ (by omega) ⟨tok_in hT hrT b, ?_⟩
          rw [tok_c ht hT hrT, ev_u_go, ev_go]
          refine ⟨⟨by omega, by omega⟩, ?_⟩
          refine hes w d _ i l B live b hd hT hE hl hR.1 (fun y b2 hR2 => ?_)
          refine sp_bounded (by omega) hl hR2.1 (fun q b3 h3 => ih _ r' hb h w d P i l B live brk q b3 hd hd2 hT hE hl hbk (evR_bin hl hbk hR hR2 h3 (fun _ _ a c ha hc' hx hy => ?_)) hP)
          unfold bd at ha hc'
          rcases ho2 with ⟨e1, e2⟩ | ⟨e1, e2⟩
          · rw [if_pos e1, hx, hy, ← Int64.ofInt_add]
            exact ⟨a + c, by omega, rfl, by rw [e2]⟩
          · rw [if_neg (by omega), hx, hy, ← Int64.ofInt_sub]
            exact ⟨a - c, by omega, rfl, by rw [e2]⟩
        · rw [tok_c ht hT hrT] at q
          exact absurd (by rcases ho2 with e | e; exact Or.inl e.1; exact Or.inr e.1) q
theorem ev_term {t : Tk} (ht : tkOK t) {p : Sub} {n : Nat} (hp : SG t p) (hev : EvS t X_X12_partOf n p) (hn : 2 ≤ n) : EvS t X_X12_termOf (n + 1) (pChain t p opT) := by
  intro k lv u r hk hlv hu h w d P i l B live brk hd hT hE hl hb hP
  obtain ⟨d, rfl, hd1⟩ := d_pos hd
  unfold pChain at h
  cases hs : p k lv u with
  | inl q => rw [hs] at h; cases h
  | inr s =>
    rw [hs] at h
    refine e_X12_termOf (s_X12_termOf _ (hev k lv u s hk hlv hu hs w d _ i l B live brk hd1 hT hE hl hb (fun x b hR => ?_)))
    exact evlT ht hp hev hu _ s r (hp k lv u s hk hlv hu hs) h w d P i l B live brk x b hd1 (by omega) hT hE hl hb hR hP
theorem ev_sum1 {t : Tk} (ht : tkOK t) {p : Sub} {n : Nat} (hp : SG t p) (hev : EvS t X_X12_termOf n p) (hn : 2 ≤ n) : EvS t X_X12_sumOf (n + 1) (pChain t p opS) := by
  intro k lv u r hk hlv hu h w d P i l B live brk hd hT hE hl hb hP
  obtain ⟨d, rfl, hd1⟩ := d_pos hd
  unfold pChain at h
  cases hs : p k lv u with
  | inl q => rw [hs] at h; cases h
  | inr s =>
    rw [hs] at h
    refine e_X12_sumOf (s_X12_sumOf _ (hev k lv u s hk hlv hu hs w d _ i l B live brk hd1 hT hE hl hb (fun x b hR => ?_)))
    exact evlS ht hp hev hu _ s r (hp k lv u s hk hlv hu hs) h w d P i l B live brk x b hd1 (by omega) hT hE hl hb hR hP
theorem ev_sum {t : Tk} (ht : tkOK t) : ∀ n, EvS t X_X12_sumOf (3 * n + 5) (pSum t n)
  | 0 => ev_sum1 ht (sg_chain ht (sg_part ht (fun s h => by cases h)) (fun _ _ h => opT_ok h)) (ev_term ht (sg_part ht (fun s h => by cases h)) (ev_part ht (m := 0) (fun s h => by cases h) (Nat.le_refl 3) (fun h => absurd rfl h)) (by omega)) (by omega)
  | n + 1 => ev_sum1 ht (sg_chain ht (sg_part ht (fun s h => by cases h; exact sg_sum ht n)) (fun _ _ h => opT_ok h)) (ev_term ht (sg_part ht (fun s h => by cases h; exact sg_sum ht n)) (ev_part ht (n := 3 * n + 6) (m := 3 * n + 5) (fun s h => by cases h; exact ⟨sg_sum ht n, ev_sum ht n⟩) (by omega) (fun _ => by omega)) (by omega)) (by omega)
