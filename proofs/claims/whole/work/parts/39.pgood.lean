/-! WHAT THE GRAMMAR READS: it goes on, its leaves are few, its code runs as it means, it hangs on its words alone -/
def tkOK (t : Tk) : Prop := t.2.2 ≤ 400 ∧ t.1 t.2.2 = 0 ∧ ∀ k, 0 ≤ t.2.1 k
def dep (m : Nat) (f : Mean) : Prop := ∀ e e' : LEnv, (∀ x, x < 9 → m.testBit x = true → e x = e' x) → f e = f e'
theorem dep_or {m1 m2 : Nat} {f : Mean} (h : dep m1 f) : dep (m1 ||| m2) f := fun e e' q => h e e' (fun x hx hb => q x hx (by rw [Nat.testBit_or, hb]; rfl))
theorem dep_or2 {m1 m2 : Nat} {f : Mean} (h : dep m2 f) : dep (m1 ||| m2) f := fun e e' q => h e e' (fun x hx hb => q x hx (by rw [Nat.testBit_or, hb]; cases m1.testBit x <;> rfl))
theorem dep_m2 {m : Nat} {f g : Mean} {op : Int → Int → Option Int} (hf : dep m f) (hg : dep m g) : dep m (m2 f g op) := fun e e' q => by unfold m2; rw [hf e e' q, hg e e' q]
def PG (t : Tk) (k lv u : Nat) (r : PD) : Prop := (k < r.1 ∧ r.1 ≤ t.2.2) ∧ (lv < r.2.1 ∧ r.2.1 ≤ 50) ∧ r.2.2.2.1.length ≤ r.1 - k ∧ CG u r.2.2.2.1 r.2.2.2.2 (r.2.1 - lv) ∧ dep r.2.2.1 r.2.2.2.2 ∧ r.2.2.1 < 512
def is01 (f : Mean) : Prop := ∀ e v, f e = some v → v = 0 ∨ v = 1
def SG (t : Tk) (p : Sub) : Prop := ∀ k lv u r, k ≤ t.2.2 → lv ≤ 50 → u ≤ k → p k lv u = .inr r → PG t k lv u r
def SGt (t : Tk) (p : Sub) : Prop := ∀ k lv u r, k ≤ t.2.2 → lv ≤ 50 → u ≤ k → p k lv u = .inr r → PG t k lv u r ∧ is01 r.2.2.2.2
theorem opT_ok {c : Int} {o : Int × (Int → Int → Option Int)} (h : opT c = some o) : c ≠ 0 ∧ ∃ n : Nat, o.1 = n ∧ opOK n o.2 := by
  unfold opT at h
  split at h
  · cases h; exact ⟨by omega, 4, rfl, Or.inr (Or.inr (Or.inl ⟨rfl, rfl⟩))⟩
  · split at h
    · cases h; exact ⟨by omega, 5, rfl, Or.inr (Or.inr (Or.inr (Or.inl ⟨rfl, rfl⟩)))⟩
    · cases h
theorem opS_ok {c : Int} {o : Int × (Int → Int → Option Int)} (h : opS c = some o) : c ≠ 0 ∧ ∃ n : Nat, o.1 = n ∧ opOK n o.2 := by
  unfold opS at h
  split at h
  · cases h; exact ⟨by omega, 2, rfl, Or.inl ⟨rfl, rfl⟩⟩
  · split at h
    · cases h; exact ⟨by omega, 3, rfl, Or.inr (Or.inl ⟨rfl, rfl⟩)⟩
    · cases h
theorem opC_ok {c : Int} {o : Int × (Int → Int → Option Int)} (h : opC c = some o) : c ≠ 0 ∧ (∃ n : Nat, o.1 = n ∧ opOK n o.2) ∧ ∀ a b v, o.2 a b = some v → v = 0 ∨ v = 1 := by
  have h01 : ∀ (p : Prop) [Decidable p] (v : Int), some (if p then (1 : Int) else 0) = some v → v = 0 ∨ v = 1 := by
    intro p _ v q
    cases q
    split
    · exact Or.inr rfl
    · exact Or.inl rfl
  unfold opC at h
  split at h
  · cases h; exact ⟨by omega, ⟨6, rfl, by unfold opOK; simp⟩, fun a b v q => h01 _ v q⟩
  · split at h
    · cases h; exact ⟨by omega, ⟨7, rfl, by unfold opOK; simp⟩, fun a b v q => h01 _ v q⟩
    · split at h
      · cases h; exact ⟨by omega, ⟨8, rfl, by unfold opOK; simp⟩, fun a b v q => h01 _ v q⟩
      · cases h
theorem tk_lt {t : Tk} (ht : tkOK t) {k : Nat} (hk : k ≤ t.2.2) (h : t.1 k ≠ 0) : k < t.2.2 := by
  apply Nat.lt_of_le_of_ne hk
  intro e
  rw [e] at h
  exact h ht.2.1
theorem sg_part {t : Tk} (ht : tkOK t) {inner : Option Sub} (hi : ∀ s, inner = some s → SG t s) : SG t (pPart t inner) := by
  intro k lv u r hk hlv hu h
  unfold pPart at h
  split at h
  · rename_i hc
    have hk1 := tk_lt ht hk (by omega)
    cases inner with
    | none => cases h
    | some s =>
      simp only at h
      cases hs : s (k + 1) lv u with
      | inl q => rw [hs] at h; cases h
      | inr r1 =>
        rw [hs] at h
        simp only at h
        split at h
        · rename_i hc1
          cases h
          obtain ⟨⟨a1, a2⟩, a3, a4, a5, a6⟩ := hi s rfl (k + 1) lv u r1 (by omega) hlv (by omega) hs
          have h2 := tk_lt ht a2 (by omega)
          exact ⟨⟨by show k < r1.1 + 1; omega, by show r1.1 + 1 ≤ _; omega⟩, a3, by show r1.2.2.2.1.length ≤ r1.1 + 1 - k; omega, a5, a6⟩
        · cases h
  · split at h
    · cases h
    · split at h
      · rename_i h50 hc
        have hk1 := tk_lt ht hk (by omega)
        cases h
        have hv := ht.2.2 k
        obtain ⟨n, hn⟩ := Int.eq_ofNat_of_zero_le hv
        refine ⟨⟨Nat.lt_succ_self _, hk1⟩, ⟨Nat.lt_succ_self _, by show lv + 1 ≤ 50; omega⟩, by show 1 ≤ k + 1 - k; omega, ?_, fun _ _ _ => rfl, by show (0 : Nat) < 512; decide⟩
        show CG u [16 * t.2.1 k] (fun _ => some (t.2.1 k)) (lv + 1 - lv)
        rw [hn, show lv + 1 - lv = 1 by omega]
        exact CG_num u n (by omega)
      · split at h
        · rename_i h50 hc0 hc
          have hk1 := tk_lt ht hk (by omega)
          cases h
          obtain ⟨n, hn⟩ := Int.eq_ofNat_of_zero_le (show 0 ≤ t.1 k - 9 by omega)
          have hn9 : n < 9 := by omega
          refine ⟨⟨Nat.lt_succ_self _, hk1⟩, ⟨Nat.lt_succ_self _, by show lv + 1 ≤ 50; omega⟩, by show 1 ≤ k + 1 - k; omega, ?_, ?_, ?_⟩
          · show CG u [1 + 16 * (t.1 k - 9)] (fun e => some (e (t.1 k - 9).toNat)) (lv + 1 - lv)
            rw [hn, show lv + 1 - lv = 1 by omega]
            exact CG_word u n hn9
          · show dep (2 ^ (t.1 k - 9).toNat) (fun e => some (e (t.1 k - 9).toNat))
            rw [hn]
            intro e e' q
            show some (e (n : Int).toNat) = some (e' (n : Int).toNat)
            rw [Int.toNat_natCast, q n hn9 ((bit_pow n n).mpr rfl)]
          · show 2 ^ (t.1 k - 9).toNat < 512
            rw [hn, Int.toNat_natCast]
            exact Nat.pow_lt_pow_right (m := n) (n := 9) (by omega) hn9
        · cases h
theorem pg_bin {t : Tk} {k lv u : Nat} {r s : PD} {o : Nat} {op : Int → Int → Option Int} (hop : opOK o op) (hr : PG t k lv u r) (hs : PG t (r.1 + 1) r.2.1 (u + r.2.2.2.1.length) s) : PG t k lv u (s.1, s.2.1, r.2.2.1 ||| s.2.2.1, r.2.2.2.1 ++ s.2.2.2.1 ++ [(o : Int)], m2 r.2.2.2.2 s.2.2.2.2 op) := by
  obtain ⟨⟨a1, a2⟩, ⟨a3, a4⟩, a5, a6, a7, a8⟩ := hr
  obtain ⟨⟨b1, b2⟩, ⟨b3, b4⟩, b5, b6, b7, b8⟩ := hs
  refine ⟨⟨by show k < s.1; omega, b2⟩, ⟨by show lv < s.2.1; omega, b4⟩, ?_, ?_, dep_m2 (dep_or a7) (dep_or2 b7), Nat.or_lt_two_pow (n := 9) a8 b8⟩
  · show (r.2.2.2.1 ++ s.2.2.2.1 ++ [(o : Int)]).length ≤ s.1 - k
    simp only [List.length_append, List.length_cons, List.length_nil]
    omega
  · show CG u (r.2.2.2.1 ++ s.2.2.2.1 ++ [(o : Int)]) (m2 r.2.2.2.2 s.2.2.2.2 op) (s.2.1 - lv)
    have := CG_bin a6 b6 hop
    rw [show r.2.1 - lv + (s.2.1 - r.2.1) = s.2.1 - lv by omega] at this
    exact this
theorem sg_loop {t : Tk} (ht : tkOK t) {p : Sub} {op : Int → Option (Int × (Int → Int → Option Int))} (hp : SG t p) (hop : ∀ c o, op c = some o → c ≠ 0 ∧ ∃ n : Nat, o.1 = n ∧ opOK n o.2) {k lv u : Nat} (hu : u ≤ k) : ∀ n r r', PG t k lv u r → pLoop t p op n u r = .inr r' → PG t k lv u r' := by
  intro n
  induction n with
  | zero => intro r r' _ h; cases h
  | succ n ih =>
    intro r r' hr h
    unfold pLoop at h
    cases ho : op (t.1 r.1) with
    | none => rw [ho] at h; cases h; exact hr
    | some o =>
      rw [ho] at h
      simp only at h
      obtain ⟨hc, m, hm, hok⟩ := hop _ _ ho
      have hk1 := tk_lt ht hr.1.2 hc
      cases hs : p (r.1 + 1) r.2.1 (u + r.2.2.2.1.length) with
      | inl q => rw [hs] at h; cases h
      | inr s =>
        rw [hs] at h
        simp only at h
        have hsg := hp (r.1 + 1) r.2.1 (u + r.2.2.2.1.length) s hk1 hr.2.1.2 (by have := hr.2.2.1; have := hr.1.1; omega) hs
        have hb := pg_bin hok hr hsg
        rw [hm] at h
        exact ih _ _ hb h
theorem sg_chain {t : Tk} (ht : tkOK t) {p : Sub} {op : Int → Option (Int × (Int → Int → Option Int))} (hp : SG t p) (hop : ∀ c o, op c = some o → c ≠ 0 ∧ ∃ n : Nat, o.1 = n ∧ opOK n o.2) : SG t (pChain t p op) := by
  intro k lv u r hk hlv hu h
  unfold pChain at h
  cases hs : p k lv u with
  | inl q => rw [hs] at h; cases h
  | inr s =>
    rw [hs] at h
    exact sg_loop ht hp hop hu _ _ _ (hp k lv u s hk hlv hu hs) h
theorem sg_sum {t : Tk} (ht : tkOK t) : ∀ n, SG t (pSum t n)
  | 0 => sg_chain ht (sg_chain ht (sg_part ht (fun s h => by cases h)) (fun _ _ h => opT_ok h)) (fun _ _ h => opS_ok h)
  | n + 1 => sg_chain ht (sg_chain ht (sg_part ht (fun s h => by cases h; exact sg_sum ht n)) (fun _ _ h => opT_ok h)) (fun _ _ h => opS_ok h)
theorem pNots_le (t : Tk) (ht : tkOK t) : ∀ n k, k ≤ t.2.2 → k ≤ (pNots t n k).1 ∧ (pNots t n k).1 ≤ t.2.2 ∧ ((pNots t n k).2 = true → k < (pNots t n k).1)
  | 0, k, h => ⟨Nat.le_refl _, h, fun q => by cases q⟩
  | n + 1, k, h => by
    unfold pNots
    split
    · rename_i hc
      obtain ⟨a, b, -⟩ := pNots_le t ht n (k + 1) (tk_lt ht h (by omega))
      exact ⟨by show k ≤ (pNots t n (k + 1)).1; omega, b, fun _ => by show k < (pNots t n (k + 1)).1; omega⟩
    · exact ⟨Nat.le_refl _, h, fun q => by cases q⟩
theorem is01_m2 {f g : Mean} {op : Int → Int → Option Int} (h : ∀ a b v, op a b = some v → v = 0 ∨ v = 1) : is01 (m2 f g op) := by
  intro e v q
  unfold m2 at q
  split at q
  · exact h _ _ _ q
  · cases q
theorem sg_pos {t : Tk} (ht : tkOK t) {n : Nat} {inner : Option Sub} (hi : ∀ s, inner = some s → SGt t s) : SGt t (pPos t n inner) := by
  intro k lv u r hk hlv hu h
  unfold pPos at h
  split at h
  · rename_i hc
    have hk1 := tk_lt ht hk (by omega)
    cases inner with
    | none => cases h
    | some s =>
      simp only at h
      cases hs : s (k + 1) lv u with
      | inl q => rw [hs] at h; cases h
      | inr r1 =>
        rw [hs] at h
        simp only at h
        split at h
        · rename_i hc1
          cases h
          obtain ⟨⟨⟨a1, a2⟩, a3, a4, a5, a6⟩, a7⟩ := hi s rfl (k + 1) lv u r1 (by omega) hlv (by omega) hs
          have h2 := tk_lt ht a2 (by omega)
          exact ⟨⟨⟨by show k < r1.1 + 1; omega, by show r1.1 + 1 ≤ _; omega⟩, a3, by show r1.2.2.2.1.length ≤ r1.1 + 1 - k; omega, a5, a6⟩, a7⟩
        · cases h
  · cases hs : pSum t n k lv u with
    | inl q => rw [hs] at h; cases h
    | inr r1 =>
      rw [hs] at h
      simp only at h
      have g1 := sg_sum ht n k lv u r1 hk hlv hu hs
      cases ho : opC (t.1 r1.1) with
      | none => rw [ho] at h; cases h
      | some o =>
        rw [ho] at h
        simp only at h
        obtain ⟨hc, ⟨m, hm, hok⟩, h01⟩ := opC_ok ho
        have hk1 := tk_lt ht g1.1.2 hc
        cases hs2 : pSum t n (r1.1 + 1) r1.2.1 (u + r1.2.2.2.1.length) with
        | inl q => rw [hs2] at h; cases h
        | inr s =>
          rw [hs2] at h
          simp only at h
          cases h
          have g2 := sg_sum ht n (r1.1 + 1) r1.2.1 (u + r1.2.2.2.1.length) s hk1 g1.2.1.2 (by have := g1.2.2.1; have := g1.1.1; omega) hs2
          have hb := pg_bin hok g1 g2
          rw [← hm] at hb
          exact ⟨hb, is01_m2 h01⟩
theorem sg_plain {t : Tk} (ht : tkOK t) {n : Nat} {inner : Option Sub} (hi : ∀ s, inner = some s → SGt t s) : SGt t (pPlain t n inner) := by
  intro k lv u r hk hlv hu h
  obtain ⟨n1, n2, n3⟩ := pNots_le t ht (t.2.2 + 1 - k) k hk
  unfold pPlain at h
  cases hs : pPos t n inner (pNots t (t.2.2 + 1 - k) k).1 lv u with
  | inl q => rw [hs] at h; cases h
  | inr r1 =>
    rw [hs] at h
    simp only at h
    obtain ⟨⟨⟨a1, a2⟩, a3, a4, a5, a6, a7⟩, a8⟩ := sg_pos ht hi _ lv u r1 n2 hlv (by omega) hs
    split at h
    · rename_i ht2
      cases h
      have := n3 ht2
      refine ⟨⟨⟨by show k < r1.1; omega, a2⟩, a3, ?_, CG_not a5 (fun i v _ q => a8 _ v q), ?_, a7⟩, ?_⟩
      · show (r1.2.2.2.1 ++ [9]).length ≤ r1.1 - k
        simp only [List.length_append, List.length_cons, List.length_nil]
        omega
      · intro e e' q
        show mNot r1.2.2.2.2 e = mNot r1.2.2.2.2 e'
        unfold mNot
        rw [a6 e e' q]
      · intro e v q
        change (r1.2.2.2.2 e).map (fun v => 1 - v) = some v at q
        cases hv : r1.2.2.2.2 e with
        | none => rw [hv] at q; cases q
        | some x =>
          rw [hv] at q
          cases q
          rcases a8 e x hv with rfl | rfl
          · exact Or.inr rfl
          · exact Or.inl rfl
    · cases h
      exact ⟨⟨⟨by omega, a2⟩, a3, by omega, a5, a6, a7⟩, a8⟩
theorem is01_jump {b : Bool} {f g : Mean} (hf : is01 f) (hg : is01 g) : is01 (mJump b f g) := by
  intro e v q
  unfold mJump at q
  split at q
  · cases q
  · rename_i x hx
    split at q
    · cases q; exact hf e _ hx
    · exact hg e v q
theorem dep_jump {m : Nat} {b : Bool} {f g : Mean} (hf : dep m f) (hg : dep m g) : dep m (mJump b f g) := fun e e' q => by unfold mJump; rw [hf e e' q, hg e e' q]
theorem pg_jump {t : Tk} (ht : tkOK t) {b : Bool} {k lv u : Nat} {r s : PD} (hu : u ≤ k) (hr : PG t k lv u r) (hs : PG t (r.1 + 1) r.2.1 (u + r.2.2.2.1.length + 1) s) : PG t k lv u (s.1, s.2.1, r.2.2.1 ||| s.2.2.1, r.2.2.2.1 ++ [jOrd b + 16 * ((u + r.2.2.2.1.length + 1 + s.2.2.2.1.length : Nat) : Int)] ++ s.2.2.2.1, mJump b r.2.2.2.2 s.2.2.2.2) := by
  obtain ⟨⟨a1, a2⟩, ⟨a3, a4⟩, a5, a6, a7, a8⟩ := hr
  obtain ⟨⟨b1, b2⟩, ⟨b3, b4⟩, b5, b6, b7, b8⟩ := hs
  have h400 := ht.1
  refine ⟨⟨by show k < s.1; omega, b2⟩, ⟨by show lv < s.2.1; omega, b4⟩, ?_, ?_, dep_jump (dep_or a7) (dep_or2 b7), Nat.or_lt_two_pow (n := 9) a8 b8⟩
  · simp only [List.length_append, List.length_cons, List.length_nil]
    omega
  · have := CG_jump (isOr := b) (by omega) a6 b6
    rw [show r.2.1 - lv + (s.2.1 - r.2.1) = s.2.1 - lv by omega] at this
    exact this
theorem sg_jump {t : Tk} (ht : tkOK t) {p : Sub} {b : Bool} (hp : SGt t p) {k lv u : Nat} (hu : u ≤ k) : ∀ n r r', PG t k lv u r → is01 r.2.2.2.2 → pJump t p b n u r = .inr r' → PG t k lv u r' ∧ is01 r'.2.2.2.2 := by
  intro n
  induction n with
  | zero => intro r r' _ _ h; cases h
  | succ n ih =>
    intro r r' hr h01 h
    unfold pJump at h
    split at h
    · rename_i hc
      have hk1 := tk_lt ht hr.1.2 (by rw [hc]; cases b <;> decide)
      obtain ⟨⟨a1, a2⟩, ⟨a3, a4⟩, a5, a6, a7, a8⟩ := hr
      cases hs : p (r.1 + 1) r.2.1 (u + r.2.2.2.1.length + 1) with
      | inl q => rw [hs] at h; cases h
      | inr s =>
        rw [hs] at h
        simp only at h
        obtain ⟨⟨⟨b1, b2⟩, ⟨b3, b4⟩, b5, b6, b7, b8⟩, b9⟩ := hp (r.1 + 1) r.2.1 (u + r.2.2.2.1.length + 1) s hk1 a4 (by omega) hs
        have h400 := ht.1
        have hb : PG t k lv u (s.1, s.2.1, r.2.2.1 ||| s.2.2.1, r.2.2.2.1 ++ [jOrd b + 16 * ((u + r.2.2.2.1.length + 1 + s.2.2.2.1.length : Nat) : Int)] ++ s.2.2.2.1, mJump b r.2.2.2.2 s.2.2.2.2) := by
          refine ⟨⟨by show k < s.1; omega, b2⟩, ⟨by show lv < s.2.1; omega, b4⟩, ?_, ?_, dep_jump (dep_or a7) (dep_or2 b7), Nat.or_lt_two_pow (n := 9) a8 b8⟩
          · simp only [List.length_append, List.length_cons, List.length_nil]
            omega
          · have := CG_jump (isOr := b) (by omega) a6 b6
            rw [show r.2.1 - lv + (s.2.1 - r.2.1) = s.2.1 - lv by omega] at this
            exact this
        exact ih _ _ hb (is01_jump h01 b9) h
    · cases h
      exact ⟨hr, h01⟩
theorem sg_jumps {t : Tk} (ht : tkOK t) {p : Sub} {b : Bool} (hp : SGt t p) : SGt t (pJumps t p b) := by
  intro k lv u r hk hlv hu h
  unfold pJumps at h
  cases hs : p k lv u with
  | inl q => rw [hs] at h; cases h
  | inr s =>
    rw [hs] at h
    obtain ⟨g1, g2⟩ := hp k lv u s hk hlv hu hs
    exact sg_jump ht hp hu _ _ _ g1 g2 h
theorem sg_test {t : Tk} (ht : tkOK t) : ∀ n, SGt t (pTest t n)
  | 0 => sg_jumps ht (sg_jumps ht (sg_plain ht (fun s h => by cases h)))
  | n + 1 => sg_jumps ht (sg_jumps ht (sg_plain ht (fun s h => by cases h; exact sg_test ht n)))
