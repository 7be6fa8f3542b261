/-! THE MODEL WORKS A LAW'S TOKENS OUT AS THEY MEAN -/
def ev (i : IM) (g b : Int) : IM := fun a k => if a = 99 ∧ k = 19 then g else if a = 99 ∧ k = 21 then b else i a k
theorem ev_go (i : IM) (g b : Int) : ev i g b 99 19 = g := if_pos ⟨rfl, rfl⟩
theorem ev_brk (i : IM) (g b : Int) : ev i g b 99 21 = b := by unfold ev; rw [if_neg (by decide), if_pos ⟨rfl, rfl⟩]
theorem ev_end (i : IM) (g b : Int) : ev i g b 99 20 = i 99 20 := by unfold ev; rw [if_neg (by decide), if_neg (by decide)]
theorem ev_oth (i : IM) (g b : Int) {a : Nat} (h : a ≠ 99) : ev i g b a = i a := by
  funext k
  unfold ev
  rw [if_neg (fun q => h q.1), if_neg (fun q => h q.1)]
theorem ev_101 (i : IM) (g b k : Int) : ev i g b 101 k = i 101 k := by rw [ev_oth _ _ _ (by decide)]
theorem ev_110 (i : IM) (g b k : Int) : ev i g b 110 k = i 110 k := by rw [ev_oth _ _ _ (by decide)]
theorem ev_u_go (i : IM) (g b x : Int) : u2 (ev i g b) 99 19 x = ev i x b := by
  funext a k
  unfold u2 ev
  by_cases h : a = 99 ∧ k = 19
  · rw [if_pos h, if_pos h]
  · rw [if_neg h, if_neg h, if_neg h]
theorem ev_u_b (i : IM) (g b x : Int) : u2 (ev i g b) 99 21 x = ev i g x := by
  funext a k
  unfold u2 ev
  by_cases h : a = 99 ∧ k = 21
  · rw [if_pos h, if_neg (by omega), if_pos h]
  · rw [if_neg h, if_neg h, if_neg h]
def TokAt (i : IM) (B : Nat) (t : Tk) : Prop := i 99 20 = ((B + t.2.2 : Nat) : Int) ∧ B + t.2.2 ≤ 2400 ∧ ∀ k : Nat, k < t.2.2 → i 101 (320 + ((B + k : Nat) : Int)) = t.1 k ∧ i 101 (2720 + ((B + k : Nat) : Int)) = t.2.1 k
theorem tok_c {i : IM} {B : Nat} {t : Tk} (ht : tkOK t) (h : TokAt i B t) {k : Nat} (hk : k ≤ t.2.2) (b : Int) : (if ev i ((B + k : Nat) : Int) b 99 19 < ev i ((B + k : Nat) : Int) b 99 20 then ev i ((B + k : Nat) : Int) b 101 (320 + ev i ((B + k : Nat) : Int) b 99 19) else 0) = t.1 k := by
  rw [ev_go, ev_end, ev_oth _ _ _ (by decide), h.1]
  by_cases e : k < t.2.2
  · rw [if_pos (by omega)]
    exact (h.2.2 k e).1
  · have : k = t.2.2 := by omega
    rw [if_neg (by omega), this, ht.2.1]
theorem tok_in {i : IM} {B : Nat} {t : Tk} (h : TokAt i B t) {k : Nat} (hk : k ≤ t.2.2) (b : Int) : ev i ((B + k : Nat) : Int) b 99 19 < ev i ((B + k : Nat) : Int) b 99 20 → 0 ≤ 320 + ev i ((B + k : Nat) : Int) b 99 19 ∧ 320 + ev i ((B + k : Nat) : Int) b 99 19 < 5120 := by
  rw [ev_go]
  have := h.2.1
  omega
theorem tok_d {i : IM} {B : Nat} {t : Tk} (ht : tkOK t) (h : TokAt i B t) {k : Nat} (hk : k ≤ t.2.2) : (if ((B + k : Nat) : Int) < i 99 20 then i 101 (320 + ((B + k : Nat) : Int)) else 0) = t.1 k := by
  have := tok_c ht h hk 0
  rw [ev_go, ev_end, ev_101] at this
  exact this
def envM (i : IM) : LEnv := fun x => i 110 (x : Int)
def envMOK (i : IM) : Prop := ∀ x : Nat, x < 9 → bd (i 110 (x : Int))
def l01 (x : Int) : Prop := x = 0 ∨ x = 1
theorem rg01 {x : Int} (h : l01 x) : rg x := by rcases h with rfl | rfl <;> exact rg_lit rfl
/-- what comes of it: b tells BROKEN, x the number -/
def evR (live brk : Int) (f : Mean) (e : LEnv) (x : Int64) (b : Int) : Prop := l01 b ∧ (live = 0 → b = brk) ∧ (live = 1 → brk = 1 → b = 1) ∧ (live = 1 → brk = 0 → (f e = none → b = 1) ∧ ∀ v, f e = some v → b = 0 ∧ x = Int64.ofInt v ∧ bd v)
def evL (X : MI) (n : Nat) (t : Tk) (k k' : Nat) (f : Mean) : Prop := ∀ (w : Wd) (d : Nat) (P : Int64 → IM → LM → Prop) (i : IM) (l : LM) (B : Nat) (live brk : Int), n ≤ d → TokAt i B t → envMOK i → l01 live → l01 brk → (∀ x b, evR live brk f (envM i) x b → P x (ev i ((B + k' : Nat) : Int) b) l) → cL w d X [vR (some 99), vI live] (ev i ((B + k : Nat) : Int) brk) l P
def EvS (t : Tk) (X : MI) (n : Nat) (p : Sub) : Prop := ∀ k lv u r, k ≤ t.2.2 → lv ≤ 50 → u ≤ k → p k lv u = .inr r → evL X n t k r.1 r.2.2.2.2
section
variable {w : Wd} {d : Nat} {i : IM} {l : LM}
theorem sp_passes {t : Tk} (ht : tkOK t) {B k : Nat} (hT : TokAt i B t) (hk : k ≤ t.2.2) (hd : 2 ≤ d) {b c : Int} (hc : rg c) {P : Int → IM → LM → Prop} (k1 : t.1 k = c → P 1 (ev i ((B + (k + 1) : Nat) : Int) b) l) (k0 : t.1 k ≠ c → P 0 (ev i ((B + k : Nat) : Int) b) l) : cI w d X_X12_passes0 [vR (some 99), vI c] (ev i ((B + k : Nat) : Int) b) l P := by
  obtain ⟨d, rfl, hd1⟩ := d_pos hd
  have h24 := hT.2.1
  refine e_X12_passes0 (s_X12_passes0 _ hd1 ⟨tok_in hT hk b, hc, fun q => ⟨?_, ?_⟩, fun q => ?_⟩)
  · rw [ev_go]; exact ⟨by omega, by omega⟩
  · rw [bI_t q, ev_u_go, ev_go]
    rw [tok_c ht hT hk] at q
    exact k1 q
  · rw [bI_f q]
    rw [tok_c ht hT hk] at q
    exact k0 q
def bdR (live b : Int) (z x : Int64) (b' : Int) : Prop := l01 b' ∧ (live = 0 → b' = b) ∧ (b = 1 → b' = 1) ∧ (live = 1 → b = 0 → ((¬ (1000000000 : Int64) < z ∧ (-1000000000 : Int64) ≤ z) → b' = 0 ∧ x = z) ∧ (¬ (¬ (1000000000 : Int64) < z ∧ (-1000000000 : Int64) ≤ z) → b' = 1))
theorem sp_bounded (hd : 1 ≤ d) {g b live : Int} {z : Int64} (hl : l01 live) (hb : l01 b) {P : Int64 → IM → LM → Prop} (k : ∀ x b', bdR live b z x b' → P x (ev i g b') l) : cL w d X_X12_bounded [vR (some 99), vL z, vI live] (ev i g b) l P := by
  obtain ⟨d, rfl, hd1⟩ := d_pos hd
  refine e_X12_bounded (s_X12_bounded _ _ ⟨rg01 hl, fun q => ?_, fun q => ?_⟩)
  · rw [ev_brk]
    refine k _ b ⟨hb, fun _ => rfl, fun h => h, fun h1 h2 => ⟨fun _ => ⟨h2, if_pos h2⟩, fun h => ?_⟩⟩
    rcases q with q | q
    · omega
    · exact absurd q h
  · rw [ev_u_b]
    refine k _ 1 ⟨Or.inr rfl, fun h => absurd (Or.inl h) q, fun _ => rfl, fun _ _ => ⟨fun h => absurd (Or.inr h) q, fun _ => rfl⟩⟩
theorem ev_part {t : Tk} (ht : tkOK t) {inner : Option Sub} {n m : Nat} (hi : ∀ s, inner = some s → SG t s ∧ EvS t X_X12_sumOf m s) (hn : 3 ≤ n) (hm : inner ≠ none → m + 1 ≤ n) : EvS t X_X12_partOf n (pPart t inner) := by
  intro k lv u r hk hlv hu h w d P i l B live brk hd hT hE hl hb hP
  obtain ⟨d, rfl, hd1⟩ := d_pos (Nat.le_trans hn hd)
  have h24 := hT.2.1
  refine e_X12_partOf (s_X12_partOf _ (by omega) ?_)
  unfold pPart at h
  split at h
  · rename_i hc
    have hk1 := tk_lt ht hk (by omega)
    refine sp_passes ht hT hk hd1 (rg_lit rfl) (fun _ => ⟨fun q => absurd q (by decide), fun _ => ?_⟩) (fun q => absurd hc q)
    cases inner with
    | none => cases h
    | some s =>
      simp only at h
      cases hs : s (k + 1) lv u with
      | inl q => rw [hs] at h; cases h
      | inr r1 =>
        rw [hs] at h
        simp only at h
        split at h
        · rename_i hc1
          cases h
          obtain ⟨g1, g2⟩ := hi s rfl
          have gp := g1 (k + 1) lv u r1 (by omega) hlv (by omega) hs
          have hmd := hm (fun e => by cases e)
          refine g2 (k + 1) lv u r1 (by omega) hlv (by omega) hs w d _ i l B live brk (by omega) hT hE hl hb (fun x b hR => ?_)
          rw [ev_u_go, ev_go]
          have h2 := gp.1.2
          exact ⟨⟨by omega, by omega⟩, hP x b hR⟩
        · cases h
  · rename_i hc
    refine sp_passes ht hT hk hd1 (rg_lit rfl) (fun q => absurd q hc) (fun _ => ⟨fun _ => ?_, fun q => absurd rfl q⟩)
    simp only [ev_go, ev_u_go, ev_brk, ev_end, ev_101, ev_110, tok_d ht hT hk]
    split at h
    · cases h
    · split at h
      · rename_i h50 hc2
        have hk1 := tk_lt ht hk (by omega)
        cases h
        refine ⟨fun _ => ⟨by omega, by omega⟩, ⟨by omega, by omega⟩, rg01 hl, fun q => ?_, fun q => ⟨fun z => absurd hc2.1 z, fun _ => ⟨by omega, by omega⟩, ?_⟩⟩
        · refine hP 0 brk ⟨hb, fun _ => rfl, fun _ h => h, fun h1 h2 => ?_⟩
          rcases q with q | q
          · omega
          · exact absurd h2 q
        · have hv := ht.2.2 k
          rw [if_pos hc2.1, show (2720 : Int) + (((B + k : Nat) : Int) + 1) - 1 = 2720 + ((B + k : Nat) : Int) by omega, (hT.2.2 k hk1).2, i2l_L64 ⟨by omega, by omega⟩]
          exact hP _ brk ⟨hb, fun _ => rfl, fun _ h => h, fun h1 h2 => ⟨fun z => (by cases z), fun v z => (by cases z; exact ⟨h2, rfl, by unfold bd; omega⟩)⟩⟩
      · split at h
        · rename_i h50 hc0 hc2
          have hk1 := tk_lt ht hk (by omega)
          cases h
          have h50n : ¬ t.1 k = 50 := by omega
          refine ⟨fun _ => ⟨by omega, by omega⟩, ⟨by omega, by omega⟩, rg01 hl, fun q => ?_, fun q => ⟨fun z => ⟨by omega, by omega⟩, fun z => absurd z h50n, ?_⟩⟩
          · refine hP 0 brk ⟨hb, fun _ => rfl, fun _ h => h, fun h1 h2 => ?_⟩
            rcases q with q | q
            · omega
            · exact absurd h2 q
          · obtain ⟨x, hx⟩ := Int.eq_ofNat_of_zero_le (show 0 ≤ t.1 k - 9 by omega)
            have hbx := hE x (by omega)
            rw [if_neg h50n, hx, i2l_L64 ⟨by have := hbx.1; omega, by have := hbx.2; omega⟩]
            refine hP _ brk ⟨hb, fun _ => rfl, fun _ h => h, fun h1 h2 => ⟨fun z => (by cases z), fun v z => ?_⟩⟩
            have z2 : some (envM i (t.1 k - 9).toNat) = some v := z
            rw [hx, Int.toNat_natCast] at z2
            cases z2
            exact ⟨h2, rfl, hbx⟩
        · cases h
/-- two numbers and their order, both ways of going on -/
theorem evR_bin {live brk b b2 b3 : Int} {f g : Mean} {e : LEnv} {x y z q : Int64} {op : Int → Int → Option Int} (hl : l01 live) (hbk : l01 brk) (h1 : evR live brk f e x b) (h2 : evR live b g e y b2) (h3 : bdR live b2 z q b3)
    (hz : live = 1 → b2 = 0 → ∀ a c, bd a → bd c → x = Int64.ofInt a → y = Int64.ofInt c → ∃ s : Int, (-9000000000000000000 ≤ s ∧ s ≤ 9000000000000000000) ∧ z = Int64.ofInt s ∧ op a c = bnd s) : evR live brk (m2 f g op) e q b3 := by
  obtain ⟨a1, a2, a3, a4⟩ := h1
  obtain ⟨c1, c2, c3, c4⟩ := h2
  obtain ⟨d1, d2, d3, d4⟩ := h3
  refine ⟨d1, fun h => (d2 h).trans ((c2 h).trans (a2 h)), fun h h' => d3 (c3 h (a3 h h')), fun h h' => ?_⟩
  obtain ⟨a5, a6⟩ := a4 h h'
  unfold m2
  cases hf : f e with
  | none => exact ⟨fun _ => d3 (c3 h (a5 hf)), fun v q => by cases q⟩
  | some a =>
    obtain ⟨e1, e2, e3⟩ := a6 a hf
    obtain ⟨c5, c6⟩ := c4 h e1
    cases hg : g e with
    | none => exact ⟨fun _ => d3 (c5 hg), fun v q => by cases q⟩
    | some c =>
      obtain ⟨g1, g2, g3⟩ := c6 c hg
      obtain ⟨s, s1, s2, s3⟩ := hz h g1 a c e3 g3 e2 g2
      obtain ⟨d5, d6⟩ := d4 h g1
      have t1 : (1000000000 : Int64) < z ↔ 1000000000 < s := by rw [s2]; exact L64_lt (a := 1000000000) ⟨by omega, by omega⟩ s1
      have cc : (-1000000000 : Int64) = Int64.ofInt (-1000000000) := by decide +kernel
      have t2 : (-1000000000 : Int64) ≤ z ↔ -1000000000 ≤ s := by rw [s2, cc]; exact L64_le (a := -1000000000) ⟨by omega, by omega⟩ s1
      rw [t1, t2] at d5 d6
      show (op a c = none → b3 = 1) ∧ ∀ v, op a c = some v → b3 = 0 ∧ q = Int64.ofInt v ∧ bd v
      rw [s3]
      unfold bnd
      by_cases hs : -1000000000 ≤ s ∧ s ≤ 1000000000
      · rw [if_pos hs]
        obtain ⟨k1, k2⟩ := d5 ⟨by omega, by omega⟩
        exact ⟨fun q => (by cases q), fun v q => (by cases q; exact ⟨k1, k2.trans s2, hs⟩)⟩
      · rw [if_neg hs]
        exact ⟨fun _ => d6 (fun q => hs ⟨by omega, by omega⟩), fun v q => by cases q⟩
end
