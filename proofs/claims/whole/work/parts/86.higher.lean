/-! the highest VALUE, and whether there is a GOOD one, by a search that leaves out what is outdone -/
section
theorem sumL_top {C : PC} {t : Nat} : ∀ k x, sumL C t k = some x → (C.1 t x.2.2.2.1 = true ∧ x.2.2.2.1 < k ∧ C.2.1 t x.2.2.2.1 = x.2.2.1) ∧ ∀ c, c < k → C.1 t c = true → C.2.1 t c ≤ x.2.2.1
  | 0, x, h => by cases h
  | k + 1, x, h => by
    have ih := sumL_top (C := C) (t := t) k
    have h : joinL (C.1 t k) (lE C t k) (sumL C t k) = some x := h
    cases hs : sumL C t k with
    | none =>
      have hno : ∀ c, c < k → C.1 t c = true → False := by
        intro c hc hm
        obtain ⟨y, hy⟩ := sumL_some (C := C) (t := t) k ⟨c, hc, hm⟩
        rw [hs] at hy; cases hy
      rw [hs, joinL_n] at h
      by_cases m : C.1 t k = true
      · rw [if_pos m] at h
        cases h
        refine ⟨⟨m, by show k < k + 1; omega, rfl⟩, fun c hc hm => ?_⟩
        by_cases e : c = k
        · subst e; exact Int.le_refl _
        · exact absurd hm (fun z => hno c (by omega) z)
      · rw [if_neg m] at h
        cases h
    | some y =>
      have := ih y hs
      rw [hs, joinL_s] at h
      by_cases m : C.1 t k = true
      · rw [if_pos m] at h
        cases h
        unfold mrgL
        show (C.1 t (if y.2.2.1 < C.2.1 t k then k else y.2.2.2.1) = true ∧ (if y.2.2.1 < C.2.1 t k then k else y.2.2.2.1) < k + 1 ∧ C.2.1 t (if y.2.2.1 < C.2.1 t k then k else y.2.2.2.1) = max y.2.2.1 (C.2.1 t k)) ∧ ∀ c, c < k + 1 → C.1 t c = true → C.2.1 t c ≤ max y.2.2.1 (C.2.1 t k)
        refine ⟨?_, fun c hc hm => ?_⟩
        · by_cases z : y.2.2.1 < C.2.1 t k
          · rw [if_pos z]
            exact ⟨m, by omega, by omega⟩
          · rw [if_neg z]
            exact ⟨this.1.1, by have := this.1.2.1; omega, by rw [this.1.2.2]; omega⟩
        · by_cases e : c = k
          · subst e; omega
          · have := this.2 c (by omega) hm; omega
      · rw [if_neg m] at h
        cases h
        refine ⟨⟨this.1.1, by have := this.1.2.1; omega, this.1.2.2⟩, fun c hc hm => ?_⟩
        by_cases e : c = k
        · subst e; exact absurd hm m
        · exact this.2 c (by omega) hm
theorem loc_top {C : PC} {n t : Nat} (h : hasC C n) (ht : t < n) : (C.1 t (loc C t).2.2.2.1 = true ∧ (loc C t).2.2.2.1 < 3 ∧ C.2.1 t (loc C t).2.2.2.1 = (loc C t).2.2.1) ∧ ∀ c, c < 3 → C.1 t c = true → C.2.1 t c ≤ (loc C t).2.2.1 := sumL_top 3 _ (loc_pos h ht).1
/-- no more than the top -/
theorem vs_top {C : PC} {n : Nat} (hC : hasC C n) {o' : Nat → Nat} : ∀ r t, t + r = n → (∀ j, t ≤ j → j < n → C.1 j (o' j) = true ∧ o' j < 3) → vs C.2.1 o' n ≤ vs C.2.1 o' t + (sx C r t).2.2.1
  | 0, t, ht, _ => by
    have e : t = n := by omega
    subst e
    show vs C.2.1 o' t ≤ vs C.2.1 o' t + 0
    omega
  | r + 1, t, ht, h => by
    have ih := vs_top hC (o' := o') r (t + 1) (by omega) (fun j h1 h2 => h j (by omega) h2)
    have hm := h t (by omega) (by omega)
    have hl := (loc_top hC (show t < n by omega)).2 (o' t) hm.2 hm.1
    have e1 : vs C.2.1 o' (t + 1) = vs C.2.1 o' t + C.2.1 t (o' t) := rfl
    have e2 : (sx C (r + 1) t).2.2.1 = (sx C r (t + 1)).2.2.1 + (loc C t).2.2.1 := rfl
    omega
/-- and the top is reached -/
theorem vs_arg {C : PC} {n : Nat} (hC : hasC C n) {o' : Nat → Nat} : ∀ r t, t + r = n → (∀ j, t ≤ j → j < n → o' j = (loc C j).2.2.2.1) → vs C.2.1 o' n = vs C.2.1 o' t + (sx C r t).2.2.1
  | 0, t, ht, _ => by
    have e : t = n := by omega
    subst e
    show vs C.2.1 o' t = vs C.2.1 o' t + 0
    omega
  | r + 1, t, ht, h => by
    have ih := vs_arg hC (o' := o') r (t + 1) (by omega) (fun j h1 h2 => h j (by omega) h2)
    have hl := (loc_top hC (show t < n by omega)).1.2.2
    rw [← h t (by omega) (by omega)] at hl
    have e1 : vs C.2.1 o' (t + 1) = vs C.2.1 o' t + C.2.1 t (o' t) := rfl
    have e2 : (sx C (r + 1) t).2.2.1 = (sx C r (t + 1)).2.2.1 + (loc C t).2.2.1 := rfl
    omega
theorem blk_ext {C : PC} {n r t : Nat} (hC : hasC C n) (ht : t + r = n) (o : Nat → Nat) : ext C.1 n t o (blk C r t o).2.2.2.1 ∧ vs C.2.1 (blk C r t o).2.2.2.1 n = (blk C r t o).2.2.1 := by
  have hf : (blk C r t o).2.2.2.1 = (fun j => if j < t then o j else (loc C j).2.2.2.1) := rfl
  have hv : (blk C r t o).2.2.1 = vs C.2.1 o t + (sx C r t).2.2.1 := rfl
  rw [hf, hv]
  refine ⟨⟨fun j hj => if_pos hj, fun j h1 h2 => ?_⟩, ?_⟩
  · have : (if j < t then o j else (loc C j).2.2.2.1) = (loc C j).2.2.2.1 := if_neg (by omega)
    show C.1 j (if j < t then o j else (loc C j).2.2.2.1) = true ∧ (if j < t then o j else (loc C j).2.2.2.1) < 3
    rw [this]
    have := (loc_top hC h2).1
    exact ⟨this.1, this.2.1⟩
  · rw [vs_arg hC r t ht (fun j h1 h2 => if_neg (by omega)), vs_cg (o' := o) (fun j hj => if_pos hj)]
theorem upB_v {T p : Int} {f : Nat → Nat} {s : BS} (hT : 0 < T) (hs : 0 < s.1) : 0 < (upB T p f s).1 ∧ (upB T p f s).2.1 = max s.2.1 p := by
  unfold upB
  split
  · exact ⟨hs, by omega⟩
  · split
    · exact ⟨by show 0 < s.1 + T; omega, by show s.2.1 = max s.2.1 p; omega⟩
    · next h1 h2 =>
      refine ⟨hT, ?_⟩
      show p = max s.2.1 p
      have a1 : ¬ p < s.2.1 := fun z => h1 ⟨hs, z⟩
      omega
def hiP (C : PC) (Z : RW) (n t : Nat) (o : Nat → Nat) (v x : Int) : Prop := v ≤ x ∧ (x = v ∨ ∃ o', ext C.1 n t o o' ∧ gd Z n o' = true ∧ vs C.2.1 o' n = x)
theorem hiP_up {C : PC} {Z : RW} {n t c : Nat} {o : Nat → Nat} {v x : Int} (hm : C.1 t c = true) (hc : c < 3) (h : hiP C Z n (t + 1) (upN o t c) v x) : hiP C Z n t o v x := by
  refine ⟨h.1, ?_⟩
  rcases h.2 with e | ⟨o', h1, h2, h3⟩
  · exact Or.inl e
  · exact Or.inr ⟨o', ext_up hm hc h1, h2, h3⟩
theorem hiP_tr {C : PC} {Z : RW} {n t : Nat} {o : Nat → Nat} {v x y : Int} (h1 : hiP C Z n t o v x) (h2 : hiP C Z n t o x y) : hiP C Z n t o v y := by
  refine ⟨by have := h1.1; have := h2.1; omega, ?_⟩
  rcases h2.2 with e | e
  · subst e; exact h1.2
  · exact Or.inr e
theorem exHi_node {C : PC} {Z : RW} {M : Int64} {n : Nat} (hC : hasC C n) (hZ : RWok C Z n) (hM : Mok Z M) (hM2 : ∀ v, v < 8 → Bt M v = 255 ∨ Bt M v = 0) (r t : Nat) (o : Nat → Nat) (op : Nat) (s : SA) (ht : t + (r + 1) = n) (hcl : clo C Z n t o op) (hs : 0 < s.2.1.1) (ih : ∀ (c : Nat) (s : SA) (l : Nat), C.1 t c = true → c < 3 → lk Z t c o op = some l → l ≠ 0 → 0 < s.2.1.1 → 0 < (exX C Z 2 M r (t + 1) (upN o t c) l s).2.1.1 ∧ hiP C Z n (t + 1) (upN o t c) s.2.1.2.1 (exX C Z 2 M r (t + 1) (upN o t c) l s).2.1.2.1 ∧ ∀ o', ext C.1 n (t + 1) (upN o t c) o' → gd Z n o' = true → vs C.2.1 o' n ≤ (exX C Z 2 M r (t + 1) (upN o t c) l s).2.1.2.1) : 0 < (exX C Z 2 M (r + 1) t o op s).2.1.1 ∧ hiP C Z n t o s.2.1.2.1 (exX C Z 2 M (r + 1) t o op s).2.1.2.1 ∧ ∀ o', ext C.1 n t o o' → gd Z n o' = true → vs C.2.1 o' n ≤ (exX C Z 2 M (r + 1) t o op s).2.1.2.1 := by
  have hpos := sx_pos hC r (t + 1) (by omega)
  have key : ∀ c s, c < 3 → 0 < s.2.1.1 → 0 < (exC C Z 2 M r t o op c s).2.1.1 ∧ hiP C Z n t o s.2.1.2.1 (exC C Z 2 M r t o op c s).2.1.2.1 ∧ (C.1 t c = true → od C Z 2 t c o op M = false → ∀ o', ext C.1 n (t + 1) (upN o t c) o' → gd Z n o' = true → vs C.2.1 o' n ≤ (exC C Z 2 M r t o op c s).2.1.2.1) := by
    intro c s hc hs
    unfold exC
    by_cases m : C.1 t c = true
    · rw [if_neg (by rw [m]; intro z; rcases z with z | z; cases z; exact absurd z.1 (by decide))]
      by_cases b1 : vs C.2.1 o t + C.2.1 t c + (sx C r (t + 1)).2.2.1 ≤ s.2.1.2.1
      · rw [if_pos (Or.inl ⟨rfl, b1⟩)]
        refine ⟨hs, ⟨Int.le_refl _, Or.inl rfl⟩, fun _ _ o' he _ => ?_⟩
        have h1 := vs_top hC (o' := o') r (t + 1) (by omega) he.2
        rw [vs_cg (o := o') (o' := upN o t c) he.1, vs_up] at h1
        omega
      · by_cases b2 : od C Z 2 t c o op M = true
        · rw [if_pos (Or.inr ⟨by decide, b2⟩)]
          exact ⟨hs, ⟨Int.le_refl _, Or.inl rfl⟩, fun _ h => by rw [b2] at h; cases h⟩
        · rw [if_neg (by rintro (z | z); exact b1 z.2; exact b2 z.2)]
          cases hl : lk Z t c o op with
          | none => exact ⟨hs, ⟨Int.le_refl _, Or.inl rfl⟩, fun _ _ o' he hg => by rw [lk_dead hZ (by omega) hl he] at hg; cases hg⟩
          | some l =>
            have hcl2 := lk_clo hZ (by omega) m hc hcl hl
            show 0 < (if l = 0 then addB (blk C r (t + 1) (upN o t c)) s else exX C Z 2 M r (t + 1) (upN o t c) l s).2.1.1 ∧ hiP C Z n t o s.2.1.2.1 (if l = 0 then addB (blk C r (t + 1) (upN o t c)) s else exX C Z 2 M r (t + 1) (upN o t c) l s).2.1.2.1 ∧ (C.1 t c = true → od C Z 2 t c o op M = false → ∀ o', ext C.1 n (t + 1) (upN o t c) o' → gd Z n o' = true → vs C.2.1 o' n ≤ (if l = 0 then addB (blk C r (t + 1) (upN o t c)) s else exX C Z 2 M r (t + 1) (upN o t c) l s).2.1.2.1)
            by_cases z : l = 0
            · subst z
              rw [if_pos rfl]
              have hu := upB_v (T := (blk C r (t + 1) (upN o t c)).2.1) (p := (blk C r (t + 1) (upN o t c)).2.2.1) (f := (blk C r (t + 1) (upN o t c)).2.2.2.1) hpos.1 hs
              have hb := blk_ext (r := r) (t := t + 1) hC (by omega) (upN o t c)
              have hgood := clo_good hcl2 hb.1
              have ev : (addB (blk C r (t + 1) (upN o t c)) s).2.1.2.1 = max s.2.1.2.1 (blk C r (t + 1) (upN o t c)).2.2.1 := hu.2
              refine ⟨hu.1, ?_, fun _ _ o' he _ => ?_⟩
              · rw [ev]
                refine ⟨by omega, ?_⟩
                by_cases y : (blk C r (t + 1) (upN o t c)).2.2.1 ≤ s.2.1.2.1
                · left; omega
                · right
                  exact ⟨_, ext_up m hc hb.1, hgood, by rw [hb.2]; omega⟩
              · rw [ev]
                have h1 := vs_top hC (o' := o') r (t + 1) (by omega) he.2
                rw [vs_cg (o := o') (o' := upN o t c) he.1] at h1
                have e2 : (blk C r (t + 1) (upN o t c)).2.2.1 = vs C.2.1 (upN o t c) (t + 1) + (sx C r (t + 1)).2.2.1 := rfl
                omega
            · rw [if_neg z]
              have := ih c s l m hc hl z hs
              exact ⟨this.1, hiP_up m hc this.2.1, fun _ _ => this.2.2⟩
    · rw [if_pos (Or.inl (by simpa using m))]
      exact ⟨hs, ⟨Int.le_refl _, Or.inl rfl⟩, fun z => absurd z m⟩
  rw [exX_s]
  have k0 := key 0 s (by omega) hs
  have k1 := key 1 _ (by omega) k0.1
  have k2 := key 2 _ (by omega) k1.1
  have hall := hiP_tr k0.2.1 (hiP_tr k1.2.1 k2.2.1)
  refine ⟨k2.1, hall, fun o' he hg => ?_⟩
  have hup : ∀ x o', x < 3 → C.1 t x = true → od C Z 2 t x o op M = false → ext C.1 n (t + 1) (upN o t x) o' → gd Z n o' = true → vs C.2.1 o' n ≤ (exC C Z 2 M r t o op 2 (exC C Z 2 M r t o op 1 (exC C Z 2 M r t o op 0 s))).2.1.2.1 := by
    intro x o' hx hm ho he hg
    have : x = 0 ∨ x = 1 ∨ x = 2 := by omega
    rcases this with e | e | e <;> subst e
    · have a1 := k0.2.2 hm ho o' he hg
      have a2 := k1.2.1.1
      have a3 := k2.2.1.1
      omega
    · have a1 := k1.2.2 hm ho o' he hg
      have a3 := k2.2.1.1
      omega
    · exact k2.2.2 hm ho o' he hg
  have hm := he.2 t (Nat.le_refl _) (by omega)
  obtain ⟨x, hx, hxm, hxo, hxd⟩ := od_ex (Z := Z) (aim := 2) (o := o) (op := op) hM2 hm.2 hm.1
  rcases hxd with e | ⟨e1, e2⟩
  · subst e
    exact hup _ o' hx hxm hxo (ext_dn he) hg
  · have sw := good_swap hZ hM (by omega) hcl he hxm hx e2 hg
    have h1 := hup x (upN o' t x) hx hxm hxo (by
      have := ext_dn sw.1
      rw [upN_at] at this
      exact this) sw.2
    have hge : vs C.2.1 o' n ≤ vs C.2.1 (upN o' t x) n := by
      have e1' : C.2.1 t (o' t) ≤ C.2.1 t x := by simpa [gnA] using e1
      have : ∀ k, t + 1 + k ≤ n → vs C.2.1 o' (t + 1 + k) + C.2.1 t x = vs C.2.1 (upN o' t x) (t + 1 + k) + C.2.1 t (o' t) := by
        intro k
        induction k with
        | zero =>
          intro _
          rw [Nat.add_zero, vs_up]
          show vs C.2.1 o' t + C.2.1 t (o' t) + C.2.1 t x = _
          omega
        | succ k ihk =>
          intro hk
          have := ihk (by omega)
          have e3 : upN o' t x (t + 1 + k) = o' (t + 1 + k) := if_neg (by omega)
          show vs C.2.1 o' (t + 1 + k) + C.2.1 (t + 1 + k) (o' (t + 1 + k)) + C.2.1 t x = vs C.2.1 (upN o' t x) (t + 1 + k) + C.2.1 (t + 1 + k) (upN o' t x (t + 1 + k)) + C.2.1 t (o' t)
          rw [e3]; omega
      have := this (n - (t + 1)) (by omega)
      rw [show t + 1 + (n - (t + 1)) = n by omega] at this
      omega
    omega
theorem exX_high {C : PC} {Z : RW} {M : Int64} {n : Nat} (hC : hasC C n) (hZ : RWok C Z n) (hM : Mok Z M) (hM2 : ∀ v, v < 8 → Bt M v = 255 ∨ Bt M v = 0) : ∀ (r t : Nat) (o : Nat → Nat) (op : Nat) (s : SA), t + (r + 1) = n → clo C Z n t o op → 0 < s.2.1.1 → 0 < (exX C Z 2 M (r + 1) t o op s).2.1.1 ∧ hiP C Z n t o s.2.1.2.1 (exX C Z 2 M (r + 1) t o op s).2.1.2.1 ∧ ∀ o', ext C.1 n t o o' → gd Z n o' = true → vs C.2.1 o' n ≤ (exX C Z 2 M (r + 1) t o op s).2.1.2.1 := by
  intro r
  induction r with
  | zero => ?z
  | succ r ih => ?s
  case z =>
    intro t o op s ht hcl hs
    refine exHi_node hC hZ hM hM2 0 t o op s ht hcl hs (fun c s l _ _ hl hne => absurd (lk_last hZ ht hl) hne)
  case s =>
    intro t o op s ht hcl hs
    refine exHi_node hC hZ hM hM2 (r + 1) t o op s ht hcl hs (fun c s l hm hc hl hne hs => ih (t + 1) (upN o t c) l s (by omega) (lk_clo hZ (by omega) hm hc hcl hl) hs)
end
