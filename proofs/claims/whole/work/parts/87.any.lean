/-! whether there is a GOOD one -/
section
def anP (C : PC) (Z : RW) (n t : Nat) (o : Nat → Nat) : Prop := ∃ o', ext C.1 n t o o' ∧ gd Z n o' = true
theorem exAn_node {C : PC} {Z : RW} {M : Int64} {n : Nat} (hC : hasC C n) (hZ : RWok C Z n) (hM : Mok Z M) (hM2 : ∀ v, v < 8 → Bt M v = 255 ∨ Bt M v = 0) (r t : Nat) (o : Nat → Nat) (op : Nat) (s : SA) (ht : t + (r + 1) = n) (hcl : clo C Z n t o op) (hs : 0 ≤ s.1) (ih : ∀ (c : Nat) (s : SA) (l : Nat), C.1 t c = true → c < 3 → lk Z t c o op = some l → l ≠ 0 → 0 ≤ s.1 → s.1 ≤ (exX C Z 1 M r (t + 1) (upN o t c) l s).1 ∧ (0 < (exX C Z 1 M r (t + 1) (upN o t c) l s).1 ↔ 0 < s.1 ∨ anP C Z n (t + 1) (upN o t c))) : s.1 ≤ (exX C Z 1 M (r + 1) t o op s).1 ∧ (0 < (exX C Z 1 M (r + 1) t o op s).1 ↔ 0 < s.1 ∨ anP C Z n t o) := by
  have hpos := sx_pos hC r (t + 1) (by omega)
  have key : ∀ c s, c < 3 → 0 ≤ s.1 → s.1 ≤ (exC C Z 1 M r t o op c s).1 ∧ (0 < (exC C Z 1 M r t o op c s).1 → 0 < s.1 ∨ anP C Z n t o) ∧ (C.1 t c = true → od C Z 1 t c o op M = false → anP C Z n (t + 1) (upN o t c) → 0 < (exC C Z 1 M r t o op c s).1) := by
    intro c s hc hs
    unfold exC
    by_cases m : C.1 t c = true
    · by_cases g : 0 < s.1
      · rw [if_pos (Or.inr ⟨rfl, g⟩)]
        exact ⟨Int.le_refl _, fun _ => Or.inl g, fun _ _ _ => g⟩
      · rw [if_neg (by rw [m]; intro z; rcases z with z | z; cases z; exact g z.2)]
        by_cases b2 : od C Z 1 t c o op M = true
        · rw [if_pos (Or.inr ⟨by decide, b2⟩)]
          exact ⟨Int.le_refl _, fun z => Or.inl z, fun _ h => by rw [b2] at h; cases h⟩
        · rw [if_neg (by rintro (z | z); exact absurd z.1 (by decide); exact b2 z.2)]
          cases hl : lk Z t c o op with
          | none => exact ⟨Int.le_refl _, fun z => Or.inl z, fun _ _ ⟨o', he, hg⟩ => by rw [lk_dead hZ (by omega) hl he] at hg; cases hg⟩
          | some l =>
            have hcl2 := lk_clo hZ (by omega) m hc hcl hl
            show s.1 ≤ (if l = 0 then addB (blk C r (t + 1) (upN o t c)) s else exX C Z 1 M r (t + 1) (upN o t c) l s).1 ∧ (0 < (if l = 0 then addB (blk C r (t + 1) (upN o t c)) s else exX C Z 1 M r (t + 1) (upN o t c) l s).1 → 0 < s.1 ∨ anP C Z n t o) ∧ (C.1 t c = true → od C Z 1 t c o op M = false → anP C Z n (t + 1) (upN o t c) → 0 < (if l = 0 then addB (blk C r (t + 1) (upN o t c)) s else exX C Z 1 M r (t + 1) (upN o t c) l s).1)
            by_cases z : l = 0
            · subst z
              rw [if_pos rfl]
              have hb := blk_ext (r := r) (t := t + 1) hC (by omega) (upN o t c)
              have hgood := clo_good hcl2 hb.1
              have e : (addB (blk C r (t + 1) (upN o t c)) s).1 = s.1 + (sx C r (t + 1)).1 := rfl
              rw [e]
              have := hpos.2
              exact ⟨by omega, fun _ => Or.inr ⟨_, ext_up m hc hb.1, hgood⟩, fun _ _ _ => by omega⟩
            · rw [if_neg z]
              have := ih c s l m hc hl z hs
              refine ⟨this.1, fun y => ?_, fun _ _ y => this.2.mpr (Or.inr y)⟩
              rcases this.2.mp y with y | ⟨o', y1, y2⟩
              · exact Or.inl y
              · exact Or.inr ⟨o', ext_up m hc y1, y2⟩
    · rw [if_pos (Or.inl (by simpa using m))]
      exact ⟨Int.le_refl _, fun z => Or.inl z, fun z => absurd z m⟩
  rw [exX_s]
  have k0 := key 0 s (by omega) hs
  have k1 := key 1 (exC C Z 1 M r t o op 0 s) (by omega) (by have := k0.1; omega)
  have k2 := key 2 (exC C Z 1 M r t o op 1 (exC C Z 1 M r t o op 0 s)) (by omega) (by have := k0.1; have := k1.1; omega)
  have a0 := k0.1
  have a1 := k1.1
  have a2 := k2.1
  refine ⟨by omega, fun h => ?_, fun h => ?_⟩
  · rcases k2.2.1 h with h | h
    · rcases k1.2.1 h with h | h
      · exact k0.2.1 h
      · exact Or.inr h
    · exact Or.inr h
  · rcases h with h | ⟨o', he, hg⟩
    · omega
    · have hm := he.2 t (Nat.le_refl _) (by omega)
      obtain ⟨x, hx, hxm, hxo, hxd⟩ := od_ex (Z := Z) (aim := 1) (o := o) (op := op) hM2 hm.2 hm.1
      have hup : anP C Z n (t + 1) (upN o t x) → 0 < (exC C Z 1 M r t o op 2 (exC C Z 1 M r t o op 1 (exC C Z 1 M r t o op 0 s))).1 := by
        intro ha
        have : x = 0 ∨ x = 1 ∨ x = 2 := by omega
        rcases this with e | e | e <;> subst e
        · have := k0.2.2 hxm hxo ha; omega
        · have := k1.2.2 hxm hxo ha; omega
        · exact k2.2.2 hxm hxo ha
      rcases hxd with e | ⟨e1, e2⟩
      · subst e
        exact hup ⟨o', ext_dn he, hg⟩
      · have sw := good_swap hZ hM (by omega) hcl he hxm hx e2 hg
        refine hup ⟨upN o' t x, ?_, sw.2⟩
        have := ext_dn sw.1
        rw [upN_at] at this
        exact this
theorem exX_any {C : PC} {Z : RW} {M : Int64} {n : Nat} (hC : hasC C n) (hZ : RWok C Z n) (hM : Mok Z M) (hM2 : ∀ v, v < 8 → Bt M v = 255 ∨ Bt M v = 0) : ∀ (r t : Nat) (o : Nat → Nat) (op : Nat) (s : SA), t + (r + 1) = n → clo C Z n t o op → 0 ≤ s.1 → s.1 ≤ (exX C Z 1 M (r + 1) t o op s).1 ∧ (0 < (exX C Z 1 M (r + 1) t o op s).1 ↔ 0 < s.1 ∨ anP C Z n t o) := by
  intro r
  induction r with
  | zero => ?z
  | succ r ih => ?s
  case z =>
    intro t o op s ht hcl hs
    exact exAn_node hC hZ hM hM2 0 t o op s ht hcl hs (fun c s l _ _ hl hne => absurd (lk_last hZ ht hl) hne)
  case s =>
    intro t o op s ht hcl hs
    exact exAn_node hC hZ hM hM2 (r + 1) t o op s ht hcl hs (fun c s l hm hc hl hne hs => ih (t + 1) (upN o t c) l s (by omega) (lk_clo hZ (by omega) hm hc hcl hl) hs)
end
