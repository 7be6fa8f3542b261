/-! the search finds what all PAINTINGS give -/
section
theorem vs_swap {g : Nat → Nat → Int} {o' : Nat → Nat} {n t x : Nat} (ht : t < n) : vs g (upN o' t x) n + g t (o' t) = vs g o' n + g t x := by
  have : ∀ k, t + 1 + k ≤ n → vs g (upN o' t x) (t + 1 + k) + g t (o' t) = vs g o' (t + 1 + k) + g t x := by
    intro k
    induction k with
    | zero =>
      intro _
      rw [Nat.add_zero, vs_up]
      show vs g o' t + g t x + g t (o' t) = vs g o' t + g t (o' t) + g t x
      omega
    | succ k ihk =>
      intro hk
      have := ihk (by omega)
      have e3 : upN o' t x (t + 1 + k) = o' (t + 1 + k) := if_neg (by omega)
      show vs g (upN o' t x) (t + 1 + k) + g (t + 1 + k) (upN o' t x (t + 1 + k)) + g t (o' t) = vs g o' (t + 1 + k) + g (t + 1 + k) (o' (t + 1 + k)) + g t x
      rw [e3]; omega
  have := this (n - (t + 1)) (by omega)
  rw [show t + 1 + (n - (t + 1)) = n by omega] at this
  exact this
theorem ext_swap {may : Nat → Nat → Bool} {n t a : Nat} {o o' : Nat → Nat} (he : ext may n t o o') (hma : may t a = true) (ha : a < 3) : ext may n t o (upN o' t a) := by
  refine ⟨fun j hj => by rw [upN_lt hj]; exact he.1 j hj, fun j h1 h2 => ?_⟩
  by_cases e : j = t
  · subst e; rw [upN_at]; exact ⟨hma, ha⟩
  · have : upN o' t a j = o' j := if_neg e
    rw [this]; exact he.2 j h1 h2
theorem tM_swap {C : PC} {pr : Nat → Nat → Int} {Z : RW} {sh : Int64 → Int} {n t x : Nat} (hZ : RWok C Z n) (hsh : shOK sh) (ht : t < n) {o o' : Nat → Nat} {F : Int64} {op : Nat} (hi : inM C Z n t o F op) (he : ext C.1 n t o o') (hm : C.1 t x = true) (hx : x < 3) (hn : nm Z t x (o' t) o op (matM F) = true) : (tM C pr Z sh n).1 (upN o' t x) ≤ (tM C pr Z sh n).1 o' - pr t (o' t) + pr t x := by
  have he2 := ext_swap he hm hx
  have hv := vs_swap (g := pr) (o' := o') (x := x) ht
  have hs : sh (FLs Z n (upN o' t x)) ≤ sh (FLs Z n o') := by
    refine hsh.2 _ _ (flGo_b _ _ _ _) (flGo_b _ _ _ _) (fun v hv hF => ?_)
    rcases hi.1 v hv with e | e
    · obtain ⟨q, q1, q2⟩ := (flGo_iff hZ _ hv Z.1 (Nat.le_refl _)).mp hF
      cases a : op.testBit q with
      | false =>
        have := hi.2.2 q q1 a _ he2 v hv q2
        omega
      | true =>
        have s1 := nm_sub hn q1 a hv ((matM_B hi.1 v hv).1 e)
        rw [vw_cg (o := o) (o' := o') (fun j hj => (he.1 j hj).symm)] at s1
        have := sub_cnt (vw_swap rfl s1 (n - (t + 1))) 8
        rw [show t + 1 + (n - (t + 1)) = n by omega] at this
        exact (flGo_iff hZ _ hv Z.1 (Nat.le_refl _)).mpr ⟨q, q1, by omega⟩
    · exact hi.2.1 o' he v hv e
  show vs pr (upN o' t x) n + sh (FLs Z n (upN o' t x)) ≤ vs pr o' n + sh (FLs Z n o') - pr t (o' t) + pr t x
  omega
theorem exM_node {C : PC} {pr : Nat → Nat → Int} {Z : RW} {sh : Int64 → Int} {n : Nat} (hp : prOK pr) (hC : hasM C.1 n) (hZ : RWok C Z n) (hsh : shOK sh) (r t : Nat) (o : Nat → Nat) (F : Int64) (op : Nat) (s : MS) (ht : t + (r + 1) = n) (hi : inM C Z n t o F op) (ih : ∀ (c : Nat) (s : MS), C.1 t c = true → c < 3 → soM Z (t + 1) (upN o t c) (F ||| lkM Z t c o op Z.1) op Z.1 ≠ 0 → mQ (tM C pr Z sh n) n (ext C.1 n (t + 1) (upN o t c)) s (exM C pr Z sh r (t + 1) (upN o t c) (F ||| lkM Z t c o op Z.1) (soM Z (t + 1) (upN o t c) (F ||| lkM Z t c o op Z.1) op Z.1) s)) : mQ (tM C pr Z sh n) n (ext C.1 n t o) s (exM C pr Z sh (r + 1) t o F op s) := by
  have hM2 : ∀ v, v < 8 → Bt (matM F) v = 255 ∨ Bt (matM F) v = 0 := by
    intro v hv
    rcases hi.1 v hv with e | e
    · exact Or.inl ((matM_B hi.1 v hv).1 e)
    · exact Or.inr ((matM_B hi.1 v hv).2 e)
  have key : ∀ c s, c < 3 → mQ (tM C pr Z sh n) n (fun o' => exE C.1 n t o c o' ∧ odM C pr Z F t c o op = false) s (exMc C pr Z sh r t o F op c s) := by
    intro c s hc
    unfold exMc
    by_cases m : C.1 t c = true
    · have hlow : ∀ o', exE C.1 n t o c o' → vs pr o t + pr t c + ch C.1 pr r (t + 1) ≤ vs pr o' n := by
        intro o' he
        have := (ch_le hp hC (o' := o') r (t + 1) (by omega) he.2.2).1
        rw [vs_cg (o := o') (o' := upN o t c) he.2.1, vs_up] at this
        exact this
      by_cases b1 : s.1 ≤ vs pr o t + pr t c + ch C.1 pr r (t + 1)
      · rw [if_pos (Or.inr b1)]
        refine mQ_none (fun o' he => ?_)
        have h1 := hlow o' he.1
        have h2 := hsh.1 (FLs Z n o')
        show s.1 ≤ vs pr o' n + sh (FLs Z n o')
        omega
      · rw [if_neg (by rw [m]; rintro (z | z); cases z; exact b1 z)]
        by_cases b2 : odM C pr Z F t c o op = true
        · rw [if_pos b2]
          exact mQ_none (fun o' he => by rw [b2] at he; cases he.2)
        · have b2' : odM C pr Z F t c o op = false := by simpa using b2
          rw [if_neg b2]
          have hin := inM_up hZ (by omega) m hc hi
          have hFsub : ∀ o', exE C.1 n t o c o' → sh (F ||| lkM Z t c o op Z.1) ≤ sh (FLs Z n o') := fun o' he => hsh.2 _ _ (b128_or hi.1 (lkM_b _ _ _ _ _ _)) (flGo_b _ _ _ _) (fun v hv h => hin.2.1 o' he.2 v hv h)
          by_cases b3 : vs pr o t + pr t c + ch C.1 pr r (t + 1) + sh (F ||| lkM Z t c o op Z.1) < s.1
          · rw [if_pos b3]
            by_cases b4 : soM Z (t + 1) (upN o t c) (F ||| lkM Z t c o op Z.1) op Z.1 = 0
            · rw [if_pos b4]
              rw [b4] at hin
              have hkx : ext C.1 n (t + 1) (upN o t c) (kpM C pr (t + 1) (upN o t c)) := by
                refine ⟨fun j hj => if_pos hj, fun j h1 h2 => ?_⟩
                have e : kpM C pr (t + 1) (upN o t c) j = (cpG C.1 pr j 3).2 := if_neg (by omega)
                rw [e]
                have := cp_ok hp hC h2
                exact ⟨this.1, this.2.1⟩
              have hF : ∀ o', ext C.1 n (t + 1) (upN o t c) o' → FLs Z n o' = F ||| lkM Z t c o op Z.1 := fun o' he => FL_eq hZ hin he
              have hvk : vs pr (kpM C pr (t + 1) (upN o t c)) n = vs pr o t + pr t c + ch C.1 pr r (t + 1) := by
                rw [ch_arg hp hC r (t + 1) (by omega) (fun j h1 h2 => if_neg (by omega)), vs_cg (o' := upN o t c) (fun j hj => if_pos hj), vs_up]
              have htk : (tM C pr Z sh n).1 (kpM C pr (t + 1) (upN o t c)) = vs pr o t + pr t c + ch C.1 pr r (t + 1) + sh (F ||| lkM Z t c o op Z.1) := by
                show vs pr (kpM C pr (t + 1) (upN o t c)) n + sh (FLs Z n (kpM C pr (t + 1) (upN o t c))) = _
                rw [hvk, hF _ hkx]
              refine Or.inr ⟨kpM C pr (t + 1) (upN o t c), ⟨⟨m, hkx⟩, b2'⟩, by rw [htk]; exact b3, ?_, fun o' he => ?_, fun o' he hl => ?_⟩
              · rw [htk]
                refine Prod.ext rfl (Prod.ext (hF _ hkx).symm ?_)
                funext j
                show kpM C pr (t + 1) (upN o t c) j = (if j < n then kpM C pr (t + 1) (upN o t c) j else (cpG C.1 pr j 3).2)
                by_cases z : j < n
                · rw [if_pos z]
                · rw [if_neg z]; exact if_neg (by omega)
              · rw [htk]
                show _ ≤ vs pr o' n + sh (FLs Z n o')
                have h1 := hlow o' he.1
                have h2 := hFsub o' he.1
                omega
              · rw [htk]
                show _ < vs pr o' n + sh (FLs Z n o')
                have h2 := hFsub o' he.1
                obtain ⟨j, j1, j2, j3⟩ := hl
                have hjt : t + 1 ≤ j := by
                  by_cases z : j < t + 1
                  · have e1 : kpM C pr (t + 1) (upN o t c) j = upN o t c j := if_pos z
                    rw [e1, he.1.2.1 j z] at j3; omega
                  · omega
                have e2 : kpM C pr (t + 1) (upN o t c) j = (cpG C.1 pr j 3).2 := if_neg (by omega)
                rw [e2] at j3
                have hmj := he.1.2.2 j hjt j1
                have hst := (cp_ok hp hC j1).2.2.2.2 (o' j) j3 hmj.1
                have := (ch_le hp hC (o' := o') r (t + 1) (by omega) he.1.2.2).2 ⟨j, hjt, j1, hst⟩
                rw [vs_cg (o := o') (o' := upN o t c) he.1.2.1, vs_up] at this
                omega
            · rw [if_neg b4]
              exact mQ_cg (fun o' => ⟨fun h => ⟨⟨m, h⟩, b2'⟩, fun h => h.1.2⟩) (ih c s m hc b4)
          · rw [if_neg b3]
            refine mQ_none (fun o' he => ?_)
            have h1 := hlow o' he.1
            have h2 := hFsub o' he.1
            show s.1 ≤ vs pr o' n + sh (FLs Z n o')
            omega
    · rw [if_pos (Or.inl (by simpa using m))]
      exact mQ_none (fun o' he => absurd he.1.1 m)
  rw [exM_s]
  have h3 := mQ_two (fun a b ha hb => by
      rcases ha with ha | ha
      · exact exE_lex (by omega) ha.1 hb.1
      · exact exE_lex (by omega) ha.1 hb.1) (mQ_two (fun a b ha hb => exE_lex (by omega) ha.1 hb.1) (key 0 s (by omega)) (key 1 _ (by omega))) (key 2 _ (by omega))
  refine mQ_more (fun o' ho => ?_) (fun o' ho => ?_) h3
  · exact (exE_all (by omega)).mp (by
      rcases ho with (h | h) | h
      · exact Or.inl (Or.inl h.1)
      · exact Or.inl (Or.inr h.1)
      · exact Or.inr h.1)
  · have hm := ho.2 t (Nat.le_refl _) (by omega)
    obtain ⟨x, hx, hxm, hxo, hxd⟩ := odM_ex (pr := pr) (Z := Z) (o := o) (op := op) hM2 hm.2 hm.1
    have hin : ∀ z, exE C.1 n t o x z → (((exE C.1 n t o 0 z ∧ odM C pr Z F t 0 o op = false) ∨ (exE C.1 n t o 1 z ∧ odM C pr Z F t 1 o op = false)) ∨ (exE C.1 n t o 2 z ∧ odM C pr Z F t 2 o op = false)) := by
      intro z hz
      have : x = 0 ∨ x = 1 ∨ x = 2 := by omega
      rcases this with e | e | e <;> subst e
      · exact Or.inl (Or.inl ⟨hz, hxo⟩)
      · exact Or.inl (Or.inr ⟨hz, hxo⟩)
      · exact Or.inr ⟨hz, hxo⟩
    rcases hxd with e | ⟨e1, e2⟩
    · subst e
      exact ⟨o', hin o' ⟨hm.1, ext_dn ho⟩, Or.inl rfl⟩
    · have hsw := tM_swap (pr := pr) hZ hsh (by omega) hi ho hxm hx e2
      have hex : exE C.1 n t o x (upN o' t x) := by
        have := ext_dn (ext_swap ho hxm hx)
        rw [upN_at] at this
        exact ⟨hxm, this⟩
      refine ⟨upN o' t x, hin _ hex, Or.inr ?_⟩
      rcases e1 with e1 | e1
      · left; omega
      · right
        refine ⟨by omega, t, by omega, fun i hi => upN_lt hi, ?_⟩
        rw [upN_at]; exact e1.2
theorem exM_mQ {C : PC} {pr : Nat → Nat → Int} {Z : RW} {sh : Int64 → Int} {n : Nat} (hp : prOK pr) (hC : hasM C.1 n) (hZ : RWok C Z n) (hsh : shOK sh) : ∀ (r t : Nat) (o : Nat → Nat) (F : Int64) (op : Nat) (s : MS), t + (r + 1) = n → inM C Z n t o F op → mQ (tM C pr Z sh n) n (ext C.1 n t o) s (exM C pr Z sh (r + 1) t o F op s) := by
  intro r
  induction r with
  | zero => ?z
  | succ r ih => ?s
  case z =>
    intro t o F op s ht hi
    exact exM_node hp hC hZ hsh 0 t o F op s ht hi (fun c s _ _ hne => absurd (soM_last hZ ht hi.1) hne)
  case s =>
    intro t o F op s ht hi
    exact exM_node hp hC hZ hsh (r + 1) t o F op s ht hi (fun c s hm hc _ => ih (t + 1) (upN o t c) _ _ s (by omega) (inM_up hZ (by omega) hm hc hi))
/-- the same as all PAINTINGS -/
theorem exM_all {C : PC} {pr : Nat → Nat → Int} {Z : RW} {sh : Int64 → Int} {n : Nat} (hp : prOK pr) (hC : hasM C.1 n) (hZ : RWok C Z n) (hsh : shOK sh) (r t : Nat) (o : Nat → Nat) (F : Int64) (op : Nat) (s : MS) (ht : t + (r + 1) = n) (hi : inM C Z n t o F op) : exM C pr Z sh (r + 1) t o F op s = pG C.1 (fun o s => if (tM C pr Z sh n).1 o < s.1 then ((tM C pr Z sh n).1 o, (tM C pr Z sh n).2.1 o, (tM C pr Z sh n).2.2 o) else s) (r + 1) t o s := by
  have hT : ∀ a b : Nat → Nat, (∀ j, j < n → a j = b j) → (tM C pr Z sh n).1 a = (tM C pr Z sh n).1 b ∧ (tM C pr Z sh n).2.1 a = (tM C pr Z sh n).2.1 b ∧ (tM C pr Z sh n).2.2 a = (tM C pr Z sh n).2.2 b := by
    intro a b h
    have e1 := FLs_cg (Z := Z) h
    refine ⟨?_, e1, ?_⟩
    · show vs pr a n + sh (FLs Z n a) = vs pr b n + sh (FLs Z n b)
      rw [e1, vs_cg h]
    · funext j
      show (if j < n then a j else _) = (if j < n then b j else _)
      by_cases z : j < n
      · rw [if_pos z, if_pos z, h j z]
      · rw [if_neg z, if_neg z]
  exact mQ_uniq hT (exM_mQ hp hC hZ hsh r t o F op s ht hi) (pG_mQ hT (r + 1) t o s ht)
end
