/-! MENDER: from its start -/
section
variable {w : Wd} {d : Nat} {i : IM} {l : LM}
def srX (C : PC) (pr : Nat → Nat → Int) (Z : RW) (sh : Int64 → Int) (n : Nat) (s : MS) : MS := if soM Z 0 o0 0 (2 ^ Z.1 - 1) Z.1 = 0 then (ch C.1 pr n 0, 0, kpM C pr 0 o0) else exM C pr Z sh n 0 o0 0 (soM Z 0 o0 0 (2 ^ Z.1 - 1) Z.1) s
theorem not0 {v : Nat} (hv : v < 8) : Bt ((0 : Int64) ^^^ (-1)) v = 255 := (not_F hv).1 (Bt_lit v hv).2.2.2.2.2.2.1
theorem sr_in {C : PC} {Z : RW} {n : Nat} (hZ : RWok C Z n) : inM C Z n 0 o0 0 (soM Z 0 o0 0 (2 ^ Z.1 - 1) Z.1) := by
  refine ⟨b128_0, fun o' he v hv h => ?_, fun q hq hs o' he v hv hov => ?_⟩
  · have := (Bt_lit v hv).2.2.2.2.2.2.1
    omega
  · have hop : (2 ^ Z.1 - 1).testBit q = true := by rw [Nat.testBit_two_pow_sub_one, decide_eq_true hq]
    have h1 : mfL Z 0 q (vw Z o0 q 0) (ldL Z (vw Z o0 q 0) q) (Z.2.2.1 q) &&& ((0 : Int64) ^^^ (-1)) = 0 := by
      by_cases z : mfL Z 0 q (vw Z o0 q 0) (ldL Z (vw Z o0 q 0) q) (Z.2.2.1 q) &&& ((0 : Int64) ^^^ (-1)) = 0
      · exact z
      · have := (soM_bit Z 0 o0 0 (2 ^ Z.1 - 1) Z.1 q hq).mpr ⟨hop, z⟩
        rw [hs] at this; cases this
    have h2 := (Bt_0.mp h1) v hv
    rw [Bt_and, not0 hv, and255 _ (Bt_lt _ _)] at h2
    have := mf_okv hZ (Nat.zero_le _) he hq hv h2
    omega
theorem sr_n0 {C : PC} {Z : RW} (hZ : RWok C Z 0) : soM Z 0 o0 0 (2 ^ Z.1 - 1) Z.1 = 0 := by
  apply Nat.eq_of_testBit_eq
  intro q
  rw [Nat.zero_testBit]
  by_cases hq : q < Z.1
  · cases hb : (soM Z 0 o0 0 (2 ^ Z.1 - 1) Z.1).testBit q with
    | false => rfl
    | true =>
      have h1 := (soM_bit Z 0 o0 0 (2 ^ Z.1 - 1) Z.1 q hq).mp hb
      exfalso
      apply h1.2
      have hov : ovr Z (vw Z o0 q 0) q = false := by
        rw [ovr_iff hZ _ hq]
        intro v hv
        have h2 := hZ.2.1 q v hq hv
        have h3 : Bt (vw Z o0 q 0) v = 0 := (Bt_lit v hv).2.2.2.2.2.2.1
        rw [h3]
        have : cntB 0 8 = 0 := by decide
        omega
      rw [mf_end hZ hq hov (Z.2.2.1 q)]
      exact Bt_0.mpr (fun v hv => by rw [Bt_and, (Bt_lit v hv).2.2.2.2.2.2.1, Nat.zero_and])
  · exact Nat.testBit_lt_two_pow (Nat.lt_of_lt_of_le (soM_lt _ _ _ _ _ _) (Nat.pow_le_pow_right (by omega) (by omega)))
theorem srX_all {C : PC} {pr : Nat → Nat → Int} {Z : RW} {sh : Int64 → Int} {n : Nat} (hp : prOK pr) (hC : hasM C.1 n) (hZ : RWok C Z n) (hsh : shOK sh) (hs0 : sh 0 = 0) {s : MS} (hs : ch C.1 pr n 0 < s.1) : srX C pr Z sh n s = pG C.1 (fun o s => if (tM C pr Z sh n).1 o < s.1 then ((tM C pr Z sh n).1 o, (tM C pr Z sh n).2.1 o, (tM C pr Z sh n).2.2 o) else s) n 0 o0 s := by
  have hin := sr_in (n := n) hZ
  unfold srX
  by_cases z : soM Z 0 o0 0 (2 ^ Z.1 - 1) Z.1 = 0
  · rw [if_pos z]
    rw [z] at hin
    have hT : ∀ a b : Nat → Nat, (∀ j, j < n → a j = b j) → (tM C pr Z sh n).1 a = (tM C pr Z sh n).1 b ∧ (tM C pr Z sh n).2.1 a = (tM C pr Z sh n).2.1 b ∧ (tM C pr Z sh n).2.2 a = (tM C pr Z sh n).2.2 b := by
      intro a b h
      have e1 := FLs_cg (Z := Z) h
      refine ⟨?_, e1, ?_⟩
      · show vs pr a n + sh (FLs Z n a) = vs pr b n + sh (FLs Z n b)
        rw [e1, vs_cg h]
      · funext j
        show (if j < n then a j else _) = (if j < n then b j else _)
        by_cases z : j < n
        · rw [if_pos z, if_pos z, h j z]
        · rw [if_neg z, if_neg z]
    refine mQ_uniq hT ?_ (pG_mQ hT n 0 o0 s (Nat.zero_add _))
    have hkx : ext C.1 n 0 o0 (kpM C pr 0 o0) := by
      refine ⟨fun j hj => by omega, fun j _ h2 => ?_⟩
      have e : kpM C pr 0 o0 j = (cpG C.1 pr j 3).2 := if_neg (by omega)
      rw [e]
      have := cp_ok hp hC h2
      exact ⟨this.1, this.2.1⟩
    have hF : ∀ o', ext C.1 n 0 o0 o' → FLs Z n o' = 0 := fun o' he => FL_eq hZ hin he
    have hvk : vs pr (kpM C pr 0 o0) n = ch C.1 pr n 0 := by
      rw [ch_arg hp hC n 0 (Nat.zero_add _) (fun j h1 h2 => if_neg (by omega))]
      show (0 : Int) + _ = _
      omega
    have htk : (tM C pr Z sh n).1 (kpM C pr 0 o0) = ch C.1 pr n 0 := by
      show vs pr (kpM C pr 0 o0) n + sh (FLs Z n (kpM C pr 0 o0)) = _
      rw [hvk, hF _ hkx, hs0]; omega
    have hlow : ∀ o', ext C.1 n 0 o0 o' → ch C.1 pr n 0 ≤ vs pr o' n := by
      intro o' he
      have := (ch_le hp hC (o' := o') n 0 (Nat.zero_add _) he.2).1
      have e0 : vs pr o' 0 = 0 := rfl
      omega
    refine Or.inr ⟨kpM C pr 0 o0, hkx, by rw [htk]; exact hs, ?_, fun o' he => ?_, fun o' he hl => ?_⟩
    · rw [htk]
      refine Prod.ext rfl (Prod.ext (hF _ hkx).symm ?_)
      funext j
      show kpM C pr 0 o0 j = (if j < n then kpM C pr 0 o0 j else (cpG C.1 pr j 3).2)
      by_cases z : j < n
      · rw [if_pos z]
      · rw [if_neg z]; exact if_neg (by omega)
    · rw [htk]
      show _ ≤ vs pr o' n + sh (FLs Z n o')
      have h1 := hlow o' he
      have h2 := hsh.1 (FLs Z n o')
      omega
    · rw [htk]
      show _ < vs pr o' n + sh (FLs Z n o')
      have h2 := hsh.1 (FLs Z n o')
      obtain ⟨j, j1, j2, j3⟩ := hl
      have e2 : kpM C pr 0 o0 j = (cpG C.1 pr j 3).2 := if_neg (by omega)
      rw [e2] at j3
      have hmj := he.2 j (Nat.zero_le _) j1
      have hst := (cp_ok hp hC j1).2.2.2.2 (o' j) j3 hmj.1
      have := (ch_le hp hC (o' := o') n 0 (Nat.zero_add _) he.2).2 ⟨j, Nat.zero_le _, j1, hst⟩
      have e0 : vs pr o' 0 = 0 := rfl
      omega
  · rw [if_neg z]
    cases n with
    | zero => exact absurd (sr_n0 hZ) z
    | succ n => exact exM_all hp hC hZ hsh n 0 o0 0 _ s (Nat.zero_add _) hin
/-- the cheapest, from a THING on -/
def CpP (i : IM) (n t0 : Nat) : Prop := (∀ t : Nat, t0 ≤ t → t ≤ n → i 87 (t : Int) = ch (pcM i).1 (prM i n) (n - t) t) ∧ ∀ t : Nat, t0 ≤ t → t < n → i 88 (t : Int) = (((cpG (pcM i).1 (prM i n) t 3).2 : Nat) : Int)
def cfm (i i' : IM) : Prop := ∀ c, c ≠ 87 → c ≠ 88 → i' c = i c
theorem pcM_c {i i' : IM} (h : cfm i i') : pcM i' = pcM i := by
  unfold pcM
  rw [h 52 (by decide) (by decide), h 54 (by decide) (by decide), h 55 (by decide) (by decide)]
theorem prM_c {n : Nat} {i i' : IM} (h : cfm i i') : prM i' n = prM i n := by
  funext x c
  unfold prM
  rw [h 53 (by decide) (by decide)]
theorem cvOK_c {n : Nat} {i i' : IM} (h : cfm i i') (hc : cvOK i n) : cvOK i' n := by
  unfold cvOK
  rw [pcM_c h, h 7 (by decide) (by decide), h 51 (by decide) (by decide), h 52 (by decide) (by decide), h 53 (by decide) (by decide), h 54 (by decide) (by decide), h 55 (by decide) (by decide)]
  exact hc
theorem lp_sumM {P : IM → LM → Prop} {n : Nat} (hcv : cvOK i n) {t : Nat} (ht : t < n) (hcp : CpP i n (t + 1)) (hP : ∀ i', cfm i i' → CpP i' n t → P i' l) : ∀ r c : Nat, c + r = 3 → ∀ i', (∀ k, k ≠ 88 → i' k = i k) → (∀ j : Int, j ≠ (t : Int) → i' 88 j = i 88 j) → ((cpG (pcM i).1 (prM i n) t c).1 ≠ 1000000 → i' 88 (t : Int) = (((cpG (pcM i).1 (prM i n) t c).2 : Nat) : Int)) → gV w d X_X3_sumUp P i' l 5 [(0, vR (some 83)), (1, vI (t : Int)), (2, vI (cpG (pcM i).1 (prM i n) t c).1), (3, vI (c : Int))] [] := by
  have hn := hcv.1
  have hrg : ∀ c, rg (cpG (pcM i).1 (prM i n) t c).1 := by
    intro c
    rcases cpG_ok (may := (pcM i).1) (prM_ok hcv) t c with h | h
    · rw [h.2]; exact rg_lit rfl
    · rw [← h.2.2.1]
      have := prM_ok hcv t (cpG (pcM i).1 (prM i n) t c).2
      exact ⟨by omega, by omega⟩
  intro r
  induction r with
  | zero =>
    intro c hc i' h1 h2 h8
    have e : c = 3 := by omega
    subst e
    have hk := cp_ok (prM_ok hcv) (may := (pcM i).1) (n := n) (t := t) hcv.2.2.2.1 ht
    have hpb := prM_ok hcv t (cpG (pcM i).1 (prM i n) t 3).2
    rw [hk.2.2.1] at hpb
    have hcb := ch_bd hcv (n - (t + 1)) (t + 1) (by omega)
    have x87 : i' 87 ((t : Int) + 1) = ch (pcM i).1 (prM i n) (n - (t + 1)) (t + 1) := by
      rw [h1 87 (by decide)]; exact hcp.1 (t + 1) (by omega) (by omega)
    have h8' := h8 (by omega)
    refine s_X3_sumUp_5 _ _ _ ⟨⟨by omega, by omega⟩, fun _ => ⟨⟨by omega, by omega⟩, ⟨by omega, by omega⟩, by rw [x87]; exact ⟨by omega, by omega⟩, ?_⟩, fun q => by omega⟩
    rw [x87]
    have hf : cfm i (u2 i' 87 (t : Int) (ch (pcM i).1 (prM i n) (n - (t + 1)) (t + 1) + (cpG (pcM i).1 (prM i n) t 3).1)) := fun c c1 c2 => by rw [u2_other _ _ _ c1]; exact h1 c c2
    have epc := pcM_c hf
    have epr := prM_c (n := n) hf
    refine hP _ hf ⟨fun x hx1 hx2 => ?_, fun x hx1 hx2 => ?_⟩
    · rw [epc, epr]
      by_cases e : x = t
      · subst e
        rw [u2_self, show n - x = (n - (x + 1)) + 1 by omega]
        rfl
      · have : u2 i' 87 (t : Int) (ch (pcM i).1 (prM i n) (n - (t + 1)) (t + 1) + (cpG (pcM i).1 (prM i n) t 3).1) 87 (x : Int) = i' 87 (x : Int) := if_neg (fun z => e (by have := z.2; omega))
        rw [this, h1 87 (by decide)]
        exact hcp.1 x (by omega) hx2
    · rw [epc, epr, u2_other _ _ _ (by decide)]
      by_cases e : x = t
      · subst e; exact h8'
      · rw [h2 _ (by omega)]; exact hcp.2 x (by omega) hx2
  | succ r ih =>
    intro c hc i' h1 h2 h8
    have hc3 : c < 3 := by omega
    have e52 : i' 52 = i 52 := h1 52 (by decide)
    have e53 : i' 53 ((t : Int) * 3 + (c : Int)) = prM i n t c := by rw [h1 53 (by decide)]; exact prM_at ht hc3
    have hmay := pcM_may hcv ht hc3
    have hnx := ih (c + 1) (by omega)
    unfold cpG at hnx
    have hpb := prM_ok hcv t c
    refine s_X3_sumUp_5 _ _ _ ⟨⟨by omega, by omega⟩, fun q => by omega, fun q => ⟨⟨by omega, by omega⟩, ⟨by omega, by omega⟩, fun _ => hrg c, fun z => ⟨⟨by omega, by omega⟩, ⟨by omega, by omega⟩, ?_⟩, fun z => ?_⟩⟩
    · rw [e52, e53] at z
      have hz : (pcM i).1 t c = true ∧ prM i n t c < (cpG (pcM i).1 (prM i n) t c).1 := ⟨hmay.mp z.1, by have := z.2; omega⟩
      rw [if_pos hz] at hnx
      rw [e53]
      exact hnx (u2 i' 88 (t : Int) (c : Int)) (fun k hk => by rw [u2_other _ _ _ hk]; exact h1 k hk) (fun j hj => by
        show (if (88 : Nat) = 88 ∧ j = (t : Int) then (c : Int) else i' 88 j) = _
        rw [if_neg (fun z => hj z.2)]; exact h2 j hj) (fun _ => u2_self ..)
    · rw [e52, e53] at z
      have hz : ¬ ((pcM i).1 t c = true ∧ prM i n t c < (cpG (pcM i).1 (prM i n) t c).1) := fun y => z ⟨hmay.mpr y.1, by have := y.2; omega⟩
      rw [if_neg hz] at hnx
      exact hnx i' h1 h2 h8
theorem sp_X3_sumUp {P : IM → LM → Prop} (hd : 1 ≤ d) {n : Nat} (hcv : cvOK i n) {t : Nat} (ht : t < n) (hcp : CpP i n (t + 1)) (hP : ∀ i', cfm i i' → CpP i' n t → P i' l) : cVd w d X_X3_sumUp [vR (some 83), vI (t : Int)] i l P := by
  obtain ⟨d, rfl, hd1⟩ := d_pos hd
  exact e_X3_sumUp (s_X3_sumUp _ (lp_sumM hcv ht hcp hP 3 0 rfl i (fun _ _ => rfl) (fun _ _ => rfl) (fun h => absurd rfl h)))
end
