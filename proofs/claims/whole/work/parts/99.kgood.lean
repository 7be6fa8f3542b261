/-! what the rows mean -/
section
variable {i : IM} {l : LM}
/-- a row of a CANVAS is that of a MONTH, but for what is spare -/
def zRow (i : IM) (cs : List Cla) (n : Nat) (Z : RW) (q : Nat) (mo : Int) : Prop := (∀ t c v : Nat, t < n → c < 3 → mMay i (t : Int) (c : Int) = true → v < 8 → Bt (Z.2.1 t c q) v = if v < (i 101 308).toNat then (mBit i cs (v : Int) (t : Int) (mColour i (t : Int) (c : Int)) mo 0).toNat else 0) ∧ ∀ t v : Nat, t ≤ n → v < 8 → Bt (Z.2.2.2.1 t q) v = restB i cs mo v (n - t) t ∧ Bt (Z.2.2.2.2 t q) v = moreB i cs mo v (n - t) t
theorem cnt_pow : ∀ k, k < 8 → cntB (2 ^ k) 8 ≤ 1 := by decide
theorem mBit_one (hk : kOK (i 101)) (cs : List Cla) {v t c mo : Int} (ht : 0 ≤ t ∧ t < 10) (hc : 0 ≤ c ∧ c < 8) : cntB (mBit i cs v t c mo 0).toNat 8 ≤ 1 := by
  unfold mBit
  split
  · have h7 := (hk.2.1 t ht.1 ht.2).2.2.2.2.2.2.2
    obtain ⟨n, hn, hn8⟩ := mLow_nat (i := i) (mShows i t c mo) (mShows_lt hc h7)
    rw [hn]
    unfold fBit
    split
    · decide
    · rw [ishl_one (by omega)]
      exact cnt_pow n hn8
  · decide
theorem allB_sub {cs : List Cla} {mo : Int} {t v c : Nat} (hm : mMay i (t : Int) (c : Int) = true) (hv : v < (i 101 308).toNat) : ∀ k, c < k → sub (mBit i cs (v : Int) (t : Int) (mColour i (t : Int) (c : Int)) mo 0).toNat (allB i cs mo t v k)
  | 0, h => by omega
  | k + 1, h => by
    unfold allB
    by_cases e : c = k
    · subst e
      rw [if_pos ⟨hm, hv⟩]
      exact fun j hj => by rw [Nat.testBit_or, hj]; simp
    · have ih := allB_sub (cs := cs) (mo := mo) hm hv k (by omega)
      split
      · exact sub_tr ih (sub_l _ _)
      · exact ih
theorem sub_ne {a b : Nat} (h : sub a b) (ha : a ≠ 0) : b ≠ 0 := by
  intro e
  subst e
  apply ha
  apply Nat.eq_of_testBit_eq
  intro j
  rw [Nat.zero_testBit]
  cases c : a.testBit j with
  | false => rfl
  | true => have := h j c; rw [Nat.zero_testBit] at this; cases this
theorem RWok_of (hk : kOK (i 101)) {cs : List Cla} {C : PC} {Z : RW} {n : Nat} (hn : (n : Int) = i 101 307) (hC : ∀ t c, t < n → c < 3 → C.1 t c = true → mMay i (t : Int) (c : Int) = true) (hsp : ∀ q v, q < Z.1 → v < 8 → Bt (Z.2.2.1 q) v ≤ 127) (hrow : ∀ q, q < Z.1 → ∃ mo, zRow i cs n Z q mo) : RWok C Z n := by
  have h307 := hk.1.1
  refine ⟨by omega, hsp, fun t q v ht hq hv => ?_, fun t c q v ht hc hm hq hv => ?_, fun t q v ht hq hv => ?_⟩
  · obtain ⟨mo, h⟩ := hrow q hq
    rw [(h.2 t v ht hv).2]
    exact moreB_le cs mo v _ t
  · obtain ⟨mo, h⟩ := hrow q hq
    have hmm := hC t c ht hc hm
    have hsh := h.1 t c v ht hc hmm hv
    have hn1 : n - t = (n - (t + 1)) + 1 := by omega
    have hr : restB i cs mo v (n - t) t = allB i cs mo t v 3 ||| restB i cs mo v (n - (t + 1)) (t + 1) := by rw [hn1]; rfl
    have hmr : moreB i cs mo v (n - t) t = moreB i cs mo v (n - (t + 1)) (t + 1) + (if allB i cs mo t v 3 = 0 then 0 else 1) := by rw [hn1]; rfl
    rw [(h.2 t v (by omega) hv).1, (h.2 t v (by omega) hv).2, (h.2 (t + 1) v (by omega) hv).2, hr, hmr, hsh]
    by_cases e : v < (i 101 308).toNat
    · rw [if_pos e]
      have hs := allB_sub (cs := cs) (mo := mo) hmm e 3 hc
      refine ⟨sub_tr hs (sub_l _ _), mBit_one hk cs ⟨by omega, by omega⟩ (mColour_lt hk ⟨by omega, by omega⟩), fun hne => ?_⟩
      rw [if_neg (sub_ne hs hne)]
      exact Nat.le_refl _
    · rw [if_neg e]
      exact ⟨fun j hj => (by rw [Nat.zero_testBit] at hj; cases hj), (by decide), fun hne => absurd rfl hne⟩
  · obtain ⟨mo, h⟩ := hrow q hq
    have hn1 : n - t = (n - (t + 1)) + 1 := by omega
    have hr : restB i cs mo v (n - t) t = allB i cs mo t v 3 ||| restB i cs mo v (n - (t + 1)) (t + 1) := by rw [hn1]; rfl
    have hmr : moreB i cs mo v (n - t) t = moreB i cs mo v (n - (t + 1)) (t + 1) + (if allB i cs mo t v 3 = 0 then 0 else 1) := by rw [hn1]; rfl
    rw [(h.2 t v (by omega) hv).1, (h.2 t v (by omega) hv).2, (h.2 (t + 1) v (by omega) hv).1, (h.2 (t + 1) v (by omega) hv).2, hr, hmr]
    exact ⟨fun j hj => by rw [Nat.testBit_or, hj]; simp, by split <;> omega⟩
/-- what WINDOW v sees of a PAINTING in a MONTH -/
def mvw (i : IM) (cs : List Cla) (o : Nat → Nat) (v : Nat) (mo : Int) : Nat → Nat
  | 0 => 0
  | t + 1 => mvw i cs o v mo t ||| (mBit i cs (v : Int) (t : Int) (mColour i (t : Int) ((o t : Nat) : Int)) mo 0).toNat
theorem vw_mvw {cs : List Cla} {n : Nat} {Z : RW} {q : Nat} {mo : Int} (h : zRow i cs n Z q mo) {o : Nat → Nat} (ho : ∀ j, j < n → mMay i (j : Int) ((o j : Nat) : Int) = true ∧ o j < 3) {v : Nat} (hv : v < 8) : ∀ t, t ≤ n → Bt (vw Z o q t) v = if v < (i 101 308).toNat then mvw i cs o v mo t else 0
  | 0, _ => by
    show Bt 0 v = _
    rw [(Bt_lit v hv).2.2.2.2.2.2.1]
    split <;> rfl
  | t + 1, ht => by
    have ih := vw_mvw h ho hv t (by omega)
    have hm := ho t (by omega)
    show Bt (vw Z o q t ||| Z.2.1 t (o t) q) v = _
    rw [Bt_or, ih, h.1 t (o t) v (by omega) hm.2 hm.1 hv]
    by_cases e : v < (i 101 308).toNat
    · rw [if_pos e, if_pos e, if_pos e]; rfl
    · rw [if_neg e, if_neg e, if_neg e]; rfl
/-- a MONTH holds: each kept WINDOW sees no more than it may, one of them one colour more -/
def moOK (i : IM) (cs : List Cla) (n : Nat) (kept : Nat) (eased : Int) (o : Nat → Nat) (mo : Int) : Prop := ∀ v : Nat, v < (i 101 308).toNat → kept.testBit v = true → (cntB (mvw i cs o v mo n) 8 : Int) ≤ fLimit cs (v : Int) mo 0 + (if eased = (v : Int) then 1 else 0)
/-- what is spare: 127 less the LIMIT, nothing for those left out, one less for an eased one -/
def spK (i : IM) (cs : List Cla) (kept : Nat) (eased mo : Int) (x : Int64) : Prop := ∀ v : Nat, v < 8 → (Bt x v : Int) = if v < (i 101 308).toNat ∧ kept.testBit v = true then 127 - fLimit cs (v : Int) mo 0 - (if eased = (v : Int) then 1 else 0) else 0
theorem rOK_mo (hk : kOK (i 101)) {cs : List Cla} {C : PC} {Z : RW} {n : Nat} (hZ : RWok C Z n) {q : Nat} (hq : q < Z.1) {mo : Int} (h : zRow i cs n Z q mo) {kept : Nat} {eased : Int} (hs : spK i cs kept eased mo (Z.2.2.1 q)) {o : Nat → Nat} (ho : ∀ j, j < n → mMay i (j : Int) ((o j : Nat) : Int) = true ∧ o j < 3) : rOK Z n o q = true ↔ moOK i cs n kept eased o mo := by
  have h308 := hk.1.2.1
  have e : rOK Z n o q = true ↔ ovr Z (vw Z o q n) q = false := by unfold rOK; simp
  rw [e, ovr_iff hZ _ hq]
  constructor
  · intro hv v v1 v2
    have h1 := hv v (by omega)
    have h2 := hs v (by omega)
    rw [vw_mvw h ho (by omega) n (Nat.le_refl _), if_pos v1] at h1
    rw [if_pos ⟨v1, v2⟩] at h2
    omega
  · intro hm v hv
    have h2 := hs v hv
    rw [vw_mvw h ho hv n (Nat.le_refl _)]
    by_cases c : v < (i 101 308).toNat
    · rw [if_pos c]
      by_cases c2 : kept.testBit v = true
      · have h3 := hm v c c2
        rw [if_pos ⟨c, c2⟩] at h2
        omega
      · rw [if_neg (fun z => c2 z.2)] at h2
        have := cntB8_le (mvw i cs o v mo n)
        omega
    · rw [if_neg c]
      rw [if_neg (fun z => c z.1)] at h2
      have : cntB 0 8 = 0 := by decide
      omega
/-- rows for all MONTHS of a set, but those that can't break and those that are there already -/
def rowsOK (i : IM) (cs : List Cla) (n : Nat) (mq : Nat → Int) (R : Nat) (ms : Int → Prop) : Prop := (∀ q, q < R → ms (mq q)) ∧ ∀ mo, ms mo → (∀ o kept eased, (∀ j, j < n → mMay i (j : Int) ((o j : Nat) : Int) = true ∧ o j < 3) → moOK i cs n kept eased o mo) ∨ ∃ q, q < R ∧ ∀ o kept eased, (∀ j, j < n → mMay i (j : Int) ((o j : Nat) : Int) = true ∧ o j < 3) → (moOK i cs n kept eased o mo ↔ moOK i cs n kept eased o (mq q))
theorem gd_mo (hk : kOK (i 101)) {cs : List Cla} {C : PC} {Z : RW} {n : Nat} (hZ : RWok C Z n) {mq : Nat → Int} {ms : Int → Prop} (hr : rowsOK i cs n mq Z.1 ms) (hrow : ∀ q, q < Z.1 → zRow i cs n Z q (mq q)) {kept : Nat} {eased : Int} (hs : ∀ q, q < Z.1 → spK i cs kept eased (mq q) (Z.2.2.1 q)) {o : Nat → Nat} (ho : ∀ j, j < n → mMay i (j : Int) ((o j : Nat) : Int) = true ∧ o j < 3) : gd Z n o = true ↔ ∀ mo, ms mo → moOK i cs n kept eased o mo := by
  rw [gdN_iff]
  constructor
  · intro h mo hmo
    rcases hr.2 mo hmo with z | ⟨q, hq, z⟩
    · exact z o kept eased ho
    · rw [z o kept eased ho]
      exact (rOK_mo hk hZ hq (hrow q hq) (hs q hq) ho).mp (h q hq)
  · intro h q hq
    exact (rOK_mo hk hZ hq (hrow q hq) (hs q hq) ho).mpr (h _ (hr.1 q hq))
end
