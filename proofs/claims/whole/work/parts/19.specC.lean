def sameOK (i : IM) : Prop := ∀ c : Int, 0 ≤ c → c < 8 → 0 ≤ i 101 (119 + c) ∧ i 101 (119 + c) < 256
def mLow (i : IM) (c : Int) : Int := 0
def mWhere (i : IM) (p m : Int) : Int := 0
section
variable {w : Wd} {d : Nat} {i : IM} {l : LM}
theorem sp_X12_lowestOf (hd : 2 ≤ d) {c : Int} (h : 0 ≤ c ∧ c < 8) (hs : sameOK i) : cI w d X_X12_lowestOf [vR (some 99), vI c] i l (fun x i' l' => x = mLow i c ∧ i' = i ∧ l' = l) := sorry
theorem sp_X12_whereOf (hd : 1 ≤ d) {p m : Int} (hp : rg p) (hm : rg m) (h : 0 ≤ i 101 310 ∧ i 101 310 ≤ 60) : cI w d X_X12_whereOf [vR (some 99), vI p, vI m] i l (fun x i' l' => x = mWhere i p m ∧ i' = i ∧ l' = l) := sorry
end
