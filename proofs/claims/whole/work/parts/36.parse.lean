/-! THE GRAMMAR OF LAWS, as a reader of tokens: what is read is where it ends, how many leaves, which words, the code, and what it means -/
abbrev LEnv : Type := Nat → Int
abbrev Mean : Type := LEnv → Option Int
abbrev PD : Type := Nat × Nat × Nat × List Int × Mean
abbrev PR : Type := Nat ⊕ PD
abbrev Tk : Type := (Nat → Int) × (Nat → Int) × Nat
abbrev Sub : Type := Nat → Nat → Nat → PR
def bnd (v : Int) : Option Int := if -1000000000 ≤ v ∧ v ≤ 1000000000 then some v else none
def m2 (f g : Mean) (op : Int → Int → Option Int) : Mean := fun e => match f e, g e with
  | some a, some b => op a b
  | _, _ => none
def pPart (t : Tk) (inner : Option Sub) : Sub := fun k lv u =>
  if t.1 k = 191 then match inner with
    | none => .inl k
    | some s => match s (k + 1) lv u with
      | .inl q => .inl q
      | .inr r => if t.1 r.1 = 193 then .inr (r.1 + 1, r.2) else .inl r.1
  else if lv = 50 then .inl k
  else if t.1 k = 50 ∧ t.2.1 k ≤ 1000 then .inr (k + 1, lv + 1, 0, [16 * t.2.1 k], fun _ => some (t.2.1 k))
  else if 9 ≤ t.1 k ∧ t.1 k ≤ 17 then .inr (k + 1, lv + 1, 2 ^ (t.1 k - 9).toNat, [1 + 16 * (t.1 k - 9)], fun e => some (e (t.1 k - 9).toNat))
  else .inl k
/-- an order for two numbers: its code and what it does -/
def opT (c : Int) : Option (Int × (Int → Int → Option Int)) := if c = 142 then some (4, fun a b => bnd (a * b)) else if c = 147 then some (5, fun a b => if b = 0 then none else bnd (a.tdiv b)) else none
def opS (c : Int) : Option (Int × (Int → Int → Option Int)) := if c = 143 then some (2, fun a b => bnd (a + b)) else if c = 145 then some (3, fun a b => bnd (a - b)) else none
def pLoop (t : Tk) (p : Sub) (op : Int → Option (Int × (Int → Int → Option Int))) : Nat → Nat → PD → PR
  | 0, _, r => .inl r.1
  | n + 1, u, r => match op (t.1 r.1) with
    | none => .inr r
    | some o => match p (r.1 + 1) r.2.1 (u + r.2.2.2.1.length) with
      | .inl q => .inl q
      | .inr s => pLoop t p op n u (s.1, s.2.1, r.2.2.1 ||| s.2.2.1, r.2.2.2.1 ++ s.2.2.2.1 ++ [o.1], m2 r.2.2.2.2 s.2.2.2.2 o.2)
def pChain (t : Tk) (p : Sub) (op : Int → Option (Int × (Int → Int → Option Int))) : Sub := fun k lv u => match p k lv u with
  | .inl q => .inl q
  | .inr r => pLoop t p op (t.2.2 + 1 - r.1) u r
/-- SUMS with so many brackets to go -/
def pSum (t : Tk) : Nat → Sub
  | 0 => pChain t (pChain t (pPart t none) opT) opS
  | n + 1 => pChain t (pChain t (pPart t (some (pSum t n))) opT) opS
def pTerm (t : Tk) (n : Nat) : Sub := pChain t (pPart t (match n with | 0 => none | n + 1 => some (pSum t n))) opT
def pPartD (t : Tk) (n : Nat) : Sub := pPart t (match n with | 0 => none | n + 1 => some (pSum t n))
theorem pTerm_eq (t : Tk) (n : Nat) : pTerm t n = pChain t (pPartD t n) opT := rfl
theorem pSum_eq (t : Tk) (n : Nat) : pSum t n = pChain t (pTerm t n) opS := by cases n <;> rfl
/-- so many 'not': where they end, and whether they turn -/
def pNots (t : Tk) : Nat → Nat → Nat × Bool
  | 0, k => (k, false)
  | n + 1, k => if t.1 k = 8 then ((pNots t n (k + 1)).1, !(pNots t n (k + 1)).2) else (k, false)
def opC (c : Int) : Option (Int × (Int → Int → Option Int)) := if c = 160 then some (6, fun a b => some (if a < b then 1 else 0)) else if c = 162 then some (7, fun a b => some (if b < a then 1 else 0)) else if c = 161 then some (8, fun a b => some (if a = b then 1 else 0)) else none
def pPos (t : Tk) (n : Nat) (inner : Option Sub) : Sub := fun k lv u =>
  if t.1 k = 140 then match inner with
    | none => .inl k
    | some s => match s (k + 1) lv u with
      | .inl q => .inl q
      | .inr r => if t.1 r.1 = 141 then .inr (r.1 + 1, r.2) else .inl r.1
  else match pSum t n k lv u with
    | .inl q => .inl q
    | .inr r => match opC (t.1 r.1) with
      | none => .inl r.1
      | some o => match pSum t n (r.1 + 1) r.2.1 (u + r.2.2.2.1.length) with
        | .inl q => .inl q
        | .inr s => .inr (s.1, s.2.1, r.2.2.1 ||| s.2.2.1, r.2.2.2.1 ++ s.2.2.2.1 ++ [o.1], m2 r.2.2.2.2 s.2.2.2.2 o.2)
def mNot (f : Mean) : Mean := fun e => (f e).map (fun v => 1 - v)
def pPlain (t : Tk) (n : Nat) (inner : Option Sub) : Sub := fun k lv u =>
  match pPos t n inner (pNots t (t.2.2 + 1 - k) k).1 lv u with
    | .inl q => .inl q
    | .inr r => if (pNots t (t.2.2 + 1 - k) k).2 = true then .inr (r.1, r.2.1, r.2.2.1, r.2.2.2.1 ++ [9], mNot r.2.2.2.2) else .inr r
/-- 'or' (6) and 'and' (7): the second is looked at only where the first does not tell -/
def jTok (b : Bool) : Int := if b = true then 6 else 7
def jOrd (b : Bool) : Int := if b = true then 10 else 11
def mJump (isOr : Bool) (f g : Mean) : Mean := fun e => match f e with
  | none => none
  | some v => if (v ≠ 0) ↔ isOr = true then some v else g e
def pJump (t : Tk) (p : Sub) (isOr : Bool) : Nat → Nat → PD → PR
  | 0, _, r => .inl r.1
  | n + 1, u, r => if t.1 r.1 = jTok isOr then match p (r.1 + 1) r.2.1 (u + r.2.2.2.1.length + 1) with
      | .inl q => .inl q
      | .inr s => pJump t p isOr n u (s.1, s.2.1, r.2.2.1 ||| s.2.2.1, r.2.2.2.1 ++ [jOrd isOr + 16 * ((u + r.2.2.2.1.length + 1 + s.2.2.2.1.length : Nat) : Int)] ++ s.2.2.2.1, mJump isOr r.2.2.2.2 s.2.2.2.2)
    else .inr r
def pJumps (t : Tk) (p : Sub) (isOr : Bool) : Sub := fun k lv u => match p k lv u with
  | .inl q => .inl q
  | .inr r => pJump t p isOr (t.2.2 + 1 - r.1) u r
def pTest (t : Tk) : Nat → Sub
  | 0 => pJumps t (pJumps t (pPlain t 0 none) false) true
  | n + 1 => pJumps t (pJumps t (pPlain t (n + 1) (some (pTest t n))) false) true
def pPlainD (t : Tk) (n : Nat) : Sub := pPlain t n (match n with | 0 => none | n + 1 => some (pTest t n))
def pBoth (t : Tk) (n : Nat) : Sub := pJumps t (pPlainD t n) false
theorem pTest_eq (t : Tk) (n : Nat) : pTest t n = pJumps t (pBoth t n) true := by cases n <;> rfl
/-- a CLAUSE: head, words, code of its sum and of its test, what they mean -/
abbrev Cla : Type := Nat × Nat × List Int × List Int × Mean × Mean
abbrev CR1 : Type := Nat ⊕ (Nat × Nat × Cla)
def pHead (t : Tk) (k lv u : Nat) : PR := if t.1 k = 1 ∨ t.1 k = 2 then pSum t 8 (k + 1) lv u else if t.1 k = 3 ∨ t.1 k = 4 then .inr (k + 1, lv, 0, [], fun _ => some 1) else .inl k
def pClause (t : Tk) (k lv u : Nat) : CR1 := match pHead t k lv u with
  | .inl q => .inl q
  | .inr r => if t.1 r.1 = 5 then match pTest t 8 (r.1 + 1) r.2.1 (u + r.2.2.2.1.length) with
      | .inl q => .inl q
      | .inr s => .inr (s.1, s.2.1, (t.1 k - 1).toNat, r.2.2.1 ||| s.2.2.1, r.2.2.2.1, s.2.2.2.1, r.2.2.2.2, s.2.2.2.2)
    else .inr (r.1, r.2.1, (t.1 k - 1).toNat, r.2.2.1, r.2.2.2.1, [], r.2.2.2.2, fun _ => some 1)
def claLen (c : Cla) : Nat := c.2.2.1.length + c.2.2.2.1.length
/-- CLAUSES, the n-th from the last that may be -/
def pLaw (t : Tk) : Nat → Nat → Nat → Nat → Nat ⊕ List Cla
  | 0, k, _, _ => .inl k
  | n + 1, k, lv, u => match pClause t k lv u with
    | .inl q => .inl q
    | .inr r => if r.1 = t.2.2 then .inr [r.2.2] else if t.1 r.1 = 159 then match pLaw t n (r.1 + 1) r.2.1 (u + claLen r.2.2) with
        | .inl q => .inl q
        | .inr cs => .inr (r.2.2 :: cs)
      else .inl r.1
def pWhole (t : Tk) : Nat ⊕ List Cla := pLaw t 12 0 0 0
/-- what a LAW tells: the last CLAUSE with the head that HOLDS -/
def claTells (e : LEnv) (c : Cla) : Option Int := match c.2.2.2.2.1 e, c.2.2.2.2.2 e with
  | some v, some b => if b = 0 then none else some v
  | _, _ => none
def lawTells (e : LEnv) (h : Nat) : List Cla → Option Int
  | [] => none
  | c :: cs => match lawTells e h cs with
    | some v => some v
    | none => if c.1 = h then claTells e c else none
