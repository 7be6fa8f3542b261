/-! sums of bytes -/
section
theorem sum8_lt {c0 c1 c2 c3 c4 c5 c6 c7 : Nat} (h0 : c0 < 256) (h1 : c1 < 256) (h2 : c2 < 256) (h3 : c3 < 256) (h4 : c4 < 256) (h5 : c5 < 256) (h6 : c6 < 256) (h7 : c7 < 256) : c0 + 256 * c1 + 65536 * c2 + 16777216 * c3 + 4294967296 * c4 + 1099511627776 * c5 + 281474976710656 * c6 + 72057594037927936 * c7 < 18446744073709551616 := by omega
theorem sum8_add (a0 a1 a2 a3 a4 a5 a6 a7 b0 b1 b2 b3 b4 b5 b6 b7 : Nat) : (a0 + 256 * a1 + 65536 * a2 + 16777216 * a3 + 4294967296 * a4 + 1099511627776 * a5 + 281474976710656 * a6 + 72057594037927936 * a7) + (b0 + 256 * b1 + 65536 * b2 + 16777216 * b3 + 4294967296 * b4 + 1099511627776 * b5 + 281474976710656 * b6 + 72057594037927936 * b7) = (a0 + b0) + 256 * (a1 + b1) + 65536 * (a2 + b2) + 16777216 * (a3 + b3) + 4294967296 * (a4 + b4) + 1099511627776 * (a5 + b5) + 281474976710656 * (a6 + b6) + 72057594037927936 * (a7 + b7) := by omega
theorem Bt_add {x y : Int64} (h : ∀ v, v < 8 → Bt x v + Bt y v < 256) : ∀ v, v < 8 → Bt (x + y) v = Bt x v + Bt y v := by
  refine Bt_is (b := fun v => Bt x v + Bt y v) h ?_
  have hl := sum8_lt (h 0 (by omega)) (h 1 (by omega)) (h 2 (by omega)) (h 3 (by omega)) (h 4 (by omega)) (h 5 (by omega)) (h 6 (by omega)) (h 7 (by omega))
  rw [nL_add, Bt_all x, Bt_all y, sum8_add, Nat.mod_eq_of_lt hl]
theorem Bt_sub {x y : Int64} (h : ∀ v, v < 8 → Bt y v ≤ Bt x v) : ∀ v, v < 8 → Bt (x - y) v = Bt x v - Bt y v := by
  have hb : ∀ v, v < 8 → Bt (x - y) v + Bt y v < 256 ∨ True := fun _ _ => Or.inr trivial
  refine Bt_is (b := fun v => Bt x v - Bt y v) (fun v _ => by have := Bt_lt x v; show Bt x v - Bt y v < 256; omega) ?_
  have hs := sum8_add (Bt x 0 - Bt y 0) (Bt x 1 - Bt y 1) (Bt x 2 - Bt y 2) (Bt x 3 - Bt y 3) (Bt x 4 - Bt y 4) (Bt x 5 - Bt y 5) (Bt x 6 - Bt y 6) (Bt x 7 - Bt y 7) (Bt y 0) (Bt y 1) (Bt y 2) (Bt y 3) (Bt y 4) (Bt y 5) (Bt y 6) (Bt y 7)
  rw [← Bt_all y, Nat.sub_add_cancel (h 0 (by omega)), Nat.sub_add_cancel (h 1 (by omega)), Nat.sub_add_cancel (h 2 (by omega)), Nat.sub_add_cancel (h 3 (by omega)), Nat.sub_add_cancel (h 4 (by omega)), Nat.sub_add_cancel (h 5 (by omega)), Nat.sub_add_cancel (h 6 (by omega)), Nat.sub_add_cancel (h 7 (by omega)), ← Bt_all x] at hs
  have hx := nL_lt x
  have hy := nL_lt y
  rw [nL_sub]
  have e : 18446744073709551616 - nL y + nL x = (nL x - nL y) + 18446744073709551616 := by omega
  rw [e, Nat.add_mod_right, Nat.mod_eq_of_lt (by omega)]
  show nL x - nL y = (Bt x 0 - Bt y 0) + 256 * (Bt x 1 - Bt y 1) + 65536 * (Bt x 2 - Bt y 2) + 16777216 * (Bt x 3 - Bt y 3) + 4294967296 * (Bt x 4 - Bt y 4) + 1099511627776 * (Bt x 5 - Bt y 5) + 281474976710656 * (Bt x 6 - Bt y 6) + 72057594037927936 * (Bt x 7 - Bt y 7)
  omega
end
