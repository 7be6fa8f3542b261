/-! a TOWN becomes another -/
section
variable {E : GE} {R : Room} {X : MI} {Qf : QF} {c0 s0 : Nat} {i : IM} {l : LM} {pc pc' : Nat} {L : List (Nat × MV)} {st : List MV} {w : Wd}
def wB (w : Wd) (c : Nat) (j : Int) (o : Option Nat) : Wd := (w.1, w.2.1, w.2.2.1, u2r w.2.2.2 c j o)
theorem dw_bk {c : Nat} (hc : c = 15 ∨ c = 25 ∨ c = 34) (j : Int) (o : Option Nat) : ((dw w).1, (dw w).2.1, u2r (dw w).2.2 c j o) = dw (wB w c j o) := by
  have e : u2r (rfW w.2.2.2) c j o = rfW (u2r w.2.2.2 c j o) := by
    funext a k
    unfold u2r rfW
    dsimp only
    by_cases h : a = c ∧ k = j
    · have h1 : a < 125 := by omega
      have h2 : a = 15 ∨ a = 25 ∨ a = 34 := by omega
      rw [if_pos h, if_pos h1, if_pos h2, if_pos h]
    · rw [if_neg h, if_neg h]
  show (w.2.1, shW w.2.1 w.2.2.1, u2r (rfW w.2.2.2) c j o) = (w.2.1, shW w.2.1 w.2.2.1, rfW (u2r w.2.2.2 c j o))
  rw [e]
def BkO (w : Wd) (c : Nat) : Prop := ∀ (j : Int) (a : Nat), 0 ≤ j → j < 6 → w.2.2.2 c j = some a → (dw w).2.1 a = some (.inr 2)
theorem g_bkst {c : Nat} {j : Int} {o : Option Nat} (hc : c = 15 ∨ c = 25 ∨ c = 34) (h0 : 0 ≤ j ∧ j < 6) (ho : ∀ a, o = some a → (dw w).2.1 a = some (.inr 2)) (hd : decode X.2.1 pc = .ok (.aastore, 1)) (hp : pc + 1 = pc') (kk : G E R X Qf c0 s0 (dw (wB w c j o)) i l pc' L st) : G E R X Qf c0 s0 (dw w) i l pc L (vR o :: vI j :: vR (some c) :: st) := by
  have hs : (dw w).2.1 c = some (.inl (5, 6)) := by rcases hc with rfl | rfl | rfl <;> rfl
  rw [← dw_bk hc] at kk
  cases o with
  | none => exact g_aastN hs (Or.inr rfl) (N := 6) rfl (by decide) h0 hd hp kk
  | some b => exact g_aast hs (ho b rfl) (Or.inr ⟨rfl, rfl⟩) (N := 6) rfl (by decide) h0 hd hp kk
def bcC (i : IM) (a b : Nat) : IM := cpA (cpA (cpA (cpA (cpA (cpA (cpA i (a + 1) (b + 1) 80) (a + 2) (b + 2) 24) (a + 3) (b + 3) 5) (a + 4) (b + 4) 10) (a + 5) (b + 5) 8) (a + 6) (b + 6) 8) (a + 7) (b + 7) 180
def bcF (J : IM) (a b : Nat) : IM := u2 (u2 (u2 (u2 (u2 (u2 (u2 J b 8 (J a 8)) b 9 (J a 9)) b 10 (J a 10)) b 11 (J a 11)) b 12 (J a 12)) b 13 (J a 13)) b 14 (J a 14)
def wC (w : Wd) (a b : Nat) : Wd := wB (wB (wB (wB (wB (wB w (b + 8) 0 (w.2.2.2 (a + 8) 0)) (b + 8) 1 (w.2.2.2 (a + 8) 1)) (b + 8) 2 (w.2.2.2 (a + 8) 2)) (b + 8) 3 (w.2.2.2 (a + 8) 3)) (b + 8) 4 (w.2.2.2 (a + 8) 4)) (b + 8) 5 (w.2.2.2 (a + 8) 5)
end

theorem lk_X9_69c : Cond.methodLink "ThreeColours$Town" 69 arraycopyName ∈ lwG := (lwT6 100 rfl rfl)
theorem bc_rm (d : Nat) : 1 ≤ (rmD (d + 1) 0 0).frames ∧ 26 ≤ (rmD (d + 1) 0 0).locals := ⟨by show 1 ≤ d + 1; omega, by show 26 ≤ 64 * (d + 1); omega⟩
theorem dX9_becomes_0 : decode cX9_becomes 0 = .ok (.aload_n 1, 1) := by decide +kernel
theorem dX9_becomes_1 : decode cX9_becomes 1 = .ok (.getfield 9, 3) := by decide +kernel
theorem dX9_becomes_4 : decode cX9_becomes 4 = .ok (.iconst 0, 1) := by decide +kernel
theorem dX9_becomes_5 : decode cX9_becomes 5 = .ok (.aload_n 0, 1) := by decide +kernel
theorem dX9_becomes_6 : decode cX9_becomes 6 = .ok (.getfield 9, 3) := by decide +kernel
theorem dX9_becomes_9 : decode cX9_becomes 9 = .ok (.iconst 0, 1) := by decide +kernel
theorem dX9_becomes_10 : decode cX9_becomes 10 = .ok (.aload_n 0, 1) := by decide +kernel
theorem dX9_becomes_11 : decode cX9_becomes 11 = .ok (.getfield 9, 3) := by decide +kernel
theorem dX9_becomes_14 : decode cX9_becomes 14 = .ok (.arraylength, 1) := by decide +kernel
theorem dX9_becomes_15 : decode cX9_becomes 15 = .ok (.invokestatic 69, 3) := by decide +kernel
theorem dX9_becomes_18 : decode cX9_becomes 18 = .ok (.aload_n 1, 1) := by decide +kernel
theorem dX9_becomes_19 : decode cX9_becomes 19 = .ok (.getfield 15, 3) := by decide +kernel
theorem dX9_becomes_22 : decode cX9_becomes 22 = .ok (.iconst 0, 1) := by decide +kernel
theorem dX9_becomes_23 : decode cX9_becomes 23 = .ok (.aload_n 0, 1) := by decide +kernel
theorem dX9_becomes_24 : decode cX9_becomes 24 = .ok (.getfield 15, 3) := by decide +kernel
theorem dX9_becomes_27 : decode cX9_becomes 27 = .ok (.iconst 0, 1) := by decide +kernel
theorem dX9_becomes_28 : decode cX9_becomes 28 = .ok (.aload_n 0, 1) := by decide +kernel
theorem dX9_becomes_29 : decode cX9_becomes 29 = .ok (.getfield 15, 3) := by decide +kernel
theorem dX9_becomes_32 : decode cX9_becomes 32 = .ok (.arraylength, 1) := by decide +kernel
theorem dX9_becomes_33 : decode cX9_becomes 33 = .ok (.invokestatic 69, 3) := by decide +kernel
theorem dX9_becomes_36 : decode cX9_becomes 36 = .ok (.aload_n 1, 1) := by decide +kernel
theorem dX9_becomes_37 : decode cX9_becomes 37 = .ok (.getfield 18, 3) := by decide +kernel
theorem dX9_becomes_40 : decode cX9_becomes 40 = .ok (.iconst 0, 1) := by decide +kernel
theorem dX9_becomes_41 : decode cX9_becomes 41 = .ok (.aload_n 0, 1) := by decide +kernel
theorem dX9_becomes_42 : decode cX9_becomes 42 = .ok (.getfield 18, 3) := by decide +kernel
theorem dX9_becomes_45 : decode cX9_becomes 45 = .ok (.iconst 0, 1) := by decide +kernel
theorem dX9_becomes_46 : decode cX9_becomes 46 = .ok (.aload_n 0, 1) := by decide +kernel
theorem dX9_becomes_47 : decode cX9_becomes 47 = .ok (.getfield 18, 3) := by decide +kernel
theorem dX9_becomes_50 : decode cX9_becomes 50 = .ok (.arraylength, 1) := by decide +kernel
theorem dX9_becomes_51 : decode cX9_becomes 51 = .ok (.invokestatic 69, 3) := by decide +kernel
theorem dX9_becomes_54 : decode cX9_becomes 54 = .ok (.aload_n 1, 1) := by decide +kernel
theorem dX9_becomes_55 : decode cX9_becomes 55 = .ok (.getfield 21, 3) := by decide +kernel
theorem dX9_becomes_58 : decode cX9_becomes 58 = .ok (.iconst 0, 1) := by decide +kernel
theorem dX9_becomes_59 : decode cX9_becomes 59 = .ok (.aload_n 0, 1) := by decide +kernel
theorem dX9_becomes_60 : decode cX9_becomes 60 = .ok (.getfield 21, 3) := by decide +kernel
theorem dX9_becomes_63 : decode cX9_becomes 63 = .ok (.iconst 0, 1) := by decide +kernel
theorem dX9_becomes_64 : decode cX9_becomes 64 = .ok (.aload_n 0, 1) := by decide +kernel
theorem dX9_becomes_65 : decode cX9_becomes 65 = .ok (.getfield 21, 3) := by decide +kernel
theorem dX9_becomes_68 : decode cX9_becomes 68 = .ok (.arraylength, 1) := by decide +kernel
theorem dX9_becomes_69 : decode cX9_becomes 69 = .ok (.invokestatic 69, 3) := by decide +kernel
theorem dX9_becomes_72 : decode cX9_becomes 72 = .ok (.aload_n 1, 1) := by decide +kernel
theorem dX9_becomes_73 : decode cX9_becomes 73 = .ok (.getfield 24, 3) := by decide +kernel
theorem dX9_becomes_76 : decode cX9_becomes 76 = .ok (.iconst 0, 1) := by decide +kernel
theorem dX9_becomes_77 : decode cX9_becomes 77 = .ok (.aload_n 0, 1) := by decide +kernel
theorem dX9_becomes_78 : decode cX9_becomes 78 = .ok (.getfield 24, 3) := by decide +kernel
theorem dX9_becomes_81 : decode cX9_becomes 81 = .ok (.iconst 0, 1) := by decide +kernel
theorem dX9_becomes_82 : decode cX9_becomes 82 = .ok (.aload_n 0, 1) := by decide +kernel
theorem dX9_becomes_83 : decode cX9_becomes 83 = .ok (.getfield 24, 3) := by decide +kernel
theorem dX9_becomes_86 : decode cX9_becomes 86 = .ok (.arraylength, 1) := by decide +kernel
theorem dX9_becomes_87 : decode cX9_becomes 87 = .ok (.invokestatic 69, 3) := by decide +kernel
theorem dX9_becomes_90 : decode cX9_becomes 90 = .ok (.aload_n 1, 1) := by decide +kernel
theorem dX9_becomes_91 : decode cX9_becomes 91 = .ok (.getfield 27, 3) := by decide +kernel
theorem dX9_becomes_94 : decode cX9_becomes 94 = .ok (.iconst 0, 1) := by decide +kernel
theorem dX9_becomes_95 : decode cX9_becomes 95 = .ok (.aload_n 0, 1) := by decide +kernel
theorem dX9_becomes_96 : decode cX9_becomes 96 = .ok (.getfield 27, 3) := by decide +kernel
theorem dX9_becomes_99 : decode cX9_becomes 99 = .ok (.iconst 0, 1) := by decide +kernel
theorem dX9_becomes_100 : decode cX9_becomes 100 = .ok (.aload_n 0, 1) := by decide +kernel
theorem dX9_becomes_101 : decode cX9_becomes 101 = .ok (.getfield 27, 3) := by decide +kernel
theorem dX9_becomes_104 : decode cX9_becomes 104 = .ok (.arraylength, 1) := by decide +kernel
theorem dX9_becomes_105 : decode cX9_becomes 105 = .ok (.invokestatic 69, 3) := by decide +kernel
theorem dX9_becomes_108 : decode cX9_becomes 108 = .ok (.aload_n 1, 1) := by decide +kernel
theorem dX9_becomes_109 : decode cX9_becomes 109 = .ok (.getfield 30, 3) := by decide +kernel
theorem dX9_becomes_112 : decode cX9_becomes 112 = .ok (.iconst 0, 1) := by decide +kernel
theorem dX9_becomes_113 : decode cX9_becomes 113 = .ok (.aload_n 0, 1) := by decide +kernel
theorem dX9_becomes_114 : decode cX9_becomes 114 = .ok (.getfield 30, 3) := by decide +kernel
theorem dX9_becomes_117 : decode cX9_becomes 117 = .ok (.iconst 0, 1) := by decide +kernel
theorem dX9_becomes_118 : decode cX9_becomes 118 = .ok (.aload_n 0, 1) := by decide +kernel
theorem dX9_becomes_119 : decode cX9_becomes 119 = .ok (.getfield 30, 3) := by decide +kernel
theorem dX9_becomes_122 : decode cX9_becomes 122 = .ok (.arraylength, 1) := by decide +kernel
theorem dX9_becomes_123 : decode cX9_becomes 123 = .ok (.invokestatic 69, 3) := by decide +kernel
theorem dX9_becomes_126 : decode cX9_becomes 126 = .ok (.iconst 0, 1) := by decide +kernel
theorem dX9_becomes_127 : decode cX9_becomes 127 = .ok (.istore_n 2, 1) := by decide +kernel
theorem dX9_becomes_128 : decode cX9_becomes 128 = .ok (.iload_n 2, 1) := by decide +kernel
theorem dX9_becomes_129 : decode cX9_becomes 129 = .ok (.bipush 6, 2) := by decide +kernel
theorem dX9_becomes_131 : decode cX9_becomes 131 = .ok (.if_icmp .ge 21, 3) := by decide +kernel
theorem dX9_becomes_134 : decode cX9_becomes 134 = .ok (.aload_n 0, 1) := by decide +kernel
theorem dX9_becomes_135 : decode cX9_becomes 135 = .ok (.getfield 35, 3) := by decide +kernel
theorem dX9_becomes_138 : decode cX9_becomes 138 = .ok (.iload_n 2, 1) := by decide +kernel
theorem dX9_becomes_139 : decode cX9_becomes 139 = .ok (.aload_n 1, 1) := by decide +kernel
theorem dX9_becomes_140 : decode cX9_becomes 140 = .ok (.getfield 35, 3) := by decide +kernel
theorem dX9_becomes_143 : decode cX9_becomes 143 = .ok (.iload_n 2, 1) := by decide +kernel
theorem dX9_becomes_144 : decode cX9_becomes 144 = .ok (.aaload, 1) := by decide +kernel
theorem dX9_becomes_145 : decode cX9_becomes 145 = .ok (.aastore, 1) := by decide +kernel
theorem dX9_becomes_146 : decode cX9_becomes 146 = .ok (.iinc 2 1, 3) := by decide +kernel
theorem dX9_becomes_149 : decode cX9_becomes 149 = .ok (.goto (-21), 3) := by decide +kernel
theorem dX9_becomes_152 : decode cX9_becomes 152 = .ok (.aload_n 0, 1) := by decide +kernel
theorem dX9_becomes_153 : decode cX9_becomes 153 = .ok (.aload_n 1, 1) := by decide +kernel
theorem dX9_becomes_154 : decode cX9_becomes 154 = .ok (.getfield 43, 3) := by decide +kernel
theorem dX9_becomes_157 : decode cX9_becomes 157 = .ok (.putfield 43, 3) := by decide +kernel
theorem dX9_becomes_160 : decode cX9_becomes 160 = .ok (.aload_n 0, 1) := by decide +kernel
theorem dX9_becomes_161 : decode cX9_becomes 161 = .ok (.aload_n 1, 1) := by decide +kernel
theorem dX9_becomes_162 : decode cX9_becomes 162 = .ok (.getfield 46, 3) := by decide +kernel
theorem dX9_becomes_165 : decode cX9_becomes 165 = .ok (.putfield 46, 3) := by decide +kernel
theorem dX9_becomes_168 : decode cX9_becomes 168 = .ok (.aload_n 0, 1) := by decide +kernel
theorem dX9_becomes_169 : decode cX9_becomes 169 = .ok (.aload_n 1, 1) := by decide +kernel
theorem dX9_becomes_170 : decode cX9_becomes 170 = .ok (.getfield 75, 3) := by decide +kernel
theorem dX9_becomes_173 : decode cX9_becomes 173 = .ok (.putfield 75, 3) := by decide +kernel
theorem dX9_becomes_176 : decode cX9_becomes 176 = .ok (.aload_n 0, 1) := by decide +kernel
theorem dX9_becomes_177 : decode cX9_becomes 177 = .ok (.aload_n 1, 1) := by decide +kernel
theorem dX9_becomes_178 : decode cX9_becomes 178 = .ok (.getfield 49, 3) := by decide +kernel
theorem dX9_becomes_181 : decode cX9_becomes 181 = .ok (.putfield 49, 3) := by decide +kernel
theorem dX9_becomes_184 : decode cX9_becomes 184 = .ok (.aload_n 0, 1) := by decide +kernel
theorem dX9_becomes_185 : decode cX9_becomes 185 = .ok (.aload_n 1, 1) := by decide +kernel
theorem dX9_becomes_186 : decode cX9_becomes 186 = .ok (.getfield 66, 3) := by decide +kernel
theorem dX9_becomes_189 : decode cX9_becomes 189 = .ok (.putfield 66, 3) := by decide +kernel
theorem dX9_becomes_192 : decode cX9_becomes 192 = .ok (.aload_n 0, 1) := by decide +kernel
theorem dX9_becomes_193 : decode cX9_becomes 193 = .ok (.aload_n 1, 1) := by decide +kernel
theorem dX9_becomes_194 : decode cX9_becomes 194 = .ok (.getfield 78, 3) := by decide +kernel
theorem dX9_becomes_197 : decode cX9_becomes 197 = .ok (.putfield 78, 3) := by decide +kernel
theorem dX9_becomes_200 : decode cX9_becomes 200 = .ok (.aload_n 0, 1) := by decide +kernel
theorem dX9_becomes_201 : decode cX9_becomes 201 = .ok (.aload_n 1, 1) := by decide +kernel
theorem dX9_becomes_202 : decode cX9_becomes 202 = .ok (.getfield 39, 3) := by decide +kernel
theorem dX9_becomes_205 : decode cX9_becomes 205 = .ok (.putfield 39, 3) := by decide +kernel
theorem dX9_becomes_208 : decode cX9_becomes 208 = .ok (.return_, 1) := by decide +kernel
set_option maxRecDepth 20000 in
theorem bc_17_7 {w : Wd} {d : Nat} {i : IM} {l : LM} {Post : PT} (hb : BkO w 15) (hP : Post none (dw (wC w 7 17)) (bcF (bcC i 7 17) 7 17) l) : Cn w.1 (d + 1) 0 0 X_X9_becomes [vR (some 17), vR (some 7)] (dw w) i l Post := by
  refine Cn_of (by decide +kernel) (Nat.le_of_ble_eq_true rfl) ?_
  refine g_aload_n (pc' := 1) 1 dX9_becomes_0 rfl rfl ?_
  refine g_getR (pc' := 4) (o := some 8) fl_X9_9 rfl rfl rfl dX9_becomes_1 rfl ?_
  refine g_iconst (pc' := 5) dX9_becomes_4 rfl ?_
  refine g_aload_n (pc' := 6) 0 dX9_becomes_5 rfl rfl ?_
  refine g_getR (pc' := 9) (o := some 18) fl_X9_9 rfl rfl rfl dX9_becomes_6 rfl ?_
  refine g_iconst (pc' := 10) dX9_becomes_9 rfl ?_
  refine g_aload_n (pc' := 11) 0 dX9_becomes_10 rfl rfl ?_
  refine g_getR (pc' := 14) (o := some 18) fl_X9_9 rfl rfl rfl dX9_becomes_11 rfl ?_
  refine g_alen (pc' := 15) (N := 80) rfl rfl (by decide) dX9_becomes_14 rfl ?_
  refine g_acopy (pc' := 18) lk_X9_69c rfl rfl (by decide) (by decide) (bc_rm d) (Nat.le_of_ble_eq_true rfl) dX9_becomes_15 rfl ?_
  refine g_aload_n (pc' := 19) 1 dX9_becomes_18 rfl rfl ?_
  refine g_getR (pc' := 22) (o := some 9) fl_X9_15 rfl rfl rfl dX9_becomes_19 rfl ?_
  refine g_iconst (pc' := 23) dX9_becomes_22 rfl ?_
  refine g_aload_n (pc' := 24) 0 dX9_becomes_23 rfl rfl ?_
  refine g_getR (pc' := 27) (o := some 19) fl_X9_15 rfl rfl rfl dX9_becomes_24 rfl ?_
  refine g_iconst (pc' := 28) dX9_becomes_27 rfl ?_
  refine g_aload_n (pc' := 29) 0 dX9_becomes_28 rfl rfl ?_
  refine g_getR (pc' := 32) (o := some 19) fl_X9_15 rfl rfl rfl dX9_becomes_29 rfl ?_
  refine g_alen (pc' := 33) (N := 24) rfl rfl (by decide) dX9_becomes_32 rfl ?_
  refine g_acopy (pc' := 36) lk_X9_69c rfl rfl (by decide) (by decide) (bc_rm d) (Nat.le_of_ble_eq_true rfl) dX9_becomes_33 rfl ?_
  refine g_aload_n (pc' := 37) 1 dX9_becomes_36 rfl rfl ?_
  refine g_getR (pc' := 40) (o := some 10) fl_X9_18 rfl rfl rfl dX9_becomes_37 rfl ?_
  refine g_iconst (pc' := 41) dX9_becomes_40 rfl ?_
  refine g_aload_n (pc' := 42) 0 dX9_becomes_41 rfl rfl ?_
  refine g_getR (pc' := 45) (o := some 20) fl_X9_18 rfl rfl rfl dX9_becomes_42 rfl ?_
  refine g_iconst (pc' := 46) dX9_becomes_45 rfl ?_
  refine g_aload_n (pc' := 47) 0 dX9_becomes_46 rfl rfl ?_
  refine g_getR (pc' := 50) (o := some 20) fl_X9_18 rfl rfl rfl dX9_becomes_47 rfl ?_
  refine g_alen (pc' := 51) (N := 5) rfl rfl (by decide) dX9_becomes_50 rfl ?_
  refine g_acopy (pc' := 54) lk_X9_69c rfl rfl (by decide) (by decide) (bc_rm d) (Nat.le_of_ble_eq_true rfl) dX9_becomes_51 rfl ?_
  refine g_aload_n (pc' := 55) 1 dX9_becomes_54 rfl rfl ?_
  refine g_getR (pc' := 58) (o := some 11) fl_X9_21 rfl rfl rfl dX9_becomes_55 rfl ?_
  refine g_iconst (pc' := 59) dX9_becomes_58 rfl ?_
  refine g_aload_n (pc' := 60) 0 dX9_becomes_59 rfl rfl ?_
  refine g_getR (pc' := 63) (o := some 21) fl_X9_21 rfl rfl rfl dX9_becomes_60 rfl ?_
  refine g_iconst (pc' := 64) dX9_becomes_63 rfl ?_
  refine g_aload_n (pc' := 65) 0 dX9_becomes_64 rfl rfl ?_
  refine g_getR (pc' := 68) (o := some 21) fl_X9_21 rfl rfl rfl dX9_becomes_65 rfl ?_
  refine g_alen (pc' := 69) (N := 10) rfl rfl (by decide) dX9_becomes_68 rfl ?_
  refine g_acopy (pc' := 72) lk_X9_69c rfl rfl (by decide) (by decide) (bc_rm d) (Nat.le_of_ble_eq_true rfl) dX9_becomes_69 rfl ?_
  refine g_aload_n (pc' := 73) 1 dX9_becomes_72 rfl rfl ?_
  refine g_getR (pc' := 76) (o := some 12) fl_X9_24 rfl rfl rfl dX9_becomes_73 rfl ?_
  refine g_iconst (pc' := 77) dX9_becomes_76 rfl ?_
  refine g_aload_n (pc' := 78) 0 dX9_becomes_77 rfl rfl ?_
  refine g_getR (pc' := 81) (o := some 22) fl_X9_24 rfl rfl rfl dX9_becomes_78 rfl ?_
  refine g_iconst (pc' := 82) dX9_becomes_81 rfl ?_
  refine g_aload_n (pc' := 83) 0 dX9_becomes_82 rfl rfl ?_
  refine g_getR (pc' := 86) (o := some 22) fl_X9_24 rfl rfl rfl dX9_becomes_83 rfl ?_
  refine g_alen (pc' := 87) (N := 8) rfl rfl (by decide) dX9_becomes_86 rfl ?_
  refine g_acopy (pc' := 90) lk_X9_69c rfl rfl (by decide) (by decide) (bc_rm d) (Nat.le_of_ble_eq_true rfl) dX9_becomes_87 rfl ?_
  refine g_aload_n (pc' := 91) 1 dX9_becomes_90 rfl rfl ?_
  refine g_getR (pc' := 94) (o := some 13) fl_X9_27 rfl rfl rfl dX9_becomes_91 rfl ?_
  refine g_iconst (pc' := 95) dX9_becomes_94 rfl ?_
  refine g_aload_n (pc' := 96) 0 dX9_becomes_95 rfl rfl ?_
  refine g_getR (pc' := 99) (o := some 23) fl_X9_27 rfl rfl rfl dX9_becomes_96 rfl ?_
  refine g_iconst (pc' := 100) dX9_becomes_99 rfl ?_
  refine g_aload_n (pc' := 101) 0 dX9_becomes_100 rfl rfl ?_
  refine g_getR (pc' := 104) (o := some 23) fl_X9_27 rfl rfl rfl dX9_becomes_101 rfl ?_
  refine g_alen (pc' := 105) (N := 8) rfl rfl (by decide) dX9_becomes_104 rfl ?_
  refine g_acopy (pc' := 108) lk_X9_69c rfl rfl (by decide) (by decide) (bc_rm d) (Nat.le_of_ble_eq_true rfl) dX9_becomes_105 rfl ?_
  refine g_aload_n (pc' := 109) 1 dX9_becomes_108 rfl rfl ?_
  refine g_getR (pc' := 112) (o := some 14) fl_X9_30 rfl rfl rfl dX9_becomes_109 rfl ?_
  refine g_iconst (pc' := 113) dX9_becomes_112 rfl ?_
  refine g_aload_n (pc' := 114) 0 dX9_becomes_113 rfl rfl ?_
  refine g_getR (pc' := 117) (o := some 24) fl_X9_30 rfl rfl rfl dX9_becomes_114 rfl ?_
  refine g_iconst (pc' := 118) dX9_becomes_117 rfl ?_
  refine g_aload_n (pc' := 119) 0 dX9_becomes_118 rfl rfl ?_
  refine g_getR (pc' := 122) (o := some 24) fl_X9_30 rfl rfl rfl dX9_becomes_119 rfl ?_
  refine g_alen (pc' := 123) (N := 180) rfl rfl (by decide) dX9_becomes_122 rfl ?_
  refine g_acopy (pc' := 126) lk_X9_69c rfl rfl (by decide) (by decide) (bc_rm d) (Nat.le_of_ble_eq_true rfl) dX9_becomes_123 rfl ?_
  refine g_iconst (pc' := 127) dX9_becomes_126 rfl ?_
  refine g_istore_n (pc' := 128) (L' := [(2, vI 0), (0, vR (some 17)), (1, vR (some 7))]) dX9_becomes_127 rfl (Nat.le_of_ble_eq_true rfl) rfl ?_
  refine g_iload_n (pc' := 129) 0 dX9_becomes_128 rfl rfl ?_
  refine g_bipush (pc' := 131) dX9_becomes_129 rfl rfl ?_
  refine g_icmp_ge (tgt := 152) (pc' := 134) (rg_lit rfl) (rg_lit rfl) Iff.rfl dX9_becomes_131 rfl rfl (fun q => absurd q (by decide)) (fun _ => ?_)
  refine g_aload_n (pc' := 135) 1 dX9_becomes_134 rfl rfl ?_
  refine g_getR (pc' := 138) (o := some 25) fl_X9_35 rfl rfl rfl dX9_becomes_135 rfl ?_
  refine g_iload_n (pc' := 139) 0 dX9_becomes_138 rfl rfl ?_
  refine g_aload_n (pc' := 140) 2 dX9_becomes_139 rfl rfl ?_
  refine g_getR (pc' := 143) (o := some 15) fl_X9_35 rfl rfl rfl dX9_becomes_140 rfl ?_
  refine g_iload_n (pc' := 144) 0 dX9_becomes_143 rfl rfl ?_
  refine g_aald (pc' := 145) (n := 6) (N := 6) (o := w.2.2.2 15 0) rfl (Or.inr rfl) rfl (by decide) (by decide) rfl dX9_becomes_144 rfl ?_
  refine g_bkst (pc' := 146) (by decide) (by decide) (fun c hc => hb 0 c (by decide) (by decide) hc) dX9_becomes_145 rfl ?_
  refine g_iinc (pc' := 149) (L' := [(2, vI 1), (0, vR (some 17)), (1, vR (some 7))]) 0 dX9_becomes_146 rfl (Nat.le_of_ble_eq_true rfl) rfl rfl ?_
  refine g_goto (tgt := 128) dX9_becomes_149 rfl ?_
  refine g_iload_n (pc' := 129) 0 dX9_becomes_128 rfl rfl ?_
  refine g_bipush (pc' := 131) dX9_becomes_129 rfl rfl ?_
  refine g_icmp_ge (tgt := 152) (pc' := 134) (rg_lit rfl) (rg_lit rfl) Iff.rfl dX9_becomes_131 rfl rfl (fun q => absurd q (by decide)) (fun _ => ?_)
  refine g_aload_n (pc' := 135) 1 dX9_becomes_134 rfl rfl ?_
  refine g_getR (pc' := 138) (o := some 25) fl_X9_35 rfl rfl rfl dX9_becomes_135 rfl ?_
  refine g_iload_n (pc' := 139) 0 dX9_becomes_138 rfl rfl ?_
  refine g_aload_n (pc' := 140) 2 dX9_becomes_139 rfl rfl ?_
  refine g_getR (pc' := 143) (o := some 15) fl_X9_35 rfl rfl rfl dX9_becomes_140 rfl ?_
  refine g_iload_n (pc' := 144) 0 dX9_becomes_143 rfl rfl ?_
  refine g_aald (pc' := 145) (n := 6) (N := 6) (o := w.2.2.2 15 1) rfl (Or.inr rfl) rfl (by decide) (by decide) rfl dX9_becomes_144 rfl ?_
  refine g_bkst (pc' := 146) (by decide) (by decide) (fun c hc => hb 1 c (by decide) (by decide) hc) dX9_becomes_145 rfl ?_
  refine g_iinc (pc' := 149) (L' := [(2, vI 2), (0, vR (some 17)), (1, vR (some 7))]) 0 dX9_becomes_146 rfl (Nat.le_of_ble_eq_true rfl) rfl rfl ?_
  refine g_goto (tgt := 128) dX9_becomes_149 rfl ?_
  refine g_iload_n (pc' := 129) 0 dX9_becomes_128 rfl rfl ?_
  refine g_bipush (pc' := 131) dX9_becomes_129 rfl rfl ?_
  refine g_icmp_ge (tgt := 152) (pc' := 134) (rg_lit rfl) (rg_lit rfl) Iff.rfl dX9_becomes_131 rfl rfl (fun q => absurd q (by decide)) (fun _ => ?_)
  refine g_aload_n (pc' := 135) 1 dX9_becomes_134 rfl rfl ?_
  refine g_getR (pc' := 138) (o := some 25) fl_X9_35 rfl rfl rfl dX9_becomes_135 rfl ?_
  refine g_iload_n (pc' := 139) 0 dX9_becomes_138 rfl rfl ?_
  refine g_aload_n (pc' := 140) 2 dX9_becomes_139 rfl rfl ?_
  refine g_getR (pc' := 143) (o := some 15) fl_X9_35 rfl rfl rfl dX9_becomes_140 rfl ?_
  refine g_iload_n (pc' := 144) 0 dX9_becomes_143 rfl rfl ?_
  refine g_aald (pc' := 145) (n := 6) (N := 6) (o := w.2.2.2 15 2) rfl (Or.inr rfl) rfl (by decide) (by decide) rfl dX9_becomes_144 rfl ?_
  refine g_bkst (pc' := 146) (by decide) (by decide) (fun c hc => hb 2 c (by decide) (by decide) hc) dX9_becomes_145 rfl ?_
  refine g_iinc (pc' := 149) (L' := [(2, vI 3), (0, vR (some 17)), (1, vR (some 7))]) 0 dX9_becomes_146 rfl (Nat.le_of_ble_eq_true rfl) rfl rfl ?_
  refine g_goto (tgt := 128) dX9_becomes_149 rfl ?_
  refine g_iload_n (pc' := 129) 0 dX9_becomes_128 rfl rfl ?_
  refine g_bipush (pc' := 131) dX9_becomes_129 rfl rfl ?_
  refine g_icmp_ge (tgt := 152) (pc' := 134) (rg_lit rfl) (rg_lit rfl) Iff.rfl dX9_becomes_131 rfl rfl (fun q => absurd q (by decide)) (fun _ => ?_)
  refine g_aload_n (pc' := 135) 1 dX9_becomes_134 rfl rfl ?_
  refine g_getR (pc' := 138) (o := some 25) fl_X9_35 rfl rfl rfl dX9_becomes_135 rfl ?_
  refine g_iload_n (pc' := 139) 0 dX9_becomes_138 rfl rfl ?_
  refine g_aload_n (pc' := 140) 2 dX9_becomes_139 rfl rfl ?_
  refine g_getR (pc' := 143) (o := some 15) fl_X9_35 rfl rfl rfl dX9_becomes_140 rfl ?_
  refine g_iload_n (pc' := 144) 0 dX9_becomes_143 rfl rfl ?_
  refine g_aald (pc' := 145) (n := 6) (N := 6) (o := w.2.2.2 15 3) rfl (Or.inr rfl) rfl (by decide) (by decide) rfl dX9_becomes_144 rfl ?_
  refine g_bkst (pc' := 146) (by decide) (by decide) (fun c hc => hb 3 c (by decide) (by decide) hc) dX9_becomes_145 rfl ?_
  refine g_iinc (pc' := 149) (L' := [(2, vI 4), (0, vR (some 17)), (1, vR (some 7))]) 0 dX9_becomes_146 rfl (Nat.le_of_ble_eq_true rfl) rfl rfl ?_
  refine g_goto (tgt := 128) dX9_becomes_149 rfl ?_
  refine g_iload_n (pc' := 129) 0 dX9_becomes_128 rfl rfl ?_
  refine g_bipush (pc' := 131) dX9_becomes_129 rfl rfl ?_
  refine g_icmp_ge (tgt := 152) (pc' := 134) (rg_lit rfl) (rg_lit rfl) Iff.rfl dX9_becomes_131 rfl rfl (fun q => absurd q (by decide)) (fun _ => ?_)
  refine g_aload_n (pc' := 135) 1 dX9_becomes_134 rfl rfl ?_
  refine g_getR (pc' := 138) (o := some 25) fl_X9_35 rfl rfl rfl dX9_becomes_135 rfl ?_
  refine g_iload_n (pc' := 139) 0 dX9_becomes_138 rfl rfl ?_
  refine g_aload_n (pc' := 140) 2 dX9_becomes_139 rfl rfl ?_
  refine g_getR (pc' := 143) (o := some 15) fl_X9_35 rfl rfl rfl dX9_becomes_140 rfl ?_
  refine g_iload_n (pc' := 144) 0 dX9_becomes_143 rfl rfl ?_
  refine g_aald (pc' := 145) (n := 6) (N := 6) (o := w.2.2.2 15 4) rfl (Or.inr rfl) rfl (by decide) (by decide) rfl dX9_becomes_144 rfl ?_
  refine g_bkst (pc' := 146) (by decide) (by decide) (fun c hc => hb 4 c (by decide) (by decide) hc) dX9_becomes_145 rfl ?_
  refine g_iinc (pc' := 149) (L' := [(2, vI 5), (0, vR (some 17)), (1, vR (some 7))]) 0 dX9_becomes_146 rfl (Nat.le_of_ble_eq_true rfl) rfl rfl ?_
  refine g_goto (tgt := 128) dX9_becomes_149 rfl ?_
  refine g_iload_n (pc' := 129) 0 dX9_becomes_128 rfl rfl ?_
  refine g_bipush (pc' := 131) dX9_becomes_129 rfl rfl ?_
  refine g_icmp_ge (tgt := 152) (pc' := 134) (rg_lit rfl) (rg_lit rfl) Iff.rfl dX9_becomes_131 rfl rfl (fun q => absurd q (by decide)) (fun _ => ?_)
  refine g_aload_n (pc' := 135) 1 dX9_becomes_134 rfl rfl ?_
  refine g_getR (pc' := 138) (o := some 25) fl_X9_35 rfl rfl rfl dX9_becomes_135 rfl ?_
  refine g_iload_n (pc' := 139) 0 dX9_becomes_138 rfl rfl ?_
  refine g_aload_n (pc' := 140) 2 dX9_becomes_139 rfl rfl ?_
  refine g_getR (pc' := 143) (o := some 15) fl_X9_35 rfl rfl rfl dX9_becomes_140 rfl ?_
  refine g_iload_n (pc' := 144) 0 dX9_becomes_143 rfl rfl ?_
  refine g_aald (pc' := 145) (n := 6) (N := 6) (o := w.2.2.2 15 5) rfl (Or.inr rfl) rfl (by decide) (by decide) rfl dX9_becomes_144 rfl ?_
  refine g_bkst (pc' := 146) (by decide) (by decide) (fun c hc => hb 5 c (by decide) (by decide) hc) dX9_becomes_145 rfl ?_
  refine g_iinc (pc' := 149) (L' := [(2, vI 6), (0, vR (some 17)), (1, vR (some 7))]) 0 dX9_becomes_146 rfl (Nat.le_of_ble_eq_true rfl) rfl rfl ?_
  refine g_goto (tgt := 128) dX9_becomes_149 rfl ?_
  refine g_iload_n (pc' := 129) 0 dX9_becomes_128 rfl rfl ?_
  refine g_bipush (pc' := 131) dX9_becomes_129 rfl rfl ?_
  refine g_icmp_ge (tgt := 152) (pc' := 134) (rg_lit rfl) (rg_lit rfl) Iff.rfl dX9_becomes_131 rfl rfl (fun _ => ?_) (fun q => absurd (by decide) q)
  show G w.1 (rmD (d + 1) 0 0) X_X9_becomes _ 0 0 (dw (wC w 7 17)) (bcC i 7 17) l _ _ _
  generalize hJ : bcC i 7 17 = J
  refine g_aload_n (pc' := 153) 1 dX9_becomes_152 rfl rfl ?_
  refine g_aload_n (pc' := 154) 2 dX9_becomes_153 rfl rfl ?_
  refine g_getI (pc' := 157) (z := 8) rfl fl_X9_43 rfl rfl dX9_becomes_154 rfl (fun hr8 => ?_)
  refine g_putI (pc' := 160) (z := 8) rfl fp_X9_43 rfl rfl hr8 dX9_becomes_157 rfl ?_
  refine g_aload_n (pc' := 161) 1 dX9_becomes_160 rfl rfl ?_
  refine g_aload_n (pc' := 162) 2 dX9_becomes_161 rfl rfl ?_
  refine g_getI (pc' := 165) (z := 9) rfl fl_X9_46 rfl rfl dX9_becomes_162 rfl (fun hr9 => ?_)
  refine g_putI (pc' := 168) (z := 9) rfl fp_X9_46 rfl rfl hr9 dX9_becomes_165 rfl ?_
  refine g_aload_n (pc' := 169) 1 dX9_becomes_168 rfl rfl ?_
  refine g_aload_n (pc' := 170) 2 dX9_becomes_169 rfl rfl ?_
  refine g_getI (pc' := 173) (z := 10) rfl fl_X9_75 rfl rfl dX9_becomes_170 rfl (fun hr10 => ?_)
  refine g_putI (pc' := 176) (z := 10) rfl fp_X9_75 rfl rfl hr10 dX9_becomes_173 rfl ?_
  refine g_aload_n (pc' := 177) 1 dX9_becomes_176 rfl rfl ?_
  refine g_aload_n (pc' := 178) 2 dX9_becomes_177 rfl rfl ?_
  refine g_getI (pc' := 181) (z := 11) rfl fl_X9_49 rfl rfl dX9_becomes_178 rfl (fun hr11 => ?_)
  refine g_putI (pc' := 184) (z := 11) rfl fp_X9_49 rfl rfl hr11 dX9_becomes_181 rfl ?_
  refine g_aload_n (pc' := 185) 1 dX9_becomes_184 rfl rfl ?_
  refine g_aload_n (pc' := 186) 2 dX9_becomes_185 rfl rfl ?_
  refine g_getI (pc' := 189) (z := 12) rfl fl_X9_66 rfl rfl dX9_becomes_186 rfl (fun hr12 => ?_)
  refine g_putI (pc' := 192) (z := 12) rfl fp_X9_66 rfl rfl hr12 dX9_becomes_189 rfl ?_
  refine g_aload_n (pc' := 193) 1 dX9_becomes_192 rfl rfl ?_
  refine g_aload_n (pc' := 194) 2 dX9_becomes_193 rfl rfl ?_
  refine g_getI (pc' := 197) (z := 13) rfl fl_X9_78 rfl rfl dX9_becomes_194 rfl (fun hr13 => ?_)
  refine g_putI (pc' := 200) (z := 13) rfl fp_X9_78 rfl rfl hr13 dX9_becomes_197 rfl ?_
  refine g_aload_n (pc' := 201) 1 dX9_becomes_200 rfl rfl ?_
  refine g_aload_n (pc' := 202) 2 dX9_becomes_201 rfl rfl ?_
  refine g_getI (pc' := 205) (z := 14) rfl fl_X9_39 rfl rfl dX9_becomes_202 rfl (fun hr14 => ?_)
  refine g_putI (pc' := 208) (z := 14) rfl fp_X9_39 rfl rfl hr14 dX9_becomes_205 rfl ?_
  exact g_vret (Nat.le_refl _) (Nat.le_refl _) rfl dX9_becomes_208 (by rw [← hJ]; exact hP)
set_option maxRecDepth 20000 in
theorem bc_26_7 {w : Wd} {d : Nat} {i : IM} {l : LM} {Post : PT} (hb : BkO w 15) (hP : Post none (dw (wC w 7 26)) (bcF (bcC i 7 26) 7 26) l) : Cn w.1 (d + 1) 0 0 X_X9_becomes [vR (some 26), vR (some 7)] (dw w) i l Post := by
  refine Cn_of (by decide +kernel) (Nat.le_of_ble_eq_true rfl) ?_
  refine g_aload_n (pc' := 1) 1 dX9_becomes_0 rfl rfl ?_
  refine g_getR (pc' := 4) (o := some 8) fl_X9_9 rfl rfl rfl dX9_becomes_1 rfl ?_
  refine g_iconst (pc' := 5) dX9_becomes_4 rfl ?_
  refine g_aload_n (pc' := 6) 0 dX9_becomes_5 rfl rfl ?_
  refine g_getR (pc' := 9) (o := some 27) fl_X9_9 rfl rfl rfl dX9_becomes_6 rfl ?_
  refine g_iconst (pc' := 10) dX9_becomes_9 rfl ?_
  refine g_aload_n (pc' := 11) 0 dX9_becomes_10 rfl rfl ?_
  refine g_getR (pc' := 14) (o := some 27) fl_X9_9 rfl rfl rfl dX9_becomes_11 rfl ?_
  refine g_alen (pc' := 15) (N := 80) rfl rfl (by decide) dX9_becomes_14 rfl ?_
  refine g_acopy (pc' := 18) lk_X9_69c rfl rfl (by decide) (by decide) (bc_rm d) (Nat.le_of_ble_eq_true rfl) dX9_becomes_15 rfl ?_
  refine g_aload_n (pc' := 19) 1 dX9_becomes_18 rfl rfl ?_
  refine g_getR (pc' := 22) (o := some 9) fl_X9_15 rfl rfl rfl dX9_becomes_19 rfl ?_
  refine g_iconst (pc' := 23) dX9_becomes_22 rfl ?_
  refine g_aload_n (pc' := 24) 0 dX9_becomes_23 rfl rfl ?_
  refine g_getR (pc' := 27) (o := some 28) fl_X9_15 rfl rfl rfl dX9_becomes_24 rfl ?_
  refine g_iconst (pc' := 28) dX9_becomes_27 rfl ?_
  refine g_aload_n (pc' := 29) 0 dX9_becomes_28 rfl rfl ?_
  refine g_getR (pc' := 32) (o := some 28) fl_X9_15 rfl rfl rfl dX9_becomes_29 rfl ?_
  refine g_alen (pc' := 33) (N := 24) rfl rfl (by decide) dX9_becomes_32 rfl ?_
  refine g_acopy (pc' := 36) lk_X9_69c rfl rfl (by decide) (by decide) (bc_rm d) (Nat.le_of_ble_eq_true rfl) dX9_becomes_33 rfl ?_
  refine g_aload_n (pc' := 37) 1 dX9_becomes_36 rfl rfl ?_
  refine g_getR (pc' := 40) (o := some 10) fl_X9_18 rfl rfl rfl dX9_becomes_37 rfl ?_
  refine g_iconst (pc' := 41) dX9_becomes_40 rfl ?_
  refine g_aload_n (pc' := 42) 0 dX9_becomes_41 rfl rfl ?_
  refine g_getR (pc' := 45) (o := some 29) fl_X9_18 rfl rfl rfl dX9_becomes_42 rfl ?_
  refine g_iconst (pc' := 46) dX9_becomes_45 rfl ?_
  refine g_aload_n (pc' := 47) 0 dX9_becomes_46 rfl rfl ?_
  refine g_getR (pc' := 50) (o := some 29) fl_X9_18 rfl rfl rfl dX9_becomes_47 rfl ?_
  refine g_alen (pc' := 51) (N := 5) rfl rfl (by decide) dX9_becomes_50 rfl ?_
  refine g_acopy (pc' := 54) lk_X9_69c rfl rfl (by decide) (by decide) (bc_rm d) (Nat.le_of_ble_eq_true rfl) dX9_becomes_51 rfl ?_
  refine g_aload_n (pc' := 55) 1 dX9_becomes_54 rfl rfl ?_
  refine g_getR (pc' := 58) (o := some 11) fl_X9_21 rfl rfl rfl dX9_becomes_55 rfl ?_
  refine g_iconst (pc' := 59) dX9_becomes_58 rfl ?_
  refine g_aload_n (pc' := 60) 0 dX9_becomes_59 rfl rfl ?_
  refine g_getR (pc' := 63) (o := some 30) fl_X9_21 rfl rfl rfl dX9_becomes_60 rfl ?_
  refine g_iconst (pc' := 64) dX9_becomes_63 rfl ?_
  refine g_aload_n (pc' := 65) 0 dX9_becomes_64 rfl rfl ?_
  refine g_getR (pc' := 68) (o := some 30) fl_X9_21 rfl rfl rfl dX9_becomes_65 rfl ?_
  refine g_alen (pc' := 69) (N := 10) rfl rfl (by decide) dX9_becomes_68 rfl ?_
  refine g_acopy (pc' := 72) lk_X9_69c rfl rfl (by decide) (by decide) (bc_rm d) (Nat.le_of_ble_eq_true rfl) dX9_becomes_69 rfl ?_
  refine g_aload_n (pc' := 73) 1 dX9_becomes_72 rfl rfl ?_
  refine g_getR (pc' := 76) (o := some 12) fl_X9_24 rfl rfl rfl dX9_becomes_73 rfl ?_
  refine g_iconst (pc' := 77) dX9_becomes_76 rfl ?_
  refine g_aload_n (pc' := 78) 0 dX9_becomes_77 rfl rfl ?_
  refine g_getR (pc' := 81) (o := some 31) fl_X9_24 rfl rfl rfl dX9_becomes_78 rfl ?_
  refine g_iconst (pc' := 82) dX9_becomes_81 rfl ?_
  refine g_aload_n (pc' := 83) 0 dX9_becomes_82 rfl rfl ?_
  refine g_getR (pc' := 86) (o := some 31) fl_X9_24 rfl rfl rfl dX9_becomes_83 rfl ?_
  refine g_alen (pc' := 87) (N := 8) rfl rfl (by decide) dX9_becomes_86 rfl ?_
  refine g_acopy (pc' := 90) lk_X9_69c rfl rfl (by decide) (by decide) (bc_rm d) (Nat.le_of_ble_eq_true rfl) dX9_becomes_87 rfl ?_
  refine g_aload_n (pc' := 91) 1 dX9_becomes_90 rfl rfl ?_
  refine g_getR (pc' := 94) (o := some 13) fl_X9_27 rfl rfl rfl dX9_becomes_91 rfl ?_
  refine g_iconst (pc' := 95) dX9_becomes_94 rfl ?_
  refine g_aload_n (pc' := 96) 0 dX9_becomes_95 rfl rfl ?_
  refine g_getR (pc' := 99) (o := some 32) fl_X9_27 rfl rfl rfl dX9_becomes_96 rfl ?_
  refine g_iconst (pc' := 100) dX9_becomes_99 rfl ?_
  refine g_aload_n (pc' := 101) 0 dX9_becomes_100 rfl rfl ?_
  refine g_getR (pc' := 104) (o := some 32) fl_X9_27 rfl rfl rfl dX9_becomes_101 rfl ?_
  refine g_alen (pc' := 105) (N := 8) rfl rfl (by decide) dX9_becomes_104 rfl ?_
  refine g_acopy (pc' := 108) lk_X9_69c rfl rfl (by decide) (by decide) (bc_rm d) (Nat.le_of_ble_eq_true rfl) dX9_becomes_105 rfl ?_
  refine g_aload_n (pc' := 109) 1 dX9_becomes_108 rfl rfl ?_
  refine g_getR (pc' := 112) (o := some 14) fl_X9_30 rfl rfl rfl dX9_becomes_109 rfl ?_
  refine g_iconst (pc' := 113) dX9_becomes_112 rfl ?_
  refine g_aload_n (pc' := 114) 0 dX9_becomes_113 rfl rfl ?_
  refine g_getR (pc' := 117) (o := some 33) fl_X9_30 rfl rfl rfl dX9_becomes_114 rfl ?_
  refine g_iconst (pc' := 118) dX9_becomes_117 rfl ?_
  refine g_aload_n (pc' := 119) 0 dX9_becomes_118 rfl rfl ?_
  refine g_getR (pc' := 122) (o := some 33) fl_X9_30 rfl rfl rfl dX9_becomes_119 rfl ?_
  refine g_alen (pc' := 123) (N := 180) rfl rfl (by decide) dX9_becomes_122 rfl ?_
  refine g_acopy (pc' := 126) lk_X9_69c rfl rfl (by decide) (by decide) (bc_rm d) (Nat.le_of_ble_eq_true rfl) dX9_becomes_123 rfl ?_
  refine g_iconst (pc' := 127) dX9_becomes_126 rfl ?_
  refine g_istore_n (pc' := 128) (L' := [(2, vI 0), (0, vR (some 26)), (1, vR (some 7))]) dX9_becomes_127 rfl (Nat.le_of_ble_eq_true rfl) rfl ?_
  refine g_iload_n (pc' := 129) 0 dX9_becomes_128 rfl rfl ?_
  refine g_bipush (pc' := 131) dX9_becomes_129 rfl rfl ?_
  refine g_icmp_ge (tgt := 152) (pc' := 134) (rg_lit rfl) (rg_lit rfl) Iff.rfl dX9_becomes_131 rfl rfl (fun q => absurd q (by decide)) (fun _ => ?_)
  refine g_aload_n (pc' := 135) 1 dX9_becomes_134 rfl rfl ?_
  refine g_getR (pc' := 138) (o := some 34) fl_X9_35 rfl rfl rfl dX9_becomes_135 rfl ?_
  refine g_iload_n (pc' := 139) 0 dX9_becomes_138 rfl rfl ?_
  refine g_aload_n (pc' := 140) 2 dX9_becomes_139 rfl rfl ?_
  refine g_getR (pc' := 143) (o := some 15) fl_X9_35 rfl rfl rfl dX9_becomes_140 rfl ?_
  refine g_iload_n (pc' := 144) 0 dX9_becomes_143 rfl rfl ?_
  refine g_aald (pc' := 145) (n := 6) (N := 6) (o := w.2.2.2 15 0) rfl (Or.inr rfl) rfl (by decide) (by decide) rfl dX9_becomes_144 rfl ?_
  refine g_bkst (pc' := 146) (by decide) (by decide) (fun c hc => hb 0 c (by decide) (by decide) hc) dX9_becomes_145 rfl ?_
  refine g_iinc (pc' := 149) (L' := [(2, vI 1), (0, vR (some 26)), (1, vR (some 7))]) 0 dX9_becomes_146 rfl (Nat.le_of_ble_eq_true rfl) rfl rfl ?_
  refine g_goto (tgt := 128) dX9_becomes_149 rfl ?_
  refine g_iload_n (pc' := 129) 0 dX9_becomes_128 rfl rfl ?_
  refine g_bipush (pc' := 131) dX9_becomes_129 rfl rfl ?_
  refine g_icmp_ge (tgt := 152) (pc' := 134) (rg_lit rfl) (rg_lit rfl) Iff.rfl dX9_becomes_131 rfl rfl (fun q => absurd q (by decide)) (fun _ => ?_)
  refine g_aload_n (pc' := 135) 1 dX9_becomes_134 rfl rfl ?_
  refine g_getR (pc' := 138) (o := some 34) fl_X9_35 rfl rfl rfl dX9_becomes_135 rfl ?_
  refine g_iload_n (pc' := 139) 0 dX9_becomes_138 rfl rfl ?_
  refine g_aload_n (pc' := 140) 2 dX9_becomes_139 rfl rfl ?_
  refine g_getR (pc' := 143) (o := some 15) fl_X9_35 rfl rfl rfl dX9_becomes_140 rfl ?_
  refine g_iload_n (pc' := 144) 0 dX9_becomes_143 rfl rfl ?_
  refine g_aald (pc' := 145) (n := 6) (N := 6) (o := w.2.2.2 15 1) rfl (Or.inr rfl) rfl (by decide) (by decide) rfl dX9_becomes_144 rfl ?_
  refine g_bkst (pc' := 146) (by decide) (by decide) (fun c hc => hb 1 c (by decide) (by decide) hc) dX9_becomes_145 rfl ?_
  refine g_iinc (pc' := 149) (L' := [(2, vI 2), (0, vR (some 26)), (1, vR (some 7))]) 0 dX9_becomes_146 rfl (Nat.le_of_ble_eq_true rfl) rfl rfl ?_
  refine g_goto (tgt := 128) dX9_becomes_149 rfl ?_
  refine g_iload_n (pc' := 129) 0 dX9_becomes_128 rfl rfl ?_
  refine g_bipush (pc' := 131) dX9_becomes_129 rfl rfl ?_
  refine g_icmp_ge (tgt := 152) (pc' := 134) (rg_lit rfl) (rg_lit rfl) Iff.rfl dX9_becomes_131 rfl rfl (fun q => absurd q (by decide)) (fun _ => ?_)
  refine g_aload_n (pc' := 135) 1 dX9_becomes_134 rfl rfl ?_
  refine g_getR (pc' := 138) (o := some 34) fl_X9_35 rfl rfl rfl dX9_becomes_135 rfl ?_
  refine g_iload_n (pc' := 139) 0 dX9_becomes_138 rfl rfl ?_
  refine g_aload_n (pc' := 140) 2 dX9_becomes_139 rfl rfl ?_
  refine g_getR (pc' := 143) (o := some 15) fl_X9_35 rfl rfl rfl dX9_becomes_140 rfl ?_
  refine g_iload_n (pc' := 144) 0 dX9_becomes_143 rfl rfl ?_
  refine g_aald (pc' := 145) (n := 6) (N := 6) (o := w.2.2.2 15 2) rfl (Or.inr rfl) rfl (by decide) (by decide) rfl dX9_becomes_144 rfl ?_
  refine g_bkst (pc' := 146) (by decide) (by decide) (fun c hc => hb 2 c (by decide) (by decide) hc) dX9_becomes_145 rfl ?_
  refine g_iinc (pc' := 149) (L' := [(2, vI 3), (0, vR (some 26)), (1, vR (some 7))]) 0 dX9_becomes_146 rfl (Nat.le_of_ble_eq_true rfl) rfl rfl ?_
  refine g_goto (tgt := 128) dX9_becomes_149 rfl ?_
  refine g_iload_n (pc' := 129) 0 dX9_becomes_128 rfl rfl ?_
  refine g_bipush (pc' := 131) dX9_becomes_129 rfl rfl ?_
  refine g_icmp_ge (tgt := 152) (pc' := 134) (rg_lit rfl) (rg_lit rfl) Iff.rfl dX9_becomes_131 rfl rfl (fun q => absurd q (by decide)) (fun _ => ?_)
  refine g_aload_n (pc' := 135) 1 dX9_becomes_134 rfl rfl ?_
  refine g_getR (pc' := 138) (o := some 34) fl_X9_35 rfl rfl rfl dX9_becomes_135 rfl ?_
  refine g_iload_n (pc' := 139) 0 dX9_becomes_138 rfl rfl ?_
  refine g_aload_n (pc' := 140) 2 dX9_becomes_139 rfl rfl ?_
  refine g_getR (pc' := 143) (o := some 15) fl_X9_35 rfl rfl rfl dX9_becomes_140 rfl ?_
  refine g_iload_n (pc' := 144) 0 dX9_becomes_143 rfl rfl ?_
  refine g_aald (pc' := 145) (n := 6) (N := 6) (o := w.2.2.2 15 3) rfl (Or.inr rfl) rfl (by decide) (by decide) rfl dX9_becomes_144 rfl ?_
  refine g_bkst (pc' := 146) (by decide) (by decide) (fun c hc => hb 3 c (by decide) (by decide) hc) dX9_becomes_145 rfl ?_
  refine g_iinc (pc' := 149) (L' := [(2, vI 4), (0, vR (some 26)), (1, vR (some 7))]) 0 dX9_becomes_146 rfl (Nat.le_of_ble_eq_true rfl) rfl rfl ?_
  refine g_goto (tgt := 128) dX9_becomes_149 rfl ?_
  refine g_iload_n (pc' := 129) 0 dX9_becomes_128 rfl rfl ?_
  refine g_bipush (pc' := 131) dX9_becomes_129 rfl rfl ?_
  refine g_icmp_ge (tgt := 152) (pc' := 134) (rg_lit rfl) (rg_lit rfl) Iff.rfl dX9_becomes_131 rfl rfl (fun q => absurd q (by decide)) (fun _ => ?_)
  refine g_aload_n (pc' := 135) 1 dX9_becomes_134 rfl rfl ?_
  refine g_getR (pc' := 138) (o := some 34) fl_X9_35 rfl rfl rfl dX9_becomes_135 rfl ?_
  refine g_iload_n (pc' := 139) 0 dX9_becomes_138 rfl rfl ?_
  refine g_aload_n (pc' := 140) 2 dX9_becomes_139 rfl rfl ?_
  refine g_getR (pc' := 143) (o := some 15) fl_X9_35 rfl rfl rfl dX9_becomes_140 rfl ?_
  refine g_iload_n (pc' := 144) 0 dX9_becomes_143 rfl rfl ?_
  refine g_aald (pc' := 145) (n := 6) (N := 6) (o := w.2.2.2 15 4) rfl (Or.inr rfl) rfl (by decide) (by decide) rfl dX9_becomes_144 rfl ?_
  refine g_bkst (pc' := 146) (by decide) (by decide) (fun c hc => hb 4 c (by decide) (by decide) hc) dX9_becomes_145 rfl ?_
  refine g_iinc (pc' := 149) (L' := [(2, vI 5), (0, vR (some 26)), (1, vR (some 7))]) 0 dX9_becomes_146 rfl (Nat.le_of_ble_eq_true rfl) rfl rfl ?_
  refine g_goto (tgt := 128) dX9_becomes_149 rfl ?_
  refine g_iload_n (pc' := 129) 0 dX9_becomes_128 rfl rfl ?_
  refine g_bipush (pc' := 131) dX9_becomes_129 rfl rfl ?_
  refine g_icmp_ge (tgt := 152) (pc' := 134) (rg_lit rfl) (rg_lit rfl) Iff.rfl dX9_becomes_131 rfl rfl (fun q => absurd q (by decide)) (fun _ => ?_)
  refine g_aload_n (pc' := 135) 1 dX9_becomes_134 rfl rfl ?_
  refine g_getR (pc' := 138) (o := some 34) fl_X9_35 rfl rfl rfl dX9_becomes_135 rfl ?_
  refine g_iload_n (pc' := 139) 0 dX9_becomes_138 rfl rfl ?_
  refine g_aload_n (pc' := 140) 2 dX9_becomes_139 rfl rfl ?_
  refine g_getR (pc' := 143) (o := some 15) fl_X9_35 rfl rfl rfl dX9_becomes_140 rfl ?_
  refine g_iload_n (pc' := 144) 0 dX9_becomes_143 rfl rfl ?_
  refine g_aald (pc' := 145) (n := 6) (N := 6) (o := w.2.2.2 15 5) rfl (Or.inr rfl) rfl (by decide) (by decide) rfl dX9_becomes_144 rfl ?_
  refine g_bkst (pc' := 146) (by decide) (by decide) (fun c hc => hb 5 c (by decide) (by decide) hc) dX9_becomes_145 rfl ?_
  refine g_iinc (pc' := 149) (L' := [(2, vI 6), (0, vR (some 26)), (1, vR (some 7))]) 0 dX9_becomes_146 rfl (Nat.le_of_ble_eq_true rfl) rfl rfl ?_
  refine g_goto (tgt := 128) dX9_becomes_149 rfl ?_
  refine g_iload_n (pc' := 129) 0 dX9_becomes_128 rfl rfl ?_
  refine g_bipush (pc' := 131) dX9_becomes_129 rfl rfl ?_
  refine g_icmp_ge (tgt := 152) (pc' := 134) (rg_lit rfl) (rg_lit rfl) Iff.rfl dX9_becomes_131 rfl rfl (fun _ => ?_) (fun q => absurd (by decide) q)
  show G w.1 (rmD (d + 1) 0 0) X_X9_becomes _ 0 0 (dw (wC w 7 26)) (bcC i 7 26) l _ _ _
  generalize hJ : bcC i 7 26 = J
  refine g_aload_n (pc' := 153) 1 dX9_becomes_152 rfl rfl ?_
  refine g_aload_n (pc' := 154) 2 dX9_becomes_153 rfl rfl ?_
  refine g_getI (pc' := 157) (z := 8) rfl fl_X9_43 rfl rfl dX9_becomes_154 rfl (fun hr8 => ?_)
  refine g_putI (pc' := 160) (z := 8) rfl fp_X9_43 rfl rfl hr8 dX9_becomes_157 rfl ?_
  refine g_aload_n (pc' := 161) 1 dX9_becomes_160 rfl rfl ?_
  refine g_aload_n (pc' := 162) 2 dX9_becomes_161 rfl rfl ?_
  refine g_getI (pc' := 165) (z := 9) rfl fl_X9_46 rfl rfl dX9_becomes_162 rfl (fun hr9 => ?_)
  refine g_putI (pc' := 168) (z := 9) rfl fp_X9_46 rfl rfl hr9 dX9_becomes_165 rfl ?_
  refine g_aload_n (pc' := 169) 1 dX9_becomes_168 rfl rfl ?_
  refine g_aload_n (pc' := 170) 2 dX9_becomes_169 rfl rfl ?_
  refine g_getI (pc' := 173) (z := 10) rfl fl_X9_75 rfl rfl dX9_becomes_170 rfl (fun hr10 => ?_)
  refine g_putI (pc' := 176) (z := 10) rfl fp_X9_75 rfl rfl hr10 dX9_becomes_173 rfl ?_
  refine g_aload_n (pc' := 177) 1 dX9_becomes_176 rfl rfl ?_
  refine g_aload_n (pc' := 178) 2 dX9_becomes_177 rfl rfl ?_
  refine g_getI (pc' := 181) (z := 11) rfl fl_X9_49 rfl rfl dX9_becomes_178 rfl (fun hr11 => ?_)
  refine g_putI (pc' := 184) (z := 11) rfl fp_X9_49 rfl rfl hr11 dX9_becomes_181 rfl ?_
  refine g_aload_n (pc' := 185) 1 dX9_becomes_184 rfl rfl ?_
  refine g_aload_n (pc' := 186) 2 dX9_becomes_185 rfl rfl ?_
  refine g_getI (pc' := 189) (z := 12) rfl fl_X9_66 rfl rfl dX9_becomes_186 rfl (fun hr12 => ?_)
  refine g_putI (pc' := 192) (z := 12) rfl fp_X9_66 rfl rfl hr12 dX9_becomes_189 rfl ?_
  refine g_aload_n (pc' := 193) 1 dX9_becomes_192 rfl rfl ?_
  refine g_aload_n (pc' := 194) 2 dX9_becomes_193 rfl rfl ?_
  refine g_getI (pc' := 197) (z := 13) rfl fl_X9_78 rfl rfl dX9_becomes_194 rfl (fun hr13 => ?_)
  refine g_putI (pc' := 200) (z := 13) rfl fp_X9_78 rfl rfl hr13 dX9_becomes_197 rfl ?_
  refine g_aload_n (pc' := 201) 1 dX9_becomes_200 rfl rfl ?_
  refine g_aload_n (pc' := 202) 2 dX9_becomes_201 rfl rfl ?_
  refine g_getI (pc' := 205) (z := 14) rfl fl_X9_39 rfl rfl dX9_becomes_202 rfl (fun hr14 => ?_)
  refine g_putI (pc' := 208) (z := 14) rfl fp_X9_39 rfl rfl hr14 dX9_becomes_205 rfl ?_
  exact g_vret (Nat.le_refl _) (Nat.le_refl _) rfl dX9_becomes_208 (by rw [← hJ]; exact hP)
set_option maxRecDepth 20000 in
theorem bc_7_17 {w : Wd} {d : Nat} {i : IM} {l : LM} {Post : PT} (hb : BkO w 25) (hP : Post none (dw (wC w 17 7)) (bcF (bcC i 17 7) 17 7) l) : Cn w.1 (d + 1) 0 0 X_X9_becomes [vR (some 7), vR (some 17)] (dw w) i l Post := by
  refine Cn_of (by decide +kernel) (Nat.le_of_ble_eq_true rfl) ?_
  refine g_aload_n (pc' := 1) 1 dX9_becomes_0 rfl rfl ?_
  refine g_getR (pc' := 4) (o := some 18) fl_X9_9 rfl rfl rfl dX9_becomes_1 rfl ?_
  refine g_iconst (pc' := 5) dX9_becomes_4 rfl ?_
  refine g_aload_n (pc' := 6) 0 dX9_becomes_5 rfl rfl ?_
  refine g_getR (pc' := 9) (o := some 8) fl_X9_9 rfl rfl rfl dX9_becomes_6 rfl ?_
  refine g_iconst (pc' := 10) dX9_becomes_9 rfl ?_
  refine g_aload_n (pc' := 11) 0 dX9_becomes_10 rfl rfl ?_
  refine g_getR (pc' := 14) (o := some 8) fl_X9_9 rfl rfl rfl dX9_becomes_11 rfl ?_
  refine g_alen (pc' := 15) (N := 80) rfl rfl (by decide) dX9_becomes_14 rfl ?_
  refine g_acopy (pc' := 18) lk_X9_69c rfl rfl (by decide) (by decide) (bc_rm d) (Nat.le_of_ble_eq_true rfl) dX9_becomes_15 rfl ?_
  refine g_aload_n (pc' := 19) 1 dX9_becomes_18 rfl rfl ?_
  refine g_getR (pc' := 22) (o := some 19) fl_X9_15 rfl rfl rfl dX9_becomes_19 rfl ?_
  refine g_iconst (pc' := 23) dX9_becomes_22 rfl ?_
  refine g_aload_n (pc' := 24) 0 dX9_becomes_23 rfl rfl ?_
  refine g_getR (pc' := 27) (o := some 9) fl_X9_15 rfl rfl rfl dX9_becomes_24 rfl ?_
  refine g_iconst (pc' := 28) dX9_becomes_27 rfl ?_
  refine g_aload_n (pc' := 29) 0 dX9_becomes_28 rfl rfl ?_
  refine g_getR (pc' := 32) (o := some 9) fl_X9_15 rfl rfl rfl dX9_becomes_29 rfl ?_
  refine g_alen (pc' := 33) (N := 24) rfl rfl (by decide) dX9_becomes_32 rfl ?_
  refine g_acopy (pc' := 36) lk_X9_69c rfl rfl (by decide) (by decide) (bc_rm d) (Nat.le_of_ble_eq_true rfl) dX9_becomes_33 rfl ?_
  refine g_aload_n (pc' := 37) 1 dX9_becomes_36 rfl rfl ?_
  refine g_getR (pc' := 40) (o := some 20) fl_X9_18 rfl rfl rfl dX9_becomes_37 rfl ?_
  refine g_iconst (pc' := 41) dX9_becomes_40 rfl ?_
  refine g_aload_n (pc' := 42) 0 dX9_becomes_41 rfl rfl ?_
  refine g_getR (pc' := 45) (o := some 10) fl_X9_18 rfl rfl rfl dX9_becomes_42 rfl ?_
  refine g_iconst (pc' := 46) dX9_becomes_45 rfl ?_
  refine g_aload_n (pc' := 47) 0 dX9_becomes_46 rfl rfl ?_
  refine g_getR (pc' := 50) (o := some 10) fl_X9_18 rfl rfl rfl dX9_becomes_47 rfl ?_
  refine g_alen (pc' := 51) (N := 5) rfl rfl (by decide) dX9_becomes_50 rfl ?_
  refine g_acopy (pc' := 54) lk_X9_69c rfl rfl (by decide) (by decide) (bc_rm d) (Nat.le_of_ble_eq_true rfl) dX9_becomes_51 rfl ?_
  refine g_aload_n (pc' := 55) 1 dX9_becomes_54 rfl rfl ?_
  refine g_getR (pc' := 58) (o := some 21) fl_X9_21 rfl rfl rfl dX9_becomes_55 rfl ?_
  refine g_iconst (pc' := 59) dX9_becomes_58 rfl ?_
  refine g_aload_n (pc' := 60) 0 dX9_becomes_59 rfl rfl ?_
  refine g_getR (pc' := 63) (o := some 11) fl_X9_21 rfl rfl rfl dX9_becomes_60 rfl ?_
  refine g_iconst (pc' := 64) dX9_becomes_63 rfl ?_
  refine g_aload_n (pc' := 65) 0 dX9_becomes_64 rfl rfl ?_
  refine g_getR (pc' := 68) (o := some 11) fl_X9_21 rfl rfl rfl dX9_becomes_65 rfl ?_
  refine g_alen (pc' := 69) (N := 10) rfl rfl (by decide) dX9_becomes_68 rfl ?_
  refine g_acopy (pc' := 72) lk_X9_69c rfl rfl (by decide) (by decide) (bc_rm d) (Nat.le_of_ble_eq_true rfl) dX9_becomes_69 rfl ?_
  refine g_aload_n (pc' := 73) 1 dX9_becomes_72 rfl rfl ?_
  refine g_getR (pc' := 76) (o := some 22) fl_X9_24 rfl rfl rfl dX9_becomes_73 rfl ?_
  refine g_iconst (pc' := 77) dX9_becomes_76 rfl ?_
  refine g_aload_n (pc' := 78) 0 dX9_becomes_77 rfl rfl ?_
  refine g_getR (pc' := 81) (o := some 12) fl_X9_24 rfl rfl rfl dX9_becomes_78 rfl ?_
  refine g_iconst (pc' := 82) dX9_becomes_81 rfl ?_
  refine g_aload_n (pc' := 83) 0 dX9_becomes_82 rfl rfl ?_
  refine g_getR (pc' := 86) (o := some 12) fl_X9_24 rfl rfl rfl dX9_becomes_83 rfl ?_
  refine g_alen (pc' := 87) (N := 8) rfl rfl (by decide) dX9_becomes_86 rfl ?_
  refine g_acopy (pc' := 90) lk_X9_69c rfl rfl (by decide) (by decide) (bc_rm d) (Nat.le_of_ble_eq_true rfl) dX9_becomes_87 rfl ?_
  refine g_aload_n (pc' := 91) 1 dX9_becomes_90 rfl rfl ?_
  refine g_getR (pc' := 94) (o := some 23) fl_X9_27 rfl rfl rfl dX9_becomes_91 rfl ?_
  refine g_iconst (pc' := 95) dX9_becomes_94 rfl ?_
  refine g_aload_n (pc' := 96) 0 dX9_becomes_95 rfl rfl ?_
  refine g_getR (pc' := 99) (o := some 13) fl_X9_27 rfl rfl rfl dX9_becomes_96 rfl ?_
  refine g_iconst (pc' := 100) dX9_becomes_99 rfl ?_
  refine g_aload_n (pc' := 101) 0 dX9_becomes_100 rfl rfl ?_
  refine g_getR (pc' := 104) (o := some 13) fl_X9_27 rfl rfl rfl dX9_becomes_101 rfl ?_
  refine g_alen (pc' := 105) (N := 8) rfl rfl (by decide) dX9_becomes_104 rfl ?_
  refine g_acopy (pc' := 108) lk_X9_69c rfl rfl (by decide) (by decide) (bc_rm d) (Nat.le_of_ble_eq_true rfl) dX9_becomes_105 rfl ?_
  refine g_aload_n (pc' := 109) 1 dX9_becomes_108 rfl rfl ?_
  refine g_getR (pc' := 112) (o := some 24) fl_X9_30 rfl rfl rfl dX9_becomes_109 rfl ?_
  refine g_iconst (pc' := 113) dX9_becomes_112 rfl ?_
  refine g_aload_n (pc' := 114) 0 dX9_becomes_113 rfl rfl ?_
  refine g_getR (pc' := 117) (o := some 14) fl_X9_30 rfl rfl rfl dX9_becomes_114 rfl ?_
  refine g_iconst (pc' := 118) dX9_becomes_117 rfl ?_
  refine g_aload_n (pc' := 119) 0 dX9_becomes_118 rfl rfl ?_
  refine g_getR (pc' := 122) (o := some 14) fl_X9_30 rfl rfl rfl dX9_becomes_119 rfl ?_
  refine g_alen (pc' := 123) (N := 180) rfl rfl (by decide) dX9_becomes_122 rfl ?_
  refine g_acopy (pc' := 126) lk_X9_69c rfl rfl (by decide) (by decide) (bc_rm d) (Nat.le_of_ble_eq_true rfl) dX9_becomes_123 rfl ?_
  refine g_iconst (pc' := 127) dX9_becomes_126 rfl ?_
  refine g_istore_n (pc' := 128) (L' := [(2, vI 0), (0, vR (some 7)), (1, vR (some 17))]) dX9_becomes_127 rfl (Nat.le_of_ble_eq_true rfl) rfl ?_
  refine g_iload_n (pc' := 129) 0 dX9_becomes_128 rfl rfl ?_
  refine g_bipush (pc' := 131) dX9_becomes_129 rfl rfl ?_
  refine g_icmp_ge (tgt := 152) (pc' := 134) (rg_lit rfl) (rg_lit rfl) Iff.rfl dX9_becomes_131 rfl rfl (fun q => absurd q (by decide)) (fun _ => ?_)
  refine g_aload_n (pc' := 135) 1 dX9_becomes_134 rfl rfl ?_
  refine g_getR (pc' := 138) (o := some 15) fl_X9_35 rfl rfl rfl dX9_becomes_135 rfl ?_
  refine g_iload_n (pc' := 139) 0 dX9_becomes_138 rfl rfl ?_
  refine g_aload_n (pc' := 140) 2 dX9_becomes_139 rfl rfl ?_
  refine g_getR (pc' := 143) (o := some 25) fl_X9_35 rfl rfl rfl dX9_becomes_140 rfl ?_
  refine g_iload_n (pc' := 144) 0 dX9_becomes_143 rfl rfl ?_
  refine g_aald (pc' := 145) (n := 6) (N := 6) (o := w.2.2.2 25 0) rfl (Or.inr rfl) rfl (by decide) (by decide) rfl dX9_becomes_144 rfl ?_
  refine g_bkst (pc' := 146) (by decide) (by decide) (fun c hc => hb 0 c (by decide) (by decide) hc) dX9_becomes_145 rfl ?_
  refine g_iinc (pc' := 149) (L' := [(2, vI 1), (0, vR (some 7)), (1, vR (some 17))]) 0 dX9_becomes_146 rfl (Nat.le_of_ble_eq_true rfl) rfl rfl ?_
  refine g_goto (tgt := 128) dX9_becomes_149 rfl ?_
  refine g_iload_n (pc' := 129) 0 dX9_becomes_128 rfl rfl ?_
  refine g_bipush (pc' := 131) dX9_becomes_129 rfl rfl ?_
  refine g_icmp_ge (tgt := 152) (pc' := 134) (rg_lit rfl) (rg_lit rfl) Iff.rfl dX9_becomes_131 rfl rfl (fun q => absurd q (by decide)) (fun _ => ?_)
  refine g_aload_n (pc' := 135) 1 dX9_becomes_134 rfl rfl ?_
  refine g_getR (pc' := 138) (o := some 15) fl_X9_35 rfl rfl rfl dX9_becomes_135 rfl ?_
  refine g_iload_n (pc' := 139) 0 dX9_becomes_138 rfl rfl ?_
  refine g_aload_n (pc' := 140) 2 dX9_becomes_139 rfl rfl ?_
  refine g_getR (pc' := 143) (o := some 25) fl_X9_35 rfl rfl rfl dX9_becomes_140 rfl ?_
  refine g_iload_n (pc' := 144) 0 dX9_becomes_143 rfl rfl ?_
  refine g_aald (pc' := 145) (n := 6) (N := 6) (o := w.2.2.2 25 1) rfl (Or.inr rfl) rfl (by decide) (by decide) rfl dX9_becomes_144 rfl ?_
  refine g_bkst (pc' := 146) (by decide) (by decide) (fun c hc => hb 1 c (by decide) (by decide) hc) dX9_becomes_145 rfl ?_
  refine g_iinc (pc' := 149) (L' := [(2, vI 2), (0, vR (some 7)), (1, vR (some 17))]) 0 dX9_becomes_146 rfl (Nat.le_of_ble_eq_true rfl) rfl rfl ?_
  refine g_goto (tgt := 128) dX9_becomes_149 rfl ?_
  refine g_iload_n (pc' := 129) 0 dX9_becomes_128 rfl rfl ?_
  refine g_bipush (pc' := 131) dX9_becomes_129 rfl rfl ?_
  refine g_icmp_ge (tgt := 152) (pc' := 134) (rg_lit rfl) (rg_lit rfl) Iff.rfl dX9_becomes_131 rfl rfl (fun q => absurd q (by decide)) (fun _ => ?_)
  refine g_aload_n (pc' := 135) 1 dX9_becomes_134 rfl rfl ?_
  refine g_getR (pc' := 138) (o := some 15) fl_X9_35 rfl rfl rfl dX9_becomes_135 rfl ?_
  refine g_iload_n (pc' := 139) 0 dX9_becomes_138 rfl rfl ?_
  refine g_aload_n (pc' := 140) 2 dX9_becomes_139 rfl rfl ?_
  refine g_getR (pc' := 143) (o := some 25) fl_X9_35 rfl rfl rfl dX9_becomes_140 rfl ?_
  refine g_iload_n (pc' := 144) 0 dX9_becomes_143 rfl rfl ?_
  refine g_aald (pc' := 145) (n := 6) (N := 6) (o := w.2.2.2 25 2) rfl (Or.inr rfl) rfl (by decide) (by decide) rfl dX9_becomes_144 rfl ?_
  refine g_bkst (pc' := 146) (by decide) (by decide) (fun c hc => hb 2 c (by decide) (by decide) hc) dX9_becomes_145 rfl ?_
  refine g_iinc (pc' := 149) (L' := [(2, vI 3), (0, vR (some 7)), (1, vR (some 17))]) 0 dX9_becomes_146 rfl (Nat.le_of_ble_eq_true rfl) rfl rfl ?_
  refine g_goto (tgt := 128) dX9_becomes_149 rfl ?_
  refine g_iload_n (pc' := 129) 0 dX9_becomes_128 rfl rfl ?_
  refine g_bipush (pc' := 131) dX9_becomes_129 rfl rfl ?_
  refine g_icmp_ge (tgt := 152) (pc' := 134) (rg_lit rfl) (rg_lit rfl) Iff.rfl dX9_becomes_131 rfl rfl (fun q => absurd q (by decide)) (fun _ => ?_)
  refine g_aload_n (pc' := 135) 1 dX9_becomes_134 rfl rfl ?_
  refine g_getR (pc' := 138) (o := some 15) fl_X9_35 rfl rfl rfl dX9_becomes_135 rfl ?_
  refine g_iload_n (pc' := 139) 0 dX9_becomes_138 rfl rfl ?_
  refine g_aload_n (pc' := 140) 2 dX9_becomes_139 rfl rfl ?_
  refine g_getR (pc' := 143) (o := some 25) fl_X9_35 rfl rfl rfl dX9_becomes_140 rfl ?_
  refine g_iload_n (pc' := 144) 0 dX9_becomes_143 rfl rfl ?_
  refine g_aald (pc' := 145) (n := 6) (N := 6) (o := w.2.2.2 25 3) rfl (Or.inr rfl) rfl (by decide) (by decide) rfl dX9_becomes_144 rfl ?_
  refine g_bkst (pc' := 146) (by decide) (by decide) (fun c hc => hb 3 c (by decide) (by decide) hc) dX9_becomes_145 rfl ?_
  refine g_iinc (pc' := 149) (L' := [(2, vI 4), (0, vR (some 7)), (1, vR (some 17))]) 0 dX9_becomes_146 rfl (Nat.le_of_ble_eq_true rfl) rfl rfl ?_
  refine g_goto (tgt := 128) dX9_becomes_149 rfl ?_
  refine g_iload_n (pc' := 129) 0 dX9_becomes_128 rfl rfl ?_
  refine g_bipush (pc' := 131) dX9_becomes_129 rfl rfl ?_
  refine g_icmp_ge (tgt := 152) (pc' := 134) (rg_lit rfl) (rg_lit rfl) Iff.rfl dX9_becomes_131 rfl rfl (fun q => absurd q (by decide)) (fun _ => ?_)
  refine g_aload_n (pc' := 135) 1 dX9_becomes_134 rfl rfl ?_
  refine g_getR (pc' := 138) (o := some 15) fl_X9_35 rfl rfl rfl dX9_becomes_135 rfl ?_
  refine g_iload_n (pc' := 139) 0 dX9_becomes_138 rfl rfl ?_
  refine g_aload_n (pc' := 140) 2 dX9_becomes_139 rfl rfl ?_
  refine g_getR (pc' := 143) (o := some 25) fl_X9_35 rfl rfl rfl dX9_becomes_140 rfl ?_
  refine g_iload_n (pc' := 144) 0 dX9_becomes_143 rfl rfl ?_
  refine g_aald (pc' := 145) (n := 6) (N := 6) (o := w.2.2.2 25 4) rfl (Or.inr rfl) rfl (by decide) (by decide) rfl dX9_becomes_144 rfl ?_
  refine g_bkst (pc' := 146) (by decide) (by decide) (fun c hc => hb 4 c (by decide) (by decide) hc) dX9_becomes_145 rfl ?_
  refine g_iinc (pc' := 149) (L' := [(2, vI 5), (0, vR (some 7)), (1, vR (some 17))]) 0 dX9_becomes_146 rfl (Nat.le_of_ble_eq_true rfl) rfl rfl ?_
  refine g_goto (tgt := 128) dX9_becomes_149 rfl ?_
  refine g_iload_n (pc' := 129) 0 dX9_becomes_128 rfl rfl ?_
  refine g_bipush (pc' := 131) dX9_becomes_129 rfl rfl ?_
  refine g_icmp_ge (tgt := 152) (pc' := 134) (rg_lit rfl) (rg_lit rfl) Iff.rfl dX9_becomes_131 rfl rfl (fun q => absurd q (by decide)) (fun _ => ?_)
  refine g_aload_n (pc' := 135) 1 dX9_becomes_134 rfl rfl ?_
  refine g_getR (pc' := 138) (o := some 15) fl_X9_35 rfl rfl rfl dX9_becomes_135 rfl ?_
  refine g_iload_n (pc' := 139) 0 dX9_becomes_138 rfl rfl ?_
  refine g_aload_n (pc' := 140) 2 dX9_becomes_139 rfl rfl ?_
  refine g_getR (pc' := 143) (o := some 25) fl_X9_35 rfl rfl rfl dX9_becomes_140 rfl ?_
  refine g_iload_n (pc' := 144) 0 dX9_becomes_143 rfl rfl ?_
  refine g_aald (pc' := 145) (n := 6) (N := 6) (o := w.2.2.2 25 5) rfl (Or.inr rfl) rfl (by decide) (by decide) rfl dX9_becomes_144 rfl ?_
  refine g_bkst (pc' := 146) (by decide) (by decide) (fun c hc => hb 5 c (by decide) (by decide) hc) dX9_becomes_145 rfl ?_
  refine g_iinc (pc' := 149) (L' := [(2, vI 6), (0, vR (some 7)), (1, vR (some 17))]) 0 dX9_becomes_146 rfl (Nat.le_of_ble_eq_true rfl) rfl rfl ?_
  refine g_goto (tgt := 128) dX9_becomes_149 rfl ?_
  refine g_iload_n (pc' := 129) 0 dX9_becomes_128 rfl rfl ?_
  refine g_bipush (pc' := 131) dX9_becomes_129 rfl rfl ?_
  refine g_icmp_ge (tgt := 152) (pc' := 134) (rg_lit rfl) (rg_lit rfl) Iff.rfl dX9_becomes_131 rfl rfl (fun _ => ?_) (fun q => absurd (by decide) q)
  show G w.1 (rmD (d + 1) 0 0) X_X9_becomes _ 0 0 (dw (wC w 17 7)) (bcC i 17 7) l _ _ _
  generalize hJ : bcC i 17 7 = J
  refine g_aload_n (pc' := 153) 1 dX9_becomes_152 rfl rfl ?_
  refine g_aload_n (pc' := 154) 2 dX9_becomes_153 rfl rfl ?_
  refine g_getI (pc' := 157) (z := 8) rfl fl_X9_43 rfl rfl dX9_becomes_154 rfl (fun hr8 => ?_)
  refine g_putI (pc' := 160) (z := 8) rfl fp_X9_43 rfl rfl hr8 dX9_becomes_157 rfl ?_
  refine g_aload_n (pc' := 161) 1 dX9_becomes_160 rfl rfl ?_
  refine g_aload_n (pc' := 162) 2 dX9_becomes_161 rfl rfl ?_
  refine g_getI (pc' := 165) (z := 9) rfl fl_X9_46 rfl rfl dX9_becomes_162 rfl (fun hr9 => ?_)
  refine g_putI (pc' := 168) (z := 9) rfl fp_X9_46 rfl rfl hr9 dX9_becomes_165 rfl ?_
  refine g_aload_n (pc' := 169) 1 dX9_becomes_168 rfl rfl ?_
  refine g_aload_n (pc' := 170) 2 dX9_becomes_169 rfl rfl ?_
  refine g_getI (pc' := 173) (z := 10) rfl fl_X9_75 rfl rfl dX9_becomes_170 rfl (fun hr10 => ?_)
  refine g_putI (pc' := 176) (z := 10) rfl fp_X9_75 rfl rfl hr10 dX9_becomes_173 rfl ?_
  refine g_aload_n (pc' := 177) 1 dX9_becomes_176 rfl rfl ?_
  refine g_aload_n (pc' := 178) 2 dX9_becomes_177 rfl rfl ?_
  refine g_getI (pc' := 181) (z := 11) rfl fl_X9_49 rfl rfl dX9_becomes_178 rfl (fun hr11 => ?_)
  refine g_putI (pc' := 184) (z := 11) rfl fp_X9_49 rfl rfl hr11 dX9_becomes_181 rfl ?_
  refine g_aload_n (pc' := 185) 1 dX9_becomes_184 rfl rfl ?_
  refine g_aload_n (pc' := 186) 2 dX9_becomes_185 rfl rfl ?_
  refine g_getI (pc' := 189) (z := 12) rfl fl_X9_66 rfl rfl dX9_becomes_186 rfl (fun hr12 => ?_)
  refine g_putI (pc' := 192) (z := 12) rfl fp_X9_66 rfl rfl hr12 dX9_becomes_189 rfl ?_
  refine g_aload_n (pc' := 193) 1 dX9_becomes_192 rfl rfl ?_
  refine g_aload_n (pc' := 194) 2 dX9_becomes_193 rfl rfl ?_
  refine g_getI (pc' := 197) (z := 13) rfl fl_X9_78 rfl rfl dX9_becomes_194 rfl (fun hr13 => ?_)
  refine g_putI (pc' := 200) (z := 13) rfl fp_X9_78 rfl rfl hr13 dX9_becomes_197 rfl ?_
  refine g_aload_n (pc' := 201) 1 dX9_becomes_200 rfl rfl ?_
  refine g_aload_n (pc' := 202) 2 dX9_becomes_201 rfl rfl ?_
  refine g_getI (pc' := 205) (z := 14) rfl fl_X9_39 rfl rfl dX9_becomes_202 rfl (fun hr14 => ?_)
  refine g_putI (pc' := 208) (z := 14) rfl fp_X9_39 rfl rfl hr14 dX9_becomes_205 rfl ?_
  exact g_vret (Nat.le_refl _) (Nat.le_refl _) rfl dX9_becomes_208 (by rw [← hJ]; exact hP)
set_option maxRecDepth 20000 in
theorem bc_7_26 {w : Wd} {d : Nat} {i : IM} {l : LM} {Post : PT} (hb : BkO w 34) (hP : Post none (dw (wC w 26 7)) (bcF (bcC i 26 7) 26 7) l) : Cn w.1 (d + 1) 0 0 X_X9_becomes [vR (some 7), vR (some 26)] (dw w) i l Post := by
  refine Cn_of (by decide +kernel) (Nat.le_of_ble_eq_true rfl) ?_
  refine g_aload_n (pc' := 1) 1 dX9_becomes_0 rfl rfl ?_
  refine g_getR (pc' := 4) (o := some 27) fl_X9_9 rfl rfl rfl dX9_becomes_1 rfl ?_
  refine g_iconst (pc' := 5) dX9_becomes_4 rfl ?_
  refine g_aload_n (pc' := 6) 0 dX9_becomes_5 rfl rfl ?_
  refine g_getR (pc' := 9) (o := some 8) fl_X9_9 rfl rfl rfl dX9_becomes_6 rfl ?_
  refine g_iconst (pc' := 10) dX9_becomes_9 rfl ?_
  refine g_aload_n (pc' := 11) 0 dX9_becomes_10 rfl rfl ?_
  refine g_getR (pc' := 14) (o := some 8) fl_X9_9 rfl rfl rfl dX9_becomes_11 rfl ?_
  refine g_alen (pc' := 15) (N := 80) rfl rfl (by decide) dX9_becomes_14 rfl ?_
  refine g_acopy (pc' := 18) lk_X9_69c rfl rfl (by decide) (by decide) (bc_rm d) (Nat.le_of_ble_eq_true rfl) dX9_becomes_15 rfl ?_
  refine g_aload_n (pc' := 19) 1 dX9_becomes_18 rfl rfl ?_
  refine g_getR (pc' := 22) (o := some 28) fl_X9_15 rfl rfl rfl dX9_becomes_19 rfl ?_
  refine g_iconst (pc' := 23) dX9_becomes_22 rfl ?_
  refine g_aload_n (pc' := 24) 0 dX9_becomes_23 rfl rfl ?_
  refine g_getR (pc' := 27) (o := some 9) fl_X9_15 rfl rfl rfl dX9_becomes_24 rfl ?_
  refine g_iconst (pc' := 28) dX9_becomes_27 rfl ?_
  refine g_aload_n (pc' := 29) 0 dX9_becomes_28 rfl rfl ?_
  refine g_getR (pc' := 32) (o := some 9) fl_X9_15 rfl rfl rfl dX9_becomes_29 rfl ?_
  refine g_alen (pc' := 33) (N := 24) rfl rfl (by decide) dX9_becomes_32 rfl ?_
  refine g_acopy (pc' := 36) lk_X9_69c rfl rfl (by decide) (by decide) (bc_rm d) (Nat.le_of_ble_eq_true rfl) dX9_becomes_33 rfl ?_
  refine g_aload_n (pc' := 37) 1 dX9_becomes_36 rfl rfl ?_
  refine g_getR (pc' := 40) (o := some 29) fl_X9_18 rfl rfl rfl dX9_becomes_37 rfl ?_
  refine g_iconst (pc' := 41) dX9_becomes_40 rfl ?_
  refine g_aload_n (pc' := 42) 0 dX9_becomes_41 rfl rfl ?_
  refine g_getR (pc' := 45) (o := some 10) fl_X9_18 rfl rfl rfl dX9_becomes_42 rfl ?_
  refine g_iconst (pc' := 46) dX9_becomes_45 rfl ?_
  refine g_aload_n (pc' := 47) 0 dX9_becomes_46 rfl rfl ?_
  refine g_getR (pc' := 50) (o := some 10) fl_X9_18 rfl rfl rfl dX9_becomes_47 rfl ?_
  refine g_alen (pc' := 51) (N := 5) rfl rfl (by decide) dX9_becomes_50 rfl ?_
  refine g_acopy (pc' := 54) lk_X9_69c rfl rfl (by decide) (by decide) (bc_rm d) (Nat.le_of_ble_eq_true rfl) dX9_becomes_51 rfl ?_
  refine g_aload_n (pc' := 55) 1 dX9_becomes_54 rfl rfl ?_
  refine g_getR (pc' := 58) (o := some 30) fl_X9_21 rfl rfl rfl dX9_becomes_55 rfl ?_
  refine g_iconst (pc' := 59) dX9_becomes_58 rfl ?_
  refine g_aload_n (pc' := 60) 0 dX9_becomes_59 rfl rfl ?_
  refine g_getR (pc' := 63) (o := some 11) fl_X9_21 rfl rfl rfl dX9_becomes_60 rfl ?_
  refine g_iconst (pc' := 64) dX9_becomes_63 rfl ?_
  refine g_aload_n (pc' := 65) 0 dX9_becomes_64 rfl rfl ?_
  refine g_getR (pc' := 68) (o := some 11) fl_X9_21 rfl rfl rfl dX9_becomes_65 rfl ?_
  refine g_alen (pc' := 69) (N := 10) rfl rfl (by decide) dX9_becomes_68 rfl ?_
  refine g_acopy (pc' := 72) lk_X9_69c rfl rfl (by decide) (by decide) (bc_rm d) (Nat.le_of_ble_eq_true rfl) dX9_becomes_69 rfl ?_
  refine g_aload_n (pc' := 73) 1 dX9_becomes_72 rfl rfl ?_
  refine g_getR (pc' := 76) (o := some 31) fl_X9_24 rfl rfl rfl dX9_becomes_73 rfl ?_
  refine g_iconst (pc' := 77) dX9_becomes_76 rfl ?_
  refine g_aload_n (pc' := 78) 0 dX9_becomes_77 rfl rfl ?_
  refine g_getR (pc' := 81) (o := some 12) fl_X9_24 rfl rfl rfl dX9_becomes_78 rfl ?_
  refine g_iconst (pc' := 82) dX9_becomes_81 rfl ?_
  refine g_aload_n (pc' := 83) 0 dX9_becomes_82 rfl rfl ?_
  refine g_getR (pc' := 86) (o := some 12) fl_X9_24 rfl rfl rfl dX9_becomes_83 rfl ?_
  refine g_alen (pc' := 87) (N := 8) rfl rfl (by decide) dX9_becomes_86 rfl ?_
  refine g_acopy (pc' := 90) lk_X9_69c rfl rfl (by decide) (by decide) (bc_rm d) (Nat.le_of_ble_eq_true rfl) dX9_becomes_87 rfl ?_
  refine g_aload_n (pc' := 91) 1 dX9_becomes_90 rfl rfl ?_
  refine g_getR (pc' := 94) (o := some 32) fl_X9_27 rfl rfl rfl dX9_becomes_91 rfl ?_
  refine g_iconst (pc' := 95) dX9_becomes_94 rfl ?_
  refine g_aload_n (pc' := 96) 0 dX9_becomes_95 rfl rfl ?_
  refine g_getR (pc' := 99) (o := some 13) fl_X9_27 rfl rfl rfl dX9_becomes_96 rfl ?_
  refine g_iconst (pc' := 100) dX9_becomes_99 rfl ?_
  refine g_aload_n (pc' := 101) 0 dX9_becomes_100 rfl rfl ?_
  refine g_getR (pc' := 104) (o := some 13) fl_X9_27 rfl rfl rfl dX9_becomes_101 rfl ?_
  refine g_alen (pc' := 105) (N := 8) rfl rfl (by decide) dX9_becomes_104 rfl ?_
  refine g_acopy (pc' := 108) lk_X9_69c rfl rfl (by decide) (by decide) (bc_rm d) (Nat.le_of_ble_eq_true rfl) dX9_becomes_105 rfl ?_
  refine g_aload_n (pc' := 109) 1 dX9_becomes_108 rfl rfl ?_
  refine g_getR (pc' := 112) (o := some 33) fl_X9_30 rfl rfl rfl dX9_becomes_109 rfl ?_
  refine g_iconst (pc' := 113) dX9_becomes_112 rfl ?_
  refine g_aload_n (pc' := 114) 0 dX9_becomes_113 rfl rfl ?_
  refine g_getR (pc' := 117) (o := some 14) fl_X9_30 rfl rfl rfl dX9_becomes_114 rfl ?_
  refine g_iconst (pc' := 118) dX9_becomes_117 rfl ?_
  refine g_aload_n (pc' := 119) 0 dX9_becomes_118 rfl rfl ?_
  refine g_getR (pc' := 122) (o := some 14) fl_X9_30 rfl rfl rfl dX9_becomes_119 rfl ?_
  refine g_alen (pc' := 123) (N := 180) rfl rfl (by decide) dX9_becomes_122 rfl ?_
  refine g_acopy (pc' := 126) lk_X9_69c rfl rfl (by decide) (by decide) (bc_rm d) (Nat.le_of_ble_eq_true rfl) dX9_becomes_123 rfl ?_
  refine g_iconst (pc' := 127) dX9_becomes_126 rfl ?_
  refine g_istore_n (pc' := 128) (L' := [(2, vI 0), (0, vR (some 7)), (1, vR (some 26))]) dX9_becomes_127 rfl (Nat.le_of_ble_eq_true rfl) rfl ?_
  refine g_iload_n (pc' := 129) 0 dX9_becomes_128 rfl rfl ?_
  refine g_bipush (pc' := 131) dX9_becomes_129 rfl rfl ?_
  refine g_icmp_ge (tgt := 152) (pc' := 134) (rg_lit rfl) (rg_lit rfl) Iff.rfl dX9_becomes_131 rfl rfl (fun q => absurd q (by decide)) (fun _ => ?_)
  refine g_aload_n (pc' := 135) 1 dX9_becomes_134 rfl rfl ?_
  refine g_getR (pc' := 138) (o := some 15) fl_X9_35 rfl rfl rfl dX9_becomes_135 rfl ?_
  refine g_iload_n (pc' := 139) 0 dX9_becomes_138 rfl rfl ?_
  refine g_aload_n (pc' := 140) 2 dX9_becomes_139 rfl rfl ?_
  refine g_getR (pc' := 143) (o := some 34) fl_X9_35 rfl rfl rfl dX9_becomes_140 rfl ?_
  refine g_iload_n (pc' := 144) 0 dX9_becomes_143 rfl rfl ?_
  refine g_aald (pc' := 145) (n := 6) (N := 6) (o := w.2.2.2 34 0) rfl (Or.inr rfl) rfl (by decide) (by decide) rfl dX9_becomes_144 rfl ?_
  refine g_bkst (pc' := 146) (by decide) (by decide) (fun c hc => hb 0 c (by decide) (by decide) hc) dX9_becomes_145 rfl ?_
  refine g_iinc (pc' := 149) (L' := [(2, vI 1), (0, vR (some 7)), (1, vR (some 26))]) 0 dX9_becomes_146 rfl (Nat.le_of_ble_eq_true rfl) rfl rfl ?_
  refine g_goto (tgt := 128) dX9_becomes_149 rfl ?_
  refine g_iload_n (pc' := 129) 0 dX9_becomes_128 rfl rfl ?_
  refine g_bipush (pc' := 131) dX9_becomes_129 rfl rfl ?_
  refine g_icmp_ge (tgt := 152) (pc' := 134) (rg_lit rfl) (rg_lit rfl) Iff.rfl dX9_becomes_131 rfl rfl (fun q => absurd q (by decide)) (fun _ => ?_)
  refine g_aload_n (pc' := 135) 1 dX9_becomes_134 rfl rfl ?_
  refine g_getR (pc' := 138) (o := some 15) fl_X9_35 rfl rfl rfl dX9_becomes_135 rfl ?_
  refine g_iload_n (pc' := 139) 0 dX9_becomes_138 rfl rfl ?_
  refine g_aload_n (pc' := 140) 2 dX9_becomes_139 rfl rfl ?_
  refine g_getR (pc' := 143) (o := some 34) fl_X9_35 rfl rfl rfl dX9_becomes_140 rfl ?_
  refine g_iload_n (pc' := 144) 0 dX9_becomes_143 rfl rfl ?_
  refine g_aald (pc' := 145) (n := 6) (N := 6) (o := w.2.2.2 34 1) rfl (Or.inr rfl) rfl (by decide) (by decide) rfl dX9_becomes_144 rfl ?_
  refine g_bkst (pc' := 146) (by decide) (by decide) (fun c hc => hb 1 c (by decide) (by decide) hc) dX9_becomes_145 rfl ?_
  refine g_iinc (pc' := 149) (L' := [(2, vI 2), (0, vR (some 7)), (1, vR (some 26))]) 0 dX9_becomes_146 rfl (Nat.le_of_ble_eq_true rfl) rfl rfl ?_
  refine g_goto (tgt := 128) dX9_becomes_149 rfl ?_
  refine g_iload_n (pc' := 129) 0 dX9_becomes_128 rfl rfl ?_
  refine g_bipush (pc' := 131) dX9_becomes_129 rfl rfl ?_
  refine g_icmp_ge (tgt := 152) (pc' := 134) (rg_lit rfl) (rg_lit rfl) Iff.rfl dX9_becomes_131 rfl rfl (fun q => absurd q (by decide)) (fun _ => ?_)
  refine g_aload_n (pc' := 135) 1 dX9_becomes_134 rfl rfl ?_
  refine g_getR (pc' := 138) (o := some 15) fl_X9_35 rfl rfl rfl dX9_becomes_135 rfl ?_
  refine g_iload_n (pc' := 139) 0 dX9_becomes_138 rfl rfl ?_
  refine g_aload_n (pc' := 140) 2 dX9_becomes_139 rfl rfl ?_
  refine g_getR (pc' := 143) (o := some 34) fl_X9_35 rfl rfl rfl dX9_becomes_140 rfl ?_
  refine g_iload_n (pc' := 144) 0 dX9_becomes_143 rfl rfl ?_
  refine g_aald (pc' := 145) (n := 6) (N := 6) (o := w.2.2.2 34 2) rfl (Or.inr rfl) rfl (by decide) (by decide) rfl dX9_becomes_144 rfl ?_
  refine g_bkst (pc' := 146) (by decide) (by decide) (fun c hc => hb 2 c (by decide) (by decide) hc) dX9_becomes_145 rfl ?_
  refine g_iinc (pc' := 149) (L' := [(2, vI 3), (0, vR (some 7)), (1, vR (some 26))]) 0 dX9_becomes_146 rfl (Nat.le_of_ble_eq_true rfl) rfl rfl ?_
  refine g_goto (tgt := 128) dX9_becomes_149 rfl ?_
  refine g_iload_n (pc' := 129) 0 dX9_becomes_128 rfl rfl ?_
  refine g_bipush (pc' := 131) dX9_becomes_129 rfl rfl ?_
  refine g_icmp_ge (tgt := 152) (pc' := 134) (rg_lit rfl) (rg_lit rfl) Iff.rfl dX9_becomes_131 rfl rfl (fun q => absurd q (by decide)) (fun _ => ?_)
  refine g_aload_n (pc' := 135) 1 dX9_becomes_134 rfl rfl ?_
  refine g_getR (pc' := 138) (o := some 15) fl_X9_35 rfl rfl rfl dX9_becomes_135 rfl ?_
  refine g_iload_n (pc' := 139) 0 dX9_becomes_138 rfl rfl ?_
  refine g_aload_n (pc' := 140) 2 dX9_becomes_139 rfl rfl ?_
  refine g_getR (pc' := 143) (o := some 34) fl_X9_35 rfl rfl rfl dX9_becomes_140 rfl ?_
  refine g_iload_n (pc' := 144) 0 dX9_becomes_143 rfl rfl ?_
  refine g_aald (pc' := 145) (n := 6) (N := 6) (o := w.2.2.2 34 3) rfl (Or.inr rfl) rfl (by decide) (by decide) rfl dX9_becomes_144 rfl ?_
  refine g_bkst (pc' := 146) (by decide) (by decide) (fun c hc => hb 3 c (by decide) (by decide) hc) dX9_becomes_145 rfl ?_
  refine g_iinc (pc' := 149) (L' := [(2, vI 4), (0, vR (some 7)), (1, vR (some 26))]) 0 dX9_becomes_146 rfl (Nat.le_of_ble_eq_true rfl) rfl rfl ?_
  refine g_goto (tgt := 128) dX9_becomes_149 rfl ?_
  refine g_iload_n (pc' := 129) 0 dX9_becomes_128 rfl rfl ?_
  refine g_bipush (pc' := 131) dX9_becomes_129 rfl rfl ?_
  refine g_icmp_ge (tgt := 152) (pc' := 134) (rg_lit rfl) (rg_lit rfl) Iff.rfl dX9_becomes_131 rfl rfl (fun q => absurd q (by decide)) (fun _ => ?_)
  refine g_aload_n (pc' := 135) 1 dX9_becomes_134 rfl rfl ?_
  refine g_getR (pc' := 138) (o := some 15) fl_X9_35 rfl rfl rfl dX9_becomes_135 rfl ?_
  refine g_iload_n (pc' := 139) 0 dX9_becomes_138 rfl rfl ?_
  refine g_aload_n (pc' := 140) 2 dX9_becomes_139 rfl rfl ?_
  refine g_getR (pc' := 143) (o := some 34) fl_X9_35 rfl rfl rfl dX9_becomes_140 rfl ?_
  refine g_iload_n (pc' := 144) 0 dX9_becomes_143 rfl rfl ?_
  refine g_aald (pc' := 145) (n := 6) (N := 6) (o := w.2.2.2 34 4) rfl (Or.inr rfl) rfl (by decide) (by decide) rfl dX9_becomes_144 rfl ?_
  refine g_bkst (pc' := 146) (by decide) (by decide) (fun c hc => hb 4 c (by decide) (by decide) hc) dX9_becomes_145 rfl ?_
  refine g_iinc (pc' := 149) (L' := [(2, vI 5), (0, vR (some 7)), (1, vR (some 26))]) 0 dX9_becomes_146 rfl (Nat.le_of_ble_eq_true rfl) rfl rfl ?_
  refine g_goto (tgt := 128) dX9_becomes_149 rfl ?_
  refine g_iload_n (pc' := 129) 0 dX9_becomes_128 rfl rfl ?_
  refine g_bipush (pc' := 131) dX9_becomes_129 rfl rfl ?_
  refine g_icmp_ge (tgt := 152) (pc' := 134) (rg_lit rfl) (rg_lit rfl) Iff.rfl dX9_becomes_131 rfl rfl (fun q => absurd q (by decide)) (fun _ => ?_)
  refine g_aload_n (pc' := 135) 1 dX9_becomes_134 rfl rfl ?_
  refine g_getR (pc' := 138) (o := some 15) fl_X9_35 rfl rfl rfl dX9_becomes_135 rfl ?_
  refine g_iload_n (pc' := 139) 0 dX9_becomes_138 rfl rfl ?_
  refine g_aload_n (pc' := 140) 2 dX9_becomes_139 rfl rfl ?_
  refine g_getR (pc' := 143) (o := some 34) fl_X9_35 rfl rfl rfl dX9_becomes_140 rfl ?_
  refine g_iload_n (pc' := 144) 0 dX9_becomes_143 rfl rfl ?_
  refine g_aald (pc' := 145) (n := 6) (N := 6) (o := w.2.2.2 34 5) rfl (Or.inr rfl) rfl (by decide) (by decide) rfl dX9_becomes_144 rfl ?_
  refine g_bkst (pc' := 146) (by decide) (by decide) (fun c hc => hb 5 c (by decide) (by decide) hc) dX9_becomes_145 rfl ?_
  refine g_iinc (pc' := 149) (L' := [(2, vI 6), (0, vR (some 7)), (1, vR (some 26))]) 0 dX9_becomes_146 rfl (Nat.le_of_ble_eq_true rfl) rfl rfl ?_
  refine g_goto (tgt := 128) dX9_becomes_149 rfl ?_
  refine g_iload_n (pc' := 129) 0 dX9_becomes_128 rfl rfl ?_
  refine g_bipush (pc' := 131) dX9_becomes_129 rfl rfl ?_
  refine g_icmp_ge (tgt := 152) (pc' := 134) (rg_lit rfl) (rg_lit rfl) Iff.rfl dX9_becomes_131 rfl rfl (fun _ => ?_) (fun q => absurd (by decide) q)
  show G w.1 (rmD (d + 1) 0 0) X_X9_becomes _ 0 0 (dw (wC w 26 7)) (bcC i 26 7) l _ _ _
  generalize hJ : bcC i 26 7 = J
  refine g_aload_n (pc' := 153) 1 dX9_becomes_152 rfl rfl ?_
  refine g_aload_n (pc' := 154) 2 dX9_becomes_153 rfl rfl ?_
  refine g_getI (pc' := 157) (z := 8) rfl fl_X9_43 rfl rfl dX9_becomes_154 rfl (fun hr8 => ?_)
  refine g_putI (pc' := 160) (z := 8) rfl fp_X9_43 rfl rfl hr8 dX9_becomes_157 rfl ?_
  refine g_aload_n (pc' := 161) 1 dX9_becomes_160 rfl rfl ?_
  refine g_aload_n (pc' := 162) 2 dX9_becomes_161 rfl rfl ?_
  refine g_getI (pc' := 165) (z := 9) rfl fl_X9_46 rfl rfl dX9_becomes_162 rfl (fun hr9 => ?_)
  refine g_putI (pc' := 168) (z := 9) rfl fp_X9_46 rfl rfl hr9 dX9_becomes_165 rfl ?_
  refine g_aload_n (pc' := 169) 1 dX9_becomes_168 rfl rfl ?_
  refine g_aload_n (pc' := 170) 2 dX9_becomes_169 rfl rfl ?_
  refine g_getI (pc' := 173) (z := 10) rfl fl_X9_75 rfl rfl dX9_becomes_170 rfl (fun hr10 => ?_)
  refine g_putI (pc' := 176) (z := 10) rfl fp_X9_75 rfl rfl hr10 dX9_becomes_173 rfl ?_
  refine g_aload_n (pc' := 177) 1 dX9_becomes_176 rfl rfl ?_
  refine g_aload_n (pc' := 178) 2 dX9_becomes_177 rfl rfl ?_
  refine g_getI (pc' := 181) (z := 11) rfl fl_X9_49 rfl rfl dX9_becomes_178 rfl (fun hr11 => ?_)
  refine g_putI (pc' := 184) (z := 11) rfl fp_X9_49 rfl rfl hr11 dX9_becomes_181 rfl ?_
  refine g_aload_n (pc' := 185) 1 dX9_becomes_184 rfl rfl ?_
  refine g_aload_n (pc' := 186) 2 dX9_becomes_185 rfl rfl ?_
  refine g_getI (pc' := 189) (z := 12) rfl fl_X9_66 rfl rfl dX9_becomes_186 rfl (fun hr12 => ?_)
  refine g_putI (pc' := 192) (z := 12) rfl fp_X9_66 rfl rfl hr12 dX9_becomes_189 rfl ?_
  refine g_aload_n (pc' := 193) 1 dX9_becomes_192 rfl rfl ?_
  refine g_aload_n (pc' := 194) 2 dX9_becomes_193 rfl rfl ?_
  refine g_getI (pc' := 197) (z := 13) rfl fl_X9_78 rfl rfl dX9_becomes_194 rfl (fun hr13 => ?_)
  refine g_putI (pc' := 200) (z := 13) rfl fp_X9_78 rfl rfl hr13 dX9_becomes_197 rfl ?_
  refine g_aload_n (pc' := 201) 1 dX9_becomes_200 rfl rfl ?_
  refine g_aload_n (pc' := 202) 2 dX9_becomes_201 rfl rfl ?_
  refine g_getI (pc' := 205) (z := 14) rfl fl_X9_39 rfl rfl dX9_becomes_202 rfl (fun hr14 => ?_)
  refine g_putI (pc' := 208) (z := 14) rfl fp_X9_39 rfl rfl hr14 dX9_becomes_205 rfl ?_
  exact g_vret (Nat.le_refl _) (Nat.le_refl _) rfl dX9_becomes_208 (by rw [← hJ]; exact hP)
