/-! Arrays.copyOf and the constructor of a LAW -/
theorem dX2_init_0 : decode cX2_init 0 = .ok (.aload_n 0, 1) := by decide +kernel
theorem dX2_init_1 : decode cX2_init 1 = .ok (.invokespecial 1, 3) := by decide +kernel
theorem dX2_init_4 : decode cX2_init 4 = .ok (.aload_n 0, 1) := by decide +kernel
theorem dX2_init_5 : decode cX2_init 5 = .ok (.aload_n 1, 1) := by decide +kernel
theorem dX2_init_6 : decode cX2_init 6 = .ok (.putfield 7, 3) := by decide +kernel
theorem dX2_init_9 : decode cX2_init 9 = .ok (.aload_n 0, 1) := by decide +kernel
theorem dX2_init_10 : decode cX2_init 10 = .ok (.aload_n 2, 1) := by decide +kernel
theorem dX2_init_11 : decode cX2_init 11 = .ok (.putfield 13, 3) := by decide +kernel
theorem dX2_init_14 : decode cX2_init 14 = .ok (.aload_n 0, 1) := by decide +kernel
theorem dX2_init_15 : decode cX2_init 15 = .ok (.aload_n 3, 1) := by decide +kernel
theorem dX2_init_16 : decode cX2_init 16 = .ok (.putfield 16, 3) := by decide +kernel
theorem dX2_init_19 : decode cX2_init 19 = .ok (.return_, 1) := by decide +kernel
theorem dX7_lawOf_0 : decode cX7_lawOf 0 = .ok (.aload_n 0, 1) := by decide +kernel
theorem dX7_lawOf_1 : decode cX7_lawOf 1 = .ok (.iload_n 1, 1) := by decide +kernel
theorem dX7_lawOf_2 : decode cX7_lawOf 2 = .ok (.putfield 30, 3) := by decide +kernel
theorem dX7_lawOf_5 : decode cX7_lawOf 5 = .ok (.aload_n 0, 1) := by decide +kernel
theorem dX7_lawOf_6 : decode cX7_lawOf 6 = .ok (.iconst 0, 1) := by decide +kernel
theorem dX7_lawOf_7 : decode cX7_lawOf 7 = .ok (.putfield 33, 3) := by decide +kernel
theorem dX7_lawOf_10 : decode cX7_lawOf 10 = .ok (.aload_n 0, 1) := by decide +kernel
theorem dX7_lawOf_11 : decode cX7_lawOf 11 = .ok (.iconst 0, 1) := by decide +kernel
theorem dX7_lawOf_12 : decode cX7_lawOf 12 = .ok (.putfield 36, 3) := by decide +kernel
theorem dX7_lawOf_15 : decode cX7_lawOf 15 = .ok (.aload_n 0, 1) := by decide +kernel
theorem dX7_lawOf_16 : decode cX7_lawOf 16 = .ok (.iconst 0, 1) := by decide +kernel
theorem dX7_lawOf_17 : decode cX7_lawOf 17 = .ok (.putfield 39, 3) := by decide +kernel
theorem dX7_lawOf_20 : decode cX7_lawOf 20 = .ok (.aload_n 0, 1) := by decide +kernel
theorem dX7_lawOf_21 : decode cX7_lawOf 21 = .ok (.getfield 20, 3) := by decide +kernel
theorem dX7_lawOf_24 : decode cX7_lawOf 24 = .ok (.iconst (-1), 1) := by decide +kernel
theorem dX7_lawOf_25 : decode cX7_lawOf 25 = .ok (.invokestatic 42, 3) := by decide +kernel
theorem dX7_lawOf_28 : decode cX7_lawOf 28 = .ok (.aload_n 0, 1) := by decide +kernel
theorem dX7_lawOf_29 : decode cX7_lawOf 29 = .ok (.invokevirtual 48, 3) := by decide +kernel
theorem dX7_lawOf_32 : decode cX7_lawOf 32 = .ok (.iconst 0, 1) := by decide +kernel
theorem dX7_lawOf_33 : decode cX7_lawOf 33 = .ok (.istore_n 2, 1) := by decide +kernel
theorem dX7_lawOf_34 : decode cX7_lawOf 34 = .ok (.iload_n 2, 1) := by decide +kernel
theorem dX7_lawOf_35 : decode cX7_lawOf 35 = .ok (.bipush 12, 2) := by decide +kernel
theorem dX7_lawOf_37 : decode cX7_lawOf 37 = .ok (.if_icmp .ge 83, 3) := by decide +kernel
theorem dX7_lawOf_40 : decode cX7_lawOf 40 = .ok (.aload_n 0, 1) := by decide +kernel
theorem dX7_lawOf_41 : decode cX7_lawOf 41 = .ok (.iload_n 2, 1) := by decide +kernel
theorem dX7_lawOf_42 : decode cX7_lawOf 42 = .ok (.iconst 4, 1) := by decide +kernel
theorem dX7_lawOf_43 : decode cX7_lawOf 43 = .ok (.imul, 1) := by decide +kernel
theorem dX7_lawOf_44 : decode cX7_lawOf 44 = .ok (.invokevirtual 51, 3) := by decide +kernel
theorem dX7_lawOf_47 : decode cX7_lawOf 47 = .ok (.ifCond .ne 5, 3) := by decide +kernel
theorem dX7_lawOf_50 : decode cX7_lawOf 50 = .ok (.aconst_null, 1) := by decide +kernel
theorem dX7_lawOf_51 : decode cX7_lawOf 51 = .ok (.areturn, 1) := by decide +kernel
theorem dX7_lawOf_52 : decode cX7_lawOf 52 = .ok (.aload_n 0, 1) := by decide +kernel
theorem dX7_lawOf_53 : decode cX7_lawOf 53 = .ok (.getfield 55, 3) := by decide +kernel
theorem dX7_lawOf_56 : decode cX7_lawOf 56 = .ok (.iconst (-1), 1) := by decide +kernel
theorem dX7_lawOf_57 : decode cX7_lawOf 57 = .ok (.if_icmp .ne 42, 3) := by decide +kernel
theorem dX7_lawOf_60 : decode cX7_lawOf 60 = .ok (.new 15, 3) := by decide +kernel
theorem dX7_lawOf_63 : decode cX7_lawOf 63 = .ok (.dup, 1) := by decide +kernel
theorem dX7_lawOf_64 : decode cX7_lawOf 64 = .ok (.aload_n 0, 1) := by decide +kernel
theorem dX7_lawOf_65 : decode cX7_lawOf 65 = .ok (.getfield 11, 3) := by decide +kernel
theorem dX7_lawOf_68 : decode cX7_lawOf 68 = .ok (.aload_n 0, 1) := by decide +kernel
theorem dX7_lawOf_69 : decode cX7_lawOf 69 = .ok (.getfield 36, 3) := by decide +kernel
theorem dX7_lawOf_72 : decode cX7_lawOf 72 = .ok (.invokestatic 58, 3) := by decide +kernel
theorem dX7_lawOf_75 : decode cX7_lawOf 75 = .ok (.aload_n 0, 1) := by decide +kernel
theorem dX7_lawOf_76 : decode cX7_lawOf 76 = .ok (.getfield 17, 3) := by decide +kernel
theorem dX7_lawOf_79 : decode cX7_lawOf 79 = .ok (.iload_n 2, 1) := by decide +kernel
theorem dX7_lawOf_80 : decode cX7_lawOf 80 = .ok (.iconst 1, 1) := by decide +kernel
theorem dX7_lawOf_81 : decode cX7_lawOf 81 = .ok (.iadd, 1) := by decide +kernel
theorem dX7_lawOf_82 : decode cX7_lawOf 82 = .ok (.iconst 4, 1) := by decide +kernel
theorem dX7_lawOf_83 : decode cX7_lawOf 83 = .ok (.imul, 1) := by decide +kernel
theorem dX7_lawOf_84 : decode cX7_lawOf 84 = .ok (.invokestatic 58, 3) := by decide +kernel
theorem dX7_lawOf_87 : decode cX7_lawOf 87 = .ok (.aload_n 0, 1) := by decide +kernel
theorem dX7_lawOf_88 : decode cX7_lawOf 88 = .ok (.getfield 20, 3) := by decide +kernel
theorem dX7_lawOf_91 : decode cX7_lawOf 91 = .ok (.iconst 4, 1) := by decide +kernel
theorem dX7_lawOf_92 : decode cX7_lawOf 92 = .ok (.invokestatic 58, 3) := by decide +kernel
theorem dX7_lawOf_95 : decode cX7_lawOf 95 = .ok (.invokespecial 62, 3) := by decide +kernel
theorem dX7_lawOf_98 : decode cX7_lawOf 98 = .ok (.areturn, 1) := by decide +kernel
theorem dX7_lawOf_99 : decode cX7_lawOf 99 = .ok (.aload_n 0, 1) := by decide +kernel
theorem dX7_lawOf_100 : decode cX7_lawOf 100 = .ok (.getfield 55, 3) := by decide +kernel
theorem dX7_lawOf_103 : decode cX7_lawOf 103 = .ok (.bipush 59, 2) := by decide +kernel
theorem dX7_lawOf_105 : decode cX7_lawOf 105 = .ok (.if_icmp .eq 5, 3) := by decide +kernel
theorem dX7_lawOf_108 : decode cX7_lawOf 108 = .ok (.aconst_null, 1) := by decide +kernel
theorem dX7_lawOf_109 : decode cX7_lawOf 109 = .ok (.areturn, 1) := by decide +kernel
theorem dX7_lawOf_110 : decode cX7_lawOf 110 = .ok (.aload_n 0, 1) := by decide +kernel
theorem dX7_lawOf_111 : decode cX7_lawOf 111 = .ok (.invokevirtual 48, 3) := by decide +kernel
theorem dX7_lawOf_114 : decode cX7_lawOf 114 = .ok (.iinc 2 1, 3) := by decide +kernel
theorem dX7_lawOf_117 : decode cX7_lawOf 117 = .ok (.goto (-83), 3) := by decide +kernel
theorem dX7_lawOf_120 : decode cX7_lawOf 120 = .ok (.aconst_null, 1) := by decide +kernel
theorem dX7_lawOf_121 : decode cX7_lawOf 121 = .ok (.areturn, 1) := by decide +kernel
theorem dX11_law_0 : decode cX11_law 0 = .ok (.aload_n 0, 1) := by decide +kernel
theorem dX11_law_1 : decode cX11_law 1 = .ok (.getfield 192, 3) := by decide +kernel
theorem dX11_law_4 : decode cX11_law 4 = .ok (.istore_n 1, 1) := by decide +kernel
theorem dX11_law_5 : decode cX11_law 5 = .ok (.aload_n 0, 1) := by decide +kernel
theorem dX11_law_6 : decode cX11_law 6 = .ok (.iconst 0, 1) := by decide +kernel
theorem dX11_law_7 : decode cX11_law 7 = .ok (.putfield 192, 3) := by decide +kernel
theorem dX11_law_10 : decode cX11_law 10 = .ok (.aload_n 0, 1) := by decide +kernel
theorem dX11_law_11 : decode cX11_law 11 = .ok (.getfield 10, 3) := by decide +kernel
theorem dX11_law_14 : decode cX11_law 14 = .ok (.getfield 206, 3) := by decide +kernel
theorem dX11_law_17 : decode cX11_law 17 = .ok (.bipush 6, 2) := by decide +kernel
theorem dX11_law_19 : decode cX11_law 19 = .ok (.if_icmp .lt 10, 3) := by decide +kernel
theorem dX11_law_22 : decode cX11_law 22 = .ok (.aload_n 0, 1) := by decide +kernel
theorem dX11_law_23 : decode cX11_law 23 = .ok (.bipush (-5), 2) := by decide +kernel
theorem dX11_law_25 : decode cX11_law 25 = .ok (.invokevirtual 111, 3) := by decide +kernel
theorem dX11_law_28 : decode cX11_law 28 = .ok (.ireturn, 1) := by decide +kernel
theorem dX11_law_29 : decode cX11_law 29 = .ok (.aload_n 0, 1) := by decide +kernel
theorem dX11_law_30 : decode cX11_law 30 = .ok (.getfield 32, 3) := by decide +kernel
theorem dX11_law_33 : decode cX11_law 33 = .ok (.iload_n 1, 1) := by decide +kernel
theorem dX11_law_34 : decode cX11_law 34 = .ok (.invokevirtual 209, 3) := by decide +kernel
theorem dX11_law_37 : decode cX11_law 37 = .ok (.astore_n 2, 1) := by decide +kernel
theorem dX11_law_38 : decode cX11_law 38 = .ok (.aload_n 2, 1) := by decide +kernel
theorem dX11_law_39 : decode cX11_law 39 = .ok (.ifnonnull 21, 3) := by decide +kernel
theorem dX11_law_42 : decode cX11_law 42 = .ok (.aload_n 0, 1) := by decide +kernel
theorem dX11_law_43 : decode cX11_law 43 = .ok (.aload_n 0, 1) := by decide +kernel
theorem dX11_law_44 : decode cX11_law 44 = .ok (.getfield 32, 3) := by decide +kernel
theorem dX11_law_47 : decode cX11_law 47 = .ok (.invokevirtual 213, 3) := by decide +kernel
theorem dX11_law_50 : decode cX11_law 50 = .ok (.putfield 103, 3) := by decide +kernel
theorem dX11_law_53 : decode cX11_law 53 = .ok (.aload_n 0, 1) := by decide +kernel
theorem dX11_law_54 : decode cX11_law 54 = .ok (.bipush (-6), 2) := by decide +kernel
theorem dX11_law_56 : decode cX11_law 56 = .ok (.invokevirtual 111, 3) := by decide +kernel
theorem dX11_law_59 : decode cX11_law 59 = .ok (.ireturn, 1) := by decide +kernel
theorem dX11_law_60 : decode cX11_law 60 = .ok (.aload_n 0, 1) := by decide +kernel
theorem dX11_law_61 : decode cX11_law 61 = .ok (.iconst (-1), 1) := by decide +kernel
theorem dX11_law_62 : decode cX11_law 62 = .ok (.putfield 103, 3) := by decide +kernel
theorem dX11_law_65 : decode cX11_law 65 = .ok (.aload_n 0, 1) := by decide +kernel
theorem dX11_law_66 : decode cX11_law 66 = .ok (.getfield 10, 3) := by decide +kernel
theorem dX11_law_69 : decode cX11_law 69 = .ok (.getfield 217, 3) := by decide +kernel
theorem dX11_law_72 : decode cX11_law 72 = .ok (.aload_n 0, 1) := by decide +kernel
theorem dX11_law_73 : decode cX11_law 73 = .ok (.getfield 10, 3) := by decide +kernel
theorem dX11_law_76 : decode cX11_law 76 = .ok (.getfield 206, 3) := by decide +kernel
theorem dX11_law_79 : decode cX11_law 79 = .ok (.aload_n 2, 1) := by decide +kernel
theorem dX11_law_80 : decode cX11_law 80 = .ok (.aastore, 1) := by decide +kernel
theorem dX11_law_81 : decode cX11_law 81 = .ok (.aload_n 0, 1) := by decide +kernel
theorem dX11_law_82 : decode cX11_law 82 = .ok (.getfield 10, 3) := by decide +kernel
theorem dX11_law_85 : decode cX11_law 85 = .ok (.dup, 1) := by decide +kernel
theorem dX11_law_86 : decode cX11_law 86 = .ok (.getfield 206, 3) := by decide +kernel
theorem dX11_law_89 : decode cX11_law 89 = .ok (.iconst 1, 1) := by decide +kernel
theorem dX11_law_90 : decode cX11_law 90 = .ok (.iadd, 1) := by decide +kernel
theorem dX11_law_91 : decode cX11_law 91 = .ok (.putfield 206, 3) := by decide +kernel
theorem dX11_law_94 : decode cX11_law 94 = .ok (.aload_n 0, 1) := by decide +kernel
theorem dX11_law_95 : decode cX11_law 95 = .ok (.aload_n 0, 1) := by decide +kernel
theorem dX11_law_96 : decode cX11_law 96 = .ok (.getfield 10, 3) := by decide +kernel
theorem dX11_law_99 : decode cX11_law 99 = .ok (.getfield 206, 3) := by decide +kernel
theorem dX11_law_102 : decode cX11_law 102 = .ok (.iconst 1, 1) := by decide +kernel
theorem dX11_law_103 : decode cX11_law 103 = .ok (.isub, 1) := by decide +kernel
theorem dX11_law_104 : decode cX11_law 104 = .ok (.invokevirtual 122, 3) := by decide +kernel
theorem dX11_law_107 : decode cX11_law 107 = .ok (.ireturn, 1) := by decide +kernel
theorem dJ7_copyOf_59c91_0 : decode cJ7_copyOf_59c91 0 = .ok (.iload_n 1, 1) := by decide +kernel
theorem dJ7_copyOf_59c91_1 : decode cJ7_copyOf_59c91 1 = .ok (.aload_n 0, 1) := by decide +kernel
theorem dJ7_copyOf_59c91_2 : decode cJ7_copyOf_59c91 2 = .ok (.arraylength, 1) := by decide +kernel
theorem dJ7_copyOf_59c91_3 : decode cJ7_copyOf_59c91 3 = .ok (.if_icmp .ne 11, 3) := by decide +kernel
theorem dJ7_copyOf_59c91_6 : decode cJ7_copyOf_59c91 6 = .ok (.aload_n 0, 1) := by decide +kernel
theorem dJ7_copyOf_59c91_7 : decode cJ7_copyOf_59c91 7 = .ok (.invokevirtual 316, 3) := by decide +kernel
theorem dJ7_copyOf_59c91_10 : decode cJ7_copyOf_59c91 10 = .ok (.checkcast 317, 3) := by decide +kernel
theorem dJ7_copyOf_59c91_13 : decode cJ7_copyOf_59c91 13 = .ok (.areturn, 1) := by decide +kernel
theorem dJ7_copyOf_59c91_14 : decode cJ7_copyOf_59c91 14 = .ok (.iload_n 1, 1) := by decide +kernel
theorem dJ7_copyOf_59c91_15 : decode cJ7_copyOf_59c91 15 = .ok (.newarray .int, 2) := by decide +kernel
theorem dJ7_copyOf_59c91_17 : decode cJ7_copyOf_59c91 17 = .ok (.astore_n 2, 1) := by decide +kernel
theorem dJ7_copyOf_59c91_18 : decode cJ7_copyOf_59c91 18 = .ok (.aload_n 0, 1) := by decide +kernel
theorem dJ7_copyOf_59c91_19 : decode cJ7_copyOf_59c91 19 = .ok (.iconst 0, 1) := by decide +kernel
theorem dJ7_copyOf_59c91_20 : decode cJ7_copyOf_59c91 20 = .ok (.aload_n 2, 1) := by decide +kernel
theorem dJ7_copyOf_59c91_21 : decode cJ7_copyOf_59c91 21 = .ok (.iconst 0, 1) := by decide +kernel
theorem dJ7_copyOf_59c91_22 : decode cJ7_copyOf_59c91 22 = .ok (.aload_n 0, 1) := by decide +kernel
theorem dJ7_copyOf_59c91_23 : decode cJ7_copyOf_59c91 23 = .ok (.arraylength, 1) := by decide +kernel
theorem dJ7_copyOf_59c91_24 : decode cJ7_copyOf_59c91 24 = .ok (.iload_n 1, 1) := by decide +kernel
theorem dJ7_copyOf_59c91_25 : decode cJ7_copyOf_59c91 25 = .ok (.invokestatic 304, 3) := by decide +kernel
theorem dJ7_copyOf_59c91_28 : decode cJ7_copyOf_59c91 28 = .ok (.invokestatic 150, 3) := by decide +kernel
theorem dJ7_copyOf_59c91_31 : decode cJ7_copyOf_59c91 31 = .ok (.aload_n 2, 1) := by decide +kernel
theorem dJ7_copyOf_59c91_32 : decode cJ7_copyOf_59c91 32 = .ok (.areturn, 1) := by decide +kernel
section
variable {E : GE} {R : Room} {X : MI} {Qf : QF} {c0 s0 : Nat} {δ : Dl} {i : IM} {l : LM} {pc pc' : Nat} {L : List (Nat × MV)} {st : List MV}
def clI (δ : Dl) (i : IM) (a : Nat) : IM := fun c k => if c = δ.1 then i a k else i c k
theorem rep_new2 {q : Shp} {i2 : IM} {H H1 : Heap} (hR : Rep E δ i l H) (z : H1.size = H.size + 1) (o : ∀ x : Nat, x < H.size → H1[x]? = H[x]?) (hi : ∀ c, c ≠ δ.1 → i2 c = i c) (hrg : ∀ c j, rg (i2 c j)) (hc : cAt E i2 (nwL δ l) (nwD δ q).2.2 δ.1 q H1) : Rep E (nwD δ q) i2 (nwL δ l) H1 := by
  obtain ⟨h1, h2, h3, h4⟩ := hR
  refine ⟨by show 6 ≤ δ.1 + 1; omega, by show H1.size + 6 = E.2.2.2.1 + (δ.1 + 1); omega, fun a w ha => ?_, hrg⟩
  have ha' : (if a = δ.1 then some q else δ.2.1 a) = some w := ha
  by_cases e : a = δ.1
  · rw [if_pos e] at ha'
    cases ha'
    refine ⟨by omega, by show a < δ.1 + 1; omega, ?_⟩
    rw [e]
    exact hc
  · rw [if_neg e] at ha'
    obtain ⟨g1, g2, g3⟩ := h3 a w ha'
    refine ⟨g1, by show a < δ.1 + 1; omega, ?_⟩
    refine cAt_congr (hi a e) (funext fun k => if_neg e) (funext fun k => if_neg e) (cAt_kept g3 (o _ ?_))
    rw [gRho_hi E g1]
    omega
theorem ck_link : Cond.methodLink "java/util/Arrays" 316 ⟨"[I", "clone", "()Ljava/lang/Object;"⟩ ∈ lwG := (lwT4 117 rfl rfl)
theorem ck_same : Cond.sameMethod "[I" "java/lang/Object" "clone" "()Ljava/lang/Object;" ∈ lwG := (lwT4 118 rfl rfl)
theorem ck_nat : Cond.native ⟨"java/lang/Object", "clone", "()Ljava/lang/Object;"⟩ ∈ lwG := (lwT4 119 rfl rfl)
theorem ck_inst : Cond.instanceMethod ⟨"java/lang/Object", "clone", "()Ljava/lang/Object;"⟩ ∈ lwG := (lwT4 120 rfl rfl)
theorem ck_sel : Cond.selects "[I" ⟨"[I", "clone", "()Ljava/lang/Object;"⟩ ⟨"java/lang/Object", "clone", "()Ljava/lang/Object;"⟩ ∈ lwG := (lwT4 121 rfl rfl)
theorem ck_cls : Cond.classLink "java/util/Arrays" 317 "[I" ∈ lwG := (lwT4 123 rfl rfl)
theorem ck_ac : Cond.methodLink "java/util/Arrays" 150 arraycopyName ∈ lwG := (lwT4 125 rfl rfl)
theorem ck_law : Cond.classLink "ThreeColours$Reader" 15 "ThreeColours$Law" ∈ lwG := (lwT4 112 rfl rfl)
theorem nq_2 : Cond.instantiable RX2 (fN 2) ∈ lwG ∧ Cond.initialized RX2 ∈ lwG := ⟨(lwT4 113 rfl rfl), (lwT1 19 rfl rfl)⟩
theorem g_clone {a n : Nat} (hX : X.1.cls = "java/util/Arrays") (hs : δ.2.1 a = some (.inl (0, n))) (hRm : 1 ≤ R.frames ∧ 26 ≤ R.locals) (hr : (st.map (fun v => if isLg v then 2 else 1)).sum ≤ 8) (hcell : c0 + 1 ≤ R.cells) (hslot : s0 + n ≤ R.slots) (hd : decode X.2.1 pc = .ok (.invokevirtual 316, 3)) (hp : pc + 3 = pc') (kk : G E R X Qf (c0 + 1) (s0 + n) (nwD δ (.inl (0, n))) (clI δ i a) (nwL δ l) pc' L (vR (some δ.1) :: st)) : G E R X Qf c0 s0 δ i l pc L (vR (some a) :: st) := by
  subst hp
  intro p e s m args below meth cd H locs ls hk hl hR hS
  have hts := hk.2.2.2.2.2.2.1
  have hKn := hk.2.2.2.2.2.2.2.1
  have hown : s.vm.findClass "java/util/Arrays" = some m.cls := by rw [← hX]; exact hk.2.2.2.2.2.1
  have hc0 : H[gRho E a]? = some (arrV (E.2.2.1 0) n (cV E i l δ.2.2 a 0)) := rep_arr hR hs
  have hra : s.vm.findClass "[I" = some (E.2.2.1 0) := (hKn.1.2 0 _ (gTys_at E (by decide))).2
  have h8 := mv_room (E := E) hr
  have hcl : va_Nw (.castable "[I" "java/lang/Cloneable") s := hKn.2.2.2.2.2.2.2.1.2.2
  obtain ⟨cq, t0', f1, f2, f3⟩ := Cond.castable_spec (va_Nw.use (A := args) rfl hcl)
  cases hra.symm.trans f1
  have hsz : (arrV (E.2.2.1 0) n (cV E i l δ.2.2 a 0)).slots.size = n := arrV_size _ _ _
  intro T hT X0
  obtain ⟨-, kA, hkA, comp, hkind⟩ := State.isArrayOf_alike X0.warmed.alike ((hKn.1.2 0 _ (gTys_at E (by decide))).1 0 (fun _ => .null))
  obtain ⟨-, kS, hkS, compS, hkindS⟩ := (hKn.1.2 0 _ (gTys_at E (by decide))).1 0 (fun _ => .null)
  obtain ⟨vm', X', step⟩ := X0.cloneArray hk.1 hown (hts _ ck_link) (hts _ ck_same) (hts _ ck_nat) (hts _ ck_inst) (hts _ ck_sel) (a := gRho E a) (cell := arrV (E.2.2.1 0) n (cV E i l δ.2.2 a 0)) (by rw [hT]; exact hc0) (fun k h => by cases h) (fun h => by cases h) hra f2 f3
    (fun j v hv => by
      have hk' : T.vm.classes[(arrV (E.2.2.1 0) n (cV E i l δ.2.2 a 0)).cls]? = some kA := hkA
      have hf : fits (kTy 0) v = true := va_fit (ty := .int) (fun j _ => rfl) j v hv
      simpa [State.fitsSlot, State.slotType?, hk', hkind] using hf)
    (g := F0 m pc ls ((vR (some a) :: st).map (emb E))) rfl (by rw [hl.1]; exact hk.2.2.1.symm) rfl (by rw [hk.2.1]; exact hd) hRm.1 (by show 2 * 0 + _ + 14 ≤ _; omega) hcell (by rw [hsz]; exact hslot) (hloader := Vm.clonesLoader_of_array hkS hkindS)
  have hcellE : ({ cls := (arrV (E.2.2.1 0) n (cV E i l δ.2.2 a 0)).cls, slots := (arrV (E.2.2.1 0) n (cV E i l δ.2.2 a 0)).slots } : Cell) = arrV (E.2.2.1 0) n (cV E i l δ.2.2 a 0) := rfl
  rw [hcellE, hsz] at X'
  rw [hcellE] at step
  generalize hH1 : H.push (arrV (E.2.2.1 0) n (cV E i l δ.2.2 a 0)) = H1
  have z1 : H1.size = H.size + 1 := by rw [← hH1, Array.size_push]
  have e1 : H1[H.size]? = some (arrV (E.2.2.1 0) n (cV E i l δ.2.2 a 0)) := by rw [← hH1, Array.getElem?_push_size]
  have o1 : ∀ q : Nat, q < H.size → H1[q]? = H[q]? := fun q hq => by rw [← hH1, Array.getElem?_push, if_neg (Nat.ne_of_lt hq)]
  have hnew := gRho_new hR
  have hr1 : Rep E (nwD δ (.inl (0, n))) (clI δ i a) (nwL δ l) H1 := rep_new2 hR z1 o1 (fun c hc => funext fun k => if_neg hc) (fun c j => by unfold clI; split <;> exact hR.2.2.2 _ _) (by
    show H1[gRho E δ.1]? = _
    rw [hnew, e1]
    have ef : cV E i l δ.2.2 a 0 = cV E (clI δ i a) (nwL δ l) (nwD δ (.inl (0, n))).2.2 δ.1 (kCo 0) := by
      funext j
      show Value.int (Int32.ofInt (i a j)) = Value.int (Int32.ofInt (clI δ i a δ.1 j))
      unfold clI
      rw [if_pos rfl]
    rw [ef])
  have kw := kk p e s m args below meth cd H1 locs ls hk hl hr1 (va_S_new hS z1 o1)
  have ee : emb E (vR (some δ.1)) = .ref H.size := by show Value.ref (gRho E δ.1) = _; rw [hnew]
  rw [List.map_cons, ee] at kw
  obtain ⟨t, b1, b2⟩ := kw ((T.setVm vm').pushCell (arrV (E.2.2.1 0) n (cV E i l δ.2.2 a 0))) (by rw [← hH1, ← hT]; rfl) X'
  refine ⟨t, step t ?_, b2⟩
  rw [hT]
  exact b1
theorem g_castA {a n : Nat} (hX : X.1.cls = "java/util/Arrays") (hs : δ.2.1 a = some (.inl (0, n))) (hd : decode X.2.1 pc = .ok (.checkcast 317, 3)) (hp : pc + 3 = pc') (kk : G E R X Qf c0 s0 δ i l pc' L (vR (some a) :: st)) : G E R X Qf c0 s0 δ i l pc L (vR (some a) :: st) := by
  subst hp
  intro p e s m args below meth cd H locs ls hk hl hR hS
  have hts := hk.2.2.2.2.2.2.1
  have hKn := hk.2.2.2.2.2.2.2.1
  have hown : s.vm.findClass "java/util/Arrays" = some m.cls := by rw [← hX]; exact hk.2.2.2.2.2.1
  have hc0 : H[gRho E a]? = some (arrV (E.2.2.1 0) n (cV E i l δ.2.2 a 0)) := rep_arr hR hs
  have hra : s.vm.findClass "[I" = some (E.2.2.1 0) := (hKn.1.2 0 _ (gTys_at E (by decide))).2
  intro T hT X0
  obtain ⟨vm', X', step⟩ := X0.checkcastYes hk.1 hown (hts _ ck_cls) (by rw [hT]; exact hc0) rfl hra (va_asg _ _) (g := F0 m pc ls ((vR (some a) :: st).map (emb E))) rfl rfl (by rw [hk.2.1]; exact hd)
  obtain ⟨t, a1, b1⟩ := kk p e s m args below meth cd H locs ls hk hl hR hS (T.setVm vm') hT X'
  exact ⟨t, step t a1, b1⟩
theorem sp_minG {d : Nat} {x y : Int} (hx : rg x) (hy : rg y) : CI E (d + 1) X_J9_min_7cf53 [vI x, vI y] δ i l (fun v i' l' => v = min x y ∧ i' = i ∧ l' = l) := by
  refine CI_of (by decide +kernel) (Nat.le_of_ble_eq_true rfl) ?_
  refine g_iload_n (pc' := 1) 0 dJ9_min_7cf53_0 rfl rfl ?_
  refine g_iload_n (pc' := 2) 1 dJ9_min_7cf53_1 rfl rfl ?_
  refine g_icmp_gt (tgt := 9) (pc' := 5) hx hy Iff.rfl dJ9_min_7cf53_2 rfl rfl (fun c => ?_) (fun c => ?_)
  · refine g_iload_n (pc' := 10) 1 dJ9_min_7cf53_9 rfl rfl ?_
    exact g_iret (Nat.le_refl _) (Nat.le_refl _) rfl dJ9_min_7cf53_10 ⟨rfl, _, rfl, hy, by omega, rfl, rfl⟩
  · refine g_iload_n (pc' := 6) 0 dJ9_min_7cf53_5 rfl rfl ?_
    refine g_goto (tgt := 10) dJ9_min_7cf53_6 rfl ?_
    exact g_iret (Nat.le_refl _) (Nat.le_refl _) rfl dJ9_min_7cf53_10 ⟨rfl, _, rfl, hx, by omega, rfl, rfl⟩
theorem sp_copyOf {d N n a : Nat} {Post : PT} (hs : δ.2.1 a = some (.inl (0, N))) (ha : a ≠ δ.1) (hN : N ≤ 400) (hn : n ≤ N) (hP : ∀ i', (∀ c, c ≠ δ.1 → i' c = i c) → (∀ k : Int, 0 ≤ k → k < n → i' δ.1 k = i a k) → Post (some (vR (some δ.1))) (nwD δ (.inl (0, n))) i' (nwL δ l)) : Cn E (d + 2) 1 N X_J7_copyOf_59c91 [vR (some a), vI (n : Int)] δ i l Post := by
  have hs1 : (nwD δ (.inl (0, n))).2.1 a = some (.inl (0, N)) := (if_neg ha).trans hs
  have hs2 : (nwD δ (.inl (0, n))).2.1 δ.1 = some (.inl (0, n)) := if_pos rfl
  have rn : rg (n : Int) := ⟨by omega, by omega⟩
  have rN : rg (N : Int) := ⟨by omega, by omega⟩
  refine Cn_of (by decide +kernel) (Nat.le_of_ble_eq_true rfl) ?_
  refine g_iload_n (pc' := 1) 1 dJ7_copyOf_59c91_0 rfl rfl ?_
  refine g_aload_n (pc' := 2) 0 dJ7_copyOf_59c91_1 rfl rfl ?_
  refine g_alen (pc' := 3) (N := (N : Int)) rfl hs (by decide) dJ7_copyOf_59c91_2 rfl ?_
  refine g_icmp_ne (tgt := 14) (pc' := 6) rn rN Iff.rfl dJ7_copyOf_59c91_3 rfl rfl (fun c => ?_) (fun c => ?_)
  · refine g_iload_n (pc' := 15) 1 dJ7_copyOf_59c91_14 rfl rfl ?_
    refine g_newa (pc' := 17) (kd := 0) (n := n) (by decide) rfl aq_int rfl (by omega) dJ7_copyOf_59c91_15 rfl (Nat.le_refl _) (by show 0 + n ≤ N; omega) ?_
    refine g_astore_n (pc' := 18) dJ7_copyOf_59c91_17 rfl (by decide) rfl ?_
    refine g_aload_n (pc' := 19) 1 dJ7_copyOf_59c91_18 rfl rfl ?_
    refine g_iconst (pc' := 20) dJ7_copyOf_59c91_19 rfl ?_
    refine g_aload_n (pc' := 21) 0 dJ7_copyOf_59c91_20 rfl rfl ?_
    refine g_iconst (pc' := 22) dJ7_copyOf_59c91_21 rfl ?_
    refine g_aload_n (pc' := 23) 1 dJ7_copyOf_59c91_22 rfl rfl ?_
    refine g_alen (pc' := 24) (N := (N : Int)) rfl hs1 (by decide) dJ7_copyOf_59c91_23 rfl ?_
    refine g_iload_n (pc' := 25) 2 dJ7_copyOf_59c91_24 rfl rfl ?_
    refine g_pSI (pc' := 28) (vs := [vI (N : Int), vI (n : Int)]) (st := [vI 0, vR (some δ.1), vI 0, vR (some a)]) (val := min (N : Int) (n : Int)) (sp_minG rN rn) mk_J9_min_7cf53 ms_J9_min_7cf53 lk_java_util_Arrays_304 rfl (Nat.le_of_ble_eq_true rfl) (Nat.le_of_ble_eq_true rfl) rfl dJ7_copyOf_59c91_25 rfl ⟨by show 0 + 1 ≤ 1; omega, by show 0 + n ≤ N; omega⟩ (fun rg6 => ?_)
    have em : min (N : Int) (n : Int) = (n : Int) := by omega
    rw [em]
    refine g_acopy (pc' := 31) ck_ac hs1 hs2 ⟨by omega, by omega, by omega⟩ (by omega) ⟨by show 1 ≤ d + 2; omega, by show 26 ≤ 64 * (d + 2); omega⟩ (Nat.le_of_ble_eq_true rfl) dJ7_copyOf_59c91_28 rfl ?_
    refine g_aload_n (pc' := 32) 0 dJ7_copyOf_59c91_31 rfl rfl ?_
    refine g_aret (rt := .array .int) (by show 0 + 1 ≤ 1; omega) (by show 0 + n ≤ N; omega) rfl (Or.inr ⟨_, rfl⟩) dJ7_copyOf_59c91_32 (hP _ (fun c hc => ?_) (fun k k0 k1 => ?_))
    · rw [cpA_ne hc]; funext k; exact if_neg hc
    · rw [cpA_at k0 k1]; exact if_neg ha
  · have ec : n = N := by omega
    subst ec
    refine g_aload_n (pc' := 7) 0 dJ7_copyOf_59c91_6 rfl rfl ?_
    refine g_clone (pc' := 10) rfl hs ⟨by show 1 ≤ d + 2; omega, by show 26 ≤ 64 * (d + 2); omega⟩ (Nat.le_of_ble_eq_true rfl) (Nat.le_refl _) (by show 0 + n ≤ n; omega) dJ7_copyOf_59c91_7 rfl ?_
    refine g_castA (pc' := 13) (n := n) rfl hs2 dJ7_copyOf_59c91_10 rfl ?_
    refine g_aret (rt := .array .int) (by show 0 + 1 ≤ 1; omega) (by show 0 + n ≤ n; omega) rfl (Or.inr ⟨_, rfl⟩) dJ7_copyOf_59c91_13 (hP _ (fun c hc => ?_) (fun k k0 k1 => ?_))
    · funext k; exact if_neg hc
    · exact if_pos rfl
theorem sp_X2_init {d b x y z : Nat} {Post : PT} (hs : δ.2.1 b = some (.inr 2)) (hP : Post none (δ.1, δ.2.1, u2r (u2r (u2r δ.2.2 b 0 (some x)) b 1 (some y)) b 2 (some z)) i l) : Cn E (d + 1) 0 0 X_X2_init [vR (some b), vR (some x), vR (some y), vR (some z)] δ i l Post := by
  refine Cn_of (by decide +kernel) (Nat.le_of_ble_eq_true rfl) ?_
  refine g_aload_n (pc' := 1) 0 dX2_init_0 rfl rfl ?_
  refine g_objInit (pc' := 4) lk_X2_1 objI objC ⟨by show 1 ≤ d + 1; omega, by show 20 ≤ 64 * (d + 1); omega⟩ (Nat.le_of_ble_eq_true rfl) dX2_init_1 rfl ?_
  refine g_aload_n (pc' := 5) 0 dX2_init_4 rfl rfl ?_
  refine g_aload_n (pc' := 6) 1 dX2_init_5 rfl rfl ?_
  refine g_putR (pc' := 9) (k := 0) fp_X2_7 rfl (by decide) hs rfl dX2_init_6 rfl ?_
  refine g_aload_n (pc' := 10) 0 dX2_init_9 rfl rfl ?_
  refine g_aload_n (pc' := 11) 2 dX2_init_10 rfl rfl ?_
  refine g_putR (pc' := 14) (k := 1) fp_X2_13 rfl (by decide) hs rfl dX2_init_11 rfl ?_
  refine g_aload_n (pc' := 15) 0 dX2_init_14 rfl rfl ?_
  refine g_aload_n (pc' := 16) 3 dX2_init_15 rfl rfl ?_
  refine g_putR (pc' := 19) (k := 2) fp_X2_16 rfl (by decide) hs rfl dX2_init_16 rfl ?_
  exact g_vret (Nat.le_refl _) (Nat.le_refl _) rfl dX2_init_19 hP
end
