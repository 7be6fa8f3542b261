/-! the constructors of the class -/
theorem dX9_init_0 : decode cX9_init 0 = .ok (.aload_n 0, 1) := by decide +kernel
theorem dX9_init_1 : decode cX9_init 1 = .ok (.invokespecial 3, 3) := by decide +kernel
theorem dX9_init_4 : decode cX9_init 4 = .ok (.aload_n 0, 1) := by decide +kernel
theorem dX9_init_5 : decode cX9_init 5 = .ok (.bipush 80, 2) := by decide +kernel
theorem dX9_init_7 : decode cX9_init 7 = .ok (.newarray .int, 2) := by decide +kernel
theorem dX9_init_9 : decode cX9_init 9 = .ok (.putfield 9, 3) := by decide +kernel
theorem dX9_init_12 : decode cX9_init 12 = .ok (.aload_n 0, 1) := by decide +kernel
theorem dX9_init_13 : decode cX9_init 13 = .ok (.bipush 24, 2) := by decide +kernel
theorem dX9_init_15 : decode cX9_init 15 = .ok (.newarray .int, 2) := by decide +kernel
theorem dX9_init_17 : decode cX9_init 17 = .ok (.putfield 15, 3) := by decide +kernel
theorem dX9_init_20 : decode cX9_init 20 = .ok (.aload_n 0, 1) := by decide +kernel
theorem dX9_init_21 : decode cX9_init 21 = .ok (.iconst 5, 1) := by decide +kernel
theorem dX9_init_22 : decode cX9_init 22 = .ok (.newarray .int, 2) := by decide +kernel
theorem dX9_init_24 : decode cX9_init 24 = .ok (.putfield 18, 3) := by decide +kernel
theorem dX9_init_27 : decode cX9_init 27 = .ok (.aload_n 0, 1) := by decide +kernel
theorem dX9_init_28 : decode cX9_init 28 = .ok (.bipush 10, 2) := by decide +kernel
theorem dX9_init_30 : decode cX9_init 30 = .ok (.newarray .int, 2) := by decide +kernel
theorem dX9_init_32 : decode cX9_init 32 = .ok (.putfield 21, 3) := by decide +kernel
theorem dX9_init_35 : decode cX9_init 35 = .ok (.aload_n 0, 1) := by decide +kernel
theorem dX9_init_36 : decode cX9_init 36 = .ok (.bipush 8, 2) := by decide +kernel
theorem dX9_init_38 : decode cX9_init 38 = .ok (.newarray .int, 2) := by decide +kernel
theorem dX9_init_40 : decode cX9_init 40 = .ok (.putfield 24, 3) := by decide +kernel
theorem dX9_init_43 : decode cX9_init 43 = .ok (.aload_n 0, 1) := by decide +kernel
theorem dX9_init_44 : decode cX9_init 44 = .ok (.bipush 8, 2) := by decide +kernel
theorem dX9_init_46 : decode cX9_init 46 = .ok (.newarray .int, 2) := by decide +kernel
theorem dX9_init_48 : decode cX9_init 48 = .ok (.putfield 27, 3) := by decide +kernel
theorem dX9_init_51 : decode cX9_init 51 = .ok (.aload_n 0, 1) := by decide +kernel
theorem dX9_init_52 : decode cX9_init 52 = .ok (.sipush 180, 3) := by decide +kernel
theorem dX9_init_55 : decode cX9_init 55 = .ok (.newarray .int, 2) := by decide +kernel
theorem dX9_init_57 : decode cX9_init 57 = .ok (.putfield 30, 3) := by decide +kernel
theorem dX9_init_60 : decode cX9_init 60 = .ok (.aload_n 0, 1) := by decide +kernel
theorem dX9_init_61 : decode cX9_init 61 = .ok (.bipush 6, 2) := by decide +kernel
theorem dX9_init_63 : decode cX9_init 63 = .ok (.anewarray 33, 3) := by decide +kernel
theorem dX9_init_66 : decode cX9_init 66 = .ok (.putfield 35, 3) := by decide +kernel
theorem dX9_init_69 : decode cX9_init 69 = .ok (.aload_n 0, 1) := by decide +kernel
theorem dX9_init_70 : decode cX9_init 70 = .ok (.iconst (-1), 1) := by decide +kernel
theorem dX9_init_71 : decode cX9_init 71 = .ok (.putfield 39, 3) := by decide +kernel
theorem dX9_init_74 : decode cX9_init 74 = .ok (.iconst 0, 1) := by decide +kernel
theorem dX9_init_75 : decode cX9_init 75 = .ok (.istore_n 1, 1) := by decide +kernel
theorem dX9_init_76 : decode cX9_init 76 = .ok (.iload_n 1, 1) := by decide +kernel
theorem dX9_init_77 : decode cX9_init 77 = .ok (.bipush 8, 2) := by decide +kernel
theorem dX9_init_79 : decode cX9_init 79 = .ok (.if_icmp .ge 16, 3) := by decide +kernel
theorem dX9_init_82 : decode cX9_init 82 = .ok (.aload_n 0, 1) := by decide +kernel
theorem dX9_init_83 : decode cX9_init 83 = .ok (.getfield 27, 3) := by decide +kernel
theorem dX9_init_86 : decode cX9_init 86 = .ok (.iload_n 1, 1) := by decide +kernel
theorem dX9_init_87 : decode cX9_init 87 = .ok (.iload_n 1, 1) := by decide +kernel
theorem dX9_init_88 : decode cX9_init 88 = .ok (.iastore, 1) := by decide +kernel
theorem dX9_init_89 : decode cX9_init 89 = .ok (.iinc 1 1, 3) := by decide +kernel
theorem dX9_init_92 : decode cX9_init 92 = .ok (.goto (-16), 3) := by decide +kernel
theorem dX9_init_95 : decode cX9_init 95 = .ok (.return_, 1) := by decide +kernel
theorem dX7_init_0 : decode cX7_init 0 = .ok (.aload_n 0, 1) := by decide +kernel
theorem dX7_init_1 : decode cX7_init 1 = .ok (.invokespecial 5, 3) := by decide +kernel
theorem dX7_init_4 : decode cX7_init 4 = .ok (.aload_n 0, 1) := by decide +kernel
theorem dX7_init_5 : decode cX7_init 5 = .ok (.sipush 400, 3) := by decide +kernel
theorem dX7_init_8 : decode cX7_init 8 = .ok (.newarray .int, 2) := by decide +kernel
theorem dX7_init_10 : decode cX7_init 10 = .ok (.putfield 11, 3) := by decide +kernel
theorem dX7_init_13 : decode cX7_init 13 = .ok (.aload_n 0, 1) := by decide +kernel
theorem dX7_init_14 : decode cX7_init 14 = .ok (.bipush 48, 2) := by decide +kernel
theorem dX7_init_16 : decode cX7_init 16 = .ok (.newarray .int, 2) := by decide +kernel
theorem dX7_init_18 : decode cX7_init 18 = .ok (.putfield 17, 3) := by decide +kernel
theorem dX7_init_21 : decode cX7_init 21 = .ok (.aload_n 0, 1) := by decide +kernel
theorem dX7_init_22 : decode cX7_init 22 = .ok (.iconst 4, 1) := by decide +kernel
theorem dX7_init_23 : decode cX7_init 23 = .ok (.newarray .int, 2) := by decide +kernel
theorem dX7_init_25 : decode cX7_init 25 = .ok (.putfield 20, 3) := by decide +kernel
theorem dX7_init_28 : decode cX7_init 28 = .ok (.aload_n 0, 1) := by decide +kernel
theorem dX7_init_29 : decode cX7_init 29 = .ok (.aload_n 1, 1) := by decide +kernel
theorem dX7_init_30 : decode cX7_init 30 = .ok (.putfield 23, 3) := by decide +kernel
theorem dX7_init_33 : decode cX7_init 33 = .ok (.return_, 1) := by decide +kernel
theorem dX0_init_0 : decode cX0_init 0 = .ok (.aload_n 0, 1) := by decide +kernel
theorem dX0_init_1 : decode cX0_init 1 = .ok (.invokespecial 3, 3) := by decide +kernel
theorem dX0_init_4 : decode cX0_init 4 = .ok (.aload_n 0, 1) := by decide +kernel
theorem dX0_init_5 : decode cX0_init 5 = .ok (.bipush 9, 2) := by decide +kernel
theorem dX0_init_7 : decode cX0_init 7 = .ok (.newarray .int, 2) := by decide +kernel
theorem dX0_init_9 : decode cX0_init 9 = .ok (.putfield 9, 3) := by decide +kernel
theorem dX0_init_12 : decode cX0_init 12 = .ok (.aload_n 0, 1) := by decide +kernel
theorem dX0_init_13 : decode cX0_init 13 = .ok (.bipush 64, 2) := by decide +kernel
theorem dX0_init_15 : decode cX0_init 15 = .ok (.newarray .long, 2) := by decide +kernel
theorem dX0_init_17 : decode cX0_init 17 = .ok (.putfield 15, 3) := by decide +kernel
theorem dX0_init_20 : decode cX0_init 20 = .ok (.aload_n 0, 1) := by decide +kernel
theorem dX0_init_21 : decode cX0_init 21 = .ok (.aload_n 1, 1) := by decide +kernel
theorem dX0_init_22 : decode cX0_init 22 = .ok (.putfield 19, 3) := by decide +kernel
theorem dX0_init_25 : decode cX0_init 25 = .ok (.return_, 1) := by decide +kernel
theorem dX8_init_0 : decode cX8_init 0 = .ok (.aload_n 0, 1) := by decide +kernel
theorem dX8_init_1 : decode cX8_init 1 = .ok (.invokespecial 3, 3) := by decide +kernel
theorem dX8_init_4 : decode cX8_init 4 = .ok (.aload_n 0, 1) := by decide +kernel
theorem dX8_init_5 : decode cX8_init 5 = .ok (.sipush 600, 3) := by decide +kernel
theorem dX8_init_8 : decode cX8_init 8 = .ok (.newarray .int, 2) := by decide +kernel
theorem dX8_init_10 : decode cX8_init 10 = .ok (.putfield 9, 3) := by decide +kernel
theorem dX8_init_13 : decode cX8_init 13 = .ok (.aload_n 0, 1) := by decide +kernel
theorem dX8_init_14 : decode cX8_init 14 = .ok (.sipush 960, 3) := by decide +kernel
theorem dX8_init_17 : decode cX8_init 17 = .ok (.newarray .int, 2) := by decide +kernel
theorem dX8_init_19 : decode cX8_init 19 = .ok (.putfield 15, 3) := by decide +kernel
theorem dX8_init_22 : decode cX8_init 22 = .ok (.aload_n 0, 1) := by decide +kernel
theorem dX8_init_23 : decode cX8_init 23 = .ok (.sipush 960, 3) := by decide +kernel
theorem dX8_init_26 : decode cX8_init 26 = .ok (.newarray .int, 2) := by decide +kernel
theorem dX8_init_28 : decode cX8_init 28 = .ok (.putfield 18, 3) := by decide +kernel
theorem dX8_init_31 : decode cX8_init 31 = .ok (.aload_n 0, 1) := by decide +kernel
theorem dX8_init_32 : decode cX8_init 32 = .ok (.sipush 400, 3) := by decide +kernel
theorem dX8_init_35 : decode cX8_init 35 = .ok (.newarray .int, 2) := by decide +kernel
theorem dX8_init_37 : decode cX8_init 37 = .ok (.putfield 21, 3) := by decide +kernel
theorem dX8_init_40 : decode cX8_init 40 = .ok (.aload_n 0, 1) := by decide +kernel
theorem dX8_init_41 : decode cX8_init 41 = .ok (.iconst 5, 1) := by decide +kernel
theorem dX8_init_42 : decode cX8_init 42 = .ok (.newarray .int, 2) := by decide +kernel
theorem dX8_init_44 : decode cX8_init 44 = .ok (.putfield 24, 3) := by decide +kernel
theorem dX8_init_47 : decode cX8_init 47 = .ok (.aload_n 0, 1) := by decide +kernel
theorem dX8_init_48 : decode cX8_init 48 = .ok (.bipush 8, 2) := by decide +kernel
theorem dX8_init_50 : decode cX8_init 50 = .ok (.newarray .int, 2) := by decide +kernel
theorem dX8_init_52 : decode cX8_init 52 = .ok (.putfield 27, 3) := by decide +kernel
theorem dX8_init_55 : decode cX8_init 55 = .ok (.aload_n 0, 1) := by decide +kernel
theorem dX8_init_56 : decode cX8_init 56 = .ok (.iconst (-1), 1) := by decide +kernel
theorem dX8_init_57 : decode cX8_init 57 = .ok (.putfield 30, 3) := by decide +kernel
theorem dX8_init_60 : decode cX8_init 60 = .ok (.aload_n 0, 1) := by decide +kernel
theorem dX8_init_61 : decode cX8_init 61 = .ok (.aload_n 1, 1) := by decide +kernel
theorem dX8_init_62 : decode cX8_init 62 = .ok (.putfield 34, 3) := by decide +kernel
theorem dX8_init_65 : decode cX8_init 65 = .ok (.aload_n 0, 1) := by decide +kernel
theorem dX8_init_66 : decode cX8_init 66 = .ok (.aload_n 2, 1) := by decide +kernel
theorem dX8_init_67 : decode cX8_init 67 = .ok (.putfield 38, 3) := by decide +kernel
theorem dX8_init_70 : decode cX8_init 70 = .ok (.return_, 1) := by decide +kernel
theorem dX1_init_0 : decode cX1_init 0 = .ok (.aload_n 0, 1) := by decide +kernel
theorem dX1_init_1 : decode cX1_init 1 = .ok (.invokespecial 5, 3) := by decide +kernel
theorem dX1_init_4 : decode cX1_init 4 = .ok (.aload_n 0, 1) := by decide +kernel
theorem dX1_init_5 : decode cX1_init 5 = .ok (.bipush 10, 2) := by decide +kernel
theorem dX1_init_7 : decode cX1_init 7 = .ok (.newarray .int, 2) := by decide +kernel
theorem dX1_init_9 : decode cX1_init 9 = .ok (.putfield 11, 3) := by decide +kernel
theorem dX1_init_12 : decode cX1_init 12 = .ok (.aload_n 0, 1) := by decide +kernel
theorem dX1_init_13 : decode cX1_init 13 = .ok (.bipush 30, 2) := by decide +kernel
theorem dX1_init_15 : decode cX1_init 15 = .ok (.newarray .int, 2) := by decide +kernel
theorem dX1_init_17 : decode cX1_init 17 = .ok (.putfield 15, 3) := by decide +kernel
theorem dX1_init_20 : decode cX1_init 20 = .ok (.aload_n 0, 1) := by decide +kernel
theorem dX1_init_21 : decode cX1_init 21 = .ok (.bipush 30, 2) := by decide +kernel
theorem dX1_init_23 : decode cX1_init 23 = .ok (.newarray .int, 2) := by decide +kernel
theorem dX1_init_25 : decode cX1_init 25 = .ok (.putfield 18, 3) := by decide +kernel
theorem dX1_init_28 : decode cX1_init 28 = .ok (.aload_n 0, 1) := by decide +kernel
theorem dX1_init_29 : decode cX1_init 29 = .ok (.bipush 30, 2) := by decide +kernel
theorem dX1_init_31 : decode cX1_init 31 = .ok (.newarray .int, 2) := by decide +kernel
theorem dX1_init_33 : decode cX1_init 33 = .ok (.putfield 21, 3) := by decide +kernel
theorem dX1_init_36 : decode cX1_init 36 = .ok (.aload_n 0, 1) := by decide +kernel
theorem dX1_init_37 : decode cX1_init 37 = .ok (.sipush 360, 3) := by decide +kernel
theorem dX1_init_40 : decode cX1_init 40 = .ok (.newarray .long, 2) := by decide +kernel
theorem dX1_init_42 : decode cX1_init 42 = .ok (.putfield 24, 3) := by decide +kernel
theorem dX1_init_45 : decode cX1_init 45 = .ok (.aload_n 0, 1) := by decide +kernel
theorem dX1_init_46 : decode cX1_init 46 = .ok (.sipush 132, 3) := by decide +kernel
theorem dX1_init_49 : decode cX1_init 49 = .ok (.newarray .long, 2) := by decide +kernel
theorem dX1_init_51 : decode cX1_init 51 = .ok (.putfield 28, 3) := by decide +kernel
theorem dX1_init_54 : decode cX1_init 54 = .ok (.aload_n 0, 1) := by decide +kernel
theorem dX1_init_55 : decode cX1_init 55 = .ok (.sipush 132, 3) := by decide +kernel
theorem dX1_init_58 : decode cX1_init 58 = .ok (.newarray .long, 2) := by decide +kernel
theorem dX1_init_60 : decode cX1_init 60 = .ok (.putfield 31, 3) := by decide +kernel
theorem dX1_init_63 : decode cX1_init 63 = .ok (.aload_n 0, 1) := by decide +kernel
theorem dX1_init_64 : decode cX1_init 64 = .ok (.bipush 30, 2) := by decide +kernel
theorem dX1_init_66 : decode cX1_init 66 = .ok (.newarray .int, 2) := by decide +kernel
theorem dX1_init_68 : decode cX1_init 68 = .ok (.putfield 34, 3) := by decide +kernel
theorem dX1_init_71 : decode cX1_init 71 = .ok (.aload_n 0, 1) := by decide +kernel
theorem dX1_init_72 : decode cX1_init 72 = .ok (.bipush 12, 2) := by decide +kernel
theorem dX1_init_74 : decode cX1_init 74 = .ok (.newarray .long, 2) := by decide +kernel
theorem dX1_init_76 : decode cX1_init 76 = .ok (.putfield 37, 3) := by decide +kernel
theorem dX1_init_79 : decode cX1_init 79 = .ok (.aload_n 0, 1) := by decide +kernel
theorem dX1_init_80 : decode cX1_init 80 = .ok (.bipush 80, 2) := by decide +kernel
theorem dX1_init_82 : decode cX1_init 82 = .ok (.newarray .long, 2) := by decide +kernel
theorem dX1_init_84 : decode cX1_init 84 = .ok (.putfield 40, 3) := by decide +kernel
theorem dX1_init_87 : decode cX1_init 87 = .ok (.aload_n 0, 1) := by decide +kernel
theorem dX1_init_88 : decode cX1_init 88 = .ok (.bipush 10, 2) := by decide +kernel
theorem dX1_init_90 : decode cX1_init 90 = .ok (.newarray .int, 2) := by decide +kernel
theorem dX1_init_92 : decode cX1_init 92 = .ok (.putfield 43, 3) := by decide +kernel
theorem dX1_init_95 : decode cX1_init 95 = .ok (.aload_n 0, 1) := by decide +kernel
theorem dX1_init_96 : decode cX1_init 96 = .ok (.iconst (-1), 1) := by decide +kernel
theorem dX1_init_97 : decode cX1_init 97 = .ok (.putfield 46, 3) := by decide +kernel
theorem dX1_init_100 : decode cX1_init 100 = .ok (.aload_n 0, 1) := by decide +kernel
theorem dX1_init_101 : decode cX1_init 101 = .ok (.aload_n 1, 1) := by decide +kernel
theorem dX1_init_102 : decode cX1_init 102 = .ok (.putfield 50, 3) := by decide +kernel
theorem dX1_init_105 : decode cX1_init 105 = .ok (.aload_n 0, 1) := by decide +kernel
theorem dX1_init_106 : decode cX1_init 106 = .ok (.aload_n 2, 1) := by decide +kernel
theorem dX1_init_107 : decode cX1_init 107 = .ok (.putfield 54, 3) := by decide +kernel
theorem dX1_init_110 : decode cX1_init 110 = .ok (.return_, 1) := by decide +kernel
theorem dX5_init_0 : decode cX5_init 0 = .ok (.aload_n 0, 1) := by decide +kernel
theorem dX5_init_1 : decode cX5_init 1 = .ok (.invokespecial 3, 3) := by decide +kernel
theorem dX5_init_4 : decode cX5_init 4 = .ok (.aload_n 0, 1) := by decide +kernel
theorem dX5_init_5 : decode cX5_init 5 = .ok (.sipush 132, 3) := by decide +kernel
theorem dX5_init_8 : decode cX5_init 8 = .ok (.newarray .long, 2) := by decide +kernel
theorem dX5_init_10 : decode cX5_init 10 = .ok (.putfield 9, 3) := by decide +kernel
theorem dX5_init_13 : decode cX5_init 13 = .ok (.aload_n 0, 1) := by decide +kernel
theorem dX5_init_14 : decode cX5_init 14 = .ok (.bipush 12, 2) := by decide +kernel
theorem dX5_init_16 : decode cX5_init 16 = .ok (.newarray .long, 2) := by decide +kernel
theorem dX5_init_18 : decode cX5_init 18 = .ok (.putfield 15, 3) := by decide +kernel
theorem dX5_init_21 : decode cX5_init 21 = .ok (.aload_n 0, 1) := by decide +kernel
theorem dX5_init_22 : decode cX5_init 22 = .ok (.bipush 10, 2) := by decide +kernel
theorem dX5_init_24 : decode cX5_init 24 = .ok (.newarray .int, 2) := by decide +kernel
theorem dX5_init_26 : decode cX5_init 26 = .ok (.putfield 18, 3) := by decide +kernel
theorem dX5_init_29 : decode cX5_init 29 = .ok (.aload_n 0, 1) := by decide +kernel
theorem dX5_init_30 : decode cX5_init 30 = .ok (.bipush 11, 2) := by decide +kernel
theorem dX5_init_32 : decode cX5_init 32 = .ok (.newarray .int, 2) := by decide +kernel
theorem dX5_init_34 : decode cX5_init 34 = .ok (.putfield 22, 3) := by decide +kernel
theorem dX5_init_37 : decode cX5_init 37 = .ok (.aload_n 0, 1) := by decide +kernel
theorem dX5_init_38 : decode cX5_init 38 = .ok (.bipush 11, 2) := by decide +kernel
theorem dX5_init_40 : decode cX5_init 40 = .ok (.newarray .int, 2) := by decide +kernel
theorem dX5_init_42 : decode cX5_init 42 = .ok (.putfield 25, 3) := by decide +kernel
theorem dX5_init_45 : decode cX5_init 45 = .ok (.aload_n 0, 1) := by decide +kernel
theorem dX5_init_46 : decode cX5_init 46 = .ok (.bipush 11, 2) := by decide +kernel
theorem dX5_init_48 : decode cX5_init 48 = .ok (.newarray .int, 2) := by decide +kernel
theorem dX5_init_50 : decode cX5_init 50 = .ok (.putfield 28, 3) := by decide +kernel
theorem dX5_init_53 : decode cX5_init 53 = .ok (.aload_n 0, 1) := by decide +kernel
theorem dX5_init_54 : decode cX5_init 54 = .ok (.bipush 11, 2) := by decide +kernel
theorem dX5_init_56 : decode cX5_init 56 = .ok (.newarray .int, 2) := by decide +kernel
theorem dX5_init_58 : decode cX5_init 58 = .ok (.putfield 31, 3) := by decide +kernel
theorem dX5_init_61 : decode cX5_init 61 = .ok (.aload_n 0, 1) := by decide +kernel
theorem dX5_init_62 : decode cX5_init 62 = .ok (.bipush 10, 2) := by decide +kernel
theorem dX5_init_64 : decode cX5_init 64 = .ok (.newarray .int, 2) := by decide +kernel
theorem dX5_init_66 : decode cX5_init 66 = .ok (.putfield 34, 3) := by decide +kernel
theorem dX5_init_69 : decode cX5_init 69 = .ok (.aload_n 0, 1) := by decide +kernel
theorem dX5_init_70 : decode cX5_init 70 = .ok (.bipush 10, 2) := by decide +kernel
theorem dX5_init_72 : decode cX5_init 72 = .ok (.newarray .int, 2) := by decide +kernel
theorem dX5_init_74 : decode cX5_init 74 = .ok (.putfield 37, 3) := by decide +kernel
theorem dX5_init_77 : decode cX5_init 77 = .ok (.aload_n 0, 1) := by decide +kernel
theorem dX5_init_78 : decode cX5_init 78 = .ok (.iconst (-1), 1) := by decide +kernel
theorem dX5_init_79 : decode cX5_init 79 = .ok (.putfield 40, 3) := by decide +kernel
theorem dX5_init_82 : decode cX5_init 82 = .ok (.aload_n 0, 1) := by decide +kernel
theorem dX5_init_83 : decode cX5_init 83 = .ok (.aload_n 1, 1) := by decide +kernel
theorem dX5_init_84 : decode cX5_init 84 = .ok (.putfield 44, 3) := by decide +kernel
theorem dX5_init_87 : decode cX5_init 87 = .ok (.aload_n 0, 1) := by decide +kernel
theorem dX5_init_88 : decode cX5_init 88 = .ok (.aload_n 2, 1) := by decide +kernel
theorem dX5_init_89 : decode cX5_init 89 = .ok (.putfield 48, 3) := by decide +kernel
theorem dX5_init_92 : decode cX5_init 92 = .ok (.return_, 1) := by decide +kernel
theorem dX3_init_0 : decode cX3_init 0 = .ok (.aload_n 0, 1) := by decide +kernel
theorem dX3_init_1 : decode cX3_init 1 = .ok (.invokespecial 3, 3) := by decide +kernel
theorem dX3_init_4 : decode cX3_init 4 = .ok (.aload_n 0, 1) := by decide +kernel
theorem dX3_init_5 : decode cX3_init 5 = .ok (.sipush 132, 3) := by decide +kernel
theorem dX3_init_8 : decode cX3_init 8 = .ok (.newarray .long, 2) := by decide +kernel
theorem dX3_init_10 : decode cX3_init 10 = .ok (.putfield 9, 3) := by decide +kernel
theorem dX3_init_13 : decode cX3_init 13 = .ok (.aload_n 0, 1) := by decide +kernel
theorem dX3_init_14 : decode cX3_init 14 = .ok (.bipush 12, 2) := by decide +kernel
theorem dX3_init_16 : decode cX3_init 16 = .ok (.newarray .long, 2) := by decide +kernel
theorem dX3_init_18 : decode cX3_init 18 = .ok (.putfield 15, 3) := by decide +kernel
theorem dX3_init_21 : decode cX3_init 21 = .ok (.aload_n 0, 1) := by decide +kernel
theorem dX3_init_22 : decode cX3_init 22 = .ok (.bipush 10, 2) := by decide +kernel
theorem dX3_init_24 : decode cX3_init 24 = .ok (.newarray .int, 2) := by decide +kernel
theorem dX3_init_26 : decode cX3_init 26 = .ok (.putfield 18, 3) := by decide +kernel
theorem dX3_init_29 : decode cX3_init 29 = .ok (.aload_n 0, 1) := by decide +kernel
theorem dX3_init_30 : decode cX3_init 30 = .ok (.bipush 11, 2) := by decide +kernel
theorem dX3_init_32 : decode cX3_init 32 = .ok (.newarray .int, 2) := by decide +kernel
theorem dX3_init_34 : decode cX3_init 34 = .ok (.putfield 22, 3) := by decide +kernel
theorem dX3_init_37 : decode cX3_init 37 = .ok (.aload_n 0, 1) := by decide +kernel
theorem dX3_init_38 : decode cX3_init 38 = .ok (.bipush 10, 2) := by decide +kernel
theorem dX3_init_40 : decode cX3_init 40 = .ok (.newarray .int, 2) := by decide +kernel
theorem dX3_init_42 : decode cX3_init 42 = .ok (.putfield 25, 3) := by decide +kernel
theorem dX3_init_45 : decode cX3_init 45 = .ok (.aload_n 0, 1) := by decide +kernel
theorem dX3_init_46 : decode cX3_init 46 = .ok (.bipush 10, 2) := by decide +kernel
theorem dX3_init_48 : decode cX3_init 48 = .ok (.newarray .int, 2) := by decide +kernel
theorem dX3_init_50 : decode cX3_init 50 = .ok (.putfield 28, 3) := by decide +kernel
theorem dX3_init_53 : decode cX3_init 53 = .ok (.aload_n 0, 1) := by decide +kernel
theorem dX3_init_54 : decode cX3_init 54 = .ok (.iconst (-1), 1) := by decide +kernel
theorem dX3_init_55 : decode cX3_init 55 = .ok (.putfield 31, 3) := by decide +kernel
theorem dX3_init_58 : decode cX3_init 58 = .ok (.aload_n 0, 1) := by decide +kernel
theorem dX3_init_59 : decode cX3_init 59 = .ok (.aload_n 1, 1) := by decide +kernel
theorem dX3_init_60 : decode cX3_init 60 = .ok (.putfield 35, 3) := by decide +kernel
theorem dX3_init_63 : decode cX3_init 63 = .ok (.aload_n 0, 1) := by decide +kernel
theorem dX3_init_64 : decode cX3_init 64 = .ok (.aload_n 2, 1) := by decide +kernel
theorem dX3_init_65 : decode cX3_init 65 = .ok (.putfield 39, 3) := by decide +kernel
theorem dX3_init_68 : decode cX3_init 68 = .ok (.return_, 1) := by decide +kernel
theorem dX10_init_0 : decode cX10_init 0 = .ok (.aload_n 0, 1) := by decide +kernel
theorem dX10_init_1 : decode cX10_init 1 = .ok (.invokespecial 3, 3) := by decide +kernel
theorem dX10_init_4 : decode cX10_init 4 = .ok (.aload_n 0, 1) := by decide +kernel
theorem dX10_init_5 : decode cX10_init 5 = .ok (.bipush 120, 2) := by decide +kernel
theorem dX10_init_7 : decode cX10_init 7 = .ok (.newarray .int, 2) := by decide +kernel
theorem dX10_init_9 : decode cX10_init 9 = .ok (.putfield 9, 3) := by decide +kernel
theorem dX10_init_12 : decode cX10_init 12 = .ok (.aload_n 0, 1) := by decide +kernel
theorem dX10_init_13 : decode cX10_init 13 = .ok (.bipush 8, 2) := by decide +kernel
theorem dX10_init_15 : decode cX10_init 15 = .ok (.newarray .int, 2) := by decide +kernel
theorem dX10_init_17 : decode cX10_init 17 = .ok (.putfield 15, 3) := by decide +kernel
theorem dX10_init_20 : decode cX10_init 20 = .ok (.aload_n 0, 1) := by decide +kernel
theorem dX10_init_21 : decode cX10_init 21 = .ok (.bipush 120, 2) := by decide +kernel
theorem dX10_init_23 : decode cX10_init 23 = .ok (.newarray .int, 2) := by decide +kernel
theorem dX10_init_25 : decode cX10_init 25 = .ok (.putfield 18, 3) := by decide +kernel
theorem dX10_init_28 : decode cX10_init 28 = .ok (.aload_n 0, 1) := by decide +kernel
theorem dX10_init_29 : decode cX10_init 29 = .ok (.iconst (-1), 1) := by decide +kernel
theorem dX10_init_30 : decode cX10_init 30 = .ok (.putfield 21, 3) := by decide +kernel
theorem dX10_init_33 : decode cX10_init 33 = .ok (.aload_n 0, 1) := by decide +kernel
theorem dX10_init_34 : decode cX10_init 34 = .ok (.iconst (-1), 1) := by decide +kernel
theorem dX10_init_35 : decode cX10_init 35 = .ok (.putfield 25, 3) := by decide +kernel
theorem dX10_init_38 : decode cX10_init 38 = .ok (.aload_n 0, 1) := by decide +kernel
theorem dX10_init_39 : decode cX10_init 39 = .ok (.aload_n 1, 1) := by decide +kernel
theorem dX10_init_40 : decode cX10_init 40 = .ok (.putfield 28, 3) := by decide +kernel
theorem dX10_init_43 : decode cX10_init 43 = .ok (.aload_n 0, 1) := by decide +kernel
theorem dX10_init_44 : decode cX10_init 44 = .ok (.aload_n 2, 1) := by decide +kernel
theorem dX10_init_45 : decode cX10_init 45 = .ok (.putfield 32, 3) := by decide +kernel
theorem dX10_init_48 : decode cX10_init 48 = .ok (.return_, 1) := by decide +kernel
theorem dX4_init_0 : decode cX4_init 0 = .ok (.aload_n 0, 1) := by decide +kernel
theorem dX4_init_1 : decode cX4_init 1 = .ok (.invokespecial 3, 3) := by decide +kernel
theorem dX4_init_4 : decode cX4_init 4 = .ok (.aload_n 0, 1) := by decide +kernel
theorem dX4_init_5 : decode cX4_init 5 = .ok (.sipush 600, 3) := by decide +kernel
theorem dX4_init_8 : decode cX4_init 8 = .ok (.newarray .int, 2) := by decide +kernel
theorem dX4_init_10 : decode cX4_init 10 = .ok (.putfield 9, 3) := by decide +kernel
theorem dX4_init_13 : decode cX4_init 13 = .ok (.aload_n 0, 1) := by decide +kernel
theorem dX4_init_14 : decode cX4_init 14 = .ok (.aload_n 1, 1) := by decide +kernel
theorem dX4_init_15 : decode cX4_init 15 = .ok (.putfield 15, 3) := by decide +kernel
theorem dX4_init_18 : decode cX4_init 18 = .ok (.aload_n 0, 1) := by decide +kernel
theorem dX4_init_19 : decode cX4_init 19 = .ok (.aload_n 2, 1) := by decide +kernel
theorem dX4_init_20 : decode cX4_init 20 = .ok (.putfield 19, 3) := by decide +kernel
theorem dX4_init_23 : decode cX4_init 23 = .ok (.return_, 1) := by decide +kernel
theorem dX6_init_0 : decode cX6_init 0 = .ok (.aload_n 0, 1) := by decide +kernel
theorem dX6_init_1 : decode cX6_init 1 = .ok (.invokespecial 3, 3) := by decide +kernel
theorem dX6_init_4 : decode cX6_init 4 = .ok (.aload_n 0, 1) := by decide +kernel
theorem dX6_init_5 : decode cX6_init 5 = .ok (.iconst 5, 1) := by decide +kernel
theorem dX6_init_6 : decode cX6_init 6 = .ok (.newarray .int, 2) := by decide +kernel
theorem dX6_init_8 : decode cX6_init 8 = .ok (.putfield 9, 3) := by decide +kernel
theorem dX6_init_11 : decode cX6_init 11 = .ok (.aload_n 0, 1) := by decide +kernel
theorem dX6_init_12 : decode cX6_init 12 = .ok (.iconst 5, 1) := by decide +kernel
theorem dX6_init_13 : decode cX6_init 13 = .ok (.newarray .int, 2) := by decide +kernel
theorem dX6_init_15 : decode cX6_init 15 = .ok (.putfield 15, 3) := by decide +kernel
theorem dX6_init_18 : decode cX6_init 18 = .ok (.aload_n 0, 1) := by decide +kernel
theorem dX6_init_19 : decode cX6_init 19 = .ok (.aload_n 1, 1) := by decide +kernel
theorem dX6_init_20 : decode cX6_init 20 = .ok (.putfield 18, 3) := by decide +kernel
theorem dX6_init_23 : decode cX6_init 23 = .ok (.return_, 1) := by decide +kernel
theorem dX11_init_0 : decode cX11_init 0 = .ok (.aload_n 0, 1) := by decide +kernel
theorem dX11_init_1 : decode cX11_init 1 = .ok (.invokespecial 1, 3) := by decide +kernel
theorem dX11_init_4 : decode cX11_init 4 = .ok (.aload_n 0, 1) := by decide +kernel
theorem dX11_init_5 : decode cX11_init 5 = .ok (.new 7, 3) := by decide +kernel
theorem dX11_init_8 : decode cX11_init 8 = .ok (.dup, 1) := by decide +kernel
theorem dX11_init_9 : decode cX11_init 9 = .ok (.invokespecial 9, 3) := by decide +kernel
theorem dX11_init_12 : decode cX11_init 12 = .ok (.putfield 10, 3) := by decide +kernel
theorem dX11_init_15 : decode cX11_init 15 = .ok (.aload_n 0, 1) := by decide +kernel
theorem dX11_init_16 : decode cX11_init 16 = .ok (.iconst 2, 1) := by decide +kernel
theorem dX11_init_17 : decode cX11_init 17 = .ok (.anewarray 7, 3) := by decide +kernel
theorem dX11_init_20 : decode cX11_init 20 = .ok (.putfield 16, 3) := by decide +kernel
theorem dX11_init_23 : decode cX11_init 23 = .ok (.iconst 0, 1) := by decide +kernel
theorem dX11_init_24 : decode cX11_init 24 = .ok (.istore_n 1, 1) := by decide +kernel
theorem dX11_init_25 : decode cX11_init 25 = .ok (.iload_n 1, 1) := by decide +kernel
theorem dX11_init_26 : decode cX11_init 26 = .ok (.iconst 2, 1) := by decide +kernel
theorem dX11_init_27 : decode cX11_init 27 = .ok (.if_icmp .ge 22, 3) := by decide +kernel
theorem dX11_init_30 : decode cX11_init 30 = .ok (.aload_n 0, 1) := by decide +kernel
theorem dX11_init_31 : decode cX11_init 31 = .ok (.getfield 16, 3) := by decide +kernel
theorem dX11_init_34 : decode cX11_init 34 = .ok (.iload_n 1, 1) := by decide +kernel
theorem dX11_init_35 : decode cX11_init 35 = .ok (.new 7, 3) := by decide +kernel
theorem dX11_init_38 : decode cX11_init 38 = .ok (.dup, 1) := by decide +kernel
theorem dX11_init_39 : decode cX11_init 39 = .ok (.invokespecial 9, 3) := by decide +kernel
theorem dX11_init_42 : decode cX11_init 42 = .ok (.aastore, 1) := by decide +kernel
theorem dX11_init_43 : decode cX11_init 43 = .ok (.iinc 1 1, 3) := by decide +kernel
theorem dX11_init_46 : decode cX11_init 46 = .ok (.goto (-21), 3) := by decide +kernel
theorem dX11_init_49 : decode cX11_init 49 = .ok (.aload_n 0, 1) := by decide +kernel
theorem dX11_init_50 : decode cX11_init 50 = .ok (.sipush 400, 3) := by decide +kernel
theorem dX11_init_53 : decode cX11_init 53 = .ok (.newarray .int, 2) := by decide +kernel
theorem dX11_init_55 : decode cX11_init 55 = .ok (.putfield 20, 3) := by decide +kernel
theorem dX11_init_58 : decode cX11_init 58 = .ok (.aload_n 0, 1) := by decide +kernel
theorem dX11_init_59 : decode cX11_init 59 = .ok (.iconst 5, 1) := by decide +kernel
theorem dX11_init_60 : decode cX11_init 60 = .ok (.newarray .int, 2) := by decide +kernel
theorem dX11_init_62 : decode cX11_init 62 = .ok (.putfield 24, 3) := by decide +kernel
theorem dX11_init_65 : decode cX11_init 65 = .ok (.aload_n 0, 1) := by decide +kernel
theorem dX11_init_66 : decode cX11_init 66 = .ok (.new 27, 3) := by decide +kernel
theorem dX11_init_69 : decode cX11_init 69 = .ok (.dup, 1) := by decide +kernel
theorem dX11_init_70 : decode cX11_init 70 = .ok (.aload_n 0, 1) := by decide +kernel
theorem dX11_init_71 : decode cX11_init 71 = .ok (.getfield 20, 3) := by decide +kernel
theorem dX11_init_74 : decode cX11_init 74 = .ok (.invokespecial 29, 3) := by decide +kernel
theorem dX11_init_77 : decode cX11_init 77 = .ok (.putfield 32, 3) := by decide +kernel
theorem dX11_init_80 : decode cX11_init 80 = .ok (.aload_n 0, 1) := by decide +kernel
theorem dX11_init_81 : decode cX11_init 81 = .ok (.new 36, 3) := by decide +kernel
theorem dX11_init_84 : decode cX11_init 84 = .ok (.dup, 1) := by decide +kernel
theorem dX11_init_85 : decode cX11_init 85 = .ok (.aload_n 0, 1) := by decide +kernel
theorem dX11_init_86 : decode cX11_init 86 = .ok (.getfield 10, 3) := by decide +kernel
theorem dX11_init_89 : decode cX11_init 89 = .ok (.invokespecial 38, 3) := by decide +kernel
theorem dX11_init_92 : decode cX11_init 92 = .ok (.putfield 41, 3) := by decide +kernel
theorem dX11_init_95 : decode cX11_init 95 = .ok (.aload_n 0, 1) := by decide +kernel
theorem dX11_init_96 : decode cX11_init 96 = .ok (.new 45, 3) := by decide +kernel
theorem dX11_init_99 : decode cX11_init 99 = .ok (.dup, 1) := by decide +kernel
theorem dX11_init_100 : decode cX11_init 100 = .ok (.aload_n 0, 1) := by decide +kernel
theorem dX11_init_101 : decode cX11_init 101 = .ok (.getfield 10, 3) := by decide +kernel
theorem dX11_init_104 : decode cX11_init 104 = .ok (.aload_n 0, 1) := by decide +kernel
theorem dX11_init_105 : decode cX11_init 105 = .ok (.getfield 41, 3) := by decide +kernel
theorem dX11_init_108 : decode cX11_init 108 = .ok (.invokespecial 47, 3) := by decide +kernel
theorem dX11_init_111 : decode cX11_init 111 = .ok (.putfield 50, 3) := by decide +kernel
theorem dX11_init_114 : decode cX11_init 114 = .ok (.aload_n 0, 1) := by decide +kernel
theorem dX11_init_115 : decode cX11_init 115 = .ok (.new 54, 3) := by decide +kernel
theorem dX11_init_118 : decode cX11_init 118 = .ok (.dup, 1) := by decide +kernel
theorem dX11_init_119 : decode cX11_init 119 = .ok (.aload_n 0, 1) := by decide +kernel
theorem dX11_init_120 : decode cX11_init 120 = .ok (.getfield 10, 3) := by decide +kernel
theorem dX11_init_123 : decode cX11_init 123 = .ok (.aload_n 0, 1) := by decide +kernel
theorem dX11_init_124 : decode cX11_init 124 = .ok (.getfield 41, 3) := by decide +kernel
theorem dX11_init_127 : decode cX11_init 127 = .ok (.invokespecial 56, 3) := by decide +kernel
theorem dX11_init_130 : decode cX11_init 130 = .ok (.putfield 57, 3) := by decide +kernel
theorem dX11_init_133 : decode cX11_init 133 = .ok (.aload_n 0, 1) := by decide +kernel
theorem dX11_init_134 : decode cX11_init 134 = .ok (.new 61, 3) := by decide +kernel
theorem dX11_init_137 : decode cX11_init 137 = .ok (.dup, 1) := by decide +kernel
theorem dX11_init_138 : decode cX11_init 138 = .ok (.aload_n 0, 1) := by decide +kernel
theorem dX11_init_139 : decode cX11_init 139 = .ok (.getfield 10, 3) := by decide +kernel
theorem dX11_init_142 : decode cX11_init 142 = .ok (.aload_n 0, 1) := by decide +kernel
theorem dX11_init_143 : decode cX11_init 143 = .ok (.getfield 57, 3) := by decide +kernel
theorem dX11_init_146 : decode cX11_init 146 = .ok (.invokespecial 63, 3) := by decide +kernel
theorem dX11_init_149 : decode cX11_init 149 = .ok (.putfield 66, 3) := by decide +kernel
theorem dX11_init_152 : decode cX11_init 152 = .ok (.aload_n 0, 1) := by decide +kernel
theorem dX11_init_153 : decode cX11_init 153 = .ok (.new 61, 3) := by decide +kernel
theorem dX11_init_156 : decode cX11_init 156 = .ok (.dup, 1) := by decide +kernel
theorem dX11_init_157 : decode cX11_init 157 = .ok (.aload_n 0, 1) := by decide +kernel
theorem dX11_init_158 : decode cX11_init 158 = .ok (.getfield 10, 3) := by decide +kernel
theorem dX11_init_161 : decode cX11_init 161 = .ok (.aload_n 0, 1) := by decide +kernel
theorem dX11_init_162 : decode cX11_init 162 = .ok (.getfield 57, 3) := by decide +kernel
theorem dX11_init_165 : decode cX11_init 165 = .ok (.invokespecial 63, 3) := by decide +kernel
theorem dX11_init_168 : decode cX11_init 168 = .ok (.putfield 70, 3) := by decide +kernel
theorem dX11_init_171 : decode cX11_init 171 = .ok (.aload_n 0, 1) := by decide +kernel
theorem dX11_init_172 : decode cX11_init 172 = .ok (.new 73, 3) := by decide +kernel
theorem dX11_init_175 : decode cX11_init 175 = .ok (.dup, 1) := by decide +kernel
theorem dX11_init_176 : decode cX11_init 176 = .ok (.aload_n 0, 1) := by decide +kernel
theorem dX11_init_177 : decode cX11_init 177 = .ok (.getfield 10, 3) := by decide +kernel
theorem dX11_init_180 : decode cX11_init 180 = .ok (.aload_n 0, 1) := by decide +kernel
theorem dX11_init_181 : decode cX11_init 181 = .ok (.getfield 57, 3) := by decide +kernel
theorem dX11_init_184 : decode cX11_init 184 = .ok (.invokespecial 75, 3) := by decide +kernel
theorem dX11_init_187 : decode cX11_init 187 = .ok (.putfield 76, 3) := by decide +kernel
theorem dX11_init_190 : decode cX11_init 190 = .ok (.aload_n 0, 1) := by decide +kernel
theorem dX11_init_191 : decode cX11_init 191 = .ok (.new 80, 3) := by decide +kernel
theorem dX11_init_194 : decode cX11_init 194 = .ok (.dup, 1) := by decide +kernel
theorem dX11_init_195 : decode cX11_init 195 = .ok (.aload_n 0, 1) := by decide +kernel
theorem dX11_init_196 : decode cX11_init 196 = .ok (.getfield 10, 3) := by decide +kernel
theorem dX11_init_199 : decode cX11_init 199 = .ok (.aload_n 0, 1) := by decide +kernel
theorem dX11_init_200 : decode cX11_init 200 = .ok (.getfield 50, 3) := by decide +kernel
theorem dX11_init_203 : decode cX11_init 203 = .ok (.invokespecial 82, 3) := by decide +kernel
theorem dX11_init_206 : decode cX11_init 206 = .ok (.putfield 85, 3) := by decide +kernel
theorem dX11_init_209 : decode cX11_init 209 = .ok (.aload_n 0, 1) := by decide +kernel
theorem dX11_init_210 : decode cX11_init 210 = .ok (.new 89, 3) := by decide +kernel
theorem dX11_init_213 : decode cX11_init 213 = .ok (.dup, 1) := by decide +kernel
theorem dX11_init_214 : decode cX11_init 214 = .ok (.aload_n 0, 1) := by decide +kernel
theorem dX11_init_215 : decode cX11_init 215 = .ok (.getfield 10, 3) := by decide +kernel
theorem dX11_init_218 : decode cX11_init 218 = .ok (.aload_n 0, 1) := by decide +kernel
theorem dX11_init_219 : decode cX11_init 219 = .ok (.getfield 50, 3) := by decide +kernel
theorem dX11_init_222 : decode cX11_init 222 = .ok (.invokespecial 91, 3) := by decide +kernel
theorem dX11_init_225 : decode cX11_init 225 = .ok (.putfield 92, 3) := by decide +kernel
theorem dX11_init_228 : decode cX11_init 228 = .ok (.aload_n 0, 1) := by decide +kernel
theorem dX11_init_229 : decode cX11_init 229 = .ok (.new 96, 3) := by decide +kernel
theorem dX11_init_232 : decode cX11_init 232 = .ok (.dup, 1) := by decide +kernel
theorem dX11_init_233 : decode cX11_init 233 = .ok (.aload_n 0, 1) := by decide +kernel
theorem dX11_init_234 : decode cX11_init 234 = .ok (.getfield 10, 3) := by decide +kernel
theorem dX11_init_237 : decode cX11_init 237 = .ok (.invokespecial 98, 3) := by decide +kernel
theorem dX11_init_240 : decode cX11_init 240 = .ok (.putfield 99, 3) := by decide +kernel
theorem dX11_init_243 : decode cX11_init 243 = .ok (.aload_n 0, 1) := by decide +kernel
theorem dX11_init_244 : decode cX11_init 244 = .ok (.iconst (-1), 1) := by decide +kernel
theorem dX11_init_245 : decode cX11_init 245 = .ok (.putfield 103, 3) := by decide +kernel
theorem dX11_init_248 : decode cX11_init 248 = .ok (.return_, 1) := by decide +kernel
set_option maxRecDepth 20000 in
theorem ct_7 (E : GE) : Cn E 1 8 321 X_X9_init [vR (some 7)] zD2 zI0 zL (fun r δ' i' l' => r = none ∧ δ' = zD18 ∧ i' = zI9 ∧ l' = zL) := by
  refine Cn_of (by decide +kernel) (Nat.le_of_ble_eq_true rfl) ?_
  refine g_aload_n (pc' := 1) 0 dX9_init_0 rfl rfl ?_
  refine g_objInit (pc' := 4) mq_X9_3 objI objC (by decide) (Nat.le_of_ble_eq_true rfl) dX9_init_1 rfl ?_
  refine g_aload_n (pc' := 5) 0 dX9_init_4 rfl rfl ?_
  refine g_bipush (pc' := 7) dX9_init_5 rfl rfl ?_
  refine g_newaN (pc' := 9) (δ2 := zD3) 8 (c1 := 1) (s1 := 80) (kd := 0) (n := 80) rfl (by decide) rfl aq_int rfl (by decide) dX9_init_7 rfl rfl rfl (Nat.le_of_ble_eq_true rfl) (Nat.le_of_ble_eq_true rfl) (fun _ => rfl) rfl ?_
  refine g_putRN (pc' := 12) (δ2 := zD4) 9 rfl fq_X9_9 rfl rfl rfl rfl dX9_init_9 rfl rfl ?_
  refine g_aload_n (pc' := 13) 0 dX9_init_12 rfl rfl ?_
  refine g_bipush (pc' := 15) dX9_init_13 rfl rfl ?_
  refine g_newaN (pc' := 17) (δ2 := zD5) 9 (c1 := 2) (s1 := 104) (kd := 0) (n := 24) rfl (by decide) rfl aq_int rfl (by decide) dX9_init_15 rfl rfl rfl (Nat.le_of_ble_eq_true rfl) (Nat.le_of_ble_eq_true rfl) (fun _ => rfl) rfl ?_
  refine g_putRN (pc' := 20) (δ2 := zD6) 10 rfl fq_X9_15 rfl rfl rfl rfl dX9_init_17 rfl rfl ?_
  refine g_aload_n (pc' := 21) 0 dX9_init_20 rfl rfl ?_
  refine g_iconst (pc' := 22) dX9_init_21 rfl ?_
  refine g_newaN (pc' := 24) (δ2 := zD7) 10 (c1 := 3) (s1 := 109) (kd := 0) (n := 5) rfl (by decide) rfl aq_int rfl (by decide) dX9_init_22 rfl rfl rfl (Nat.le_of_ble_eq_true rfl) (Nat.le_of_ble_eq_true rfl) (fun _ => rfl) rfl ?_
  refine g_putRN (pc' := 27) (δ2 := zD8) 11 rfl fq_X9_18 rfl rfl rfl rfl dX9_init_24 rfl rfl ?_
  refine g_aload_n (pc' := 28) 0 dX9_init_27 rfl rfl ?_
  refine g_bipush (pc' := 30) dX9_init_28 rfl rfl ?_
  refine g_newaN (pc' := 32) (δ2 := zD9) 11 (c1 := 4) (s1 := 119) (kd := 0) (n := 10) rfl (by decide) rfl aq_int rfl (by decide) dX9_init_30 rfl rfl rfl (Nat.le_of_ble_eq_true rfl) (Nat.le_of_ble_eq_true rfl) (fun _ => rfl) rfl ?_
  refine g_putRN (pc' := 35) (δ2 := zD10) 12 rfl fq_X9_21 rfl rfl rfl rfl dX9_init_32 rfl rfl ?_
  refine g_aload_n (pc' := 36) 0 dX9_init_35 rfl rfl ?_
  refine g_bipush (pc' := 38) dX9_init_36 rfl rfl ?_
  refine g_newaN (pc' := 40) (δ2 := zD11) 12 (c1 := 5) (s1 := 127) (kd := 0) (n := 8) rfl (by decide) rfl aq_int rfl (by decide) dX9_init_38 rfl rfl rfl (Nat.le_of_ble_eq_true rfl) (Nat.le_of_ble_eq_true rfl) (fun _ => rfl) rfl ?_
  refine g_putRN (pc' := 43) (δ2 := zD12) 13 rfl fq_X9_24 rfl rfl rfl rfl dX9_init_40 rfl rfl ?_
  refine g_aload_n (pc' := 44) 0 dX9_init_43 rfl rfl ?_
  refine g_bipush (pc' := 46) dX9_init_44 rfl rfl ?_
  refine g_newaN (pc' := 48) (δ2 := zD13) 13 (c1 := 6) (s1 := 135) (kd := 0) (n := 8) rfl (by decide) rfl aq_int rfl (by decide) dX9_init_46 rfl rfl rfl (Nat.le_of_ble_eq_true rfl) (Nat.le_of_ble_eq_true rfl) (fun _ => rfl) rfl ?_
  refine g_putRN (pc' := 51) (δ2 := zD14) 14 rfl fq_X9_27 rfl rfl rfl rfl dX9_init_48 rfl rfl ?_
  refine g_aload_n (pc' := 52) 0 dX9_init_51 rfl rfl ?_
  refine g_sipush (pc' := 55) dX9_init_52 rfl rfl ?_
  refine g_newaN (pc' := 57) (δ2 := zD15) 14 (c1 := 7) (s1 := 315) (kd := 0) (n := 180) rfl (by decide) rfl aq_int rfl (by decide) dX9_init_55 rfl rfl rfl (Nat.le_of_ble_eq_true rfl) (Nat.le_of_ble_eq_true rfl) (fun _ => rfl) rfl ?_
  refine g_putRN (pc' := 60) (δ2 := zD16) 15 rfl fq_X9_30 rfl rfl rfl rfl dX9_init_57 rfl rfl ?_
  refine g_aload_n (pc' := 61) 0 dX9_init_60 rfl rfl ?_
  refine g_bipush (pc' := 63) dX9_init_61 rfl rfl ?_
  refine g_newqN (pc' := 66) (δ2 := zD17) 15 (c1 := 8) (s1 := 321) (kd := 5) (n := 6) rfl (Or.inr ⟨rfl, rfl⟩) cq_X9_33 rfl (by decide) dX9_init_63 rfl rfl rfl (Nat.le_of_ble_eq_true rfl) (Nat.le_of_ble_eq_true rfl) (fun _ => rfl) rfl ?_
  refine g_putRN (pc' := 69) (δ2 := zD18) 16 rfl fq_X9_35 rfl rfl rfl rfl dX9_init_66 rfl rfl ?_
  refine g_aload_n (pc' := 70) 0 dX9_init_69 rfl rfl ?_
  refine g_iconst (pc' := 71) dX9_init_70 rfl ?_
  refine g_putI (pc' := 74) (z := 14) rfl fq_X9_39 rfl rfl (rg_lit rfl) dX9_init_71 rfl ?_
  refine g_toI (i2 := zI1) rfl ?_
  refine g_iconst (pc' := 75) dX9_init_74 rfl ?_
  refine g_istore_n (pc' := 76) (L' := [(1, vI 0), (0, vR (some 7))]) dX9_init_75 rfl (Nat.le_of_ble_eq_true rfl) rfl ?_
  refine g_iload_n (pc' := 77) 0 dX9_init_76 rfl rfl ?_
  refine g_bipush (pc' := 79) dX9_init_77 rfl rfl ?_
  refine g_icmp_ge (tgt := 95) (pc' := 82) (rg_lit rfl) (rg_lit rfl) Iff.rfl dX9_init_79 rfl rfl (fun q => absurd q (by decide)) (fun _ => ?_)
  refine g_aload_n (pc' := 83) 1 dX9_init_82 rfl rfl ?_
  refine g_getR (pc' := 86) (o := some 13) fg_X9_27 rfl rfl rfl dX9_init_83 rfl ?_
  refine g_iload_n (pc' := 87) 0 dX9_init_86 rfl rfl ?_
  refine g_iload_n (pc' := 88) 0 dX9_init_87 rfl rfl ?_
  refine g_iast (pc' := 89) (n := 8) (N := 8) rfl rfl (by decide) (by decide) (rg_lit rfl) dX9_init_88 rfl ?_
  refine g_toI (i2 := zI2) rfl ?_
  refine g_iinc (pc' := 92) (L' := [(1, vI 1), (0, vR (some 7))]) 0 dX9_init_89 rfl (Nat.le_of_ble_eq_true rfl) rfl rfl ?_
  refine g_goto (tgt := 76) dX9_init_92 rfl ?_
  refine g_iload_n (pc' := 77) 0 dX9_init_76 rfl rfl ?_
  refine g_bipush (pc' := 79) dX9_init_77 rfl rfl ?_
  refine g_icmp_ge (tgt := 95) (pc' := 82) (rg_lit rfl) (rg_lit rfl) Iff.rfl dX9_init_79 rfl rfl (fun q => absurd q (by decide)) (fun _ => ?_)
  refine g_aload_n (pc' := 83) 1 dX9_init_82 rfl rfl ?_
  refine g_getR (pc' := 86) (o := some 13) fg_X9_27 rfl rfl rfl dX9_init_83 rfl ?_
  refine g_iload_n (pc' := 87) 0 dX9_init_86 rfl rfl ?_
  refine g_iload_n (pc' := 88) 0 dX9_init_87 rfl rfl ?_
  refine g_iast (pc' := 89) (n := 8) (N := 8) rfl rfl (by decide) (by decide) (rg_lit rfl) dX9_init_88 rfl ?_
  refine g_toI (i2 := zI3) rfl ?_
  refine g_iinc (pc' := 92) (L' := [(1, vI 2), (0, vR (some 7))]) 0 dX9_init_89 rfl (Nat.le_of_ble_eq_true rfl) rfl rfl ?_
  refine g_goto (tgt := 76) dX9_init_92 rfl ?_
  refine g_iload_n (pc' := 77) 0 dX9_init_76 rfl rfl ?_
  refine g_bipush (pc' := 79) dX9_init_77 rfl rfl ?_
  refine g_icmp_ge (tgt := 95) (pc' := 82) (rg_lit rfl) (rg_lit rfl) Iff.rfl dX9_init_79 rfl rfl (fun q => absurd q (by decide)) (fun _ => ?_)
  refine g_aload_n (pc' := 83) 1 dX9_init_82 rfl rfl ?_
  refine g_getR (pc' := 86) (o := some 13) fg_X9_27 rfl rfl rfl dX9_init_83 rfl ?_
  refine g_iload_n (pc' := 87) 0 dX9_init_86 rfl rfl ?_
  refine g_iload_n (pc' := 88) 0 dX9_init_87 rfl rfl ?_
  refine g_iast (pc' := 89) (n := 8) (N := 8) rfl rfl (by decide) (by decide) (rg_lit rfl) dX9_init_88 rfl ?_
  refine g_toI (i2 := zI4) rfl ?_
  refine g_iinc (pc' := 92) (L' := [(1, vI 3), (0, vR (some 7))]) 0 dX9_init_89 rfl (Nat.le_of_ble_eq_true rfl) rfl rfl ?_
  refine g_goto (tgt := 76) dX9_init_92 rfl ?_
  refine g_iload_n (pc' := 77) 0 dX9_init_76 rfl rfl ?_
  refine g_bipush (pc' := 79) dX9_init_77 rfl rfl ?_
  refine g_icmp_ge (tgt := 95) (pc' := 82) (rg_lit rfl) (rg_lit rfl) Iff.rfl dX9_init_79 rfl rfl (fun q => absurd q (by decide)) (fun _ => ?_)
  refine g_aload_n (pc' := 83) 1 dX9_init_82 rfl rfl ?_
  refine g_getR (pc' := 86) (o := some 13) fg_X9_27 rfl rfl rfl dX9_init_83 rfl ?_
  refine g_iload_n (pc' := 87) 0 dX9_init_86 rfl rfl ?_
  refine g_iload_n (pc' := 88) 0 dX9_init_87 rfl rfl ?_
  refine g_iast (pc' := 89) (n := 8) (N := 8) rfl rfl (by decide) (by decide) (rg_lit rfl) dX9_init_88 rfl ?_
  refine g_toI (i2 := zI5) rfl ?_
  refine g_iinc (pc' := 92) (L' := [(1, vI 4), (0, vR (some 7))]) 0 dX9_init_89 rfl (Nat.le_of_ble_eq_true rfl) rfl rfl ?_
  refine g_goto (tgt := 76) dX9_init_92 rfl ?_
  refine g_iload_n (pc' := 77) 0 dX9_init_76 rfl rfl ?_
  refine g_bipush (pc' := 79) dX9_init_77 rfl rfl ?_
  refine g_icmp_ge (tgt := 95) (pc' := 82) (rg_lit rfl) (rg_lit rfl) Iff.rfl dX9_init_79 rfl rfl (fun q => absurd q (by decide)) (fun _ => ?_)
  refine g_aload_n (pc' := 83) 1 dX9_init_82 rfl rfl ?_
  refine g_getR (pc' := 86) (o := some 13) fg_X9_27 rfl rfl rfl dX9_init_83 rfl ?_
  refine g_iload_n (pc' := 87) 0 dX9_init_86 rfl rfl ?_
  refine g_iload_n (pc' := 88) 0 dX9_init_87 rfl rfl ?_
  refine g_iast (pc' := 89) (n := 8) (N := 8) rfl rfl (by decide) (by decide) (rg_lit rfl) dX9_init_88 rfl ?_
  refine g_toI (i2 := zI6) rfl ?_
  refine g_iinc (pc' := 92) (L' := [(1, vI 5), (0, vR (some 7))]) 0 dX9_init_89 rfl (Nat.le_of_ble_eq_true rfl) rfl rfl ?_
  refine g_goto (tgt := 76) dX9_init_92 rfl ?_
  refine g_iload_n (pc' := 77) 0 dX9_init_76 rfl rfl ?_
  refine g_bipush (pc' := 79) dX9_init_77 rfl rfl ?_
  refine g_icmp_ge (tgt := 95) (pc' := 82) (rg_lit rfl) (rg_lit rfl) Iff.rfl dX9_init_79 rfl rfl (fun q => absurd q (by decide)) (fun _ => ?_)
  refine g_aload_n (pc' := 83) 1 dX9_init_82 rfl rfl ?_
  refine g_getR (pc' := 86) (o := some 13) fg_X9_27 rfl rfl rfl dX9_init_83 rfl ?_
  refine g_iload_n (pc' := 87) 0 dX9_init_86 rfl rfl ?_
  refine g_iload_n (pc' := 88) 0 dX9_init_87 rfl rfl ?_
  refine g_iast (pc' := 89) (n := 8) (N := 8) rfl rfl (by decide) (by decide) (rg_lit rfl) dX9_init_88 rfl ?_
  refine g_toI (i2 := zI7) rfl ?_
  refine g_iinc (pc' := 92) (L' := [(1, vI 6), (0, vR (some 7))]) 0 dX9_init_89 rfl (Nat.le_of_ble_eq_true rfl) rfl rfl ?_
  refine g_goto (tgt := 76) dX9_init_92 rfl ?_
  refine g_iload_n (pc' := 77) 0 dX9_init_76 rfl rfl ?_
  refine g_bipush (pc' := 79) dX9_init_77 rfl rfl ?_
  refine g_icmp_ge (tgt := 95) (pc' := 82) (rg_lit rfl) (rg_lit rfl) Iff.rfl dX9_init_79 rfl rfl (fun q => absurd q (by decide)) (fun _ => ?_)
  refine g_aload_n (pc' := 83) 1 dX9_init_82 rfl rfl ?_
  refine g_getR (pc' := 86) (o := some 13) fg_X9_27 rfl rfl rfl dX9_init_83 rfl ?_
  refine g_iload_n (pc' := 87) 0 dX9_init_86 rfl rfl ?_
  refine g_iload_n (pc' := 88) 0 dX9_init_87 rfl rfl ?_
  refine g_iast (pc' := 89) (n := 8) (N := 8) rfl rfl (by decide) (by decide) (rg_lit rfl) dX9_init_88 rfl ?_
  refine g_toI (i2 := zI8) rfl ?_
  refine g_iinc (pc' := 92) (L' := [(1, vI 7), (0, vR (some 7))]) 0 dX9_init_89 rfl (Nat.le_of_ble_eq_true rfl) rfl rfl ?_
  refine g_goto (tgt := 76) dX9_init_92 rfl ?_
  refine g_iload_n (pc' := 77) 0 dX9_init_76 rfl rfl ?_
  refine g_bipush (pc' := 79) dX9_init_77 rfl rfl ?_
  refine g_icmp_ge (tgt := 95) (pc' := 82) (rg_lit rfl) (rg_lit rfl) Iff.rfl dX9_init_79 rfl rfl (fun q => absurd q (by decide)) (fun _ => ?_)
  refine g_aload_n (pc' := 83) 1 dX9_init_82 rfl rfl ?_
  refine g_getR (pc' := 86) (o := some 13) fg_X9_27 rfl rfl rfl dX9_init_83 rfl ?_
  refine g_iload_n (pc' := 87) 0 dX9_init_86 rfl rfl ?_
  refine g_iload_n (pc' := 88) 0 dX9_init_87 rfl rfl ?_
  refine g_iast (pc' := 89) (n := 8) (N := 8) rfl rfl (by decide) (by decide) (rg_lit rfl) dX9_init_88 rfl ?_
  refine g_toI (i2 := zI9) rfl ?_
  refine g_iinc (pc' := 92) (L' := [(1, vI 8), (0, vR (some 7))]) 0 dX9_init_89 rfl (Nat.le_of_ble_eq_true rfl) rfl rfl ?_
  refine g_goto (tgt := 76) dX9_init_92 rfl ?_
  refine g_iload_n (pc' := 77) 0 dX9_init_76 rfl rfl ?_
  refine g_bipush (pc' := 79) dX9_init_77 rfl rfl ?_
  refine g_icmp_ge (tgt := 95) (pc' := 82) (rg_lit rfl) (rg_lit rfl) Iff.rfl dX9_init_79 rfl rfl (fun _ => ?_) (fun q => absurd (by decide) q)
  exact g_vret (Nat.le_of_ble_eq_true rfl) (Nat.le_of_ble_eq_true rfl) rfl dX9_init_95 ⟨rfl, rfl, rfl, rfl⟩
set_option maxRecDepth 20000 in
theorem ct_17 (E : GE) : Cn E 1 8 321 X_X9_init [vR (some 17)] zD22 zI9 zL (fun r δ' i' l' => r = none ∧ δ' = zD38 ∧ i' = zI18 ∧ l' = zL) := by
  refine Cn_of (by decide +kernel) (Nat.le_of_ble_eq_true rfl) ?_
  refine g_aload_n (pc' := 1) 0 dX9_init_0 rfl rfl ?_
  refine g_objInit (pc' := 4) mq_X9_3 objI objC (by decide) (Nat.le_of_ble_eq_true rfl) dX9_init_1 rfl ?_
  refine g_aload_n (pc' := 5) 0 dX9_init_4 rfl rfl ?_
  refine g_bipush (pc' := 7) dX9_init_5 rfl rfl ?_
  refine g_newaN (pc' := 9) (δ2 := zD23) 18 (c1 := 1) (s1 := 80) (kd := 0) (n := 80) rfl (by decide) rfl aq_int rfl (by decide) dX9_init_7 rfl rfl rfl (Nat.le_of_ble_eq_true rfl) (Nat.le_of_ble_eq_true rfl) (fun _ => rfl) rfl ?_
  refine g_putRN (pc' := 12) (δ2 := zD24) 19 rfl fq_X9_9 rfl rfl rfl rfl dX9_init_9 rfl rfl ?_
  refine g_aload_n (pc' := 13) 0 dX9_init_12 rfl rfl ?_
  refine g_bipush (pc' := 15) dX9_init_13 rfl rfl ?_
  refine g_newaN (pc' := 17) (δ2 := zD25) 19 (c1 := 2) (s1 := 104) (kd := 0) (n := 24) rfl (by decide) rfl aq_int rfl (by decide) dX9_init_15 rfl rfl rfl (Nat.le_of_ble_eq_true rfl) (Nat.le_of_ble_eq_true rfl) (fun _ => rfl) rfl ?_
  refine g_putRN (pc' := 20) (δ2 := zD26) 20 rfl fq_X9_15 rfl rfl rfl rfl dX9_init_17 rfl rfl ?_
  refine g_aload_n (pc' := 21) 0 dX9_init_20 rfl rfl ?_
  refine g_iconst (pc' := 22) dX9_init_21 rfl ?_
  refine g_newaN (pc' := 24) (δ2 := zD27) 20 (c1 := 3) (s1 := 109) (kd := 0) (n := 5) rfl (by decide) rfl aq_int rfl (by decide) dX9_init_22 rfl rfl rfl (Nat.le_of_ble_eq_true rfl) (Nat.le_of_ble_eq_true rfl) (fun _ => rfl) rfl ?_
  refine g_putRN (pc' := 27) (δ2 := zD28) 21 rfl fq_X9_18 rfl rfl rfl rfl dX9_init_24 rfl rfl ?_
  refine g_aload_n (pc' := 28) 0 dX9_init_27 rfl rfl ?_
  refine g_bipush (pc' := 30) dX9_init_28 rfl rfl ?_
  refine g_newaN (pc' := 32) (δ2 := zD29) 21 (c1 := 4) (s1 := 119) (kd := 0) (n := 10) rfl (by decide) rfl aq_int rfl (by decide) dX9_init_30 rfl rfl rfl (Nat.le_of_ble_eq_true rfl) (Nat.le_of_ble_eq_true rfl) (fun _ => rfl) rfl ?_
  refine g_putRN (pc' := 35) (δ2 := zD30) 22 rfl fq_X9_21 rfl rfl rfl rfl dX9_init_32 rfl rfl ?_
  refine g_aload_n (pc' := 36) 0 dX9_init_35 rfl rfl ?_
  refine g_bipush (pc' := 38) dX9_init_36 rfl rfl ?_
  refine g_newaN (pc' := 40) (δ2 := zD31) 22 (c1 := 5) (s1 := 127) (kd := 0) (n := 8) rfl (by decide) rfl aq_int rfl (by decide) dX9_init_38 rfl rfl rfl (Nat.le_of_ble_eq_true rfl) (Nat.le_of_ble_eq_true rfl) (fun _ => rfl) rfl ?_
  refine g_putRN (pc' := 43) (δ2 := zD32) 23 rfl fq_X9_24 rfl rfl rfl rfl dX9_init_40 rfl rfl ?_
  refine g_aload_n (pc' := 44) 0 dX9_init_43 rfl rfl ?_
  refine g_bipush (pc' := 46) dX9_init_44 rfl rfl ?_
  refine g_newaN (pc' := 48) (δ2 := zD33) 23 (c1 := 6) (s1 := 135) (kd := 0) (n := 8) rfl (by decide) rfl aq_int rfl (by decide) dX9_init_46 rfl rfl rfl (Nat.le_of_ble_eq_true rfl) (Nat.le_of_ble_eq_true rfl) (fun _ => rfl) rfl ?_
  refine g_putRN (pc' := 51) (δ2 := zD34) 24 rfl fq_X9_27 rfl rfl rfl rfl dX9_init_48 rfl rfl ?_
  refine g_aload_n (pc' := 52) 0 dX9_init_51 rfl rfl ?_
  refine g_sipush (pc' := 55) dX9_init_52 rfl rfl ?_
  refine g_newaN (pc' := 57) (δ2 := zD35) 24 (c1 := 7) (s1 := 315) (kd := 0) (n := 180) rfl (by decide) rfl aq_int rfl (by decide) dX9_init_55 rfl rfl rfl (Nat.le_of_ble_eq_true rfl) (Nat.le_of_ble_eq_true rfl) (fun _ => rfl) rfl ?_
  refine g_putRN (pc' := 60) (δ2 := zD36) 25 rfl fq_X9_30 rfl rfl rfl rfl dX9_init_57 rfl rfl ?_
  refine g_aload_n (pc' := 61) 0 dX9_init_60 rfl rfl ?_
  refine g_bipush (pc' := 63) dX9_init_61 rfl rfl ?_
  refine g_newqN (pc' := 66) (δ2 := zD37) 25 (c1 := 8) (s1 := 321) (kd := 5) (n := 6) rfl (Or.inr ⟨rfl, rfl⟩) cq_X9_33 rfl (by decide) dX9_init_63 rfl rfl rfl (Nat.le_of_ble_eq_true rfl) (Nat.le_of_ble_eq_true rfl) (fun _ => rfl) rfl ?_
  refine g_putRN (pc' := 69) (δ2 := zD38) 26 rfl fq_X9_35 rfl rfl rfl rfl dX9_init_66 rfl rfl ?_
  refine g_aload_n (pc' := 70) 0 dX9_init_69 rfl rfl ?_
  refine g_iconst (pc' := 71) dX9_init_70 rfl ?_
  refine g_putI (pc' := 74) (z := 14) rfl fq_X9_39 rfl rfl (rg_lit rfl) dX9_init_71 rfl ?_
  refine g_toI (i2 := zI10) rfl ?_
  refine g_iconst (pc' := 75) dX9_init_74 rfl ?_
  refine g_istore_n (pc' := 76) (L' := [(1, vI 0), (0, vR (some 17))]) dX9_init_75 rfl (Nat.le_of_ble_eq_true rfl) rfl ?_
  refine g_iload_n (pc' := 77) 0 dX9_init_76 rfl rfl ?_
  refine g_bipush (pc' := 79) dX9_init_77 rfl rfl ?_
  refine g_icmp_ge (tgt := 95) (pc' := 82) (rg_lit rfl) (rg_lit rfl) Iff.rfl dX9_init_79 rfl rfl (fun q => absurd q (by decide)) (fun _ => ?_)
  refine g_aload_n (pc' := 83) 1 dX9_init_82 rfl rfl ?_
  refine g_getR (pc' := 86) (o := some 23) fg_X9_27 rfl rfl rfl dX9_init_83 rfl ?_
  refine g_iload_n (pc' := 87) 0 dX9_init_86 rfl rfl ?_
  refine g_iload_n (pc' := 88) 0 dX9_init_87 rfl rfl ?_
  refine g_iast (pc' := 89) (n := 8) (N := 8) rfl rfl (by decide) (by decide) (rg_lit rfl) dX9_init_88 rfl ?_
  refine g_toI (i2 := zI11) rfl ?_
  refine g_iinc (pc' := 92) (L' := [(1, vI 1), (0, vR (some 17))]) 0 dX9_init_89 rfl (Nat.le_of_ble_eq_true rfl) rfl rfl ?_
  refine g_goto (tgt := 76) dX9_init_92 rfl ?_
  refine g_iload_n (pc' := 77) 0 dX9_init_76 rfl rfl ?_
  refine g_bipush (pc' := 79) dX9_init_77 rfl rfl ?_
  refine g_icmp_ge (tgt := 95) (pc' := 82) (rg_lit rfl) (rg_lit rfl) Iff.rfl dX9_init_79 rfl rfl (fun q => absurd q (by decide)) (fun _ => ?_)
  refine g_aload_n (pc' := 83) 1 dX9_init_82 rfl rfl ?_
  refine g_getR (pc' := 86) (o := some 23) fg_X9_27 rfl rfl rfl dX9_init_83 rfl ?_
  refine g_iload_n (pc' := 87) 0 dX9_init_86 rfl rfl ?_
  refine g_iload_n (pc' := 88) 0 dX9_init_87 rfl rfl ?_
  refine g_iast (pc' := 89) (n := 8) (N := 8) rfl rfl (by decide) (by decide) (rg_lit rfl) dX9_init_88 rfl ?_
  refine g_toI (i2 := zI12) rfl ?_
  refine g_iinc (pc' := 92) (L' := [(1, vI 2), (0, vR (some 17))]) 0 dX9_init_89 rfl (Nat.le_of_ble_eq_true rfl) rfl rfl ?_
  refine g_goto (tgt := 76) dX9_init_92 rfl ?_
  refine g_iload_n (pc' := 77) 0 dX9_init_76 rfl rfl ?_
  refine g_bipush (pc' := 79) dX9_init_77 rfl rfl ?_
  refine g_icmp_ge (tgt := 95) (pc' := 82) (rg_lit rfl) (rg_lit rfl) Iff.rfl dX9_init_79 rfl rfl (fun q => absurd q (by decide)) (fun _ => ?_)
  refine g_aload_n (pc' := 83) 1 dX9_init_82 rfl rfl ?_
  refine g_getR (pc' := 86) (o := some 23) fg_X9_27 rfl rfl rfl dX9_init_83 rfl ?_
  refine g_iload_n (pc' := 87) 0 dX9_init_86 rfl rfl ?_
  refine g_iload_n (pc' := 88) 0 dX9_init_87 rfl rfl ?_
  refine g_iast (pc' := 89) (n := 8) (N := 8) rfl rfl (by decide) (by decide) (rg_lit rfl) dX9_init_88 rfl ?_
  refine g_toI (i2 := zI13) rfl ?_
  refine g_iinc (pc' := 92) (L' := [(1, vI 3), (0, vR (some 17))]) 0 dX9_init_89 rfl (Nat.le_of_ble_eq_true rfl) rfl rfl ?_
  refine g_goto (tgt := 76) dX9_init_92 rfl ?_
  refine g_iload_n (pc' := 77) 0 dX9_init_76 rfl rfl ?_
  refine g_bipush (pc' := 79) dX9_init_77 rfl rfl ?_
  refine g_icmp_ge (tgt := 95) (pc' := 82) (rg_lit rfl) (rg_lit rfl) Iff.rfl dX9_init_79 rfl rfl (fun q => absurd q (by decide)) (fun _ => ?_)
  refine g_aload_n (pc' := 83) 1 dX9_init_82 rfl rfl ?_
  refine g_getR (pc' := 86) (o := some 23) fg_X9_27 rfl rfl rfl dX9_init_83 rfl ?_
  refine g_iload_n (pc' := 87) 0 dX9_init_86 rfl rfl ?_
  refine g_iload_n (pc' := 88) 0 dX9_init_87 rfl rfl ?_
  refine g_iast (pc' := 89) (n := 8) (N := 8) rfl rfl (by decide) (by decide) (rg_lit rfl) dX9_init_88 rfl ?_
  refine g_toI (i2 := zI14) rfl ?_
  refine g_iinc (pc' := 92) (L' := [(1, vI 4), (0, vR (some 17))]) 0 dX9_init_89 rfl (Nat.le_of_ble_eq_true rfl) rfl rfl ?_
  refine g_goto (tgt := 76) dX9_init_92 rfl ?_
  refine g_iload_n (pc' := 77) 0 dX9_init_76 rfl rfl ?_
  refine g_bipush (pc' := 79) dX9_init_77 rfl rfl ?_
  refine g_icmp_ge (tgt := 95) (pc' := 82) (rg_lit rfl) (rg_lit rfl) Iff.rfl dX9_init_79 rfl rfl (fun q => absurd q (by decide)) (fun _ => ?_)
  refine g_aload_n (pc' := 83) 1 dX9_init_82 rfl rfl ?_
  refine g_getR (pc' := 86) (o := some 23) fg_X9_27 rfl rfl rfl dX9_init_83 rfl ?_
  refine g_iload_n (pc' := 87) 0 dX9_init_86 rfl rfl ?_
  refine g_iload_n (pc' := 88) 0 dX9_init_87 rfl rfl ?_
  refine g_iast (pc' := 89) (n := 8) (N := 8) rfl rfl (by decide) (by decide) (rg_lit rfl) dX9_init_88 rfl ?_
  refine g_toI (i2 := zI15) rfl ?_
  refine g_iinc (pc' := 92) (L' := [(1, vI 5), (0, vR (some 17))]) 0 dX9_init_89 rfl (Nat.le_of_ble_eq_true rfl) rfl rfl ?_
  refine g_goto (tgt := 76) dX9_init_92 rfl ?_
  refine g_iload_n (pc' := 77) 0 dX9_init_76 rfl rfl ?_
  refine g_bipush (pc' := 79) dX9_init_77 rfl rfl ?_
  refine g_icmp_ge (tgt := 95) (pc' := 82) (rg_lit rfl) (rg_lit rfl) Iff.rfl dX9_init_79 rfl rfl (fun q => absurd q (by decide)) (fun _ => ?_)
  refine g_aload_n (pc' := 83) 1 dX9_init_82 rfl rfl ?_
  refine g_getR (pc' := 86) (o := some 23) fg_X9_27 rfl rfl rfl dX9_init_83 rfl ?_
  refine g_iload_n (pc' := 87) 0 dX9_init_86 rfl rfl ?_
  refine g_iload_n (pc' := 88) 0 dX9_init_87 rfl rfl ?_
  refine g_iast (pc' := 89) (n := 8) (N := 8) rfl rfl (by decide) (by decide) (rg_lit rfl) dX9_init_88 rfl ?_
  refine g_toI (i2 := zI16) rfl ?_
  refine g_iinc (pc' := 92) (L' := [(1, vI 6), (0, vR (some 17))]) 0 dX9_init_89 rfl (Nat.le_of_ble_eq_true rfl) rfl rfl ?_
  refine g_goto (tgt := 76) dX9_init_92 rfl ?_
  refine g_iload_n (pc' := 77) 0 dX9_init_76 rfl rfl ?_
  refine g_bipush (pc' := 79) dX9_init_77 rfl rfl ?_
  refine g_icmp_ge (tgt := 95) (pc' := 82) (rg_lit rfl) (rg_lit rfl) Iff.rfl dX9_init_79 rfl rfl (fun q => absurd q (by decide)) (fun _ => ?_)
  refine g_aload_n (pc' := 83) 1 dX9_init_82 rfl rfl ?_
  refine g_getR (pc' := 86) (o := some 23) fg_X9_27 rfl rfl rfl dX9_init_83 rfl ?_
  refine g_iload_n (pc' := 87) 0 dX9_init_86 rfl rfl ?_
  refine g_iload_n (pc' := 88) 0 dX9_init_87 rfl rfl ?_
  refine g_iast (pc' := 89) (n := 8) (N := 8) rfl rfl (by decide) (by decide) (rg_lit rfl) dX9_init_88 rfl ?_
  refine g_toI (i2 := zI17) rfl ?_
  refine g_iinc (pc' := 92) (L' := [(1, vI 7), (0, vR (some 17))]) 0 dX9_init_89 rfl (Nat.le_of_ble_eq_true rfl) rfl rfl ?_
  refine g_goto (tgt := 76) dX9_init_92 rfl ?_
  refine g_iload_n (pc' := 77) 0 dX9_init_76 rfl rfl ?_
  refine g_bipush (pc' := 79) dX9_init_77 rfl rfl ?_
  refine g_icmp_ge (tgt := 95) (pc' := 82) (rg_lit rfl) (rg_lit rfl) Iff.rfl dX9_init_79 rfl rfl (fun q => absurd q (by decide)) (fun _ => ?_)
  refine g_aload_n (pc' := 83) 1 dX9_init_82 rfl rfl ?_
  refine g_getR (pc' := 86) (o := some 23) fg_X9_27 rfl rfl rfl dX9_init_83 rfl ?_
  refine g_iload_n (pc' := 87) 0 dX9_init_86 rfl rfl ?_
  refine g_iload_n (pc' := 88) 0 dX9_init_87 rfl rfl ?_
  refine g_iast (pc' := 89) (n := 8) (N := 8) rfl rfl (by decide) (by decide) (rg_lit rfl) dX9_init_88 rfl ?_
  refine g_toI (i2 := zI18) rfl ?_
  refine g_iinc (pc' := 92) (L' := [(1, vI 8), (0, vR (some 17))]) 0 dX9_init_89 rfl (Nat.le_of_ble_eq_true rfl) rfl rfl ?_
  refine g_goto (tgt := 76) dX9_init_92 rfl ?_
  refine g_iload_n (pc' := 77) 0 dX9_init_76 rfl rfl ?_
  refine g_bipush (pc' := 79) dX9_init_77 rfl rfl ?_
  refine g_icmp_ge (tgt := 95) (pc' := 82) (rg_lit rfl) (rg_lit rfl) Iff.rfl dX9_init_79 rfl rfl (fun _ => ?_) (fun q => absurd (by decide) q)
  exact g_vret (Nat.le_of_ble_eq_true rfl) (Nat.le_of_ble_eq_true rfl) rfl dX9_init_95 ⟨rfl, rfl, rfl, rfl⟩
set_option maxRecDepth 20000 in
theorem ct_26 (E : GE) : Cn E 1 8 321 X_X9_init [vR (some 26)] zD40 zI18 zL (fun r δ' i' l' => r = none ∧ δ' = zD56 ∧ i' = zI27 ∧ l' = zL) := by
  refine Cn_of (by decide +kernel) (Nat.le_of_ble_eq_true rfl) ?_
  refine g_aload_n (pc' := 1) 0 dX9_init_0 rfl rfl ?_
  refine g_objInit (pc' := 4) mq_X9_3 objI objC (by decide) (Nat.le_of_ble_eq_true rfl) dX9_init_1 rfl ?_
  refine g_aload_n (pc' := 5) 0 dX9_init_4 rfl rfl ?_
  refine g_bipush (pc' := 7) dX9_init_5 rfl rfl ?_
  refine g_newaN (pc' := 9) (δ2 := zD41) 27 (c1 := 1) (s1 := 80) (kd := 0) (n := 80) rfl (by decide) rfl aq_int rfl (by decide) dX9_init_7 rfl rfl rfl (Nat.le_of_ble_eq_true rfl) (Nat.le_of_ble_eq_true rfl) (fun _ => rfl) rfl ?_
  refine g_putRN (pc' := 12) (δ2 := zD42) 28 rfl fq_X9_9 rfl rfl rfl rfl dX9_init_9 rfl rfl ?_
  refine g_aload_n (pc' := 13) 0 dX9_init_12 rfl rfl ?_
  refine g_bipush (pc' := 15) dX9_init_13 rfl rfl ?_
  refine g_newaN (pc' := 17) (δ2 := zD43) 28 (c1 := 2) (s1 := 104) (kd := 0) (n := 24) rfl (by decide) rfl aq_int rfl (by decide) dX9_init_15 rfl rfl rfl (Nat.le_of_ble_eq_true rfl) (Nat.le_of_ble_eq_true rfl) (fun _ => rfl) rfl ?_
  refine g_putRN (pc' := 20) (δ2 := zD44) 29 rfl fq_X9_15 rfl rfl rfl rfl dX9_init_17 rfl rfl ?_
  refine g_aload_n (pc' := 21) 0 dX9_init_20 rfl rfl ?_
  refine g_iconst (pc' := 22) dX9_init_21 rfl ?_
  refine g_newaN (pc' := 24) (δ2 := zD45) 29 (c1 := 3) (s1 := 109) (kd := 0) (n := 5) rfl (by decide) rfl aq_int rfl (by decide) dX9_init_22 rfl rfl rfl (Nat.le_of_ble_eq_true rfl) (Nat.le_of_ble_eq_true rfl) (fun _ => rfl) rfl ?_
  refine g_putRN (pc' := 27) (δ2 := zD46) 30 rfl fq_X9_18 rfl rfl rfl rfl dX9_init_24 rfl rfl ?_
  refine g_aload_n (pc' := 28) 0 dX9_init_27 rfl rfl ?_
  refine g_bipush (pc' := 30) dX9_init_28 rfl rfl ?_
  refine g_newaN (pc' := 32) (δ2 := zD47) 30 (c1 := 4) (s1 := 119) (kd := 0) (n := 10) rfl (by decide) rfl aq_int rfl (by decide) dX9_init_30 rfl rfl rfl (Nat.le_of_ble_eq_true rfl) (Nat.le_of_ble_eq_true rfl) (fun _ => rfl) rfl ?_
  refine g_putRN (pc' := 35) (δ2 := zD48) 31 rfl fq_X9_21 rfl rfl rfl rfl dX9_init_32 rfl rfl ?_
  refine g_aload_n (pc' := 36) 0 dX9_init_35 rfl rfl ?_
  refine g_bipush (pc' := 38) dX9_init_36 rfl rfl ?_
  refine g_newaN (pc' := 40) (δ2 := zD49) 31 (c1 := 5) (s1 := 127) (kd := 0) (n := 8) rfl (by decide) rfl aq_int rfl (by decide) dX9_init_38 rfl rfl rfl (Nat.le_of_ble_eq_true rfl) (Nat.le_of_ble_eq_true rfl) (fun _ => rfl) rfl ?_
  refine g_putRN (pc' := 43) (δ2 := zD50) 32 rfl fq_X9_24 rfl rfl rfl rfl dX9_init_40 rfl rfl ?_
  refine g_aload_n (pc' := 44) 0 dX9_init_43 rfl rfl ?_
  refine g_bipush (pc' := 46) dX9_init_44 rfl rfl ?_
  refine g_newaN (pc' := 48) (δ2 := zD51) 32 (c1 := 6) (s1 := 135) (kd := 0) (n := 8) rfl (by decide) rfl aq_int rfl (by decide) dX9_init_46 rfl rfl rfl (Nat.le_of_ble_eq_true rfl) (Nat.le_of_ble_eq_true rfl) (fun _ => rfl) rfl ?_
  refine g_putRN (pc' := 51) (δ2 := zD52) 33 rfl fq_X9_27 rfl rfl rfl rfl dX9_init_48 rfl rfl ?_
  refine g_aload_n (pc' := 52) 0 dX9_init_51 rfl rfl ?_
  refine g_sipush (pc' := 55) dX9_init_52 rfl rfl ?_
  refine g_newaN (pc' := 57) (δ2 := zD53) 33 (c1 := 7) (s1 := 315) (kd := 0) (n := 180) rfl (by decide) rfl aq_int rfl (by decide) dX9_init_55 rfl rfl rfl (Nat.le_of_ble_eq_true rfl) (Nat.le_of_ble_eq_true rfl) (fun _ => rfl) rfl ?_
  refine g_putRN (pc' := 60) (δ2 := zD54) 34 rfl fq_X9_30 rfl rfl rfl rfl dX9_init_57 rfl rfl ?_
  refine g_aload_n (pc' := 61) 0 dX9_init_60 rfl rfl ?_
  refine g_bipush (pc' := 63) dX9_init_61 rfl rfl ?_
  refine g_newqN (pc' := 66) (δ2 := zD55) 34 (c1 := 8) (s1 := 321) (kd := 5) (n := 6) rfl (Or.inr ⟨rfl, rfl⟩) cq_X9_33 rfl (by decide) dX9_init_63 rfl rfl rfl (Nat.le_of_ble_eq_true rfl) (Nat.le_of_ble_eq_true rfl) (fun _ => rfl) rfl ?_
  refine g_putRN (pc' := 69) (δ2 := zD56) 35 rfl fq_X9_35 rfl rfl rfl rfl dX9_init_66 rfl rfl ?_
  refine g_aload_n (pc' := 70) 0 dX9_init_69 rfl rfl ?_
  refine g_iconst (pc' := 71) dX9_init_70 rfl ?_
  refine g_putI (pc' := 74) (z := 14) rfl fq_X9_39 rfl rfl (rg_lit rfl) dX9_init_71 rfl ?_
  refine g_toI (i2 := zI19) rfl ?_
  refine g_iconst (pc' := 75) dX9_init_74 rfl ?_
  refine g_istore_n (pc' := 76) (L' := [(1, vI 0), (0, vR (some 26))]) dX9_init_75 rfl (Nat.le_of_ble_eq_true rfl) rfl ?_
  refine g_iload_n (pc' := 77) 0 dX9_init_76 rfl rfl ?_
  refine g_bipush (pc' := 79) dX9_init_77 rfl rfl ?_
  refine g_icmp_ge (tgt := 95) (pc' := 82) (rg_lit rfl) (rg_lit rfl) Iff.rfl dX9_init_79 rfl rfl (fun q => absurd q (by decide)) (fun _ => ?_)
  refine g_aload_n (pc' := 83) 1 dX9_init_82 rfl rfl ?_
  refine g_getR (pc' := 86) (o := some 32) fg_X9_27 rfl rfl rfl dX9_init_83 rfl ?_
  refine g_iload_n (pc' := 87) 0 dX9_init_86 rfl rfl ?_
  refine g_iload_n (pc' := 88) 0 dX9_init_87 rfl rfl ?_
  refine g_iast (pc' := 89) (n := 8) (N := 8) rfl rfl (by decide) (by decide) (rg_lit rfl) dX9_init_88 rfl ?_
  refine g_toI (i2 := zI20) rfl ?_
  refine g_iinc (pc' := 92) (L' := [(1, vI 1), (0, vR (some 26))]) 0 dX9_init_89 rfl (Nat.le_of_ble_eq_true rfl) rfl rfl ?_
  refine g_goto (tgt := 76) dX9_init_92 rfl ?_
  refine g_iload_n (pc' := 77) 0 dX9_init_76 rfl rfl ?_
  refine g_bipush (pc' := 79) dX9_init_77 rfl rfl ?_
  refine g_icmp_ge (tgt := 95) (pc' := 82) (rg_lit rfl) (rg_lit rfl) Iff.rfl dX9_init_79 rfl rfl (fun q => absurd q (by decide)) (fun _ => ?_)
  refine g_aload_n (pc' := 83) 1 dX9_init_82 rfl rfl ?_
  refine g_getR (pc' := 86) (o := some 32) fg_X9_27 rfl rfl rfl dX9_init_83 rfl ?_
  refine g_iload_n (pc' := 87) 0 dX9_init_86 rfl rfl ?_
  refine g_iload_n (pc' := 88) 0 dX9_init_87 rfl rfl ?_
  refine g_iast (pc' := 89) (n := 8) (N := 8) rfl rfl (by decide) (by decide) (rg_lit rfl) dX9_init_88 rfl ?_
  refine g_toI (i2 := zI21) rfl ?_
  refine g_iinc (pc' := 92) (L' := [(1, vI 2), (0, vR (some 26))]) 0 dX9_init_89 rfl (Nat.le_of_ble_eq_true rfl) rfl rfl ?_
  refine g_goto (tgt := 76) dX9_init_92 rfl ?_
  refine g_iload_n (pc' := 77) 0 dX9_init_76 rfl rfl ?_
  refine g_bipush (pc' := 79) dX9_init_77 rfl rfl ?_
  refine g_icmp_ge (tgt := 95) (pc' := 82) (rg_lit rfl) (rg_lit rfl) Iff.rfl dX9_init_79 rfl rfl (fun q => absurd q (by decide)) (fun _ => ?_)
  refine g_aload_n (pc' := 83) 1 dX9_init_82 rfl rfl ?_
  refine g_getR (pc' := 86) (o := some 32) fg_X9_27 rfl rfl rfl dX9_init_83 rfl ?_
  refine g_iload_n (pc' := 87) 0 dX9_init_86 rfl rfl ?_
  refine g_iload_n (pc' := 88) 0 dX9_init_87 rfl rfl ?_
  refine g_iast (pc' := 89) (n := 8) (N := 8) rfl rfl (by decide) (by decide) (rg_lit rfl) dX9_init_88 rfl ?_
  refine g_toI (i2 := zI22) rfl ?_
  refine g_iinc (pc' := 92) (L' := [(1, vI 3), (0, vR (some 26))]) 0 dX9_init_89 rfl (Nat.le_of_ble_eq_true rfl) rfl rfl ?_
  refine g_goto (tgt := 76) dX9_init_92 rfl ?_
  refine g_iload_n (pc' := 77) 0 dX9_init_76 rfl rfl ?_
  refine g_bipush (pc' := 79) dX9_init_77 rfl rfl ?_
  refine g_icmp_ge (tgt := 95) (pc' := 82) (rg_lit rfl) (rg_lit rfl) Iff.rfl dX9_init_79 rfl rfl (fun q => absurd q (by decide)) (fun _ => ?_)
  refine g_aload_n (pc' := 83) 1 dX9_init_82 rfl rfl ?_
  refine g_getR (pc' := 86) (o := some 32) fg_X9_27 rfl rfl rfl dX9_init_83 rfl ?_
  refine g_iload_n (pc' := 87) 0 dX9_init_86 rfl rfl ?_
  refine g_iload_n (pc' := 88) 0 dX9_init_87 rfl rfl ?_
  refine g_iast (pc' := 89) (n := 8) (N := 8) rfl rfl (by decide) (by decide) (rg_lit rfl) dX9_init_88 rfl ?_
  refine g_toI (i2 := zI23) rfl ?_
  refine g_iinc (pc' := 92) (L' := [(1, vI 4), (0, vR (some 26))]) 0 dX9_init_89 rfl (Nat.le_of_ble_eq_true rfl) rfl rfl ?_
  refine g_goto (tgt := 76) dX9_init_92 rfl ?_
  refine g_iload_n (pc' := 77) 0 dX9_init_76 rfl rfl ?_
  refine g_bipush (pc' := 79) dX9_init_77 rfl rfl ?_
  refine g_icmp_ge (tgt := 95) (pc' := 82) (rg_lit rfl) (rg_lit rfl) Iff.rfl dX9_init_79 rfl rfl (fun q => absurd q (by decide)) (fun _ => ?_)
  refine g_aload_n (pc' := 83) 1 dX9_init_82 rfl rfl ?_
  refine g_getR (pc' := 86) (o := some 32) fg_X9_27 rfl rfl rfl dX9_init_83 rfl ?_
  refine g_iload_n (pc' := 87) 0 dX9_init_86 rfl rfl ?_
  refine g_iload_n (pc' := 88) 0 dX9_init_87 rfl rfl ?_
  refine g_iast (pc' := 89) (n := 8) (N := 8) rfl rfl (by decide) (by decide) (rg_lit rfl) dX9_init_88 rfl ?_
  refine g_toI (i2 := zI24) rfl ?_
  refine g_iinc (pc' := 92) (L' := [(1, vI 5), (0, vR (some 26))]) 0 dX9_init_89 rfl (Nat.le_of_ble_eq_true rfl) rfl rfl ?_
  refine g_goto (tgt := 76) dX9_init_92 rfl ?_
  refine g_iload_n (pc' := 77) 0 dX9_init_76 rfl rfl ?_
  refine g_bipush (pc' := 79) dX9_init_77 rfl rfl ?_
  refine g_icmp_ge (tgt := 95) (pc' := 82) (rg_lit rfl) (rg_lit rfl) Iff.rfl dX9_init_79 rfl rfl (fun q => absurd q (by decide)) (fun _ => ?_)
  refine g_aload_n (pc' := 83) 1 dX9_init_82 rfl rfl ?_
  refine g_getR (pc' := 86) (o := some 32) fg_X9_27 rfl rfl rfl dX9_init_83 rfl ?_
  refine g_iload_n (pc' := 87) 0 dX9_init_86 rfl rfl ?_
  refine g_iload_n (pc' := 88) 0 dX9_init_87 rfl rfl ?_
  refine g_iast (pc' := 89) (n := 8) (N := 8) rfl rfl (by decide) (by decide) (rg_lit rfl) dX9_init_88 rfl ?_
  refine g_toI (i2 := zI25) rfl ?_
  refine g_iinc (pc' := 92) (L' := [(1, vI 6), (0, vR (some 26))]) 0 dX9_init_89 rfl (Nat.le_of_ble_eq_true rfl) rfl rfl ?_
  refine g_goto (tgt := 76) dX9_init_92 rfl ?_
  refine g_iload_n (pc' := 77) 0 dX9_init_76 rfl rfl ?_
  refine g_bipush (pc' := 79) dX9_init_77 rfl rfl ?_
  refine g_icmp_ge (tgt := 95) (pc' := 82) (rg_lit rfl) (rg_lit rfl) Iff.rfl dX9_init_79 rfl rfl (fun q => absurd q (by decide)) (fun _ => ?_)
  refine g_aload_n (pc' := 83) 1 dX9_init_82 rfl rfl ?_
  refine g_getR (pc' := 86) (o := some 32) fg_X9_27 rfl rfl rfl dX9_init_83 rfl ?_
  refine g_iload_n (pc' := 87) 0 dX9_init_86 rfl rfl ?_
  refine g_iload_n (pc' := 88) 0 dX9_init_87 rfl rfl ?_
  refine g_iast (pc' := 89) (n := 8) (N := 8) rfl rfl (by decide) (by decide) (rg_lit rfl) dX9_init_88 rfl ?_
  refine g_toI (i2 := zI26) rfl ?_
  refine g_iinc (pc' := 92) (L' := [(1, vI 7), (0, vR (some 26))]) 0 dX9_init_89 rfl (Nat.le_of_ble_eq_true rfl) rfl rfl ?_
  refine g_goto (tgt := 76) dX9_init_92 rfl ?_
  refine g_iload_n (pc' := 77) 0 dX9_init_76 rfl rfl ?_
  refine g_bipush (pc' := 79) dX9_init_77 rfl rfl ?_
  refine g_icmp_ge (tgt := 95) (pc' := 82) (rg_lit rfl) (rg_lit rfl) Iff.rfl dX9_init_79 rfl rfl (fun q => absurd q (by decide)) (fun _ => ?_)
  refine g_aload_n (pc' := 83) 1 dX9_init_82 rfl rfl ?_
  refine g_getR (pc' := 86) (o := some 32) fg_X9_27 rfl rfl rfl dX9_init_83 rfl ?_
  refine g_iload_n (pc' := 87) 0 dX9_init_86 rfl rfl ?_
  refine g_iload_n (pc' := 88) 0 dX9_init_87 rfl rfl ?_
  refine g_iast (pc' := 89) (n := 8) (N := 8) rfl rfl (by decide) (by decide) (rg_lit rfl) dX9_init_88 rfl ?_
  refine g_toI (i2 := zI27) rfl ?_
  refine g_iinc (pc' := 92) (L' := [(1, vI 8), (0, vR (some 26))]) 0 dX9_init_89 rfl (Nat.le_of_ble_eq_true rfl) rfl rfl ?_
  refine g_goto (tgt := 76) dX9_init_92 rfl ?_
  refine g_iload_n (pc' := 77) 0 dX9_init_76 rfl rfl ?_
  refine g_bipush (pc' := 79) dX9_init_77 rfl rfl ?_
  refine g_icmp_ge (tgt := 95) (pc' := 82) (rg_lit rfl) (rg_lit rfl) Iff.rfl dX9_init_79 rfl rfl (fun _ => ?_) (fun q => absurd (by decide) q)
  exact g_vret (Nat.le_of_ble_eq_true rfl) (Nat.le_of_ble_eq_true rfl) rfl dX9_init_95 ⟨rfl, rfl, rfl, rfl⟩
set_option maxRecDepth 20000 in
theorem ct_37 (E : GE) : Cn E 1 3 452 X_X7_init [vR (some 37), vR (some 35)] zD62 zI27 zL (fun r δ' i' l' => r = none ∧ δ' = zD69 ∧ i' = zI27 ∧ l' = zL) := by
  refine Cn_of (by decide +kernel) (Nat.le_of_ble_eq_true rfl) ?_
  refine g_aload_n (pc' := 1) 0 dX7_init_0 rfl rfl ?_
  refine g_objInit (pc' := 4) mq_X7_5 objI objC (by decide) (Nat.le_of_ble_eq_true rfl) dX7_init_1 rfl ?_
  refine g_aload_n (pc' := 5) 0 dX7_init_4 rfl rfl ?_
  refine g_sipush (pc' := 8) dX7_init_5 rfl rfl ?_
  refine g_newaN (pc' := 10) (δ2 := zD63) 38 (c1 := 1) (s1 := 400) (kd := 0) (n := 400) rfl (by decide) rfl aq_int rfl (by decide) dX7_init_8 rfl rfl rfl (Nat.le_of_ble_eq_true rfl) (Nat.le_of_ble_eq_true rfl) (fun _ => rfl) rfl ?_
  refine g_putRN (pc' := 13) (δ2 := zD64) 39 rfl fq_X7_11 rfl rfl rfl rfl dX7_init_10 rfl rfl ?_
  refine g_aload_n (pc' := 14) 0 dX7_init_13 rfl rfl ?_
  refine g_bipush (pc' := 16) dX7_init_14 rfl rfl ?_
  refine g_newaN (pc' := 18) (δ2 := zD65) 39 (c1 := 2) (s1 := 448) (kd := 0) (n := 48) rfl (by decide) rfl aq_int rfl (by decide) dX7_init_16 rfl rfl rfl (Nat.le_of_ble_eq_true rfl) (Nat.le_of_ble_eq_true rfl) (fun _ => rfl) rfl ?_
  refine g_putRN (pc' := 21) (δ2 := zD66) 40 rfl fq_X7_17 rfl rfl rfl rfl dX7_init_18 rfl rfl ?_
  refine g_aload_n (pc' := 22) 0 dX7_init_21 rfl rfl ?_
  refine g_iconst (pc' := 23) dX7_init_22 rfl ?_
  refine g_newaN (pc' := 25) (δ2 := zD67) 40 (c1 := 3) (s1 := 452) (kd := 0) (n := 4) rfl (by decide) rfl aq_int rfl (by decide) dX7_init_23 rfl rfl rfl (Nat.le_of_ble_eq_true rfl) (Nat.le_of_ble_eq_true rfl) (fun _ => rfl) rfl ?_
  refine g_putRN (pc' := 28) (δ2 := zD68) 41 rfl fq_X7_20 rfl rfl rfl rfl dX7_init_25 rfl rfl ?_
  refine g_aload_n (pc' := 29) 0 dX7_init_28 rfl rfl ?_
  refine g_aload_n (pc' := 30) 1 dX7_init_29 rfl rfl ?_
  refine g_putRN (pc' := 33) (δ2 := zD69) 41 rfl fq_X7_23 rfl rfl rfl rfl dX7_init_30 rfl rfl ?_
  exact g_vret (Nat.le_of_ble_eq_true rfl) (Nat.le_of_ble_eq_true rfl) rfl dX7_init_33 ⟨rfl, rfl, rfl, rfl⟩
set_option maxRecDepth 20000 in
theorem ct_41 (E : GE) : Cn E 1 2 73 X_X0_init [vR (some 41), vR (some 7)] zD71 zI27 zL (fun r δ' i' l' => r = none ∧ δ' = zD76 ∧ i' = zI27 ∧ l' = zL) := by
  refine Cn_of (by decide +kernel) (Nat.le_of_ble_eq_true rfl) ?_
  refine g_aload_n (pc' := 1) 0 dX0_init_0 rfl rfl ?_
  refine g_objInit (pc' := 4) mq_X0_3 objI objC (by decide) (Nat.le_of_ble_eq_true rfl) dX0_init_1 rfl ?_
  refine g_aload_n (pc' := 5) 0 dX0_init_4 rfl rfl ?_
  refine g_bipush (pc' := 7) dX0_init_5 rfl rfl ?_
  refine g_newaN (pc' := 9) (δ2 := zD72) 42 (c1 := 1) (s1 := 9) (kd := 0) (n := 9) rfl (by decide) rfl aq_int rfl (by decide) dX0_init_7 rfl rfl rfl (Nat.le_of_ble_eq_true rfl) (Nat.le_of_ble_eq_true rfl) (fun _ => rfl) rfl ?_
  refine g_putRN (pc' := 12) (δ2 := zD73) 43 rfl fq_X0_9 rfl rfl rfl rfl dX0_init_9 rfl rfl ?_
  refine g_aload_n (pc' := 13) 0 dX0_init_12 rfl rfl ?_
  refine g_bipush (pc' := 15) dX0_init_13 rfl rfl ?_
  refine g_newaN (pc' := 17) (δ2 := zD74) 43 (c1 := 2) (s1 := 73) (kd := 1) (n := 64) rfl (by decide) rfl aq_long rfl (by decide) dX0_init_15 rfl rfl rfl (Nat.le_of_ble_eq_true rfl) (Nat.le_of_ble_eq_true rfl) (fun _ => rfl) rfl ?_
  refine g_putRN (pc' := 20) (δ2 := zD75) 44 rfl fq_X0_15 rfl rfl rfl rfl dX0_init_17 rfl rfl ?_
  refine g_aload_n (pc' := 21) 0 dX0_init_20 rfl rfl ?_
  refine g_aload_n (pc' := 22) 1 dX0_init_21 rfl rfl ?_
  refine g_putRN (pc' := 25) (δ2 := zD76) 44 rfl fq_X0_19 rfl rfl rfl rfl dX0_init_22 rfl rfl ?_
  exact g_vret (Nat.le_of_ble_eq_true rfl) (Nat.le_of_ble_eq_true rfl) rfl dX0_init_25 ⟨rfl, rfl, rfl, rfl⟩
set_option maxRecDepth 20000 in
theorem ct_44 (E : GE) : Cn E 1 6 2933 X_X8_init [vR (some 44), vR (some 7), vR (some 41)] zD78 zI27 zL (fun r δ' i' l' => r = none ∧ δ' = zD92 ∧ i' = zI28 ∧ l' = zL) := by
  refine Cn_of (by decide +kernel) (Nat.le_of_ble_eq_true rfl) ?_
  refine g_aload_n (pc' := 1) 0 dX8_init_0 rfl rfl ?_
  refine g_objInit (pc' := 4) mq_X8_3 objI objC (by decide) (Nat.le_of_ble_eq_true rfl) dX8_init_1 rfl ?_
  refine g_aload_n (pc' := 5) 0 dX8_init_4 rfl rfl ?_
  refine g_sipush (pc' := 8) dX8_init_5 rfl rfl ?_
  refine g_newaN (pc' := 10) (δ2 := zD79) 45 (c1 := 1) (s1 := 600) (kd := 0) (n := 600) rfl (by decide) rfl aq_int rfl (by decide) dX8_init_8 rfl rfl rfl (Nat.le_of_ble_eq_true rfl) (Nat.le_of_ble_eq_true rfl) (fun _ => rfl) rfl ?_
  refine g_putRN (pc' := 13) (δ2 := zD80) 46 rfl fq_X8_9 rfl rfl rfl rfl dX8_init_10 rfl rfl ?_
  refine g_aload_n (pc' := 14) 0 dX8_init_13 rfl rfl ?_
  refine g_sipush (pc' := 17) dX8_init_14 rfl rfl ?_
  refine g_newaN (pc' := 19) (δ2 := zD81) 46 (c1 := 2) (s1 := 1560) (kd := 0) (n := 960) rfl (by decide) rfl aq_int rfl (by decide) dX8_init_17 rfl rfl rfl (Nat.le_of_ble_eq_true rfl) (Nat.le_of_ble_eq_true rfl) (fun _ => rfl) rfl ?_
  refine g_putRN (pc' := 22) (δ2 := zD82) 47 rfl fq_X8_15 rfl rfl rfl rfl dX8_init_19 rfl rfl ?_
  refine g_aload_n (pc' := 23) 0 dX8_init_22 rfl rfl ?_
  refine g_sipush (pc' := 26) dX8_init_23 rfl rfl ?_
  refine g_newaN (pc' := 28) (δ2 := zD83) 47 (c1 := 3) (s1 := 2520) (kd := 0) (n := 960) rfl (by decide) rfl aq_int rfl (by decide) dX8_init_26 rfl rfl rfl (Nat.le_of_ble_eq_true rfl) (Nat.le_of_ble_eq_true rfl) (fun _ => rfl) rfl ?_
  refine g_putRN (pc' := 31) (δ2 := zD84) 48 rfl fq_X8_18 rfl rfl rfl rfl dX8_init_28 rfl rfl ?_
  refine g_aload_n (pc' := 32) 0 dX8_init_31 rfl rfl ?_
  refine g_sipush (pc' := 35) dX8_init_32 rfl rfl ?_
  refine g_newaN (pc' := 37) (δ2 := zD85) 48 (c1 := 4) (s1 := 2920) (kd := 0) (n := 400) rfl (by decide) rfl aq_int rfl (by decide) dX8_init_35 rfl rfl rfl (Nat.le_of_ble_eq_true rfl) (Nat.le_of_ble_eq_true rfl) (fun _ => rfl) rfl ?_
  refine g_putRN (pc' := 40) (δ2 := zD86) 49 rfl fq_X8_21 rfl rfl rfl rfl dX8_init_37 rfl rfl ?_
  refine g_aload_n (pc' := 41) 0 dX8_init_40 rfl rfl ?_
  refine g_iconst (pc' := 42) dX8_init_41 rfl ?_
  refine g_newaN (pc' := 44) (δ2 := zD87) 49 (c1 := 5) (s1 := 2925) (kd := 0) (n := 5) rfl (by decide) rfl aq_int rfl (by decide) dX8_init_42 rfl rfl rfl (Nat.le_of_ble_eq_true rfl) (Nat.le_of_ble_eq_true rfl) (fun _ => rfl) rfl ?_
  refine g_putRN (pc' := 47) (δ2 := zD88) 50 rfl fq_X8_24 rfl rfl rfl rfl dX8_init_44 rfl rfl ?_
  refine g_aload_n (pc' := 48) 0 dX8_init_47 rfl rfl ?_
  refine g_bipush (pc' := 50) dX8_init_48 rfl rfl ?_
  refine g_newaN (pc' := 52) (δ2 := zD89) 50 (c1 := 6) (s1 := 2933) (kd := 0) (n := 8) rfl (by decide) rfl aq_int rfl (by decide) dX8_init_50 rfl rfl rfl (Nat.le_of_ble_eq_true rfl) (Nat.le_of_ble_eq_true rfl) (fun _ => rfl) rfl ?_
  refine g_putRN (pc' := 55) (δ2 := zD90) 51 rfl fq_X8_27 rfl rfl rfl rfl dX8_init_52 rfl rfl ?_
  refine g_aload_n (pc' := 56) 0 dX8_init_55 rfl rfl ?_
  refine g_iconst (pc' := 57) dX8_init_56 rfl ?_
  refine g_putI (pc' := 60) (z := 14) rfl fq_X8_30 rfl rfl (rg_lit rfl) dX8_init_57 rfl ?_
  refine g_toI (i2 := zI28) rfl ?_
  refine g_aload_n (pc' := 61) 0 dX8_init_60 rfl rfl ?_
  refine g_aload_n (pc' := 62) 1 dX8_init_61 rfl rfl ?_
  refine g_putRN (pc' := 65) (δ2 := zD91) 51 rfl fq_X8_34 rfl rfl rfl rfl dX8_init_62 rfl rfl ?_
  refine g_aload_n (pc' := 66) 0 dX8_init_65 rfl rfl ?_
  refine g_aload_n (pc' := 67) 2 dX8_init_66 rfl rfl ?_
  refine g_putRN (pc' := 70) (δ2 := zD92) 51 rfl fq_X8_38 rfl rfl rfl rfl dX8_init_67 rfl rfl ?_
  exact g_vret (Nat.le_of_ble_eq_true rfl) (Nat.le_of_ble_eq_true rfl) rfl dX8_init_70 ⟨rfl, rfl, rfl, rfl⟩
set_option maxRecDepth 20000 in
theorem ct_51 (E : GE) : Cn E 1 11 856 X_X1_init [vR (some 51), vR (some 7), vR (some 41)] zD94 zI28 zL (fun r δ' i' l' => r = none ∧ δ' = zD118 ∧ i' = zI29 ∧ l' = zL) := by
  refine Cn_of (by decide +kernel) (Nat.le_of_ble_eq_true rfl) ?_
  refine g_aload_n (pc' := 1) 0 dX1_init_0 rfl rfl ?_
  refine g_objInit (pc' := 4) mq_X1_5 objI objC (by decide) (Nat.le_of_ble_eq_true rfl) dX1_init_1 rfl ?_
  refine g_aload_n (pc' := 5) 0 dX1_init_4 rfl rfl ?_
  refine g_bipush (pc' := 7) dX1_init_5 rfl rfl ?_
  refine g_newaN (pc' := 9) (δ2 := zD95) 52 (c1 := 1) (s1 := 10) (kd := 0) (n := 10) rfl (by decide) rfl aq_int rfl (by decide) dX1_init_7 rfl rfl rfl (Nat.le_of_ble_eq_true rfl) (Nat.le_of_ble_eq_true rfl) (fun _ => rfl) rfl ?_
  refine g_putRN (pc' := 12) (δ2 := zD96) 53 rfl fq_X1_11 rfl rfl rfl rfl dX1_init_9 rfl rfl ?_
  refine g_aload_n (pc' := 13) 0 dX1_init_12 rfl rfl ?_
  refine g_bipush (pc' := 15) dX1_init_13 rfl rfl ?_
  refine g_newaN (pc' := 17) (δ2 := zD97) 53 (c1 := 2) (s1 := 40) (kd := 0) (n := 30) rfl (by decide) rfl aq_int rfl (by decide) dX1_init_15 rfl rfl rfl (Nat.le_of_ble_eq_true rfl) (Nat.le_of_ble_eq_true rfl) (fun _ => rfl) rfl ?_
  refine g_putRN (pc' := 20) (δ2 := zD98) 54 rfl fq_X1_15 rfl rfl rfl rfl dX1_init_17 rfl rfl ?_
  refine g_aload_n (pc' := 21) 0 dX1_init_20 rfl rfl ?_
  refine g_bipush (pc' := 23) dX1_init_21 rfl rfl ?_
  refine g_newaN (pc' := 25) (δ2 := zD99) 54 (c1 := 3) (s1 := 70) (kd := 0) (n := 30) rfl (by decide) rfl aq_int rfl (by decide) dX1_init_23 rfl rfl rfl (Nat.le_of_ble_eq_true rfl) (Nat.le_of_ble_eq_true rfl) (fun _ => rfl) rfl ?_
  refine g_putRN (pc' := 28) (δ2 := zD100) 55 rfl fq_X1_18 rfl rfl rfl rfl dX1_init_25 rfl rfl ?_
  refine g_aload_n (pc' := 29) 0 dX1_init_28 rfl rfl ?_
  refine g_bipush (pc' := 31) dX1_init_29 rfl rfl ?_
  refine g_newaN (pc' := 33) (δ2 := zD101) 55 (c1 := 4) (s1 := 100) (kd := 0) (n := 30) rfl (by decide) rfl aq_int rfl (by decide) dX1_init_31 rfl rfl rfl (Nat.le_of_ble_eq_true rfl) (Nat.le_of_ble_eq_true rfl) (fun _ => rfl) rfl ?_
  refine g_putRN (pc' := 36) (δ2 := zD102) 56 rfl fq_X1_21 rfl rfl rfl rfl dX1_init_33 rfl rfl ?_
  refine g_aload_n (pc' := 37) 0 dX1_init_36 rfl rfl ?_
  refine g_sipush (pc' := 40) dX1_init_37 rfl rfl ?_
  refine g_newaN (pc' := 42) (δ2 := zD103) 56 (c1 := 5) (s1 := 460) (kd := 1) (n := 360) rfl (by decide) rfl aq_long rfl (by decide) dX1_init_40 rfl rfl rfl (Nat.le_of_ble_eq_true rfl) (Nat.le_of_ble_eq_true rfl) (fun _ => rfl) rfl ?_
  refine g_putRN (pc' := 45) (δ2 := zD104) 57 rfl fq_X1_24 rfl rfl rfl rfl dX1_init_42 rfl rfl ?_
  refine g_aload_n (pc' := 46) 0 dX1_init_45 rfl rfl ?_
  refine g_sipush (pc' := 49) dX1_init_46 rfl rfl ?_
  refine g_newaN (pc' := 51) (δ2 := zD105) 57 (c1 := 6) (s1 := 592) (kd := 1) (n := 132) rfl (by decide) rfl aq_long rfl (by decide) dX1_init_49 rfl rfl rfl (Nat.le_of_ble_eq_true rfl) (Nat.le_of_ble_eq_true rfl) (fun _ => rfl) rfl ?_
  refine g_putRN (pc' := 54) (δ2 := zD106) 58 rfl fq_X1_28 rfl rfl rfl rfl dX1_init_51 rfl rfl ?_
  refine g_aload_n (pc' := 55) 0 dX1_init_54 rfl rfl ?_
  refine g_sipush (pc' := 58) dX1_init_55 rfl rfl ?_
  refine g_newaN (pc' := 60) (δ2 := zD107) 58 (c1 := 7) (s1 := 724) (kd := 1) (n := 132) rfl (by decide) rfl aq_long rfl (by decide) dX1_init_58 rfl rfl rfl (Nat.le_of_ble_eq_true rfl) (Nat.le_of_ble_eq_true rfl) (fun _ => rfl) rfl ?_
  refine g_putRN (pc' := 63) (δ2 := zD108) 59 rfl fq_X1_31 rfl rfl rfl rfl dX1_init_60 rfl rfl ?_
  refine g_aload_n (pc' := 64) 0 dX1_init_63 rfl rfl ?_
  refine g_bipush (pc' := 66) dX1_init_64 rfl rfl ?_
  refine g_newaN (pc' := 68) (δ2 := zD109) 59 (c1 := 8) (s1 := 754) (kd := 0) (n := 30) rfl (by decide) rfl aq_int rfl (by decide) dX1_init_66 rfl rfl rfl (Nat.le_of_ble_eq_true rfl) (Nat.le_of_ble_eq_true rfl) (fun _ => rfl) rfl ?_
  refine g_putRN (pc' := 71) (δ2 := zD110) 60 rfl fq_X1_34 rfl rfl rfl rfl dX1_init_68 rfl rfl ?_
  refine g_aload_n (pc' := 72) 0 dX1_init_71 rfl rfl ?_
  refine g_bipush (pc' := 74) dX1_init_72 rfl rfl ?_
  refine g_newaN (pc' := 76) (δ2 := zD111) 60 (c1 := 9) (s1 := 766) (kd := 1) (n := 12) rfl (by decide) rfl aq_long rfl (by decide) dX1_init_74 rfl rfl rfl (Nat.le_of_ble_eq_true rfl) (Nat.le_of_ble_eq_true rfl) (fun _ => rfl) rfl ?_
  refine g_putRN (pc' := 79) (δ2 := zD112) 61 rfl fq_X1_37 rfl rfl rfl rfl dX1_init_76 rfl rfl ?_
  refine g_aload_n (pc' := 80) 0 dX1_init_79 rfl rfl ?_
  refine g_bipush (pc' := 82) dX1_init_80 rfl rfl ?_
  refine g_newaN (pc' := 84) (δ2 := zD113) 61 (c1 := 10) (s1 := 846) (kd := 1) (n := 80) rfl (by decide) rfl aq_long rfl (by decide) dX1_init_82 rfl rfl rfl (Nat.le_of_ble_eq_true rfl) (Nat.le_of_ble_eq_true rfl) (fun _ => rfl) rfl ?_
  refine g_putRN (pc' := 87) (δ2 := zD114) 62 rfl fq_X1_40 rfl rfl rfl rfl dX1_init_84 rfl rfl ?_
  refine g_aload_n (pc' := 88) 0 dX1_init_87 rfl rfl ?_
  refine g_bipush (pc' := 90) dX1_init_88 rfl rfl ?_
  refine g_newaN (pc' := 92) (δ2 := zD115) 62 (c1 := 11) (s1 := 856) (kd := 0) (n := 10) rfl (by decide) rfl aq_int rfl (by decide) dX1_init_90 rfl rfl rfl (Nat.le_of_ble_eq_true rfl) (Nat.le_of_ble_eq_true rfl) (fun _ => rfl) rfl ?_
  refine g_putRN (pc' := 95) (δ2 := zD116) 63 rfl fq_X1_43 rfl rfl rfl rfl dX1_init_92 rfl rfl ?_
  refine g_aload_n (pc' := 96) 0 dX1_init_95 rfl rfl ?_
  refine g_iconst (pc' := 97) dX1_init_96 rfl ?_
  refine g_putI (pc' := 100) (z := 15) rfl fq_X1_46 rfl rfl (rg_lit rfl) dX1_init_97 rfl ?_
  refine g_toI (i2 := zI29) rfl ?_
  refine g_aload_n (pc' := 101) 0 dX1_init_100 rfl rfl ?_
  refine g_aload_n (pc' := 102) 1 dX1_init_101 rfl rfl ?_
  refine g_putRN (pc' := 105) (δ2 := zD117) 63 rfl fq_X1_50 rfl rfl rfl rfl dX1_init_102 rfl rfl ?_
  refine g_aload_n (pc' := 106) 0 dX1_init_105 rfl rfl ?_
  refine g_aload_n (pc' := 107) 2 dX1_init_106 rfl rfl ?_
  refine g_putRN (pc' := 110) (δ2 := zD118) 63 rfl fq_X1_54 rfl rfl rfl rfl dX1_init_107 rfl rfl ?_
  exact g_vret (Nat.le_of_ble_eq_true rfl) (Nat.le_of_ble_eq_true rfl) rfl dX1_init_110 ⟨rfl, rfl, rfl, rfl⟩
set_option maxRecDepth 20000 in
theorem ct_63 (E : GE) : Cn E 1 9 218 X_X5_init [vR (some 63), vR (some 7), vR (some 51)] zD120 zI29 zL (fun r δ' i' l' => r = none ∧ δ' = zD140 ∧ i' = zI30 ∧ l' = zL) := by
  refine Cn_of (by decide +kernel) (Nat.le_of_ble_eq_true rfl) ?_
  refine g_aload_n (pc' := 1) 0 dX5_init_0 rfl rfl ?_
  refine g_objInit (pc' := 4) mq_X5_3 objI objC (by decide) (Nat.le_of_ble_eq_true rfl) dX5_init_1 rfl ?_
  refine g_aload_n (pc' := 5) 0 dX5_init_4 rfl rfl ?_
  refine g_sipush (pc' := 8) dX5_init_5 rfl rfl ?_
  refine g_newaN (pc' := 10) (δ2 := zD121) 64 (c1 := 1) (s1 := 132) (kd := 1) (n := 132) rfl (by decide) rfl aq_long rfl (by decide) dX5_init_8 rfl rfl rfl (Nat.le_of_ble_eq_true rfl) (Nat.le_of_ble_eq_true rfl) (fun _ => rfl) rfl ?_
  refine g_putRN (pc' := 13) (δ2 := zD122) 65 rfl fq_X5_9 rfl rfl rfl rfl dX5_init_10 rfl rfl ?_
  refine g_aload_n (pc' := 14) 0 dX5_init_13 rfl rfl ?_
  refine g_bipush (pc' := 16) dX5_init_14 rfl rfl ?_
  refine g_newaN (pc' := 18) (δ2 := zD123) 65 (c1 := 2) (s1 := 144) (kd := 1) (n := 12) rfl (by decide) rfl aq_long rfl (by decide) dX5_init_16 rfl rfl rfl (Nat.le_of_ble_eq_true rfl) (Nat.le_of_ble_eq_true rfl) (fun _ => rfl) rfl ?_
  refine g_putRN (pc' := 21) (δ2 := zD124) 66 rfl fq_X5_15 rfl rfl rfl rfl dX5_init_18 rfl rfl ?_
  refine g_aload_n (pc' := 22) 0 dX5_init_21 rfl rfl ?_
  refine g_bipush (pc' := 24) dX5_init_22 rfl rfl ?_
  refine g_newaN (pc' := 26) (δ2 := zD125) 66 (c1 := 3) (s1 := 154) (kd := 0) (n := 10) rfl (by decide) rfl aq_int rfl (by decide) dX5_init_24 rfl rfl rfl (Nat.le_of_ble_eq_true rfl) (Nat.le_of_ble_eq_true rfl) (fun _ => rfl) rfl ?_
  refine g_putRN (pc' := 29) (δ2 := zD126) 67 rfl fq_X5_18 rfl rfl rfl rfl dX5_init_26 rfl rfl ?_
  refine g_aload_n (pc' := 30) 0 dX5_init_29 rfl rfl ?_
  refine g_bipush (pc' := 32) dX5_init_30 rfl rfl ?_
  refine g_newaN (pc' := 34) (δ2 := zD127) 67 (c1 := 4) (s1 := 165) (kd := 0) (n := 11) rfl (by decide) rfl aq_int rfl (by decide) dX5_init_32 rfl rfl rfl (Nat.le_of_ble_eq_true rfl) (Nat.le_of_ble_eq_true rfl) (fun _ => rfl) rfl ?_
  refine g_putRN (pc' := 37) (δ2 := zD128) 68 rfl fq_X5_22 rfl rfl rfl rfl dX5_init_34 rfl rfl ?_
  refine g_aload_n (pc' := 38) 0 dX5_init_37 rfl rfl ?_
  refine g_bipush (pc' := 40) dX5_init_38 rfl rfl ?_
  refine g_newaN (pc' := 42) (δ2 := zD129) 68 (c1 := 5) (s1 := 176) (kd := 0) (n := 11) rfl (by decide) rfl aq_int rfl (by decide) dX5_init_40 rfl rfl rfl (Nat.le_of_ble_eq_true rfl) (Nat.le_of_ble_eq_true rfl) (fun _ => rfl) rfl ?_
  refine g_putRN (pc' := 45) (δ2 := zD130) 69 rfl fq_X5_25 rfl rfl rfl rfl dX5_init_42 rfl rfl ?_
  refine g_aload_n (pc' := 46) 0 dX5_init_45 rfl rfl ?_
  refine g_bipush (pc' := 48) dX5_init_46 rfl rfl ?_
  refine g_newaN (pc' := 50) (δ2 := zD131) 69 (c1 := 6) (s1 := 187) (kd := 0) (n := 11) rfl (by decide) rfl aq_int rfl (by decide) dX5_init_48 rfl rfl rfl (Nat.le_of_ble_eq_true rfl) (Nat.le_of_ble_eq_true rfl) (fun _ => rfl) rfl ?_
  refine g_putRN (pc' := 53) (δ2 := zD132) 70 rfl fq_X5_28 rfl rfl rfl rfl dX5_init_50 rfl rfl ?_
  refine g_aload_n (pc' := 54) 0 dX5_init_53 rfl rfl ?_
  refine g_bipush (pc' := 56) dX5_init_54 rfl rfl ?_
  refine g_newaN (pc' := 58) (δ2 := zD133) 70 (c1 := 7) (s1 := 198) (kd := 0) (n := 11) rfl (by decide) rfl aq_int rfl (by decide) dX5_init_56 rfl rfl rfl (Nat.le_of_ble_eq_true rfl) (Nat.le_of_ble_eq_true rfl) (fun _ => rfl) rfl ?_
  refine g_putRN (pc' := 61) (δ2 := zD134) 71 rfl fq_X5_31 rfl rfl rfl rfl dX5_init_58 rfl rfl ?_
  refine g_aload_n (pc' := 62) 0 dX5_init_61 rfl rfl ?_
  refine g_bipush (pc' := 64) dX5_init_62 rfl rfl ?_
  refine g_newaN (pc' := 66) (δ2 := zD135) 71 (c1 := 8) (s1 := 208) (kd := 0) (n := 10) rfl (by decide) rfl aq_int rfl (by decide) dX5_init_64 rfl rfl rfl (Nat.le_of_ble_eq_true rfl) (Nat.le_of_ble_eq_true rfl) (fun _ => rfl) rfl ?_
  refine g_putRN (pc' := 69) (δ2 := zD136) 72 rfl fq_X5_34 rfl rfl rfl rfl dX5_init_66 rfl rfl ?_
  refine g_aload_n (pc' := 70) 0 dX5_init_69 rfl rfl ?_
  refine g_bipush (pc' := 72) dX5_init_70 rfl rfl ?_
  refine g_newaN (pc' := 74) (δ2 := zD137) 72 (c1 := 9) (s1 := 218) (kd := 0) (n := 10) rfl (by decide) rfl aq_int rfl (by decide) dX5_init_72 rfl rfl rfl (Nat.le_of_ble_eq_true rfl) (Nat.le_of_ble_eq_true rfl) (fun _ => rfl) rfl ?_
  refine g_putRN (pc' := 77) (δ2 := zD138) 73 rfl fq_X5_37 rfl rfl rfl rfl dX5_init_74 rfl rfl ?_
  refine g_aload_n (pc' := 78) 0 dX5_init_77 rfl rfl ?_
  refine g_iconst (pc' := 79) dX5_init_78 rfl ?_
  refine g_putI (pc' := 82) (z := 18) rfl fq_X5_40 rfl rfl (rg_lit rfl) dX5_init_79 rfl ?_
  refine g_toI (i2 := zI30) rfl ?_
  refine g_aload_n (pc' := 83) 0 dX5_init_82 rfl rfl ?_
  refine g_aload_n (pc' := 84) 1 dX5_init_83 rfl rfl ?_
  refine g_putRN (pc' := 87) (δ2 := zD139) 73 rfl fq_X5_44 rfl rfl rfl rfl dX5_init_84 rfl rfl ?_
  refine g_aload_n (pc' := 88) 0 dX5_init_87 rfl rfl ?_
  refine g_aload_n (pc' := 89) 2 dX5_init_88 rfl rfl ?_
  refine g_putRN (pc' := 92) (δ2 := zD140) 73 rfl fq_X5_48 rfl rfl rfl rfl dX5_init_89 rfl rfl ?_
  exact g_vret (Nat.le_of_ble_eq_true rfl) (Nat.le_of_ble_eq_true rfl) rfl dX5_init_92 ⟨rfl, rfl, rfl, rfl⟩
set_option maxRecDepth 20000 in
theorem ct_73 (E : GE) : Cn E 1 9 218 X_X5_init [vR (some 73), vR (some 7), vR (some 51)] zD142 zI30 zL (fun r δ' i' l' => r = none ∧ δ' = zD162 ∧ i' = zI31 ∧ l' = zL) := by
  refine Cn_of (by decide +kernel) (Nat.le_of_ble_eq_true rfl) ?_
  refine g_aload_n (pc' := 1) 0 dX5_init_0 rfl rfl ?_
  refine g_objInit (pc' := 4) mq_X5_3 objI objC (by decide) (Nat.le_of_ble_eq_true rfl) dX5_init_1 rfl ?_
  refine g_aload_n (pc' := 5) 0 dX5_init_4 rfl rfl ?_
  refine g_sipush (pc' := 8) dX5_init_5 rfl rfl ?_
  refine g_newaN (pc' := 10) (δ2 := zD143) 74 (c1 := 1) (s1 := 132) (kd := 1) (n := 132) rfl (by decide) rfl aq_long rfl (by decide) dX5_init_8 rfl rfl rfl (Nat.le_of_ble_eq_true rfl) (Nat.le_of_ble_eq_true rfl) (fun _ => rfl) rfl ?_
  refine g_putRN (pc' := 13) (δ2 := zD144) 75 rfl fq_X5_9 rfl rfl rfl rfl dX5_init_10 rfl rfl ?_
  refine g_aload_n (pc' := 14) 0 dX5_init_13 rfl rfl ?_
  refine g_bipush (pc' := 16) dX5_init_14 rfl rfl ?_
  refine g_newaN (pc' := 18) (δ2 := zD145) 75 (c1 := 2) (s1 := 144) (kd := 1) (n := 12) rfl (by decide) rfl aq_long rfl (by decide) dX5_init_16 rfl rfl rfl (Nat.le_of_ble_eq_true rfl) (Nat.le_of_ble_eq_true rfl) (fun _ => rfl) rfl ?_
  refine g_putRN (pc' := 21) (δ2 := zD146) 76 rfl fq_X5_15 rfl rfl rfl rfl dX5_init_18 rfl rfl ?_
  refine g_aload_n (pc' := 22) 0 dX5_init_21 rfl rfl ?_
  refine g_bipush (pc' := 24) dX5_init_22 rfl rfl ?_
  refine g_newaN (pc' := 26) (δ2 := zD147) 76 (c1 := 3) (s1 := 154) (kd := 0) (n := 10) rfl (by decide) rfl aq_int rfl (by decide) dX5_init_24 rfl rfl rfl (Nat.le_of_ble_eq_true rfl) (Nat.le_of_ble_eq_true rfl) (fun _ => rfl) rfl ?_
  refine g_putRN (pc' := 29) (δ2 := zD148) 77 rfl fq_X5_18 rfl rfl rfl rfl dX5_init_26 rfl rfl ?_
  refine g_aload_n (pc' := 30) 0 dX5_init_29 rfl rfl ?_
  refine g_bipush (pc' := 32) dX5_init_30 rfl rfl ?_
  refine g_newaN (pc' := 34) (δ2 := zD149) 77 (c1 := 4) (s1 := 165) (kd := 0) (n := 11) rfl (by decide) rfl aq_int rfl (by decide) dX5_init_32 rfl rfl rfl (Nat.le_of_ble_eq_true rfl) (Nat.le_of_ble_eq_true rfl) (fun _ => rfl) rfl ?_
  refine g_putRN (pc' := 37) (δ2 := zD150) 78 rfl fq_X5_22 rfl rfl rfl rfl dX5_init_34 rfl rfl ?_
  refine g_aload_n (pc' := 38) 0 dX5_init_37 rfl rfl ?_
  refine g_bipush (pc' := 40) dX5_init_38 rfl rfl ?_
  refine g_newaN (pc' := 42) (δ2 := zD151) 78 (c1 := 5) (s1 := 176) (kd := 0) (n := 11) rfl (by decide) rfl aq_int rfl (by decide) dX5_init_40 rfl rfl rfl (Nat.le_of_ble_eq_true rfl) (Nat.le_of_ble_eq_true rfl) (fun _ => rfl) rfl ?_
  refine g_putRN (pc' := 45) (δ2 := zD152) 79 rfl fq_X5_25 rfl rfl rfl rfl dX5_init_42 rfl rfl ?_
  refine g_aload_n (pc' := 46) 0 dX5_init_45 rfl rfl ?_
  refine g_bipush (pc' := 48) dX5_init_46 rfl rfl ?_
  refine g_newaN (pc' := 50) (δ2 := zD153) 79 (c1 := 6) (s1 := 187) (kd := 0) (n := 11) rfl (by decide) rfl aq_int rfl (by decide) dX5_init_48 rfl rfl rfl (Nat.le_of_ble_eq_true rfl) (Nat.le_of_ble_eq_true rfl) (fun _ => rfl) rfl ?_
  refine g_putRN (pc' := 53) (δ2 := zD154) 80 rfl fq_X5_28 rfl rfl rfl rfl dX5_init_50 rfl rfl ?_
  refine g_aload_n (pc' := 54) 0 dX5_init_53 rfl rfl ?_
  refine g_bipush (pc' := 56) dX5_init_54 rfl rfl ?_
  refine g_newaN (pc' := 58) (δ2 := zD155) 80 (c1 := 7) (s1 := 198) (kd := 0) (n := 11) rfl (by decide) rfl aq_int rfl (by decide) dX5_init_56 rfl rfl rfl (Nat.le_of_ble_eq_true rfl) (Nat.le_of_ble_eq_true rfl) (fun _ => rfl) rfl ?_
  refine g_putRN (pc' := 61) (δ2 := zD156) 81 rfl fq_X5_31 rfl rfl rfl rfl dX5_init_58 rfl rfl ?_
  refine g_aload_n (pc' := 62) 0 dX5_init_61 rfl rfl ?_
  refine g_bipush (pc' := 64) dX5_init_62 rfl rfl ?_
  refine g_newaN (pc' := 66) (δ2 := zD157) 81 (c1 := 8) (s1 := 208) (kd := 0) (n := 10) rfl (by decide) rfl aq_int rfl (by decide) dX5_init_64 rfl rfl rfl (Nat.le_of_ble_eq_true rfl) (Nat.le_of_ble_eq_true rfl) (fun _ => rfl) rfl ?_
  refine g_putRN (pc' := 69) (δ2 := zD158) 82 rfl fq_X5_34 rfl rfl rfl rfl dX5_init_66 rfl rfl ?_
  refine g_aload_n (pc' := 70) 0 dX5_init_69 rfl rfl ?_
  refine g_bipush (pc' := 72) dX5_init_70 rfl rfl ?_
  refine g_newaN (pc' := 74) (δ2 := zD159) 82 (c1 := 9) (s1 := 218) (kd := 0) (n := 10) rfl (by decide) rfl aq_int rfl (by decide) dX5_init_72 rfl rfl rfl (Nat.le_of_ble_eq_true rfl) (Nat.le_of_ble_eq_true rfl) (fun _ => rfl) rfl ?_
  refine g_putRN (pc' := 77) (δ2 := zD160) 83 rfl fq_X5_37 rfl rfl rfl rfl dX5_init_74 rfl rfl ?_
  refine g_aload_n (pc' := 78) 0 dX5_init_77 rfl rfl ?_
  refine g_iconst (pc' := 79) dX5_init_78 rfl ?_
  refine g_putI (pc' := 82) (z := 18) rfl fq_X5_40 rfl rfl (rg_lit rfl) dX5_init_79 rfl ?_
  refine g_toI (i2 := zI31) rfl ?_
  refine g_aload_n (pc' := 83) 0 dX5_init_82 rfl rfl ?_
  refine g_aload_n (pc' := 84) 1 dX5_init_83 rfl rfl ?_
  refine g_putRN (pc' := 87) (δ2 := zD161) 83 rfl fq_X5_44 rfl rfl rfl rfl dX5_init_84 rfl rfl ?_
  refine g_aload_n (pc' := 88) 0 dX5_init_87 rfl rfl ?_
  refine g_aload_n (pc' := 89) 2 dX5_init_88 rfl rfl ?_
  refine g_putRN (pc' := 92) (δ2 := zD162) 83 rfl fq_X5_48 rfl rfl rfl rfl dX5_init_89 rfl rfl ?_
  exact g_vret (Nat.le_of_ble_eq_true rfl) (Nat.le_of_ble_eq_true rfl) rfl dX5_init_92 ⟨rfl, rfl, rfl, rfl⟩
set_option maxRecDepth 20000 in
theorem ct_83 (E : GE) : Cn E 1 6 185 X_X3_init [vR (some 83), vR (some 7), vR (some 51)] zD164 zI31 zL (fun r δ' i' l' => r = none ∧ δ' = zD178 ∧ i' = zI32 ∧ l' = zL) := by
  refine Cn_of (by decide +kernel) (Nat.le_of_ble_eq_true rfl) ?_
  refine g_aload_n (pc' := 1) 0 dX3_init_0 rfl rfl ?_
  refine g_objInit (pc' := 4) mq_X3_3 objI objC (by decide) (Nat.le_of_ble_eq_true rfl) dX3_init_1 rfl ?_
  refine g_aload_n (pc' := 5) 0 dX3_init_4 rfl rfl ?_
  refine g_sipush (pc' := 8) dX3_init_5 rfl rfl ?_
  refine g_newaN (pc' := 10) (δ2 := zD165) 84 (c1 := 1) (s1 := 132) (kd := 1) (n := 132) rfl (by decide) rfl aq_long rfl (by decide) dX3_init_8 rfl rfl rfl (Nat.le_of_ble_eq_true rfl) (Nat.le_of_ble_eq_true rfl) (fun _ => rfl) rfl ?_
  refine g_putRN (pc' := 13) (δ2 := zD166) 85 rfl fq_X3_9 rfl rfl rfl rfl dX3_init_10 rfl rfl ?_
  refine g_aload_n (pc' := 14) 0 dX3_init_13 rfl rfl ?_
  refine g_bipush (pc' := 16) dX3_init_14 rfl rfl ?_
  refine g_newaN (pc' := 18) (δ2 := zD167) 85 (c1 := 2) (s1 := 144) (kd := 1) (n := 12) rfl (by decide) rfl aq_long rfl (by decide) dX3_init_16 rfl rfl rfl (Nat.le_of_ble_eq_true rfl) (Nat.le_of_ble_eq_true rfl) (fun _ => rfl) rfl ?_
  refine g_putRN (pc' := 21) (δ2 := zD168) 86 rfl fq_X3_15 rfl rfl rfl rfl dX3_init_18 rfl rfl ?_
  refine g_aload_n (pc' := 22) 0 dX3_init_21 rfl rfl ?_
  refine g_bipush (pc' := 24) dX3_init_22 rfl rfl ?_
  refine g_newaN (pc' := 26) (δ2 := zD169) 86 (c1 := 3) (s1 := 154) (kd := 0) (n := 10) rfl (by decide) rfl aq_int rfl (by decide) dX3_init_24 rfl rfl rfl (Nat.le_of_ble_eq_true rfl) (Nat.le_of_ble_eq_true rfl) (fun _ => rfl) rfl ?_
  refine g_putRN (pc' := 29) (δ2 := zD170) 87 rfl fq_X3_18 rfl rfl rfl rfl dX3_init_26 rfl rfl ?_
  refine g_aload_n (pc' := 30) 0 dX3_init_29 rfl rfl ?_
  refine g_bipush (pc' := 32) dX3_init_30 rfl rfl ?_
  refine g_newaN (pc' := 34) (δ2 := zD171) 87 (c1 := 4) (s1 := 165) (kd := 0) (n := 11) rfl (by decide) rfl aq_int rfl (by decide) dX3_init_32 rfl rfl rfl (Nat.le_of_ble_eq_true rfl) (Nat.le_of_ble_eq_true rfl) (fun _ => rfl) rfl ?_
  refine g_putRN (pc' := 37) (δ2 := zD172) 88 rfl fq_X3_22 rfl rfl rfl rfl dX3_init_34 rfl rfl ?_
  refine g_aload_n (pc' := 38) 0 dX3_init_37 rfl rfl ?_
  refine g_bipush (pc' := 40) dX3_init_38 rfl rfl ?_
  refine g_newaN (pc' := 42) (δ2 := zD173) 88 (c1 := 5) (s1 := 175) (kd := 0) (n := 10) rfl (by decide) rfl aq_int rfl (by decide) dX3_init_40 rfl rfl rfl (Nat.le_of_ble_eq_true rfl) (Nat.le_of_ble_eq_true rfl) (fun _ => rfl) rfl ?_
  refine g_putRN (pc' := 45) (δ2 := zD174) 89 rfl fq_X3_25 rfl rfl rfl rfl dX3_init_42 rfl rfl ?_
  refine g_aload_n (pc' := 46) 0 dX3_init_45 rfl rfl ?_
  refine g_bipush (pc' := 48) dX3_init_46 rfl rfl ?_
  refine g_newaN (pc' := 50) (δ2 := zD175) 89 (c1 := 6) (s1 := 185) (kd := 0) (n := 10) rfl (by decide) rfl aq_int rfl (by decide) dX3_init_48 rfl rfl rfl (Nat.le_of_ble_eq_true rfl) (Nat.le_of_ble_eq_true rfl) (fun _ => rfl) rfl ?_
  refine g_putRN (pc' := 53) (δ2 := zD176) 90 rfl fq_X3_28 rfl rfl rfl rfl dX3_init_50 rfl rfl ?_
  refine g_aload_n (pc' := 54) 0 dX3_init_53 rfl rfl ?_
  refine g_iconst (pc' := 55) dX3_init_54 rfl ?_
  refine g_putI (pc' := 58) (z := 11) rfl fq_X3_31 rfl rfl (rg_lit rfl) dX3_init_55 rfl ?_
  refine g_toI (i2 := zI32) rfl ?_
  refine g_aload_n (pc' := 59) 0 dX3_init_58 rfl rfl ?_
  refine g_aload_n (pc' := 60) 1 dX3_init_59 rfl rfl ?_
  refine g_putRN (pc' := 63) (δ2 := zD177) 90 rfl fq_X3_35 rfl rfl rfl rfl dX3_init_60 rfl rfl ?_
  refine g_aload_n (pc' := 64) 0 dX3_init_63 rfl rfl ?_
  refine g_aload_n (pc' := 65) 2 dX3_init_64 rfl rfl ?_
  refine g_putRN (pc' := 68) (δ2 := zD178) 90 rfl fq_X3_39 rfl rfl rfl rfl dX3_init_65 rfl rfl ?_
  exact g_vret (Nat.le_of_ble_eq_true rfl) (Nat.le_of_ble_eq_true rfl) rfl dX3_init_68 ⟨rfl, rfl, rfl, rfl⟩
set_option maxRecDepth 20000 in
theorem ct_90 (E : GE) : Cn E 1 3 248 X_X10_init [vR (some 90), vR (some 7), vR (some 44)] zD180 zI32 zL (fun r δ' i' l' => r = none ∧ δ' = zD188 ∧ i' = zI34 ∧ l' = zL) := by
  refine Cn_of (by decide +kernel) (Nat.le_of_ble_eq_true rfl) ?_
  refine g_aload_n (pc' := 1) 0 dX10_init_0 rfl rfl ?_
  refine g_objInit (pc' := 4) mq_X10_3 objI objC (by decide) (Nat.le_of_ble_eq_true rfl) dX10_init_1 rfl ?_
  refine g_aload_n (pc' := 5) 0 dX10_init_4 rfl rfl ?_
  refine g_bipush (pc' := 7) dX10_init_5 rfl rfl ?_
  refine g_newaN (pc' := 9) (δ2 := zD181) 91 (c1 := 1) (s1 := 120) (kd := 0) (n := 120) rfl (by decide) rfl aq_int rfl (by decide) dX10_init_7 rfl rfl rfl (Nat.le_of_ble_eq_true rfl) (Nat.le_of_ble_eq_true rfl) (fun _ => rfl) rfl ?_
  refine g_putRN (pc' := 12) (δ2 := zD182) 92 rfl fq_X10_9 rfl rfl rfl rfl dX10_init_9 rfl rfl ?_
  refine g_aload_n (pc' := 13) 0 dX10_init_12 rfl rfl ?_
  refine g_bipush (pc' := 15) dX10_init_13 rfl rfl ?_
  refine g_newaN (pc' := 17) (δ2 := zD183) 92 (c1 := 2) (s1 := 128) (kd := 0) (n := 8) rfl (by decide) rfl aq_int rfl (by decide) dX10_init_15 rfl rfl rfl (Nat.le_of_ble_eq_true rfl) (Nat.le_of_ble_eq_true rfl) (fun _ => rfl) rfl ?_
  refine g_putRN (pc' := 20) (δ2 := zD184) 93 rfl fq_X10_15 rfl rfl rfl rfl dX10_init_17 rfl rfl ?_
  refine g_aload_n (pc' := 21) 0 dX10_init_20 rfl rfl ?_
  refine g_bipush (pc' := 23) dX10_init_21 rfl rfl ?_
  refine g_newaN (pc' := 25) (δ2 := zD185) 93 (c1 := 3) (s1 := 248) (kd := 0) (n := 120) rfl (by decide) rfl aq_int rfl (by decide) dX10_init_23 rfl rfl rfl (Nat.le_of_ble_eq_true rfl) (Nat.le_of_ble_eq_true rfl) (fun _ => rfl) rfl ?_
  refine g_putRN (pc' := 28) (δ2 := zD186) 94 rfl fq_X10_18 rfl rfl rfl rfl dX10_init_25 rfl rfl ?_
  refine g_aload_n (pc' := 29) 0 dX10_init_28 rfl rfl ?_
  refine g_iconst (pc' := 30) dX10_init_29 rfl ?_
  refine g_putI (pc' := 33) (z := 7) rfl fq_X10_21 rfl rfl (rg_lit rfl) dX10_init_30 rfl ?_
  refine g_toI (i2 := zI33) rfl ?_
  refine g_aload_n (pc' := 34) 0 dX10_init_33 rfl rfl ?_
  refine g_iconst (pc' := 35) dX10_init_34 rfl ?_
  refine g_putI (pc' := 38) (z := 8) rfl fq_X10_25 rfl rfl (rg_lit rfl) dX10_init_35 rfl ?_
  refine g_toI (i2 := zI34) rfl ?_
  refine g_aload_n (pc' := 39) 0 dX10_init_38 rfl rfl ?_
  refine g_aload_n (pc' := 40) 1 dX10_init_39 rfl rfl ?_
  refine g_putRN (pc' := 43) (δ2 := zD187) 94 rfl fq_X10_28 rfl rfl rfl rfl dX10_init_40 rfl rfl ?_
  refine g_aload_n (pc' := 44) 0 dX10_init_43 rfl rfl ?_
  refine g_aload_n (pc' := 45) 2 dX10_init_44 rfl rfl ?_
  refine g_putRN (pc' := 48) (δ2 := zD188) 94 rfl fq_X10_32 rfl rfl rfl rfl dX10_init_45 rfl rfl ?_
  exact g_vret (Nat.le_of_ble_eq_true rfl) (Nat.le_of_ble_eq_true rfl) rfl dX10_init_48 ⟨rfl, rfl, rfl, rfl⟩
set_option maxRecDepth 20000 in
theorem ct_94 (E : GE) : Cn E 1 1 600 X_X4_init [vR (some 94), vR (some 7), vR (some 44)] zD190 zI34 zL (fun r δ' i' l' => r = none ∧ δ' = zD194 ∧ i' = zI34 ∧ l' = zL) := by
  refine Cn_of (by decide +kernel) (Nat.le_of_ble_eq_true rfl) ?_
  refine g_aload_n (pc' := 1) 0 dX4_init_0 rfl rfl ?_
  refine g_objInit (pc' := 4) mq_X4_3 objI objC (by decide) (Nat.le_of_ble_eq_true rfl) dX4_init_1 rfl ?_
  refine g_aload_n (pc' := 5) 0 dX4_init_4 rfl rfl ?_
  refine g_sipush (pc' := 8) dX4_init_5 rfl rfl ?_
  refine g_newaN (pc' := 10) (δ2 := zD191) 95 (c1 := 1) (s1 := 600) (kd := 0) (n := 600) rfl (by decide) rfl aq_int rfl (by decide) dX4_init_8 rfl rfl rfl (Nat.le_of_ble_eq_true rfl) (Nat.le_of_ble_eq_true rfl) (fun _ => rfl) rfl ?_
  refine g_putRN (pc' := 13) (δ2 := zD192) 96 rfl fq_X4_9 rfl rfl rfl rfl dX4_init_10 rfl rfl ?_
  refine g_aload_n (pc' := 14) 0 dX4_init_13 rfl rfl ?_
  refine g_aload_n (pc' := 15) 1 dX4_init_14 rfl rfl ?_
  refine g_putRN (pc' := 18) (δ2 := zD193) 96 rfl fq_X4_15 rfl rfl rfl rfl dX4_init_15 rfl rfl ?_
  refine g_aload_n (pc' := 19) 0 dX4_init_18 rfl rfl ?_
  refine g_aload_n (pc' := 20) 2 dX4_init_19 rfl rfl ?_
  refine g_putRN (pc' := 23) (δ2 := zD194) 96 rfl fq_X4_19 rfl rfl rfl rfl dX4_init_20 rfl rfl ?_
  exact g_vret (Nat.le_of_ble_eq_true rfl) (Nat.le_of_ble_eq_true rfl) rfl dX4_init_23 ⟨rfl, rfl, rfl, rfl⟩
set_option maxRecDepth 20000 in
theorem ct_96 (E : GE) : Cn E 1 2 10 X_X6_init [vR (some 96), vR (some 7)] zD196 zI34 zL (fun r δ' i' l' => r = none ∧ δ' = zD201 ∧ i' = zI34 ∧ l' = zL) := by
  refine Cn_of (by decide +kernel) (Nat.le_of_ble_eq_true rfl) ?_
  refine g_aload_n (pc' := 1) 0 dX6_init_0 rfl rfl ?_
  refine g_objInit (pc' := 4) mq_X6_3 objI objC (by decide) (Nat.le_of_ble_eq_true rfl) dX6_init_1 rfl ?_
  refine g_aload_n (pc' := 5) 0 dX6_init_4 rfl rfl ?_
  refine g_iconst (pc' := 6) dX6_init_5 rfl ?_
  refine g_newaN (pc' := 8) (δ2 := zD197) 97 (c1 := 1) (s1 := 5) (kd := 0) (n := 5) rfl (by decide) rfl aq_int rfl (by decide) dX6_init_6 rfl rfl rfl (Nat.le_of_ble_eq_true rfl) (Nat.le_of_ble_eq_true rfl) (fun _ => rfl) rfl ?_
  refine g_putRN (pc' := 11) (δ2 := zD198) 98 rfl fq_X6_9 rfl rfl rfl rfl dX6_init_8 rfl rfl ?_
  refine g_aload_n (pc' := 12) 0 dX6_init_11 rfl rfl ?_
  refine g_iconst (pc' := 13) dX6_init_12 rfl ?_
  refine g_newaN (pc' := 15) (δ2 := zD199) 98 (c1 := 2) (s1 := 10) (kd := 0) (n := 5) rfl (by decide) rfl aq_int rfl (by decide) dX6_init_13 rfl rfl rfl (Nat.le_of_ble_eq_true rfl) (Nat.le_of_ble_eq_true rfl) (fun _ => rfl) rfl ?_
  refine g_putRN (pc' := 18) (δ2 := zD200) 99 rfl fq_X6_15 rfl rfl rfl rfl dX6_init_15 rfl rfl ?_
  refine g_aload_n (pc' := 19) 0 dX6_init_18 rfl rfl ?_
  refine g_aload_n (pc' := 20) 1 dX6_init_19 rfl rfl ?_
  refine g_putRN (pc' := 23) (δ2 := zD201) 99 rfl fq_X6_18 rfl rfl rfl rfl dX6_init_20 rfl rfl ?_
  exact g_vret (Nat.le_of_ble_eq_true rfl) (Nat.le_of_ble_eq_true rfl) rfl dX6_init_23 ⟨rfl, rfl, rfl, rfl⟩
set_option maxRecDepth 20000 in
theorem ct_6 (E : GE) : Cn E 2 92 7328 X_X11_init [vR (some 6)] zD1 zI0 zL (fun r δ' i' l' => r = none ∧ δ' = zD202 ∧ i' = zI35 ∧ l' = zL) := by
  refine Cn_of (by decide +kernel) (Nat.le_of_ble_eq_true rfl) ?_
  refine g_aload_n (pc' := 1) 0 dX11_init_0 rfl rfl ?_
  refine g_objInit (pc' := 4) mq_X11_1 objI objC (by decide) (Nat.le_of_ble_eq_true rfl) dX11_init_1 rfl ?_
  refine g_aload_n (pc' := 5) 0 dX11_init_4 rfl rfl ?_
  refine g_newN (pc' := 8) (δ2 := zD2) 7 (c1 := 1) (s1 := 16) (c := 9) (q := (RX9, TX9, 16)) rfl rfl rfl cq_X11_7 nq_9.1 nq_9.2 dX11_init_5 rfl rfl rfl (Nat.le_of_ble_eq_true rfl) (Nat.le_of_ble_eq_true rfl) (fun _ => rfl) rfl ?_
  refine g_dup (pc' := 9) dX11_init_8 rfl rfl ?_
  refine g_ctor (pc' := 12) (c1 := 9) (s1 := 337) (vs := []) (st := [vR (some 7), vR (some 6)]) (ct_7 E) mk_X9_init rfl rfl mi_X9_init mq_X11_9 rfl (Nat.le_of_ble_eq_true rfl) ⟨Nat.le_of_ble_eq_true rfl, Nat.le_of_ble_eq_true rfl⟩ rfl rfl ⟨Nat.le_of_ble_eq_true rfl, Nat.le_of_ble_eq_true rfl⟩ rfl dX11_init_9 rfl ?_
  refine g_putRN (pc' := 15) (δ2 := zD19) 16 rfl fq_X11_10 rfl rfl rfl rfl dX11_init_12 rfl rfl ?_
  refine g_aload_n (pc' := 16) 0 dX11_init_15 rfl rfl ?_
  refine g_iconst (pc' := 17) dX11_init_16 rfl ?_
  refine g_newqN (pc' := 20) (δ2 := zD20) 16 (c1 := 10) (s1 := 339) (kd := 4) (n := 2) rfl (Or.inl ⟨rfl, rfl⟩) cq_X11_7 rfl (by decide) dX11_init_17 rfl rfl rfl (Nat.le_of_ble_eq_true rfl) (Nat.le_of_ble_eq_true rfl) (fun _ => rfl) rfl ?_
  refine g_putRN (pc' := 23) (δ2 := zD21) 17 rfl fq_X11_16 rfl rfl rfl rfl dX11_init_20 rfl rfl ?_
  refine g_iconst (pc' := 24) dX11_init_23 rfl ?_
  refine g_istore_n (pc' := 25) (L' := [(1, vI 0), (0, vR (some 6))]) dX11_init_24 rfl (Nat.le_of_ble_eq_true rfl) rfl ?_
  refine g_iload_n (pc' := 26) 0 dX11_init_25 rfl rfl ?_
  refine g_iconst (pc' := 27) dX11_init_26 rfl ?_
  refine g_icmp_ge (tgt := 49) (pc' := 30) (rg_lit rfl) (rg_lit rfl) Iff.rfl dX11_init_27 rfl rfl (fun q => absurd q (by decide)) (fun _ => ?_)
  refine g_aload_n (pc' := 31) 1 dX11_init_30 rfl rfl ?_
  refine g_getR (pc' := 34) (o := some 16) fg_X11_16 rfl rfl rfl dX11_init_31 rfl ?_
  refine g_iload_n (pc' := 35) 0 dX11_init_34 rfl rfl ?_
  refine g_newN (pc' := 38) (δ2 := zD22) 17 (c1 := 11) (s1 := 355) (c := 9) (q := (RX9, TX9, 16)) rfl rfl rfl cq_X11_7 nq_9.1 nq_9.2 dX11_init_35 rfl rfl rfl (Nat.le_of_ble_eq_true rfl) (Nat.le_of_ble_eq_true rfl) (fun _ => rfl) rfl ?_
  refine g_dup (pc' := 39) dX11_init_38 rfl rfl ?_
  refine g_ctor (pc' := 42) (c1 := 19) (s1 := 676) (vs := []) (st := [vR (some 17), vI 0, vR (some 16)]) (ct_17 E) mk_X9_init rfl rfl mi_X9_init mq_X11_9 rfl (Nat.le_of_ble_eq_true rfl) ⟨Nat.le_of_ble_eq_true rfl, Nat.le_of_ble_eq_true rfl⟩ rfl rfl ⟨Nat.le_of_ble_eq_true rfl, Nat.le_of_ble_eq_true rfl⟩ rfl dX11_init_39 rfl ?_
  refine g_aastM (pc' := 43) (δ2 := zD39) 26 rfl (n := 2) (N := 2) rfl rfl (Or.inl ⟨rfl, rfl⟩) rfl (by decide) (by decide) dX11_init_42 rfl rfl ?_
  refine g_iinc (pc' := 46) (L' := [(1, vI 1), (0, vR (some 6))]) 0 dX11_init_43 rfl (Nat.le_of_ble_eq_true rfl) rfl rfl ?_
  refine g_goto (tgt := 25) dX11_init_46 rfl ?_
  refine g_iload_n (pc' := 26) 0 dX11_init_25 rfl rfl ?_
  refine g_iconst (pc' := 27) dX11_init_26 rfl ?_
  refine g_icmp_ge (tgt := 49) (pc' := 30) (rg_lit rfl) (rg_lit rfl) Iff.rfl dX11_init_27 rfl rfl (fun q => absurd q (by decide)) (fun _ => ?_)
  refine g_aload_n (pc' := 31) 1 dX11_init_30 rfl rfl ?_
  refine g_getR (pc' := 34) (o := some 16) fg_X11_16 rfl rfl rfl dX11_init_31 rfl ?_
  refine g_iload_n (pc' := 35) 0 dX11_init_34 rfl rfl ?_
  refine g_newN (pc' := 38) (δ2 := zD40) 26 (c1 := 20) (s1 := 692) (c := 9) (q := (RX9, TX9, 16)) rfl rfl rfl cq_X11_7 nq_9.1 nq_9.2 dX11_init_35 rfl rfl rfl (Nat.le_of_ble_eq_true rfl) (Nat.le_of_ble_eq_true rfl) (fun _ => rfl) rfl ?_
  refine g_dup (pc' := 39) dX11_init_38 rfl rfl ?_
  refine g_ctor (pc' := 42) (c1 := 28) (s1 := 1013) (vs := []) (st := [vR (some 26), vI 1, vR (some 16)]) (ct_26 E) mk_X9_init rfl rfl mi_X9_init mq_X11_9 rfl (Nat.le_of_ble_eq_true rfl) ⟨Nat.le_of_ble_eq_true rfl, Nat.le_of_ble_eq_true rfl⟩ rfl rfl ⟨Nat.le_of_ble_eq_true rfl, Nat.le_of_ble_eq_true rfl⟩ rfl dX11_init_39 rfl ?_
  refine g_aastM (pc' := 43) (δ2 := zD57) 35 rfl (n := 2) (N := 2) rfl rfl (Or.inl ⟨rfl, rfl⟩) rfl (by decide) (by decide) dX11_init_42 rfl rfl ?_
  refine g_iinc (pc' := 46) (L' := [(1, vI 2), (0, vR (some 6))]) 0 dX11_init_43 rfl (Nat.le_of_ble_eq_true rfl) rfl rfl ?_
  refine g_goto (tgt := 25) dX11_init_46 rfl ?_
  refine g_iload_n (pc' := 26) 0 dX11_init_25 rfl rfl ?_
  refine g_iconst (pc' := 27) dX11_init_26 rfl ?_
  refine g_icmp_ge (tgt := 49) (pc' := 30) (rg_lit rfl) (rg_lit rfl) Iff.rfl dX11_init_27 rfl rfl (fun _ => ?_) (fun q => absurd (by decide) q)
  refine g_aload_n (pc' := 50) 1 dX11_init_49 rfl rfl ?_
  refine g_sipush (pc' := 53) dX11_init_50 rfl rfl ?_
  refine g_newaN (pc' := 55) (δ2 := zD58) 35 (c1 := 29) (s1 := 1413) (kd := 0) (n := 400) rfl (by decide) rfl aq_int rfl (by decide) dX11_init_53 rfl rfl rfl (Nat.le_of_ble_eq_true rfl) (Nat.le_of_ble_eq_true rfl) (fun _ => rfl) rfl ?_
  refine g_putRN (pc' := 58) (δ2 := zD59) 36 rfl fq_X11_20 rfl rfl rfl rfl dX11_init_55 rfl rfl ?_
  refine g_aload_n (pc' := 59) 1 dX11_init_58 rfl rfl ?_
  refine g_iconst (pc' := 60) dX11_init_59 rfl ?_
  refine g_newaN (pc' := 62) (δ2 := zD60) 36 (c1 := 30) (s1 := 1418) (kd := 0) (n := 5) rfl (by decide) rfl aq_int rfl (by decide) dX11_init_60 rfl rfl rfl (Nat.le_of_ble_eq_true rfl) (Nat.le_of_ble_eq_true rfl) (fun _ => rfl) rfl ?_
  refine g_putRN (pc' := 65) (δ2 := zD61) 37 rfl fq_X11_24 rfl rfl rfl rfl dX11_init_62 rfl rfl ?_
  refine g_aload_n (pc' := 66) 1 dX11_init_65 rfl rfl ?_
  refine g_newN (pc' := 69) (δ2 := zD62) 37 (c1 := 31) (s1 := 1430) (c := 7) (q := (RX7, TX7, 12)) rfl rfl rfl cq_X11_27 nq_7.1 nq_7.2 dX11_init_66 rfl rfl rfl (Nat.le_of_ble_eq_true rfl) (Nat.le_of_ble_eq_true rfl) (fun _ => rfl) rfl ?_
  refine g_dup (pc' := 70) dX11_init_69 rfl rfl ?_
  refine g_aload_n (pc' := 71) 1 dX11_init_70 rfl rfl ?_
  refine g_getR (pc' := 74) (o := some 35) fg_X11_20 rfl rfl rfl dX11_init_71 rfl ?_
  refine g_ctor (pc' := 77) (c1 := 34) (s1 := 1882) (vs := [vR (some 35)]) (st := [vR (some 37), vR (some 6)]) (ct_37 E) mk_X7_init rfl rfl mi_X7_init mq_X11_29 rfl (Nat.le_of_ble_eq_true rfl) ⟨Nat.le_of_ble_eq_true rfl, Nat.le_of_ble_eq_true rfl⟩ rfl rfl ⟨Nat.le_of_ble_eq_true rfl, Nat.le_of_ble_eq_true rfl⟩ rfl dX11_init_74 rfl ?_
  refine g_putRN (pc' := 80) (δ2 := zD70) 41 rfl fq_X11_32 rfl rfl rfl rfl dX11_init_77 rfl rfl ?_
  refine g_aload_n (pc' := 81) 1 dX11_init_80 rfl rfl ?_
  refine g_newN (pc' := 84) (δ2 := zD71) 41 (c1 := 35) (s1 := 1886) (c := 0) (q := (RX0, TX0, 4)) rfl rfl rfl cq_X11_36 nq_0.1 nq_0.2 dX11_init_81 rfl rfl rfl (Nat.le_of_ble_eq_true rfl) (Nat.le_of_ble_eq_true rfl) (fun _ => rfl) rfl ?_
  refine g_dup (pc' := 85) dX11_init_84 rfl rfl ?_
  refine g_aload_n (pc' := 86) 1 dX11_init_85 rfl rfl ?_
  refine g_getR (pc' := 89) (o := some 7) fg_X11_10 rfl rfl rfl dX11_init_86 rfl ?_
  refine g_ctor (pc' := 92) (c1 := 37) (s1 := 1959) (vs := [vR (some 7)]) (st := [vR (some 41), vR (some 6)]) (ct_41 E) mk_X0_init rfl rfl mi_X0_init mq_X11_38 rfl (Nat.le_of_ble_eq_true rfl) ⟨Nat.le_of_ble_eq_true rfl, Nat.le_of_ble_eq_true rfl⟩ rfl rfl ⟨Nat.le_of_ble_eq_true rfl, Nat.le_of_ble_eq_true rfl⟩ rfl dX11_init_89 rfl ?_
  refine g_putRN (pc' := 95) (δ2 := zD77) 44 rfl fq_X11_41 rfl rfl rfl rfl dX11_init_92 rfl rfl ?_
  refine g_aload_n (pc' := 96) 1 dX11_init_95 rfl rfl ?_
  refine g_newN (pc' := 99) (δ2 := zD78) 44 (c1 := 38) (s1 := 1974) (c := 8) (q := (RX8, TX8, 15)) rfl rfl rfl cq_X11_45 nq_8.1 nq_8.2 dX11_init_96 rfl rfl rfl (Nat.le_of_ble_eq_true rfl) (Nat.le_of_ble_eq_true rfl) (fun _ => rfl) rfl ?_
  refine g_dup (pc' := 100) dX11_init_99 rfl rfl ?_
  refine g_aload_n (pc' := 101) 1 dX11_init_100 rfl rfl ?_
  refine g_getR (pc' := 104) (o := some 7) fg_X11_10 rfl rfl rfl dX11_init_101 rfl ?_
  refine g_aload_n (pc' := 105) 1 dX11_init_104 rfl rfl ?_
  refine g_getR (pc' := 108) (o := some 41) fg_X11_41 rfl rfl rfl dX11_init_105 rfl ?_
  refine g_ctor (pc' := 111) (c1 := 44) (s1 := 4907) (vs := [vR (some 7), vR (some 41)]) (st := [vR (some 44), vR (some 6)]) (ct_44 E) mk_X8_init rfl rfl mi_X8_init mq_X11_47 rfl (Nat.le_of_ble_eq_true rfl) ⟨Nat.le_of_ble_eq_true rfl, Nat.le_of_ble_eq_true rfl⟩ rfl rfl ⟨Nat.le_of_ble_eq_true rfl, Nat.le_of_ble_eq_true rfl⟩ rfl dX11_init_108 rfl ?_
  refine g_putRN (pc' := 114) (δ2 := zD93) 51 rfl fq_X11_50 rfl rfl rfl rfl dX11_init_111 rfl rfl ?_
  refine g_aload_n (pc' := 115) 1 dX11_init_114 rfl rfl ?_
  refine g_newN (pc' := 118) (δ2 := zD94) 51 (c1 := 45) (s1 := 4923) (c := 1) (q := (RX1, TX1, 16)) rfl rfl rfl cq_X11_54 nq_1.1 nq_1.2 dX11_init_115 rfl rfl rfl (Nat.le_of_ble_eq_true rfl) (Nat.le_of_ble_eq_true rfl) (fun _ => rfl) rfl ?_
  refine g_dup (pc' := 119) dX11_init_118 rfl rfl ?_
  refine g_aload_n (pc' := 120) 1 dX11_init_119 rfl rfl ?_
  refine g_getR (pc' := 123) (o := some 7) fg_X11_10 rfl rfl rfl dX11_init_120 rfl ?_
  refine g_aload_n (pc' := 124) 1 dX11_init_123 rfl rfl ?_
  refine g_getR (pc' := 127) (o := some 41) fg_X11_41 rfl rfl rfl dX11_init_124 rfl ?_
  refine g_ctor (pc' := 130) (c1 := 56) (s1 := 5779) (vs := [vR (some 7), vR (some 41)]) (st := [vR (some 51), vR (some 6)]) (ct_51 E) mk_X1_init rfl rfl mi_X1_init mq_X11_56 rfl (Nat.le_of_ble_eq_true rfl) ⟨Nat.le_of_ble_eq_true rfl, Nat.le_of_ble_eq_true rfl⟩ rfl rfl ⟨Nat.le_of_ble_eq_true rfl, Nat.le_of_ble_eq_true rfl⟩ rfl dX11_init_127 rfl ?_
  refine g_putRN (pc' := 133) (δ2 := zD119) 63 rfl fq_X11_57 rfl rfl rfl rfl dX11_init_130 rfl rfl ?_
  refine g_aload_n (pc' := 134) 1 dX11_init_133 rfl rfl ?_
  refine g_newN (pc' := 137) (δ2 := zD120) 63 (c1 := 57) (s1 := 5798) (c := 5) (q := (RX5, TX5, 19)) rfl rfl rfl cq_X11_61 nq_5.1 nq_5.2 dX11_init_134 rfl rfl rfl (Nat.le_of_ble_eq_true rfl) (Nat.le_of_ble_eq_true rfl) (fun _ => rfl) rfl ?_
  refine g_dup (pc' := 138) dX11_init_137 rfl rfl ?_
  refine g_aload_n (pc' := 139) 1 dX11_init_138 rfl rfl ?_
  refine g_getR (pc' := 142) (o := some 7) fg_X11_10 rfl rfl rfl dX11_init_139 rfl ?_
  refine g_aload_n (pc' := 143) 1 dX11_init_142 rfl rfl ?_
  refine g_getR (pc' := 146) (o := some 51) fg_X11_57 rfl rfl rfl dX11_init_143 rfl ?_
  refine g_ctor (pc' := 149) (c1 := 66) (s1 := 6016) (vs := [vR (some 7), vR (some 51)]) (st := [vR (some 63), vR (some 6)]) (ct_63 E) mk_X5_init rfl rfl mi_X5_init mq_X11_63 rfl (Nat.le_of_ble_eq_true rfl) ⟨Nat.le_of_ble_eq_true rfl, Nat.le_of_ble_eq_true rfl⟩ rfl rfl ⟨Nat.le_of_ble_eq_true rfl, Nat.le_of_ble_eq_true rfl⟩ rfl dX11_init_146 rfl ?_
  refine g_putRN (pc' := 152) (δ2 := zD141) 73 rfl fq_X11_66 rfl rfl rfl rfl dX11_init_149 rfl rfl ?_
  refine g_aload_n (pc' := 153) 1 dX11_init_152 rfl rfl ?_
  refine g_newN (pc' := 156) (δ2 := zD142) 73 (c1 := 67) (s1 := 6035) (c := 5) (q := (RX5, TX5, 19)) rfl rfl rfl cq_X11_61 nq_5.1 nq_5.2 dX11_init_153 rfl rfl rfl (Nat.le_of_ble_eq_true rfl) (Nat.le_of_ble_eq_true rfl) (fun _ => rfl) rfl ?_
  refine g_dup (pc' := 157) dX11_init_156 rfl rfl ?_
  refine g_aload_n (pc' := 158) 1 dX11_init_157 rfl rfl ?_
  refine g_getR (pc' := 161) (o := some 7) fg_X11_10 rfl rfl rfl dX11_init_158 rfl ?_
  refine g_aload_n (pc' := 162) 1 dX11_init_161 rfl rfl ?_
  refine g_getR (pc' := 165) (o := some 51) fg_X11_57 rfl rfl rfl dX11_init_162 rfl ?_
  refine g_ctor (pc' := 168) (c1 := 76) (s1 := 6253) (vs := [vR (some 7), vR (some 51)]) (st := [vR (some 73), vR (some 6)]) (ct_73 E) mk_X5_init rfl rfl mi_X5_init mq_X11_63 rfl (Nat.le_of_ble_eq_true rfl) ⟨Nat.le_of_ble_eq_true rfl, Nat.le_of_ble_eq_true rfl⟩ rfl rfl ⟨Nat.le_of_ble_eq_true rfl, Nat.le_of_ble_eq_true rfl⟩ rfl dX11_init_165 rfl ?_
  refine g_putRN (pc' := 171) (δ2 := zD163) 83 rfl fq_X11_70 rfl rfl rfl rfl dX11_init_168 rfl rfl ?_
  refine g_aload_n (pc' := 172) 1 dX11_init_171 rfl rfl ?_
  refine g_newN (pc' := 175) (δ2 := zD164) 83 (c1 := 77) (s1 := 6265) (c := 3) (q := (RX3, TX3, 12)) rfl rfl rfl cq_X11_73 nq_3.1 nq_3.2 dX11_init_172 rfl rfl rfl (Nat.le_of_ble_eq_true rfl) (Nat.le_of_ble_eq_true rfl) (fun _ => rfl) rfl ?_
  refine g_dup (pc' := 176) dX11_init_175 rfl rfl ?_
  refine g_aload_n (pc' := 177) 1 dX11_init_176 rfl rfl ?_
  refine g_getR (pc' := 180) (o := some 7) fg_X11_10 rfl rfl rfl dX11_init_177 rfl ?_
  refine g_aload_n (pc' := 181) 1 dX11_init_180 rfl rfl ?_
  refine g_getR (pc' := 184) (o := some 51) fg_X11_57 rfl rfl rfl dX11_init_181 rfl ?_
  refine g_ctor (pc' := 187) (c1 := 83) (s1 := 6450) (vs := [vR (some 7), vR (some 51)]) (st := [vR (some 83), vR (some 6)]) (ct_83 E) mk_X3_init rfl rfl mi_X3_init mq_X11_75 rfl (Nat.le_of_ble_eq_true rfl) ⟨Nat.le_of_ble_eq_true rfl, Nat.le_of_ble_eq_true rfl⟩ rfl rfl ⟨Nat.le_of_ble_eq_true rfl, Nat.le_of_ble_eq_true rfl⟩ rfl dX11_init_184 rfl ?_
  refine g_putRN (pc' := 190) (δ2 := zD179) 90 rfl fq_X11_76 rfl rfl rfl rfl dX11_init_187 rfl rfl ?_
  refine g_aload_n (pc' := 191) 1 dX11_init_190 rfl rfl ?_
  refine g_newN (pc' := 194) (δ2 := zD180) 90 (c1 := 84) (s1 := 6459) (c := 10) (q := (RX10, TX10, 9)) rfl rfl rfl cq_X11_80 nq_10.1 nq_10.2 dX11_init_191 rfl rfl rfl (Nat.le_of_ble_eq_true rfl) (Nat.le_of_ble_eq_true rfl) (fun _ => rfl) rfl ?_
  refine g_dup (pc' := 195) dX11_init_194 rfl rfl ?_
  refine g_aload_n (pc' := 196) 1 dX11_init_195 rfl rfl ?_
  refine g_getR (pc' := 199) (o := some 7) fg_X11_10 rfl rfl rfl dX11_init_196 rfl ?_
  refine g_aload_n (pc' := 200) 1 dX11_init_199 rfl rfl ?_
  refine g_getR (pc' := 203) (o := some 44) fg_X11_50 rfl rfl rfl dX11_init_200 rfl ?_
  refine g_ctor (pc' := 206) (c1 := 87) (s1 := 6707) (vs := [vR (some 7), vR (some 44)]) (st := [vR (some 90), vR (some 6)]) (ct_90 E) mk_X10_init rfl rfl mi_X10_init mq_X11_82 rfl (Nat.le_of_ble_eq_true rfl) ⟨Nat.le_of_ble_eq_true rfl, Nat.le_of_ble_eq_true rfl⟩ rfl rfl ⟨Nat.le_of_ble_eq_true rfl, Nat.le_of_ble_eq_true rfl⟩ rfl dX11_init_203 rfl ?_
  refine g_putRN (pc' := 209) (δ2 := zD189) 94 rfl fq_X11_85 rfl rfl rfl rfl dX11_init_206 rfl rfl ?_
  refine g_aload_n (pc' := 210) 1 dX11_init_209 rfl rfl ?_
  refine g_newN (pc' := 213) (δ2 := zD190) 94 (c1 := 88) (s1 := 6712) (c := 4) (q := (RX4, TX4, 5)) rfl rfl rfl cq_X11_89 nq_4.1 nq_4.2 dX11_init_210 rfl rfl rfl (Nat.le_of_ble_eq_true rfl) (Nat.le_of_ble_eq_true rfl) (fun _ => rfl) rfl ?_
  refine g_dup (pc' := 214) dX11_init_213 rfl rfl ?_
  refine g_aload_n (pc' := 215) 1 dX11_init_214 rfl rfl ?_
  refine g_getR (pc' := 218) (o := some 7) fg_X11_10 rfl rfl rfl dX11_init_215 rfl ?_
  refine g_aload_n (pc' := 219) 1 dX11_init_218 rfl rfl ?_
  refine g_getR (pc' := 222) (o := some 44) fg_X11_50 rfl rfl rfl dX11_init_219 rfl ?_
  refine g_ctor (pc' := 225) (c1 := 89) (s1 := 7312) (vs := [vR (some 7), vR (some 44)]) (st := [vR (some 94), vR (some 6)]) (ct_94 E) mk_X4_init rfl rfl mi_X4_init mq_X11_91 rfl (Nat.le_of_ble_eq_true rfl) ⟨Nat.le_of_ble_eq_true rfl, Nat.le_of_ble_eq_true rfl⟩ rfl rfl ⟨Nat.le_of_ble_eq_true rfl, Nat.le_of_ble_eq_true rfl⟩ rfl dX11_init_222 rfl ?_
  refine g_putRN (pc' := 228) (δ2 := zD195) 96 rfl fq_X11_92 rfl rfl rfl rfl dX11_init_225 rfl rfl ?_
  refine g_aload_n (pc' := 229) 1 dX11_init_228 rfl rfl ?_
  refine g_newN (pc' := 232) (δ2 := zD196) 96 (c1 := 90) (s1 := 7318) (c := 6) (q := (RX6, TX6, 6)) rfl rfl rfl cq_X11_96 nq_6.1 nq_6.2 dX11_init_229 rfl rfl rfl (Nat.le_of_ble_eq_true rfl) (Nat.le_of_ble_eq_true rfl) (fun _ => rfl) rfl ?_
  refine g_dup (pc' := 233) dX11_init_232 rfl rfl ?_
  refine g_aload_n (pc' := 234) 1 dX11_init_233 rfl rfl ?_
  refine g_getR (pc' := 237) (o := some 7) fg_X11_10 rfl rfl rfl dX11_init_234 rfl ?_
  refine g_ctor (pc' := 240) (c1 := 92) (s1 := 7328) (vs := [vR (some 7)]) (st := [vR (some 96), vR (some 6)]) (ct_96 E) mk_X6_init rfl rfl mi_X6_init mq_X11_98 rfl (Nat.le_of_ble_eq_true rfl) ⟨Nat.le_of_ble_eq_true rfl, Nat.le_of_ble_eq_true rfl⟩ rfl rfl ⟨Nat.le_of_ble_eq_true rfl, Nat.le_of_ble_eq_true rfl⟩ rfl dX11_init_237 rfl ?_
  refine g_putRN (pc' := 243) (δ2 := zD202) 99 rfl fq_X11_99 rfl rfl rfl rfl dX11_init_240 rfl rfl ?_
  refine g_aload_n (pc' := 244) 1 dX11_init_243 rfl rfl ?_
  refine g_iconst (pc' := 245) dX11_init_244 rfl ?_
  refine g_putI (pc' := 248) (z := 16) rfl fq_X11_103 rfl rfl (rg_lit rfl) dX11_init_245 rfl ?_
  refine g_toI (i2 := zI35) rfl ?_
  exact g_vret (Nat.le_of_ble_eq_true rfl) (Nat.le_of_ble_eq_true rfl) rfl dX11_init_248 ⟨rfl, rfl, rfl, rfl⟩
