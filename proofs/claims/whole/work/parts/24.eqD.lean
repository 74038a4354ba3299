/-! equations, by places where ways meet: methods 189 to 249 (written by wip/whole/genE.py) -/
theorem D189_0 : decode (mB 189) 0 = .ok (.aload_n 0, 1) := by decide +kernel
theorem D189_1 : decode (mB 189) 1 = .ok (.getfield 3, 3) := by decide +kernel
theorem D189_4 : decode (mB 189) 4 = .ok (.ireturn, 1) := by decide +kernel
theorem D190_0 : decode (mB 190) 0 = .ok (.aload_n 0, 1) := by decide +kernel
theorem D190_1 : decode (mB 190) 1 = .ok (.iconst 0, 1) := by decide +kernel
theorem D190_2 : decode (mB 190) 2 = .ok (.putfield 3, 3) := by decide +kernel
theorem D190_5 : decode (mB 190) 5 = .ok (.aload_n 0, 1) := by decide +kernel
theorem D190_6 : decode (mB 190) 6 = .ok (.getfield 14, 3) := by decide +kernel
theorem D190_9 : decode (mB 190) 9 = .ok (.bipush 76, 2) := by decide +kernel
theorem D190_11 : decode (mB 190) 11 = .ok (.if_icmp .le 5, 3) := by decide +kernel
theorem D190_14 : decode (mB 190) 14 = .ok (.iconst (-1), 1) := by decide +kernel
theorem D190_15 : decode (mB 190) 15 = .ok (.ireturn, 1) := by decide +kernel
theorem D190_16 : decode (mB 190) 16 = .ok (.iconst 0, 1) := by decide +kernel
theorem D190_17 : decode (mB 190) 17 = .ok (.istore_n 2, 1) := by decide +kernel
theorem D190_18 : decode (mB 190) 18 = .ok (.iload_n 2, 1) := by decide +kernel
theorem D190_19 : decode (mB 190) 19 = .ok (.iconst 4, 1) := by decide +kernel
theorem D190_20 : decode (mB 190) 20 = .ok (.if_icmp .ge 33, 3) := by decide +kernel
theorem D190_23 : decode (mB 190) 23 = .ok (.aload_n 0, 1) := by decide +kernel
theorem D190_24 : decode (mB 190) 24 = .ok (.getfield 17, 3) := by decide +kernel
theorem D190_27 : decode (mB 190) 27 = .ok (.aload_n 0, 1) := by decide +kernel
theorem D190_28 : decode (mB 190) 28 = .ok (.getfield 14, 3) := by decide +kernel
theorem D190_31 : decode (mB 190) 31 = .ok (.iload_n 2, 1) := by decide +kernel
theorem D190_32 : decode (mB 190) 32 = .ok (.iadd, 1) := by decide +kernel
theorem D190_33 : decode (mB 190) 33 = .ok (.iload_n 1, 1) := by decide +kernel
theorem D190_34 : decode (mB 190) 34 = .ok (.bipush 24, 2) := by decide +kernel
theorem D190_36 : decode (mB 190) 36 = .ok (.bipush 8, 2) := by decide +kernel
theorem D190_38 : decode (mB 190) 38 = .ok (.iload_n 2, 1) := by decide +kernel
theorem D190_39 : decode (mB 190) 39 = .ok (.imul, 1) := by decide +kernel
theorem D190_40 : decode (mB 190) 40 = .ok (.isub, 1) := by decide +kernel
theorem D190_41 : decode (mB 190) 41 = .ok (.ishr, 1) := by decide +kernel
theorem D190_42 : decode (mB 190) 42 = .ok (.sipush 255, 3) := by decide +kernel
theorem D190_45 : decode (mB 190) 45 = .ok (.iand, 1) := by decide +kernel
theorem D190_46 : decode (mB 190) 46 = .ok (.iastore, 1) := by decide +kernel
theorem D190_47 : decode (mB 190) 47 = .ok (.iinc 2 1, 3) := by decide +kernel
theorem D190_50 : decode (mB 190) 50 = .ok (.goto (-32), 3) := by decide +kernel
theorem D190_53 : decode (mB 190) 53 = .ok (.aload_n 0, 1) := by decide +kernel
theorem D190_54 : decode (mB 190) 54 = .ok (.dup, 1) := by decide +kernel
theorem D190_55 : decode (mB 190) 55 = .ok (.getfield 14, 3) := by decide +kernel
theorem D190_58 : decode (mB 190) 58 = .ok (.iconst 4, 1) := by decide +kernel
theorem D190_59 : decode (mB 190) 59 = .ok (.iadd, 1) := by decide +kernel
theorem D190_60 : decode (mB 190) 60 = .ok (.putfield 14, 3) := by decide +kernel
theorem D190_63 : decode (mB 190) 63 = .ok (.aload_n 0, 1) := by decide +kernel
theorem D190_64 : decode (mB 190) 64 = .ok (.getfield 14, 3) := by decide +kernel
theorem D190_67 : decode (mB 190) 67 = .ok (.ireturn, 1) := by decide +kernel
theorem D191_0 : decode (mB 191) 0 = .ok (.aload_n 0, 1) := by decide +kernel
theorem D191_1 : decode (mB 191) 1 = .ok (.iconst 0, 1) := by decide +kernel
theorem D191_2 : decode (mB 191) 2 = .ok (.putfield 3, 3) := by decide +kernel
theorem D191_5 : decode (mB 191) 5 = .ok (.iload_n 1, 1) := by decide +kernel
theorem D191_6 : decode (mB 191) 6 = .ok (.i2l, 1) := by decide +kernel
theorem D191_7 : decode (mB 191) 7 = .ok (.lconst 0, 1) := by decide +kernel
theorem D191_8 : decode (mB 191) 8 = .ok (.aload_n 0, 1) := by decide +kernel
theorem D191_9 : decode (mB 191) 9 = .ok (.getfield 14, 3) := by decide +kernel
theorem D191_12 : decode (mB 191) 12 = .ok (.i2l, 1) := by decide +kernel
theorem D191_13 : decode (mB 191) 13 = .ok (.invokestatic 21, 3) := by decide +kernel
theorem D191_16 : decode (mB 191) 16 = .ok (.ifCond .ne 5, 3) := by decide +kernel
theorem D191_19 : decode (mB 191) 19 = .ok (.iconst 0, 1) := by decide +kernel
theorem D191_20 : decode (mB 191) 20 = .ok (.ireturn, 1) := by decide +kernel
theorem D191_21 : decode (mB 191) 21 = .ok (.aload_n 0, 1) := by decide +kernel
theorem D191_22 : decode (mB 191) 22 = .ok (.iload_n 1, 1) := by decide +kernel
theorem D191_23 : decode (mB 191) 23 = .ok (.putfield 14, 3) := by decide +kernel
theorem D191_26 : decode (mB 191) 26 = .ok (.iconst 1, 1) := by decide +kernel
theorem D191_27 : decode (mB 191) 27 = .ok (.ireturn, 1) := by decide +kernel
theorem D192_0 : decode (mB 192) 0 = .ok (.lload_n 0, 1) := by decide +kernel
theorem D192_1 : decode (mB 192) 1 = .ok (.lload_n 2, 1) := by decide +kernel
theorem D192_2 : decode (mB 192) 2 = .ok (.lcmp, 1) := by decide +kernel
theorem D192_3 : decode (mB 192) 3 = .ok (.ifCond .lt 14, 3) := by decide +kernel
theorem D192_6 : decode (mB 192) 6 = .ok (.lload_n 0, 1) := by decide +kernel
theorem D192_7 : decode (mB 192) 7 = .ok (.lload 4, 2) := by decide +kernel
theorem D192_9 : decode (mB 192) 9 = .ok (.lcmp, 1) := by decide +kernel
theorem D192_10 : decode (mB 192) 10 = .ok (.ifCond .gt 7, 3) := by decide +kernel
theorem D192_13 : decode (mB 192) 13 = .ok (.iconst 1, 1) := by decide +kernel
theorem D192_14 : decode (mB 192) 14 = .ok (.goto 4, 3) := by decide +kernel
theorem D192_17 : decode (mB 192) 17 = .ok (.iconst 0, 1) := by decide +kernel
theorem D192_18 : decode (mB 192) 18 = .ok (.ireturn, 1) := by decide +kernel
theorem D193_0 : decode (mB 193) 0 = .ok (.aload_n 0, 1) := by decide +kernel
theorem D193_1 : decode (mB 193) 1 = .ok (.iconst 0, 1) := by decide +kernel
theorem D193_2 : decode (mB 193) 2 = .ok (.putfield 3, 3) := by decide +kernel
theorem D193_5 : decode (mB 193) 5 = .ok (.aload_n 0, 1) := by decide +kernel
theorem D193_6 : decode (mB 193) 6 = .ok (.invokevirtual 111, 3) := by decide +kernel
theorem D193_9 : decode (mB 193) 9 = .ok (.istore_n 1, 1) := by decide +kernel
theorem D193_10 : decode (mB 193) 10 = .ok (.iload_n 1, 1) := by decide +kernel
theorem D193_11 : decode (mB 193) 11 = .ok (.ifCond .ne 15, 3) := by decide +kernel
theorem D193_14 : decode (mB 193) 14 = .ok (.aload_n 0, 1) := by decide +kernel
theorem D193_15 : decode (mB 193) 15 = .ok (.aload_n 0, 1) := by decide +kernel
theorem D193_16 : decode (mB 193) 16 = .ok (.getfield 66, 3) := by decide +kernel
theorem D193_19 : decode (mB 193) 19 = .ok (.aload_n 0, 1) := by decide +kernel
theorem D193_20 : decode (mB 193) 20 = .ok (.getfield 69, 3) := by decide +kernel
theorem D193_23 : decode (mB 193) 23 = .ok (.invokevirtual 114, 3) := by decide +kernel
theorem D193_26 : decode (mB 193) 26 = .ok (.iload_n 1, 1) := by decide +kernel
theorem D193_27 : decode (mB 193) 27 = .ok (.ireturn, 1) := by decide +kernel
theorem D194_0 : decode (mB 194) 0 = .ok (.aload_n 0, 1) := by decide +kernel
theorem D194_1 : decode (mB 194) 1 = .ok (.bipush 40, 2) := by decide +kernel
theorem D194_3 : decode (mB 194) 3 = .ok (.invokevirtual 98, 3) := by decide +kernel
theorem D194_6 : decode (mB 194) 6 = .ok (.istore_n 1, 1) := by decide +kernel
theorem D194_7 : decode (mB 194) 7 = .ok (.aload_n 0, 1) := by decide +kernel
theorem D194_8 : decode (mB 194) 8 = .ok (.iconst 0, 1) := by decide +kernel
theorem D194_9 : decode (mB 194) 9 = .ok (.putfield 69, 3) := by decide +kernel
theorem D194_12 : decode (mB 194) 12 = .ok (.iload_n 1, 1) := by decide +kernel
theorem D194_13 : decode (mB 194) 13 = .ok (.ifCond .eq 11, 3) := by decide +kernel
theorem D194_16 : decode (mB 194) 16 = .ok (.aload_n 0, 1) := by decide +kernel
theorem D194_17 : decode (mB 194) 17 = .ok (.iconst 0, 1) := by decide +kernel
theorem D194_18 : decode (mB 194) 18 = .ok (.invokevirtual 89, 3) := by decide +kernel
theorem D194_21 : decode (mB 194) 21 = .ok (.ifCond .eq 7, 3) := by decide +kernel
theorem D194_24 : decode (mB 194) 24 = .ok (.iconst 1, 1) := by decide +kernel
theorem D194_25 : decode (mB 194) 25 = .ok (.goto 4, 3) := by decide +kernel
theorem D194_28 : decode (mB 194) 28 = .ok (.iconst 0, 1) := by decide +kernel
theorem D194_29 : decode (mB 194) 29 = .ok (.istore_n 2, 1) := by decide +kernel
theorem D194_30 : decode (mB 194) 30 = .ok (.aload_n 0, 1) := by decide +kernel
theorem D194_31 : decode (mB 194) 31 = .ok (.iload_n 1, 1) := by decide +kernel
theorem D194_32 : decode (mB 194) 32 = .ok (.bipush 40, 2) := by decide +kernel
theorem D194_34 : decode (mB 194) 34 = .ok (.iload_n 2, 1) := by decide +kernel
theorem D194_35 : decode (mB 194) 35 = .ok (.invokevirtual 101, 3) := by decide +kernel
theorem D194_38 : decode (mB 194) 38 = .ok (.ireturn, 1) := by decide +kernel
theorem D195_0 : decode (mB 195) 0 = .ok (.aload_n 0, 1) := by decide +kernel
theorem D195_1 : decode (mB 195) 1 = .ok (.getfield 14, 3) := by decide +kernel
theorem D195_4 : decode (mB 195) 4 = .ok (.istore_n 2, 1) := by decide +kernel
theorem D195_5 : decode (mB 195) 5 = .ok (.aload_n 0, 1) := by decide +kernel
theorem D195_6 : decode (mB 195) 6 = .ok (.iconst 0, 1) := by decide +kernel
theorem D195_7 : decode (mB 195) 7 = .ok (.putfield 14, 3) := by decide +kernel
theorem D195_10 : decode (mB 195) 10 = .ok (.aload_n 0, 1) := by decide +kernel
theorem D195_11 : decode (mB 195) 11 = .ok (.iconst 0, 1) := by decide +kernel
theorem D195_12 : decode (mB 195) 12 = .ok (.putfield 25, 3) := by decide +kernel
theorem D195_15 : decode (mB 195) 15 = .ok (.aload_n 0, 1) := by decide +kernel
theorem D195_16 : decode (mB 195) 16 = .ok (.iconst 0, 1) := by decide +kernel
theorem D195_17 : decode (mB 195) 17 = .ok (.putfield 28, 3) := by decide +kernel
theorem D195_20 : decode (mB 195) 20 = .ok (.aload_n 0, 1) := by decide +kernel
theorem D195_21 : decode (mB 195) 21 = .ok (.iload_n 2, 1) := by decide +kernel
theorem D195_22 : decode (mB 195) 22 = .ok (.iload_n 1, 1) := by decide +kernel
theorem D195_23 : decode (mB 195) 23 = .ok (.invokestatic 31, 3) := by decide +kernel
theorem D195_26 : decode (mB 195) 26 = .ok (.putfield 37, 3) := by decide +kernel
theorem D195_29 : decode (mB 195) 29 = .ok (.iload_n 2, 1) := by decide +kernel
theorem D195_30 : decode (mB 195) 30 = .ok (.ireturn, 1) := by decide +kernel
theorem D196_0 : decode (mB 196) 0 = .ok (.iload_n 1, 1) := by decide +kernel
theorem D196_1 : decode (mB 196) 1 = .ok (.iconst 3, 1) := by decide +kernel
theorem D196_2 : decode (mB 196) 2 = .ok (.if_icmp .ne 8, 3) := by decide +kernel
theorem D196_5 : decode (mB 196) 5 = .ok (.aload_n 0, 1) := by decide +kernel
theorem D196_6 : decode (mB 196) 6 = .ok (.invokevirtual 76, 3) := by decide +kernel
theorem D196_9 : decode (mB 196) 9 = .ok (.ireturn, 1) := by decide +kernel
theorem D196_10 : decode (mB 196) 10 = .ok (.aload_n 0, 1) := by decide +kernel
theorem D196_11 : decode (mB 196) 11 = .ok (.iload_n 1, 1) := by decide +kernel
theorem D196_12 : decode (mB 196) 12 = .ok (.iconst 1, 1) := by decide +kernel
theorem D196_13 : decode (mB 196) 13 = .ok (.iadd, 1) := by decide +kernel
theorem D196_14 : decode (mB 196) 14 = .ok (.invokevirtual 89, 3) := by decide +kernel
theorem D196_17 : decode (mB 196) 17 = .ok (.ifCond .ne 5, 3) := by decide +kernel
theorem D196_20 : decode (mB 196) 20 = .ok (.iconst 0, 1) := by decide +kernel
theorem D196_21 : decode (mB 196) 21 = .ok (.ireturn, 1) := by decide +kernel
theorem D196_22 : decode (mB 196) 22 = .ok (.iconst 1, 1) := by decide +kernel
theorem D196_23 : decode (mB 196) 23 = .ok (.istore_n 2, 1) := by decide +kernel
theorem D196_24 : decode (mB 196) 24 = .ok (.iload_n 2, 1) := by decide +kernel
theorem D196_25 : decode (mB 196) 25 = .ok (.ifCond .eq 88, 3) := by decide +kernel
theorem D196_28 : decode (mB 196) 28 = .ok (.aload_n 0, 1) := by decide +kernel
theorem D196_29 : decode (mB 196) 29 = .ok (.iload_n 1, 1) := by decide +kernel
theorem D196_30 : decode (mB 196) 30 = .ok (.ifCond .ne 8, 3) := by decide +kernel
theorem D196_33 : decode (mB 196) 33 = .ok (.ldc 92, 2) := by decide +kernel
theorem D196_35 : decode (mB 196) 35 = .ok (.goto 15, 3) := by decide +kernel
theorem D196_38 : decode (mB 196) 38 = .ok (.iload_n 1, 1) := by decide +kernel
theorem D196_39 : decode (mB 196) 39 = .ok (.iconst 1, 1) := by decide +kernel
theorem D196_40 : decode (mB 196) 40 = .ok (.if_icmp .ne 8, 3) := by decide +kernel
theorem D196_43 : decode (mB 196) 43 = .ok (.ldc 94, 2) := by decide +kernel
theorem D196_45 : decode (mB 196) 45 = .ok (.goto 5, 3) := by decide +kernel
theorem D196_48 : decode (mB 196) 48 = .ok (.ldc 96, 2) := by decide +kernel
theorem D196_50 : decode (mB 196) 50 = .ok (.invokevirtual 85, 3) := by decide +kernel
theorem D196_53 : decode (mB 196) 53 = .ok (.istore_n 3, 1) := by decide +kernel
theorem D196_54 : decode (mB 196) 54 = .ok (.iload_n 3, 1) := by decide +kernel
theorem D196_55 : decode (mB 196) 55 = .ok (.ifCond .ge 5, 3) := by decide +kernel
theorem D196_58 : decode (mB 196) 58 = .ok (.iconst 1, 1) := by decide +kernel
theorem D196_59 : decode (mB 196) 59 = .ok (.ireturn, 1) := by decide +kernel
theorem D196_60 : decode (mB 196) 60 = .ok (.aload_n 0, 1) := by decide +kernel
theorem D196_61 : decode (mB 196) 61 = .ok (.iload_n 1, 1) := by decide +kernel
theorem D196_62 : decode (mB 196) 62 = .ok (.iconst 1, 1) := by decide +kernel
theorem D196_63 : decode (mB 196) 63 = .ok (.iadd, 1) := by decide +kernel
theorem D196_64 : decode (mB 196) 64 = .ok (.invokevirtual 89, 3) := by decide +kernel
theorem D196_67 : decode (mB 196) 67 = .ok (.ifCond .ne 5, 3) := by decide +kernel
theorem D196_70 : decode (mB 196) 70 = .ok (.iconst 0, 1) := by decide +kernel
theorem D196_71 : decode (mB 196) 71 = .ok (.ireturn, 1) := by decide +kernel
theorem D196_72 : decode (mB 196) 72 = .ok (.aload_n 0, 1) := by decide +kernel
theorem D196_73 : decode (mB 196) 73 = .ok (.sipush 2000, 3) := by decide +kernel
theorem D196_76 : decode (mB 196) 76 = .ok (.iload_n 3, 1) := by decide +kernel
theorem D196_77 : decode (mB 196) 77 = .ok (.iadd, 1) := by decide +kernel
theorem D196_78 : decode (mB 196) 78 = .ok (.iload_n 1, 1) := by decide +kernel
theorem D196_79 : decode (mB 196) 79 = .ok (.ifCond .ne 7, 3) := by decide +kernel
theorem D196_82 : decode (mB 196) 82 = .ok (.iconst 0, 1) := by decide +kernel
theorem D196_83 : decode (mB 196) 83 = .ok (.goto 13, 3) := by decide +kernel
theorem D196_86 : decode (mB 196) 86 = .ok (.iload_n 1, 1) := by decide +kernel
theorem D196_87 : decode (mB 196) 87 = .ok (.iconst 1, 1) := by decide +kernel
theorem D196_88 : decode (mB 196) 88 = .ok (.if_icmp .ne 7, 3) := by decide +kernel
theorem D196_91 : decode (mB 196) 91 = .ok (.iconst 3, 1) := by decide +kernel
theorem D196_92 : decode (mB 196) 92 = .ok (.goto 4, 3) := by decide +kernel
theorem D196_95 : decode (mB 196) 95 = .ok (.iconst 5, 1) := by decide +kernel
theorem D196_96 : decode (mB 196) 96 = .ok (.iadd, 1) := by decide +kernel
theorem D196_97 : decode (mB 196) 97 = .ok (.invokevirtual 79, 3) := by decide +kernel
theorem D196_100 : decode (mB 196) 100 = .ok (.iload_n 1, 1) := by decide +kernel
theorem D196_101 : decode (mB 196) 101 = .ok (.ifCond .le 7, 3) := by decide +kernel
theorem D196_104 : decode (mB 196) 104 = .ok (.iconst 1, 1) := by decide +kernel
theorem D196_105 : decode (mB 196) 105 = .ok (.goto 4, 3) := by decide +kernel
theorem D196_108 : decode (mB 196) 108 = .ok (.iconst 0, 1) := by decide +kernel
theorem D196_109 : decode (mB 196) 109 = .ok (.istore_n 2, 1) := by decide +kernel
theorem D196_110 : decode (mB 196) 110 = .ok (.goto (-86), 3) := by decide +kernel
theorem D196_113 : decode (mB 196) 113 = .ok (.iconst 1, 1) := by decide +kernel
theorem D196_114 : decode (mB 196) 114 = .ok (.ireturn, 1) := by decide +kernel
theorem D197_0 : decode (mB 197) 0 = .ok (.aload_n 0, 1) := by decide +kernel
theorem D197_1 : decode (mB 197) 1 = .ok (.bipush 45, 2) := by decide +kernel
theorem D197_3 : decode (mB 197) 3 = .ok (.invokevirtual 72, 3) := by decide +kernel
theorem D197_6 : decode (mB 197) 6 = .ok (.ifCond .eq 17, 3) := by decide +kernel
theorem D197_9 : decode (mB 197) 9 = .ok (.aload_n 0, 1) := by decide +kernel
theorem D197_10 : decode (mB 197) 10 = .ok (.invokevirtual 76, 3) := by decide +kernel
theorem D197_13 : decode (mB 197) 13 = .ok (.istore_n 1, 1) := by decide +kernel
theorem D197_14 : decode (mB 197) 14 = .ok (.aload_n 0, 1) := by decide +kernel
theorem D197_15 : decode (mB 197) 15 = .ok (.sipush 3000, 3) := by decide +kernel
theorem D197_18 : decode (mB 197) 18 = .ok (.invokevirtual 79, 3) := by decide +kernel
theorem D197_21 : decode (mB 197) 21 = .ok (.iload_n 1, 1) := by decide +kernel
theorem D197_22 : decode (mB 197) 22 = .ok (.ireturn, 1) := by decide +kernel
theorem D197_23 : decode (mB 197) 23 = .ok (.aload_n 0, 1) := by decide +kernel
theorem D197_24 : decode (mB 197) 24 = .ok (.invokevirtual 58, 3) := by decide +kernel
theorem D197_27 : decode (mB 197) 27 = .ok (.ifCond .eq 14, 3) := by decide +kernel
theorem D197_30 : decode (mB 197) 30 = .ok (.aload_n 0, 1) := by decide +kernel
theorem D197_31 : decode (mB 197) 31 = .ok (.aload_n 0, 1) := by decide +kernel
theorem D197_32 : decode (mB 197) 32 = .ok (.iconst 3, 1) := by decide +kernel
theorem D197_33 : decode (mB 197) 33 = .ok (.invokevirtual 62, 3) := by decide +kernel
theorem D197_36 : decode (mB 197) 36 = .ok (.invokevirtual 79, 3) := by decide +kernel
theorem D197_39 : decode (mB 197) 39 = .ok (.iconst 1, 1) := by decide +kernel
theorem D197_40 : decode (mB 197) 40 = .ok (.ireturn, 1) := by decide +kernel
theorem D197_41 : decode (mB 197) 41 = .ok (.aload_n 0, 1) := by decide +kernel
theorem D197_42 : decode (mB 197) 42 = .ok (.ldc 83, 2) := by decide +kernel
theorem D197_44 : decode (mB 197) 44 = .ok (.invokevirtual 85, 3) := by decide +kernel
theorem D197_47 : decode (mB 197) 47 = .ok (.istore_n 1, 1) := by decide +kernel
theorem D197_48 : decode (mB 197) 48 = .ok (.iload_n 1, 1) := by decide +kernel
theorem D197_49 : decode (mB 197) 49 = .ok (.ifCond .lt 14, 3) := by decide +kernel
theorem D197_52 : decode (mB 197) 52 = .ok (.aload_n 0, 1) := by decide +kernel
theorem D197_53 : decode (mB 197) 53 = .ok (.sipush 1000, 3) := by decide +kernel
theorem D197_56 : decode (mB 197) 56 = .ok (.iload_n 1, 1) := by decide +kernel
theorem D197_57 : decode (mB 197) 57 = .ok (.iadd, 1) := by decide +kernel
theorem D197_58 : decode (mB 197) 58 = .ok (.invokevirtual 79, 3) := by decide +kernel
theorem D197_61 : decode (mB 197) 61 = .ok (.iconst 1, 1) := by decide +kernel
theorem D197_62 : decode (mB 197) 62 = .ok (.ireturn, 1) := by decide +kernel
theorem D197_63 : decode (mB 197) 63 = .ok (.aload_n 0, 1) := by decide +kernel
theorem D197_64 : decode (mB 197) 64 = .ok (.getfield 28, 3) := by decide +kernel
theorem D197_67 : decode (mB 197) 67 = .ok (.iconst 4, 1) := by decide +kernel
theorem D197_68 : decode (mB 197) 68 = .ok (.if_icmp .eq 12, 3) := by decide +kernel
theorem D197_71 : decode (mB 197) 71 = .ok (.aload_n 0, 1) := by decide +kernel
theorem D197_72 : decode (mB 197) 72 = .ok (.bipush 40, 2) := by decide +kernel
theorem D197_74 : decode (mB 197) 74 = .ok (.invokevirtual 72, 3) := by decide +kernel
theorem D197_77 : decode (mB 197) 77 = .ok (.ifCond .ne 5, 3) := by decide +kernel
theorem D197_80 : decode (mB 197) 80 = .ok (.iconst 0, 1) := by decide +kernel
theorem D197_81 : decode (mB 197) 81 = .ok (.ireturn, 1) := by decide +kernel
theorem D197_82 : decode (mB 197) 82 = .ok (.aload_n 0, 1) := by decide +kernel
theorem D197_83 : decode (mB 197) 83 = .ok (.dup, 1) := by decide +kernel
theorem D197_84 : decode (mB 197) 84 = .ok (.getfield 28, 3) := by decide +kernel
theorem D197_87 : decode (mB 197) 87 = .ok (.iconst 1, 1) := by decide +kernel
theorem D197_88 : decode (mB 197) 88 = .ok (.iadd, 1) := by decide +kernel
theorem D197_89 : decode (mB 197) 89 = .ok (.putfield 28, 3) := by decide +kernel
theorem D197_92 : decode (mB 197) 92 = .ok (.aload_n 0, 1) := by decide +kernel
theorem D197_93 : decode (mB 197) 93 = .ok (.iconst 0, 1) := by decide +kernel
theorem D197_94 : decode (mB 197) 94 = .ok (.invokevirtual 89, 3) := by decide +kernel
theorem D197_97 : decode (mB 197) 97 = .ok (.ifCond .eq 12, 3) := by decide +kernel
theorem D197_100 : decode (mB 197) 100 = .ok (.aload_n 0, 1) := by decide +kernel
theorem D197_101 : decode (mB 197) 101 = .ok (.bipush 41, 2) := by decide +kernel
theorem D197_103 : decode (mB 197) 103 = .ok (.invokevirtual 72, 3) := by decide +kernel
theorem D197_106 : decode (mB 197) 106 = .ok (.ifCond .ne 5, 3) := by decide +kernel
theorem D197_109 : decode (mB 197) 109 = .ok (.iconst 0, 1) := by decide +kernel
theorem D197_110 : decode (mB 197) 110 = .ok (.ireturn, 1) := by decide +kernel
theorem D197_111 : decode (mB 197) 111 = .ok (.aload_n 0, 1) := by decide +kernel
theorem D197_112 : decode (mB 197) 112 = .ok (.dup, 1) := by decide +kernel
theorem D197_113 : decode (mB 197) 113 = .ok (.getfield 28, 3) := by decide +kernel
theorem D197_116 : decode (mB 197) 116 = .ok (.iconst 1, 1) := by decide +kernel
theorem D197_117 : decode (mB 197) 117 = .ok (.isub, 1) := by decide +kernel
theorem D197_118 : decode (mB 197) 118 = .ok (.putfield 28, 3) := by decide +kernel
theorem D197_121 : decode (mB 197) 121 = .ok (.iconst 1, 1) := by decide +kernel
theorem D197_122 : decode (mB 197) 122 = .ok (.ireturn, 1) := by decide +kernel
theorem D198_0 : decode (mB 198) 0 = .ok (.aload_n 0, 1) := by decide +kernel
theorem D198_1 : decode (mB 198) 1 = .ok (.getfield 25, 3) := by decide +kernel
theorem D198_4 : decode (mB 198) 4 = .ok (.aload_n 0, 1) := by decide +kernel
theorem D198_5 : decode (mB 198) 5 = .ok (.getfield 37, 3) := by decide +kernel
theorem D198_8 : decode (mB 198) 8 = .ok (.if_icmp .ge 20, 3) := by decide +kernel
theorem D198_11 : decode (mB 198) 11 = .ok (.aload_n 0, 1) := by decide +kernel
theorem D198_12 : decode (mB 198) 12 = .ok (.getfield 17, 3) := by decide +kernel
theorem D198_15 : decode (mB 198) 15 = .ok (.aload_n 0, 1) := by decide +kernel
theorem D198_16 : decode (mB 198) 16 = .ok (.getfield 25, 3) := by decide +kernel
theorem D198_19 : decode (mB 198) 19 = .ok (.iaload, 1) := by decide +kernel
theorem D198_20 : decode (mB 198) 20 = .ok (.iload_n 1, 1) := by decide +kernel
theorem D198_21 : decode (mB 198) 21 = .ok (.if_icmp .ne 7, 3) := by decide +kernel
theorem D198_24 : decode (mB 198) 24 = .ok (.iconst 1, 1) := by decide +kernel
theorem D198_25 : decode (mB 198) 25 = .ok (.goto 4, 3) := by decide +kernel
theorem D198_28 : decode (mB 198) 28 = .ok (.iconst 0, 1) := by decide +kernel
theorem D198_29 : decode (mB 198) 29 = .ok (.istore_n 2, 1) := by decide +kernel
theorem D198_30 : decode (mB 198) 30 = .ok (.aload_n 0, 1) := by decide +kernel
theorem D198_31 : decode (mB 198) 31 = .ok (.dup, 1) := by decide +kernel
theorem D198_32 : decode (mB 198) 32 = .ok (.getfield 25, 3) := by decide +kernel
theorem D198_35 : decode (mB 198) 35 = .ok (.iload_n 2, 1) := by decide +kernel
theorem D198_36 : decode (mB 198) 36 = .ok (.invokestatic 40, 3) := by decide +kernel
theorem D198_39 : decode (mB 198) 39 = .ok (.iadd, 1) := by decide +kernel
theorem D198_40 : decode (mB 198) 40 = .ok (.putfield 25, 3) := by decide +kernel
theorem D198_43 : decode (mB 198) 43 = .ok (.iload_n 2, 1) := by decide +kernel
theorem D198_44 : decode (mB 198) 44 = .ok (.ireturn, 1) := by decide +kernel
theorem D199_0 : decode (mB 199) 0 = .ok (.iload_n 0, 1) := by decide +kernel
theorem D199_1 : decode (mB 199) 1 = .ok (.ifCond .eq 7, 3) := by decide +kernel
theorem D199_4 : decode (mB 199) 4 = .ok (.iconst 1, 1) := by decide +kernel
theorem D199_5 : decode (mB 199) 5 = .ok (.goto 4, 3) := by decide +kernel
theorem D199_8 : decode (mB 199) 8 = .ok (.iconst 0, 1) := by decide +kernel
theorem D199_9 : decode (mB 199) 9 = .ok (.ireturn, 1) := by decide +kernel
theorem D200_0 : decode (mB 200) 0 = .ok (.aload_n 0, 1) := by decide +kernel
theorem D200_1 : decode (mB 200) 1 = .ok (.getfield 66, 3) := by decide +kernel
theorem D200_4 : decode (mB 200) 4 = .ok (.aload_n 0, 1) := by decide +kernel
theorem D200_5 : decode (mB 200) 5 = .ok (.getfield 69, 3) := by decide +kernel
theorem D200_8 : decode (mB 200) 8 = .ok (.iload_n 1, 1) := by decide +kernel
theorem D200_9 : decode (mB 200) 9 = .ok (.iastore, 1) := by decide +kernel
theorem D200_10 : decode (mB 200) 10 = .ok (.aload_n 0, 1) := by decide +kernel
theorem D200_11 : decode (mB 200) 11 = .ok (.dup, 1) := by decide +kernel
theorem D200_12 : decode (mB 200) 12 = .ok (.getfield 69, 3) := by decide +kernel
theorem D200_15 : decode (mB 200) 15 = .ok (.iconst 1, 1) := by decide +kernel
theorem D200_16 : decode (mB 200) 16 = .ok (.iadd, 1) := by decide +kernel
theorem D200_17 : decode (mB 200) 17 = .ok (.putfield 69, 3) := by decide +kernel
theorem D200_20 : decode (mB 200) 20 = .ok (.return_, 1) := by decide +kernel
theorem D201_0 : decode (mB 201) 0 = .ok (.aload_n 0, 1) := by decide +kernel
theorem D201_1 : decode (mB 201) 1 = .ok (.getfield 25, 3) := by decide +kernel
theorem D201_4 : decode (mB 201) 4 = .ok (.aload_n 0, 1) := by decide +kernel
theorem D201_5 : decode (mB 201) 5 = .ok (.getfield 37, 3) := by decide +kernel
theorem D201_8 : decode (mB 201) 8 = .ok (.if_icmp .ge 29, 3) := by decide +kernel
theorem D201_11 : decode (mB 201) 11 = .ok (.aload_n 0, 1) := by decide +kernel
theorem D201_12 : decode (mB 201) 12 = .ok (.getfield 17, 3) := by decide +kernel
theorem D201_15 : decode (mB 201) 15 = .ok (.aload_n 0, 1) := by decide +kernel
theorem D201_16 : decode (mB 201) 16 = .ok (.getfield 25, 3) := by decide +kernel
theorem D201_19 : decode (mB 201) 19 = .ok (.iaload, 1) := by decide +kernel
theorem D201_20 : decode (mB 201) 20 = .ok (.i2l, 1) := by decide +kernel
theorem D201_21 : decode (mB 201) 21 = .ok (.ldc2_w 44, 3) := by decide +kernel
theorem D201_24 : decode (mB 201) 24 = .ok (.ldc2_w 46, 3) := by decide +kernel
theorem D201_27 : decode (mB 201) 27 = .ok (.invokestatic 21, 3) := by decide +kernel
theorem D201_30 : decode (mB 201) 30 = .ok (.ifCond .eq 7, 3) := by decide +kernel
theorem D201_33 : decode (mB 201) 33 = .ok (.iconst 1, 1) := by decide +kernel
theorem D201_34 : decode (mB 201) 34 = .ok (.goto 4, 3) := by decide +kernel
theorem D201_37 : decode (mB 201) 37 = .ok (.iconst 0, 1) := by decide +kernel
theorem D201_38 : decode (mB 201) 38 = .ok (.ireturn, 1) := by decide +kernel
theorem D202_0 : decode (mB 202) 0 = .ok (.aload_n 0, 1) := by decide +kernel
theorem D202_1 : decode (mB 202) 1 = .ok (.invokevirtual 58, 3) := by decide +kernel
theorem D202_4 : decode (mB 202) 4 = .ok (.ifCond .ne 5, 3) := by decide +kernel
theorem D202_7 : decode (mB 202) 7 = .ok (.iconst (-1), 1) := by decide +kernel
theorem D202_8 : decode (mB 202) 8 = .ok (.ireturn, 1) := by decide +kernel
theorem D202_9 : decode (mB 202) 9 = .ok (.iconst 0, 1) := by decide +kernel
theorem D202_10 : decode (mB 202) 10 = .ok (.istore_n 2, 1) := by decide +kernel
theorem D202_11 : decode (mB 202) 11 = .ok (.iconst 0, 1) := by decide +kernel
theorem D202_12 : decode (mB 202) 12 = .ok (.istore_n 3, 1) := by decide +kernel
theorem D202_13 : decode (mB 202) 13 = .ok (.iload_n 3, 1) := by decide +kernel
theorem D202_14 : decode (mB 202) 14 = .ok (.iload_n 1, 1) := by decide +kernel
theorem D202_15 : decode (mB 202) 15 = .ok (.if_icmp .ge 44, 3) := by decide +kernel
theorem D202_18 : decode (mB 202) 18 = .ok (.aload_n 0, 1) := by decide +kernel
theorem D202_19 : decode (mB 202) 19 = .ok (.invokevirtual 58, 3) := by decide +kernel
theorem D202_22 : decode (mB 202) 22 = .ok (.ifCond .eq 37, 3) := by decide +kernel
theorem D202_25 : decode (mB 202) 25 = .ok (.bipush 10, 2) := by decide +kernel
theorem D202_27 : decode (mB 202) 27 = .ok (.iload_n 2, 1) := by decide +kernel
theorem D202_28 : decode (mB 202) 28 = .ok (.imul, 1) := by decide +kernel
theorem D202_29 : decode (mB 202) 29 = .ok (.aload_n 0, 1) := by decide +kernel
theorem D202_30 : decode (mB 202) 30 = .ok (.getfield 17, 3) := by decide +kernel
theorem D202_33 : decode (mB 202) 33 = .ok (.aload_n 0, 1) := by decide +kernel
theorem D202_34 : decode (mB 202) 34 = .ok (.getfield 25, 3) := by decide +kernel
theorem D202_37 : decode (mB 202) 37 = .ok (.iaload, 1) := by decide +kernel
theorem D202_38 : decode (mB 202) 38 = .ok (.iadd, 1) := by decide +kernel
theorem D202_39 : decode (mB 202) 39 = .ok (.bipush 48, 2) := by decide +kernel
theorem D202_41 : decode (mB 202) 41 = .ok (.isub, 1) := by decide +kernel
theorem D202_42 : decode (mB 202) 42 = .ok (.istore_n 2, 1) := by decide +kernel
theorem D202_43 : decode (mB 202) 43 = .ok (.aload_n 0, 1) := by decide +kernel
theorem D202_44 : decode (mB 202) 44 = .ok (.dup, 1) := by decide +kernel
theorem D202_45 : decode (mB 202) 45 = .ok (.getfield 25, 3) := by decide +kernel
theorem D202_48 : decode (mB 202) 48 = .ok (.iconst 1, 1) := by decide +kernel
theorem D202_49 : decode (mB 202) 49 = .ok (.iadd, 1) := by decide +kernel
theorem D202_50 : decode (mB 202) 50 = .ok (.putfield 25, 3) := by decide +kernel
theorem D202_53 : decode (mB 202) 53 = .ok (.iinc 3 1, 3) := by decide +kernel
theorem D202_56 : decode (mB 202) 56 = .ok (.goto (-43), 3) := by decide +kernel
theorem D202_59 : decode (mB 202) 59 = .ok (.iload_n 2, 1) := by decide +kernel
theorem D202_60 : decode (mB 202) 60 = .ok (.ireturn, 1) := by decide +kernel
theorem D203_0 : decode (mB 203) 0 = .ok (.iconst 0, 1) := by decide +kernel
theorem D203_1 : decode (mB 203) 1 = .ok (.istore_n 2, 1) := by decide +kernel
theorem D203_2 : decode (mB 203) 2 = .ok (.iload_n 2, 1) := by decide +kernel
theorem D203_3 : decode (mB 203) 3 = .ok (.aload_n 1, 1) := by decide +kernel
theorem D203_4 : decode (mB 203) 4 = .ok (.invokevirtual 48, 3) := by decide +kernel
theorem D203_7 : decode (mB 203) 7 = .ok (.if_icmp .ge 49, 3) := by decide +kernel
theorem D203_10 : decode (mB 203) 10 = .ok (.aload_n 0, 1) := by decide +kernel
theorem D203_11 : decode (mB 203) 11 = .ok (.getfield 25, 3) := by decide +kernel
theorem D203_14 : decode (mB 203) 14 = .ok (.aload_n 0, 1) := by decide +kernel
theorem D203_15 : decode (mB 203) 15 = .ok (.getfield 37, 3) := by decide +kernel
theorem D203_18 : decode (mB 203) 18 = .ok (.if_icmp .ge 38, 3) := by decide +kernel
theorem D203_21 : decode (mB 203) 21 = .ok (.aload_n 1, 1) := by decide +kernel
theorem D203_22 : decode (mB 203) 22 = .ok (.iload_n 2, 1) := by decide +kernel
theorem D203_23 : decode (mB 203) 23 = .ok (.invokevirtual 54, 3) := by decide +kernel
theorem D203_26 : decode (mB 203) 26 = .ok (.aload_n 0, 1) := by decide +kernel
theorem D203_27 : decode (mB 203) 27 = .ok (.getfield 17, 3) := by decide +kernel
theorem D203_30 : decode (mB 203) 30 = .ok (.aload_n 0, 1) := by decide +kernel
theorem D203_31 : decode (mB 203) 31 = .ok (.getfield 25, 3) := by decide +kernel
theorem D203_34 : decode (mB 203) 34 = .ok (.iaload, 1) := by decide +kernel
theorem D203_35 : decode (mB 203) 35 = .ok (.if_icmp .ne 15, 3) := by decide +kernel
theorem D203_38 : decode (mB 203) 38 = .ok (.aload_n 0, 1) := by decide +kernel
theorem D203_39 : decode (mB 203) 39 = .ok (.dup, 1) := by decide +kernel
theorem D203_40 : decode (mB 203) 40 = .ok (.getfield 25, 3) := by decide +kernel
theorem D203_43 : decode (mB 203) 43 = .ok (.iconst 1, 1) := by decide +kernel
theorem D203_44 : decode (mB 203) 44 = .ok (.iadd, 1) := by decide +kernel
theorem D203_45 : decode (mB 203) 45 = .ok (.putfield 25, 3) := by decide +kernel
theorem D203_48 : decode (mB 203) 48 = .ok (.iload_n 2, 1) := by decide +kernel
theorem D203_49 : decode (mB 203) 49 = .ok (.ireturn, 1) := by decide +kernel
theorem D203_50 : decode (mB 203) 50 = .ok (.iinc 2 1, 3) := by decide +kernel
theorem D203_53 : decode (mB 203) 53 = .ok (.goto (-51), 3) := by decide +kernel
theorem D203_56 : decode (mB 203) 56 = .ok (.iconst (-1), 1) := by decide +kernel
theorem D203_57 : decode (mB 203) 57 = .ok (.ireturn, 1) := by decide +kernel
theorem D204_0 : decode (mB 204) 0 = .ok (.iload_n 3, 1) := by decide +kernel
theorem D204_1 : decode (mB 204) 1 = .ok (.ifCond .eq 18, 3) := by decide +kernel
theorem D204_4 : decode (mB 204) 4 = .ok (.aload_n 0, 1) := by decide +kernel
theorem D204_5 : decode (mB 204) 5 = .ok (.getfield 25, 3) := by decide +kernel
theorem D204_8 : decode (mB 204) 8 = .ok (.aload_n 0, 1) := by decide +kernel
theorem D204_9 : decode (mB 204) 9 = .ok (.getfield 37, 3) := by decide +kernel
theorem D204_12 : decode (mB 204) 12 = .ok (.if_icmp .ne 7, 3) := by decide +kernel
theorem D204_15 : decode (mB 204) 15 = .ok (.iconst 1, 1) := by decide +kernel
theorem D204_16 : decode (mB 204) 16 = .ok (.goto 4, 3) := by decide +kernel
theorem D204_19 : decode (mB 204) 19 = .ok (.iconst 0, 1) := by decide +kernel
theorem D204_20 : decode (mB 204) 20 = .ok (.istore 4, 2) := by decide +kernel
theorem D204_22 : decode (mB 204) 22 = .ok (.iload_n 1, 1) := by decide +kernel
theorem D204_23 : decode (mB 204) 23 = .ok (.iload_n 2, 1) := by decide +kernel
theorem D204_24 : decode (mB 204) 24 = .ok (.if_icmp .le 20, 3) := by decide +kernel
theorem D204_27 : decode (mB 204) 27 = .ok (.iload 4, 2) := by decide +kernel
theorem D204_29 : decode (mB 204) 29 = .ok (.ifCond .ne 11, 3) := by decide +kernel
theorem D204_32 : decode (mB 204) 32 = .ok (.aload_n 0, 1) := by decide +kernel
theorem D204_33 : decode (mB 204) 33 = .ok (.getfield 25, 3) := by decide +kernel
theorem D204_36 : decode (mB 204) 36 = .ok (.iload_n 2, 1) := by decide +kernel
theorem D204_37 : decode (mB 204) 37 = .ok (.if_icmp .lt 7, 3) := by decide +kernel
theorem D204_40 : decode (mB 204) 40 = .ok (.iconst (-1), 1) := by decide +kernel
theorem D204_41 : decode (mB 204) 41 = .ok (.iload_n 2, 1) := by decide +kernel
theorem D204_42 : decode (mB 204) 42 = .ok (.isub, 1) := by decide +kernel
theorem D204_43 : decode (mB 204) 43 = .ok (.ireturn, 1) := by decide +kernel
theorem D204_44 : decode (mB 204) 44 = .ok (.iload 4, 2) := by decide +kernel
theorem D204_46 : decode (mB 204) 46 = .ok (.ifCond .eq 7, 3) := by decide +kernel
theorem D204_49 : decode (mB 204) 49 = .ok (.iconst 0, 1) := by decide +kernel
theorem D204_50 : decode (mB 204) 50 = .ok (.goto 9, 3) := by decide +kernel
theorem D204_53 : decode (mB 204) 53 = .ok (.iconst (-1), 1) := by decide +kernel
theorem D204_54 : decode (mB 204) 54 = .ok (.aload_n 0, 1) := by decide +kernel
theorem D204_55 : decode (mB 204) 55 = .ok (.getfield 25, 3) := by decide +kernel
theorem D204_58 : decode (mB 204) 58 = .ok (.isub, 1) := by decide +kernel
theorem D204_59 : decode (mB 204) 59 = .ok (.ireturn, 1) := by decide +kernel
theorem D205_0 : decode (mB 205) 0 = .ok (.aload_n 0, 1) := by decide +kernel
theorem D205_1 : decode (mB 205) 1 = .ok (.iload_n 2, 1) := by decide +kernel
theorem D205_2 : decode (mB 205) 2 = .ok (.putfield 105, 3) := by decide +kernel
theorem D205_5 : decode (mB 205) 5 = .ok (.iconst 0, 1) := by decide +kernel
theorem D205_6 : decode (mB 205) 6 = .ok (.istore_n 3, 1) := by decide +kernel
theorem D205_7 : decode (mB 205) 7 = .ok (.iload_n 3, 1) := by decide +kernel
theorem D205_8 : decode (mB 205) 8 = .ok (.iload_n 2, 1) := by decide +kernel
theorem D205_9 : decode (mB 205) 9 = .ok (.if_icmp .ge 18, 3) := by decide +kernel
theorem D205_12 : decode (mB 205) 12 = .ok (.aload_n 0, 1) := by decide +kernel
theorem D205_13 : decode (mB 205) 13 = .ok (.getfield 108, 3) := by decide +kernel
theorem D205_16 : decode (mB 205) 16 = .ok (.iload_n 3, 1) := by decide +kernel
theorem D205_17 : decode (mB 205) 17 = .ok (.aload_n 1, 1) := by decide +kernel
theorem D205_18 : decode (mB 205) 18 = .ok (.iload_n 3, 1) := by decide +kernel
theorem D205_19 : decode (mB 205) 19 = .ok (.iaload, 1) := by decide +kernel
theorem D205_20 : decode (mB 205) 20 = .ok (.iastore, 1) := by decide +kernel
theorem D205_21 : decode (mB 205) 21 = .ok (.iinc 3 1, 3) := by decide +kernel
theorem D205_24 : decode (mB 205) 24 = .ok (.goto (-17), 3) := by decide +kernel
theorem D205_27 : decode (mB 205) 27 = .ok (.return_, 1) := by decide +kernel
theorem D206_0 : decode (mB 206) 0 = .ok (.aload_n 0, 1) := by decide +kernel
theorem D206_1 : decode (mB 206) 1 = .ok (.invokespecial 128, 3) := by decide +kernel
theorem D206_4 : decode (mB 206) 4 = .ok (.aload_n 0, 1) := by decide +kernel
theorem D206_5 : decode (mB 206) 5 = .ok (.bipush 24, 2) := by decide +kernel
theorem D206_7 : decode (mB 206) 7 = .ok (.newarray .long, 2) := by decide +kernel
theorem D206_9 : decode (mB 206) 9 = .ok (.putfield 7, 3) := by decide +kernel
theorem D206_12 : decode (mB 206) 12 = .ok (.aload_n 0, 1) := by decide +kernel
theorem D206_13 : decode (mB 206) 13 = .ok (.bipush 80, 2) := by decide +kernel
theorem D206_15 : decode (mB 206) 15 = .ok (.newarray .int, 2) := by decide +kernel
theorem D206_17 : decode (mB 206) 17 = .ok (.putfield 17, 3) := by decide +kernel
theorem D206_20 : decode (mB 206) 20 = .ok (.aload_n 0, 1) := by decide +kernel
theorem D206_21 : decode (mB 206) 21 = .ok (.bipush 80, 2) := by decide +kernel
theorem D206_23 : decode (mB 206) 23 = .ok (.newarray .int, 2) := by decide +kernel
theorem D206_25 : decode (mB 206) 25 = .ok (.putfield 108, 3) := by decide +kernel
theorem D206_28 : decode (mB 206) 28 = .ok (.aload_n 0, 1) := by decide +kernel
theorem D206_29 : decode (mB 206) 29 = .ok (.bipush 80, 2) := by decide +kernel
theorem D206_31 : decode (mB 206) 31 = .ok (.newarray .int, 2) := by decide +kernel
theorem D206_33 : decode (mB 206) 33 = .ok (.putfield 66, 3) := by decide +kernel
theorem D206_36 : decode (mB 206) 36 = .ok (.aload_n 0, 1) := by decide +kernel
theorem D206_37 : decode (mB 206) 37 = .ok (.bipush 80, 2) := by decide +kernel
theorem D206_39 : decode (mB 206) 39 = .ok (.newarray .int, 2) := by decide +kernel
theorem D206_41 : decode (mB 206) 41 = .ok (.putfield 118, 3) := by decide +kernel
theorem D206_44 : decode (mB 206) 44 = .ok (.aload_n 0, 1) := by decide +kernel
theorem D206_45 : decode (mB 206) 45 = .ok (.bipush 7, 2) := by decide +kernel
theorem D206_47 : decode (mB 206) 47 = .ok (.newarray .int, 2) := by decide +kernel
theorem D206_49 : decode (mB 206) 49 = .ok (.putfield 125, 3) := by decide +kernel
theorem D206_52 : decode (mB 206) 52 = .ok (.aload_n 0, 1) := by decide +kernel
theorem D206_53 : decode (mB 206) 53 = .ok (.iconst 5, 1) := by decide +kernel
theorem D206_54 : decode (mB 206) 54 = .ok (.newarray .int, 2) := by decide +kernel
theorem D206_56 : decode (mB 206) 56 = .ok (.putfield 134, 3) := by decide +kernel
theorem D206_59 : decode (mB 206) 59 = .ok (.aload_n 0, 1) := by decide +kernel
theorem D206_60 : decode (mB 206) 60 = .ok (.iconst 5, 1) := by decide +kernel
theorem D206_61 : decode (mB 206) 61 = .ok (.newarray .int, 2) := by decide +kernel
theorem D206_63 : decode (mB 206) 63 = .ok (.putfield 137, 3) := by decide +kernel
theorem D206_66 : decode (mB 206) 66 = .ok (.aload_n 0, 1) := by decide +kernel
theorem D206_67 : decode (mB 206) 67 = .ok (.iconst 5, 1) := by decide +kernel
theorem D206_68 : decode (mB 206) 68 = .ok (.newarray .int, 2) := by decide +kernel
theorem D206_70 : decode (mB 206) 70 = .ok (.putfield 140, 3) := by decide +kernel
theorem D206_73 : decode (mB 206) 73 = .ok (.aload_n 0, 1) := by decide +kernel
theorem D206_74 : decode (mB 206) 74 = .ok (.iconst 5, 1) := by decide +kernel
theorem D206_75 : decode (mB 206) 75 = .ok (.newarray .int, 2) := by decide +kernel
theorem D206_77 : decode (mB 206) 77 = .ok (.putfield 143, 3) := by decide +kernel
theorem D206_80 : decode (mB 206) 80 = .ok (.aload_n 0, 1) := by decide +kernel
theorem D206_81 : decode (mB 206) 81 = .ok (.sipush 844, 3) := by decide +kernel
theorem D206_84 : decode (mB 206) 84 = .ok (.newarray .int, 2) := by decide +kernel
theorem D206_86 : decode (mB 206) 86 = .ok (.putfield 146, 3) := by decide +kernel
theorem D206_89 : decode (mB 206) 89 = .ok (.aload_n 0, 1) := by decide +kernel
theorem D206_90 : decode (mB 206) 90 = .ok (.sipush 844, 3) := by decide +kernel
theorem D206_93 : decode (mB 206) 93 = .ok (.newarray .int, 2) := by decide +kernel
theorem D206_95 : decode (mB 206) 95 = .ok (.putfield 149, 3) := by decide +kernel
theorem D206_98 : decode (mB 206) 98 = .ok (.aload_n 0, 1) := by decide +kernel
theorem D206_99 : decode (mB 206) 99 = .ok (.sipush 7596, 3) := by decide +kernel
theorem D206_102 : decode (mB 206) 102 = .ok (.newarray .int, 2) := by decide +kernel
theorem D206_104 : decode (mB 206) 104 = .ok (.putfield 152, 3) := by decide +kernel
theorem D206_107 : decode (mB 206) 107 = .ok (.aload_n 0, 1) := by decide +kernel
theorem D206_108 : decode (mB 206) 108 = .ok (.bipush 80, 2) := by decide +kernel
theorem D206_110 : decode (mB 206) 110 = .ok (.newarray .int, 2) := by decide +kernel
theorem D206_112 : decode (mB 206) 112 = .ok (.putfield 155, 3) := by decide +kernel
theorem D206_115 : decode (mB 206) 115 = .ok (.aload_n 0, 1) := by decide +kernel
theorem D206_116 : decode (mB 206) 116 = .ok (.bipush 80, 2) := by decide +kernel
theorem D206_118 : decode (mB 206) 118 = .ok (.newarray .int, 2) := by decide +kernel
theorem D206_120 : decode (mB 206) 120 = .ok (.putfield 158, 3) := by decide +kernel
theorem D206_123 : decode (mB 206) 123 = .ok (.aload_n 0, 1) := by decide +kernel
theorem D206_124 : decode (mB 206) 124 = .ok (.bipush 80, 2) := by decide +kernel
theorem D206_126 : decode (mB 206) 126 = .ok (.newarray .int, 2) := by decide +kernel
theorem D206_128 : decode (mB 206) 128 = .ok (.putfield 161, 3) := by decide +kernel
theorem D206_131 : decode (mB 206) 131 = .ok (.aload_n 0, 1) := by decide +kernel
theorem D206_132 : decode (mB 206) 132 = .ok (.bipush 80, 2) := by decide +kernel
theorem D206_134 : decode (mB 206) 134 = .ok (.newarray .int, 2) := by decide +kernel
theorem D206_136 : decode (mB 206) 136 = .ok (.putfield 164, 3) := by decide +kernel
theorem D206_139 : decode (mB 206) 139 = .ok (.aload_n 0, 1) := by decide +kernel
theorem D206_140 : decode (mB 206) 140 = .ok (.bipush 80, 2) := by decide +kernel
theorem D206_142 : decode (mB 206) 142 = .ok (.newarray .int, 2) := by decide +kernel
theorem D206_144 : decode (mB 206) 144 = .ok (.putfield 167, 3) := by decide +kernel
theorem D206_147 : decode (mB 206) 147 = .ok (.aload_n 0, 1) := by decide +kernel
theorem D206_148 : decode (mB 206) 148 = .ok (.iconst 4, 1) := by decide +kernel
theorem D206_149 : decode (mB 206) 149 = .ok (.newarray .int, 2) := by decide +kernel
theorem D206_151 : decode (mB 206) 151 = .ok (.putfield 170, 3) := by decide +kernel
theorem D206_154 : decode (mB 206) 154 = .ok (.aload_n 0, 1) := by decide +kernel
theorem D206_155 : decode (mB 206) 155 = .ok (.iconst 5, 1) := by decide +kernel
theorem D206_156 : decode (mB 206) 156 = .ok (.newarray .int, 2) := by decide +kernel
theorem D206_158 : decode (mB 206) 158 = .ok (.putfield 173, 3) := by decide +kernel
theorem D206_161 : decode (mB 206) 161 = .ok (.aload_n 0, 1) := by decide +kernel
theorem D206_162 : decode (mB 206) 162 = .ok (.bipush 12, 2) := by decide +kernel
theorem D206_164 : decode (mB 206) 164 = .ok (.newarray .int, 2) := by decide +kernel
theorem D206_166 : decode (mB 206) 166 = .ok (.putfield 176, 3) := by decide +kernel
theorem D206_169 : decode (mB 206) 169 = .ok (.aload_n 0, 1) := by decide +kernel
theorem D206_170 : decode (mB 206) 170 = .ok (.bipush 12, 2) := by decide +kernel
theorem D206_172 : decode (mB 206) 172 = .ok (.newarray .int, 2) := by decide +kernel
theorem D206_174 : decode (mB 206) 174 = .ok (.putfield 179, 3) := by decide +kernel
theorem D206_177 : decode (mB 206) 177 = .ok (.aload_n 0, 1) := by decide +kernel
theorem D206_178 : decode (mB 206) 178 = .ok (.bipush 41, 2) := by decide +kernel
theorem D206_180 : decode (mB 206) 180 = .ok (.newarray .int, 2) := by decide +kernel
theorem D206_182 : decode (mB 206) 182 = .ok (.putfield 182, 3) := by decide +kernel
theorem D206_185 : decode (mB 206) 185 = .ok (.aload_n 0, 1) := by decide +kernel
theorem D206_186 : decode (mB 206) 186 = .ok (.bipush 80, 2) := by decide +kernel
theorem D206_188 : decode (mB 206) 188 = .ok (.newarray .int, 2) := by decide +kernel
theorem D206_190 : decode (mB 206) 190 = .ok (.putfield 185, 3) := by decide +kernel
theorem D206_193 : decode (mB 206) 193 = .ok (.aload_n 0, 1) := by decide +kernel
theorem D206_194 : decode (mB 206) 194 = .ok (.iconst 2, 1) := by decide +kernel
theorem D206_195 : decode (mB 206) 195 = .ok (.newarray .boolean, 2) := by decide +kernel
theorem D206_197 : decode (mB 206) 197 = .ok (.putfield 188, 3) := by decide +kernel
theorem D206_200 : decode (mB 206) 200 = .ok (.aload_n 0, 1) := by decide +kernel
theorem D206_201 : decode (mB 206) 201 = .ok (.iconst 2, 1) := by decide +kernel
theorem D206_202 : decode (mB 206) 202 = .ok (.newarray .int, 2) := by decide +kernel
theorem D206_204 : decode (mB 206) 204 = .ok (.putfield 192, 3) := by decide +kernel
theorem D206_207 : decode (mB 206) 207 = .ok (.aload_n 0, 1) := by decide +kernel
theorem D206_208 : decode (mB 206) 208 = .ok (.sipush 1688, 3) := by decide +kernel
theorem D206_211 : decode (mB 206) 211 = .ok (.newarray .int, 2) := by decide +kernel
theorem D206_213 : decode (mB 206) 213 = .ok (.putfield 195, 3) := by decide +kernel
theorem D206_216 : decode (mB 206) 216 = .ok (.iconst 1, 1) := by decide +kernel
theorem D206_217 : decode (mB 206) 217 = .ok (.istore_n 1, 1) := by decide +kernel
theorem D206_218 : decode (mB 206) 218 = .ok (.iload_n 1, 1) := by decide +kernel
theorem D206_219 : decode (mB 206) 219 = .ok (.iconst 4, 1) := by decide +kernel
theorem D206_220 : decode (mB 206) 220 = .ok (.if_icmp .ge 35, 3) := by decide +kernel
theorem D206_223 : decode (mB 206) 223 = .ok (.aload_n 0, 1) := by decide +kernel
theorem D206_224 : decode (mB 206) 224 = .ok (.getfield 146, 3) := by decide +kernel
theorem D206_227 : decode (mB 206) 227 = .ok (.sipush 814, 3) := by decide +kernel
theorem D206_230 : decode (mB 206) 230 = .ok (.iload_n 1, 1) := by decide +kernel
theorem D206_231 : decode (mB 206) 231 = .ok (.iadd, 1) := by decide +kernel
theorem D206_232 : decode (mB 206) 232 = .ok (.iconst 4, 1) := by decide +kernel
theorem D206_233 : decode (mB 206) 233 = .ok (.iload_n 1, 1) := by decide +kernel
theorem D206_234 : decode (mB 206) 234 = .ok (.isub, 1) := by decide +kernel
theorem D206_235 : decode (mB 206) 235 = .ok (.iastore, 1) := by decide +kernel
theorem D206_236 : decode (mB 206) 236 = .ok (.aload_n 0, 1) := by decide +kernel
theorem D206_237 : decode (mB 206) 237 = .ok (.getfield 146, 3) := by decide +kernel
theorem D206_240 : decode (mB 206) 240 = .ok (.sipush 818, 3) := by decide +kernel
theorem D206_243 : decode (mB 206) 243 = .ok (.iload_n 1, 1) := by decide +kernel
theorem D206_244 : decode (mB 206) 244 = .ok (.iadd, 1) := by decide +kernel
theorem D206_245 : decode (mB 206) 245 = .ok (.iconst 4, 1) := by decide +kernel
theorem D206_246 : decode (mB 206) 246 = .ok (.iload_n 1, 1) := by decide +kernel
theorem D206_247 : decode (mB 206) 247 = .ok (.isub, 1) := by decide +kernel
theorem D206_248 : decode (mB 206) 248 = .ok (.iastore, 1) := by decide +kernel
theorem D206_249 : decode (mB 206) 249 = .ok (.iinc 1 1, 3) := by decide +kernel
theorem D206_252 : decode (mB 206) 252 = .ok (.goto (-34), 3) := by decide +kernel
theorem D206_255 : decode (mB 206) 255 = .ok (.iconst 0, 1) := by decide +kernel
theorem D206_256 : decode (mB 206) 256 = .ok (.istore_n 1, 1) := by decide +kernel
theorem D206_257 : decode (mB 206) 257 = .ok (.iload_n 1, 1) := by decide +kernel
theorem D206_258 : decode (mB 206) 258 = .ok (.iconst 4, 1) := by decide +kernel
theorem D206_259 : decode (mB 206) 259 = .ok (.if_icmp .ge 20, 3) := by decide +kernel
theorem D206_262 : decode (mB 206) 262 = .ok (.aload_n 0, 1) := by decide +kernel
theorem D206_263 : decode (mB 206) 263 = .ok (.getfield 146, 3) := by decide +kernel
theorem D206_266 : decode (mB 206) 266 = .ok (.sipush 822, 3) := by decide +kernel
theorem D206_269 : decode (mB 206) 269 = .ok (.iload_n 1, 1) := by decide +kernel
theorem D206_270 : decode (mB 206) 270 = .ok (.iadd, 1) := by decide +kernel
theorem D206_271 : decode (mB 206) 271 = .ok (.iconst 4, 1) := by decide +kernel
theorem D206_272 : decode (mB 206) 272 = .ok (.iastore, 1) := by decide +kernel
theorem D206_273 : decode (mB 206) 273 = .ok (.iinc 1 1, 3) := by decide +kernel
theorem D206_276 : decode (mB 206) 276 = .ok (.goto (-19), 3) := by decide +kernel
theorem D206_279 : decode (mB 206) 279 = .ok (.aload_n 0, 1) := by decide +kernel
theorem D206_280 : decode (mB 206) 280 = .ok (.getfield 146, 3) := by decide +kernel
theorem D206_283 : decode (mB 206) 283 = .ok (.sipush 826, 3) := by decide +kernel
theorem D206_286 : decode (mB 206) 286 = .ok (.iconst 2, 1) := by decide +kernel
theorem D206_287 : decode (mB 206) 287 = .ok (.iastore, 1) := by decide +kernel
theorem D206_288 : decode (mB 206) 288 = .ok (.return_, 1) := by decide +kernel
theorem D207_0 : decode (mB 207) 0 = .ok (.aload_n 0, 1) := by decide +kernel
theorem D207_1 : decode (mB 207) 1 = .ok (.iconst 0, 1) := by decide +kernel
theorem D207_2 : decode (mB 207) 2 = .ok (.putfield 3, 3) := by decide +kernel
theorem D207_5 : decode (mB 207) 5 = .ok (.aload_n 0, 1) := by decide +kernel
theorem D207_6 : decode (mB 207) 6 = .ok (.bipush 80, 2) := by decide +kernel
theorem D207_8 : decode (mB 207) 8 = .ok (.invokevirtual 98, 3) := by decide +kernel
theorem D207_11 : decode (mB 207) 11 = .ok (.pop, 1) := by decide +kernel
theorem D207_12 : decode (mB 207) 12 = .ok (.aload_n 0, 1) := by decide +kernel
theorem D207_13 : decode (mB 207) 13 = .ok (.iconst 2, 1) := by decide +kernel
theorem D207_14 : decode (mB 207) 14 = .ok (.bipush 8, 2) := by decide +kernel
theorem D207_16 : decode (mB 207) 16 = .ok (.invokevirtual 201, 3) := by decide +kernel
theorem D207_19 : decode (mB 207) 19 = .ok (.istore_n 1, 1) := by decide +kernel
theorem D207_20 : decode (mB 207) 20 = .ok (.iload_n 1, 1) := by decide +kernel
theorem D207_21 : decode (mB 207) 21 = .ok (.ifCond .ge 7, 3) := by decide +kernel
theorem D207_24 : decode (mB 207) 24 = .ok (.iconst (-1), 1) := by decide +kernel
theorem D207_25 : decode (mB 207) 25 = .ok (.goto 10, 3) := by decide +kernel
theorem D207_28 : decode (mB 207) 28 = .ok (.aload_n 0, 1) := by decide +kernel
theorem D207_29 : decode (mB 207) 29 = .ok (.iconst 2, 1) := by decide +kernel
theorem D207_30 : decode (mB 207) 30 = .ok (.bipush 8, 2) := by decide +kernel
theorem D207_32 : decode (mB 207) 32 = .ok (.invokevirtual 201, 3) := by decide +kernel
theorem D207_35 : decode (mB 207) 35 = .ok (.istore_n 2, 1) := by decide +kernel
theorem D207_36 : decode (mB 207) 36 = .ok (.iload_n 2, 1) := by decide +kernel
theorem D207_37 : decode (mB 207) 37 = .ok (.ifCond .ge 7, 3) := by decide +kernel
theorem D207_40 : decode (mB 207) 40 = .ok (.iconst (-1), 1) := by decide +kernel
theorem D207_41 : decode (mB 207) 41 = .ok (.goto 9, 3) := by decide +kernel
theorem D207_44 : decode (mB 207) 44 = .ok (.aload_n 0, 1) := by decide +kernel
theorem D207_45 : decode (mB 207) 45 = .ok (.ldc 204, 2) := by decide +kernel
theorem D207_47 : decode (mB 207) 47 = .ok (.invokevirtual 85, 3) := by decide +kernel
theorem D207_50 : decode (mB 207) 50 = .ok (.istore_n 3, 1) := by decide +kernel
theorem D207_51 : decode (mB 207) 51 = .ok (.iload_n 3, 1) := by decide +kernel
theorem D207_52 : decode (mB 207) 52 = .ok (.ifCond .ge 10, 3) := by decide +kernel
theorem D207_55 : decode (mB 207) 55 = .ok (.iconst (-1), 1) := by decide +kernel
theorem D207_56 : decode (mB 207) 56 = .ok (.aload_n 0, 1) := by decide +kernel
theorem D207_57 : decode (mB 207) 57 = .ok (.getfield 25, 3) := by decide +kernel
theorem D207_60 : decode (mB 207) 60 = .ok (.isub, 1) := by decide +kernel
theorem D207_61 : decode (mB 207) 61 = .ok (.ireturn, 1) := by decide +kernel
theorem D207_62 : decode (mB 207) 62 = .ok (.aload_n 0, 1) := by decide +kernel
theorem D207_63 : decode (mB 207) 63 = .ok (.bipush 115, 2) := by decide +kernel
theorem D207_65 : decode (mB 207) 65 = .ok (.invokevirtual 72, 3) := by decide +kernel
theorem D207_68 : decode (mB 207) 68 = .ok (.istore 4, 2) := by decide +kernel
theorem D207_70 : decode (mB 207) 70 = .ok (.aload_n 0, 1) := by decide +kernel
theorem D207_71 : decode (mB 207) 71 = .ok (.getfield 25, 3) := by decide +kernel
theorem D207_74 : decode (mB 207) 74 = .ok (.aload_n 0, 1) := by decide +kernel
theorem D207_75 : decode (mB 207) 75 = .ok (.getfield 37, 3) := by decide +kernel
theorem D207_78 : decode (mB 207) 78 = .ok (.if_icmp .ge 10, 3) := by decide +kernel
theorem D207_81 : decode (mB 207) 81 = .ok (.iconst (-1), 1) := by decide +kernel
theorem D207_82 : decode (mB 207) 82 = .ok (.aload_n 0, 1) := by decide +kernel
theorem D207_83 : decode (mB 207) 83 = .ok (.getfield 25, 3) := by decide +kernel
theorem D207_86 : decode (mB 207) 86 = .ok (.isub, 1) := by decide +kernel
theorem D207_87 : decode (mB 207) 87 = .ok (.ireturn, 1) := by decide +kernel
theorem D207_88 : decode (mB 207) 88 = .ok (.aload_n 0, 1) := by decide +kernel
theorem D207_89 : decode (mB 207) 89 = .ok (.getfield 198, 3) := by decide +kernel
theorem D207_92 : decode (mB 207) 92 = .ok (.iconst 5, 1) := by decide +kernel
theorem D207_93 : decode (mB 207) 93 = .ok (.if_icmp .ne 6, 3) := by decide +kernel
theorem D207_96 : decode (mB 207) 96 = .ok (.bipush (-100), 2) := by decide +kernel
theorem D207_98 : decode (mB 207) 98 = .ok (.ireturn, 1) := by decide +kernel
theorem D207_99 : decode (mB 207) 99 = .ok (.aload_n 0, 1) := by decide +kernel
theorem D207_100 : decode (mB 207) 100 = .ok (.getfield 134, 3) := by decide +kernel
theorem D207_103 : decode (mB 207) 103 = .ok (.aload_n 0, 1) := by decide +kernel
theorem D207_104 : decode (mB 207) 104 = .ok (.getfield 198, 3) := by decide +kernel
theorem D207_107 : decode (mB 207) 107 = .ok (.iload_n 1, 1) := by decide +kernel
theorem D207_108 : decode (mB 207) 108 = .ok (.iastore, 1) := by decide +kernel
theorem D207_109 : decode (mB 207) 109 = .ok (.aload_n 0, 1) := by decide +kernel
theorem D207_110 : decode (mB 207) 110 = .ok (.getfield 137, 3) := by decide +kernel
theorem D207_113 : decode (mB 207) 113 = .ok (.aload_n 0, 1) := by decide +kernel
theorem D207_114 : decode (mB 207) 114 = .ok (.getfield 198, 3) := by decide +kernel
theorem D207_117 : decode (mB 207) 117 = .ok (.iload_n 2, 1) := by decide +kernel
theorem D207_118 : decode (mB 207) 118 = .ok (.iastore, 1) := by decide +kernel
theorem D207_119 : decode (mB 207) 119 = .ok (.aload_n 0, 1) := by decide +kernel
theorem D207_120 : decode (mB 207) 120 = .ok (.getfield 140, 3) := by decide +kernel
theorem D207_123 : decode (mB 207) 123 = .ok (.aload_n 0, 1) := by decide +kernel
theorem D207_124 : decode (mB 207) 124 = .ok (.getfield 198, 3) := by decide +kernel
theorem D207_127 : decode (mB 207) 127 = .ok (.iload_n 3, 1) := by decide +kernel
theorem D207_128 : decode (mB 207) 128 = .ok (.iastore, 1) := by decide +kernel
theorem D207_129 : decode (mB 207) 129 = .ok (.aload_n 0, 1) := by decide +kernel
theorem D207_130 : decode (mB 207) 130 = .ok (.getfield 143, 3) := by decide +kernel
theorem D207_133 : decode (mB 207) 133 = .ok (.aload_n 0, 1) := by decide +kernel
theorem D207_134 : decode (mB 207) 134 = .ok (.getfield 198, 3) := by decide +kernel
theorem D207_137 : decode (mB 207) 137 = .ok (.iload 4, 2) := by decide +kernel
theorem D207_139 : decode (mB 207) 139 = .ok (.invokestatic 40, 3) := by decide +kernel
theorem D207_142 : decode (mB 207) 142 = .ok (.iastore, 1) := by decide +kernel
theorem D207_143 : decode (mB 207) 143 = .ok (.aload_n 0, 1) := by decide +kernel
theorem D207_144 : decode (mB 207) 144 = .ok (.dup, 1) := by decide +kernel
theorem D207_145 : decode (mB 207) 145 = .ok (.getfield 198, 3) := by decide +kernel
theorem D207_148 : decode (mB 207) 148 = .ok (.iconst 1, 1) := by decide +kernel
theorem D207_149 : decode (mB 207) 149 = .ok (.iadd, 1) := by decide +kernel
theorem D207_150 : decode (mB 207) 150 = .ok (.putfield 198, 3) := by decide +kernel
theorem D207_153 : decode (mB 207) 153 = .ok (.aload_n 0, 1) := by decide +kernel
theorem D207_154 : decode (mB 207) 154 = .ok (.iconst 0, 1) := by decide +kernel
theorem D207_155 : decode (mB 207) 155 = .ok (.putfield 206, 3) := by decide +kernel
theorem D207_158 : decode (mB 207) 158 = .ok (.aload_n 0, 1) := by decide +kernel
theorem D207_159 : decode (mB 207) 159 = .ok (.dup, 1) := by decide +kernel
theorem D207_160 : decode (mB 207) 160 = .ok (.getfield 209, 3) := by decide +kernel
theorem D207_163 : decode (mB 207) 163 = .ok (.iconst 1, 1) := by decide +kernel
theorem D207_164 : decode (mB 207) 164 = .ok (.iadd, 1) := by decide +kernel
theorem D207_165 : decode (mB 207) 165 = .ok (.putfield 209, 3) := by decide +kernel
theorem D207_168 : decode (mB 207) 168 = .ok (.aload_n 0, 1) := by decide +kernel
theorem D207_169 : decode (mB 207) 169 = .ok (.getfield 198, 3) := by decide +kernel
theorem D207_172 : decode (mB 207) 172 = .ok (.iconst 1, 1) := by decide +kernel
theorem D207_173 : decode (mB 207) 173 = .ok (.isub, 1) := by decide +kernel
theorem D207_174 : decode (mB 207) 174 = .ok (.ireturn, 1) := by decide +kernel
theorem D208_0 : decode (mB 208) 0 = .ok (.aload_n 0, 1) := by decide +kernel
theorem D208_1 : decode (mB 208) 1 = .ok (.getfield 25, 3) := by decide +kernel
theorem D208_4 : decode (mB 208) 4 = .ok (.aload_n 0, 1) := by decide +kernel
theorem D208_5 : decode (mB 208) 5 = .ok (.getfield 37, 3) := by decide +kernel
theorem D208_8 : decode (mB 208) 8 = .ok (.if_icmp .ge 26, 3) := by decide +kernel
theorem D208_11 : decode (mB 208) 11 = .ok (.aload_n 0, 1) := by decide +kernel
theorem D208_12 : decode (mB 208) 12 = .ok (.getfield 17, 3) := by decide +kernel
theorem D208_15 : decode (mB 208) 15 = .ok (.aload_n 0, 1) := by decide +kernel
theorem D208_16 : decode (mB 208) 16 = .ok (.getfield 25, 3) := by decide +kernel
theorem D208_19 : decode (mB 208) 19 = .ok (.iaload, 1) := by decide +kernel
theorem D208_20 : decode (mB 208) 20 = .ok (.bipush 48, 2) := by decide +kernel
theorem D208_22 : decode (mB 208) 22 = .ok (.isub, 1) := by decide +kernel
theorem D208_23 : decode (mB 208) 23 = .ok (.i2l, 1) := by decide +kernel
theorem D208_24 : decode (mB 208) 24 = .ok (.iload_n 1, 1) := by decide +kernel
theorem D208_25 : decode (mB 208) 25 = .ok (.i2l, 1) := by decide +kernel
theorem D208_26 : decode (mB 208) 26 = .ok (.iload_n 2, 1) := by decide +kernel
theorem D208_27 : decode (mB 208) 27 = .ok (.i2l, 1) := by decide +kernel
theorem D208_28 : decode (mB 208) 28 = .ok (.invokestatic 21, 3) := by decide +kernel
theorem D208_31 : decode (mB 208) 31 = .ok (.ifCond .ne 5, 3) := by decide +kernel
theorem D208_34 : decode (mB 208) 34 = .ok (.iconst (-1), 1) := by decide +kernel
theorem D208_35 : decode (mB 208) 35 = .ok (.ireturn, 1) := by decide +kernel
theorem D208_36 : decode (mB 208) 36 = .ok (.aload_n 0, 1) := by decide +kernel
theorem D208_37 : decode (mB 208) 37 = .ok (.dup, 1) := by decide +kernel
theorem D208_38 : decode (mB 208) 38 = .ok (.getfield 25, 3) := by decide +kernel
theorem D208_41 : decode (mB 208) 41 = .ok (.iconst 1, 1) := by decide +kernel
theorem D208_42 : decode (mB 208) 42 = .ok (.iadd, 1) := by decide +kernel
theorem D208_43 : decode (mB 208) 43 = .ok (.putfield 25, 3) := by decide +kernel
theorem D208_46 : decode (mB 208) 46 = .ok (.aload_n 0, 1) := by decide +kernel
theorem D208_47 : decode (mB 208) 47 = .ok (.getfield 17, 3) := by decide +kernel
theorem D208_50 : decode (mB 208) 50 = .ok (.aload_n 0, 1) := by decide +kernel
theorem D208_51 : decode (mB 208) 51 = .ok (.getfield 25, 3) := by decide +kernel
theorem D208_54 : decode (mB 208) 54 = .ok (.iconst 1, 1) := by decide +kernel
theorem D208_55 : decode (mB 208) 55 = .ok (.isub, 1) := by decide +kernel
theorem D208_56 : decode (mB 208) 56 = .ok (.iaload, 1) := by decide +kernel
theorem D208_57 : decode (mB 208) 57 = .ok (.bipush 48, 2) := by decide +kernel
theorem D208_59 : decode (mB 208) 59 = .ok (.isub, 1) := by decide +kernel
theorem D208_60 : decode (mB 208) 60 = .ok (.ireturn, 1) := by decide +kernel
theorem D209_0 : decode (mB 209) 0 = .ok (.aload_n 0, 1) := by decide +kernel
theorem D209_1 : decode (mB 209) 1 = .ok (.iconst 0, 1) := by decide +kernel
theorem D209_2 : decode (mB 209) 2 = .ok (.putfield 3, 3) := by decide +kernel
theorem D209_5 : decode (mB 209) 5 = .ok (.aload_n 0, 1) := by decide +kernel
theorem D209_6 : decode (mB 209) 6 = .ok (.iload_n 1, 1) := by decide +kernel
theorem D209_7 : decode (mB 209) 7 = .ok (.invokevirtual 212, 3) := by decide +kernel
theorem D209_10 : decode (mB 209) 10 = .ok (.ifCond .eq 15, 3) := by decide +kernel
theorem D209_13 : decode (mB 209) 13 = .ok (.iload_n 2, 1) := by decide +kernel
theorem D209_14 : decode (mB 209) 14 = .ok (.i2l, 1) := by decide +kernel
theorem D209_15 : decode (mB 209) 15 = .ok (.lconst 0, 1) := by decide +kernel
theorem D209_16 : decode (mB 209) 16 = .ok (.ldc2_w 215, 3) := by decide +kernel
theorem D209_19 : decode (mB 209) 19 = .ok (.invokestatic 21, 3) := by decide +kernel
theorem D209_22 : decode (mB 209) 22 = .ok (.ifCond .ne 8, 3) := by decide +kernel
theorem D209_25 : decode (mB 209) 25 = .ok (.aload_n 0, 1) := by decide +kernel
theorem D209_26 : decode (mB 209) 26 = .ok (.invokevirtual 217, 3) := by decide +kernel
theorem D209_29 : decode (mB 209) 29 = .ok (.ireturn, 1) := by decide +kernel
theorem D209_30 : decode (mB 209) 30 = .ok (.iload_n 2, 1) := by decide +kernel
theorem D209_31 : decode (mB 209) 31 = .ok (.tableswitch 57 0 3 #[29, 36, 43, 50], 29) := by decide +kernel
theorem D209_60 : decode (mB 209) 60 = .ok (.aload_n 0, 1) := by decide +kernel
theorem D209_61 : decode (mB 209) 61 = .ok (.getfield 134, 3) := by decide +kernel
theorem D209_64 : decode (mB 209) 64 = .ok (.iload_n 1, 1) := by decide +kernel
theorem D209_65 : decode (mB 209) 65 = .ok (.iaload, 1) := by decide +kernel
theorem D209_66 : decode (mB 209) 66 = .ok (.ireturn, 1) := by decide +kernel
theorem D209_67 : decode (mB 209) 67 = .ok (.aload_n 0, 1) := by decide +kernel
theorem D209_68 : decode (mB 209) 68 = .ok (.getfield 137, 3) := by decide +kernel
theorem D209_71 : decode (mB 209) 71 = .ok (.iload_n 1, 1) := by decide +kernel
theorem D209_72 : decode (mB 209) 72 = .ok (.iaload, 1) := by decide +kernel
theorem D209_73 : decode (mB 209) 73 = .ok (.ireturn, 1) := by decide +kernel
theorem D209_74 : decode (mB 209) 74 = .ok (.aload_n 0, 1) := by decide +kernel
theorem D209_75 : decode (mB 209) 75 = .ok (.getfield 140, 3) := by decide +kernel
theorem D209_78 : decode (mB 209) 78 = .ok (.iload_n 1, 1) := by decide +kernel
theorem D209_79 : decode (mB 209) 79 = .ok (.iaload, 1) := by decide +kernel
theorem D209_80 : decode (mB 209) 80 = .ok (.ireturn, 1) := by decide +kernel
theorem D209_81 : decode (mB 209) 81 = .ok (.aload_n 0, 1) := by decide +kernel
theorem D209_82 : decode (mB 209) 82 = .ok (.getfield 143, 3) := by decide +kernel
theorem D209_85 : decode (mB 209) 85 = .ok (.iload_n 1, 1) := by decide +kernel
theorem D209_86 : decode (mB 209) 86 = .ok (.iaload, 1) := by decide +kernel
theorem D209_87 : decode (mB 209) 87 = .ok (.ireturn, 1) := by decide +kernel
theorem D209_88 : decode (mB 209) 88 = .ok (.aload_n 0, 1) := by decide +kernel
theorem D209_89 : decode (mB 209) 89 = .ok (.getfield 146, 3) := by decide +kernel
theorem D209_92 : decode (mB 209) 92 = .ok (.iload_n 1, 1) := by decide +kernel
theorem D209_93 : decode (mB 209) 93 = .ok (.iload_n 2, 1) := by decide +kernel
theorem D209_94 : decode (mB 209) 94 = .ok (.iconst 4, 1) := by decide +kernel
theorem D209_95 : decode (mB 209) 95 = .ok (.isub, 1) := by decide +kernel
theorem D209_96 : decode (mB 209) 96 = .ok (.invokestatic 220, 3) := by decide +kernel
theorem D209_99 : decode (mB 209) 99 = .ok (.ireturn, 1) := by decide +kernel
theorem D210_0 : decode (mB 210) 0 = .ok (.iload_n 1, 1) := by decide +kernel
theorem D210_1 : decode (mB 210) 1 = .ok (.i2l, 1) := by decide +kernel
theorem D210_2 : decode (mB 210) 2 = .ok (.lconst 0, 1) := by decide +kernel
theorem D210_3 : decode (mB 210) 3 = .ok (.aload_n 0, 1) := by decide +kernel
theorem D210_4 : decode (mB 210) 4 = .ok (.getfield 198, 3) := by decide +kernel
theorem D210_7 : decode (mB 210) 7 = .ok (.iconst 1, 1) := by decide +kernel
theorem D210_8 : decode (mB 210) 8 = .ok (.isub, 1) := by decide +kernel
theorem D210_9 : decode (mB 210) 9 = .ok (.i2l, 1) := by decide +kernel
theorem D210_10 : decode (mB 210) 10 = .ok (.invokestatic 21, 3) := by decide +kernel
theorem D210_13 : decode (mB 210) 13 = .ok (.ireturn, 1) := by decide +kernel
theorem D211_0 : decode (mB 211) 0 = .ok (.aload_n 0, 1) := by decide +kernel
theorem D211_1 : decode (mB 211) 1 = .ok (.iconst 1, 1) := by decide +kernel
theorem D211_2 : decode (mB 211) 2 = .ok (.putfield 3, 3) := by decide +kernel
theorem D211_5 : decode (mB 211) 5 = .ok (.iconst 0, 1) := by decide +kernel
theorem D211_6 : decode (mB 211) 6 = .ok (.ireturn, 1) := by decide +kernel
theorem D212_0 : decode (mB 212) 0 = .ok (.aload_n 0, 1) := by decide +kernel
theorem D212_1 : decode (mB 212) 1 = .ok (.bipush 89, 2) := by decide +kernel
theorem D212_3 : decode (mB 212) 3 = .ok (.iload_n 1, 1) := by decide +kernel
theorem D212_4 : decode (mB 212) 4 = .ok (.imul, 1) := by decide +kernel
theorem D212_5 : decode (mB 212) 5 = .ok (.iload_n 2, 1) := by decide +kernel
theorem D212_6 : decode (mB 212) 6 = .ok (.iadd, 1) := by decide +kernel
theorem D212_7 : decode (mB 212) 7 = .ok (.iaload, 1) := by decide +kernel
theorem D212_8 : decode (mB 212) 8 = .ok (.ireturn, 1) := by decide +kernel
theorem D213_0 : decode (mB 213) 0 = .ok (.aload_n 0, 1) := by decide +kernel
theorem D213_1 : decode (mB 213) 1 = .ok (.iconst 0, 1) := by decide +kernel
theorem D213_2 : decode (mB 213) 2 = .ok (.putfield 3, 3) := by decide +kernel
theorem D213_5 : decode (mB 213) 5 = .ok (.iload_n 1, 1) := by decide +kernel
theorem D213_6 : decode (mB 213) 6 = .ok (.i2l, 1) := by decide +kernel
theorem D213_7 : decode (mB 213) 7 = .ok (.lconst 0, 1) := by decide +kernel
theorem D213_8 : decode (mB 213) 8 = .ok (.ldc2_w 224, 3) := by decide +kernel
theorem D213_11 : decode (mB 213) 11 = .ok (.invokestatic 21, 3) := by decide +kernel
theorem D213_14 : decode (mB 213) 14 = .ok (.ifCond .eq 9, 3) := by decide +kernel
theorem D213_17 : decode (mB 213) 17 = .ok (.iload_n 2, 1) := by decide +kernel
theorem D213_18 : decode (mB 213) 18 = .ok (.bipush 10, 2) := by decide +kernel
theorem D213_20 : decode (mB 213) 20 = .ok (.if_icmp .le 5, 3) := by decide +kernel
theorem D213_23 : decode (mB 213) 23 = .ok (.iconst (-1), 1) := by decide +kernel
theorem D213_24 : decode (mB 213) 24 = .ok (.ireturn, 1) := by decide +kernel
theorem D213_25 : decode (mB 213) 25 = .ok (.iload_n 1, 1) := by decide +kernel
theorem D213_26 : decode (mB 213) 26 = .ok (.iconst 3, 1) := by decide +kernel
theorem D213_27 : decode (mB 213) 27 = .ok (.if_icmp .eq 10, 3) := by decide +kernel
theorem D213_30 : decode (mB 213) 30 = .ok (.iload_n 2, 1) := by decide +kernel
theorem D213_31 : decode (mB 213) 31 = .ok (.ifCond .ge 6, 3) := by decide +kernel
theorem D213_34 : decode (mB 213) 34 = .ok (.bipush (-2), 2) := by decide +kernel
theorem D213_36 : decode (mB 213) 36 = .ok (.ireturn, 1) := by decide +kernel
theorem D213_37 : decode (mB 213) 37 = .ok (.iload_n 3, 1) := by decide +kernel
theorem D213_38 : decode (mB 213) 38 = .ok (.istore 5, 2) := by decide +kernel
theorem D213_40 : decode (mB 213) 40 = .ok (.iconst 0, 1) := by decide +kernel
theorem D213_41 : decode (mB 213) 41 = .ok (.istore 6, 2) := by decide +kernel
theorem D213_43 : decode (mB 213) 43 = .ok (.iload 6, 2) := by decide +kernel
theorem D213_45 : decode (mB 213) 45 = .ok (.bipush 10, 2) := by decide +kernel
theorem D213_47 : decode (mB 213) 47 = .ok (.if_icmp .ge 78, 3) := by decide +kernel
theorem D213_50 : decode (mB 213) 50 = .ok (.iload_n 1, 1) := by decide +kernel
theorem D213_51 : decode (mB 213) 51 = .ok (.ifCond .ne 9, 3) := by decide +kernel
theorem D213_54 : decode (mB 213) 54 = .ok (.iload 5, 2) := by decide +kernel
theorem D213_56 : decode (mB 213) 56 = .ok (.i2b, 1) := by decide +kernel
theorem D213_57 : decode (mB 213) 57 = .ok (.goto 16, 3) := by decide +kernel
theorem D213_60 : decode (mB 213) 60 = .ok (.iload_n 1, 1) := by decide +kernel
theorem D213_61 : decode (mB 213) 61 = .ok (.iconst 1, 1) := by decide +kernel
theorem D213_62 : decode (mB 213) 62 = .ok (.if_icmp .ne 9, 3) := by decide +kernel
theorem D213_65 : decode (mB 213) 65 = .ok (.iload 5, 2) := by decide +kernel
theorem D213_67 : decode (mB 213) 67 = .ok (.i2s, 1) := by decide +kernel
theorem D213_68 : decode (mB 213) 68 = .ok (.goto 5, 3) := by decide +kernel
theorem D213_71 : decode (mB 213) 71 = .ok (.iload 5, 2) := by decide +kernel
theorem D213_73 : decode (mB 213) 73 = .ok (.istore 7, 2) := by decide +kernel
theorem D213_75 : decode (mB 213) 75 = .ok (.aload_n 0, 1) := by decide +kernel
theorem D213_76 : decode (mB 213) 76 = .ok (.getfield 146, 3) := by decide +kernel
theorem D213_79 : decode (mB 213) 79 = .ok (.sipush 828, 3) := by decide +kernel
theorem D213_82 : decode (mB 213) 82 = .ok (.iload 6, 2) := by decide +kernel
theorem D213_84 : decode (mB 213) 84 = .ok (.iadd, 1) := by decide +kernel
theorem D213_85 : decode (mB 213) 85 = .ok (.iload_n 1, 1) := by decide +kernel
theorem D213_86 : decode (mB 213) 86 = .ok (.iconst 3, 1) := by decide +kernel
theorem D213_87 : decode (mB 213) 87 = .ok (.if_icmp .eq 9, 3) := by decide +kernel
theorem D213_90 : decode (mB 213) 90 = .ok (.iload 6, 2) := by decide +kernel
theorem D213_92 : decode (mB 213) 92 = .ok (.iload_n 2, 1) := by decide +kernel
theorem D213_93 : decode (mB 213) 93 = .ok (.if_icmp .lt 7, 3) := by decide +kernel
theorem D213_96 : decode (mB 213) 96 = .ok (.iconst 0, 1) := by decide +kernel
theorem D213_97 : decode (mB 213) 97 = .ok (.goto 14, 3) := by decide +kernel
theorem D213_100 : decode (mB 213) 100 = .ok (.iconst 0, 1) := by decide +kernel
theorem D213_101 : decode (mB 213) 101 = .ok (.bipush 99, 2) := by decide +kernel
theorem D213_103 : decode (mB 213) 103 = .ok (.iload 7, 2) := by decide +kernel
theorem D213_105 : decode (mB 213) 105 = .ok (.invokestatic 31, 3) := by decide +kernel
theorem D213_108 : decode (mB 213) 108 = .ok (.invokestatic 226, 3) := by decide +kernel
theorem D213_111 : decode (mB 213) 111 = .ok (.iastore, 1) := by decide +kernel
theorem D213_112 : decode (mB 213) 112 = .ok (.iload 5, 2) := by decide +kernel
theorem D213_114 : decode (mB 213) 114 = .ok (.iload 4, 2) := by decide +kernel
theorem D213_116 : decode (mB 213) 116 = .ok (.iadd, 1) := by decide +kernel
theorem D213_117 : decode (mB 213) 117 = .ok (.istore 5, 2) := by decide +kernel
theorem D213_119 : decode (mB 213) 119 = .ok (.iinc 6 1, 3) := by decide +kernel
theorem D213_122 : decode (mB 213) 122 = .ok (.goto (-79), 3) := by decide +kernel
theorem D213_125 : decode (mB 213) 125 = .ok (.iload_n 1, 1) := by decide +kernel
theorem D213_126 : decode (mB 213) 126 = .ok (.iconst 3, 1) := by decide +kernel
theorem D213_127 : decode (mB 213) 127 = .ok (.if_icmp .ne 8, 3) := by decide +kernel
theorem D213_130 : decode (mB 213) 130 = .ok (.bipush (-3), 2) := by decide +kernel
theorem D213_132 : decode (mB 213) 132 = .ok (.goto 10, 3) := by decide +kernel
theorem D213_135 : decode (mB 213) 135 = .ok (.aload_n 0, 1) := by decide +kernel
theorem D213_136 : decode (mB 213) 136 = .ok (.getfield 146, 3) := by decide +kernel
theorem D213_139 : decode (mB 213) 139 = .ok (.invokestatic 229, 3) := by decide +kernel
theorem D213_142 : decode (mB 213) 142 = .ok (.ireturn, 1) := by decide +kernel
theorem D214_0 : decode (mB 214) 0 = .ok (.iconst 0, 1) := by decide +kernel
theorem D214_1 : decode (mB 214) 1 = .ok (.istore_n 1, 1) := by decide +kernel
theorem D214_2 : decode (mB 214) 2 = .ok (.iconst 0, 1) := by decide +kernel
theorem D214_3 : decode (mB 214) 3 = .ok (.istore_n 2, 1) := by decide +kernel
theorem D214_4 : decode (mB 214) 4 = .ok (.iload_n 2, 1) := by decide +kernel
theorem D214_5 : decode (mB 214) 5 = .ok (.bipush 10, 2) := by decide +kernel
theorem D214_7 : decode (mB 214) 7 = .ok (.if_icmp .ge 19, 3) := by decide +kernel
theorem D214_10 : decode (mB 214) 10 = .ok (.iload_n 1, 1) := by decide +kernel
theorem D214_11 : decode (mB 214) 11 = .ok (.aload_n 0, 1) := by decide +kernel
theorem D214_12 : decode (mB 214) 12 = .ok (.sipush 828, 3) := by decide +kernel
theorem D214_15 : decode (mB 214) 15 = .ok (.iload_n 2, 1) := by decide +kernel
theorem D214_16 : decode (mB 214) 16 = .ok (.iadd, 1) := by decide +kernel
theorem D214_17 : decode (mB 214) 17 = .ok (.iaload, 1) := by decide +kernel
theorem D214_18 : decode (mB 214) 18 = .ok (.iadd, 1) := by decide +kernel
theorem D214_19 : decode (mB 214) 19 = .ok (.istore_n 1, 1) := by decide +kernel
theorem D214_20 : decode (mB 214) 20 = .ok (.iinc 2 1, 3) := by decide +kernel
theorem D214_23 : decode (mB 214) 23 = .ok (.goto (-19), 3) := by decide +kernel
theorem D214_26 : decode (mB 214) 26 = .ok (.iload_n 1, 1) := by decide +kernel
theorem D214_27 : decode (mB 214) 27 = .ok (.ireturn, 1) := by decide +kernel
theorem D215_0 : decode (mB 215) 0 = .ok (.aload_n 0, 1) := by decide +kernel
theorem D215_1 : decode (mB 215) 1 = .ok (.iconst 0, 1) := by decide +kernel
theorem D215_2 : decode (mB 215) 2 = .ok (.putfield 3, 3) := by decide +kernel
theorem D215_5 : decode (mB 215) 5 = .ok (.aload_n 0, 1) := by decide +kernel
theorem D215_6 : decode (mB 215) 6 = .ok (.getfield 206, 3) := by decide +kernel
theorem D215_9 : decode (mB 215) 9 = .ok (.ifCond .ne 5, 3) := by decide +kernel
theorem D215_12 : decode (mB 215) 12 = .ok (.iconst (-1), 1) := by decide +kernel
theorem D215_13 : decode (mB 215) 13 = .ok (.ireturn, 1) := by decide +kernel
theorem D215_14 : decode (mB 215) 14 = .ok (.aload_n 0, 1) := by decide +kernel
theorem D215_15 : decode (mB 215) 15 = .ok (.dup, 1) := by decide +kernel
theorem D215_16 : decode (mB 215) 16 = .ok (.getfield 206, 3) := by decide +kernel
theorem D215_19 : decode (mB 215) 19 = .ok (.iconst 1, 1) := by decide +kernel
theorem D215_20 : decode (mB 215) 20 = .ok (.isub, 1) := by decide +kernel
theorem D215_21 : decode (mB 215) 21 = .ok (.putfield 206, 3) := by decide +kernel
theorem D215_24 : decode (mB 215) 24 = .ok (.iconst 0, 1) := by decide +kernel
theorem D215_25 : decode (mB 215) 25 = .ok (.istore_n 1, 1) := by decide +kernel
theorem D215_26 : decode (mB 215) 26 = .ok (.iload_n 1, 1) := by decide +kernel
theorem D215_27 : decode (mB 215) 27 = .ok (.sipush 844, 3) := by decide +kernel
theorem D215_30 : decode (mB 215) 30 = .ok (.if_icmp .ge 30, 3) := by decide +kernel
theorem D215_33 : decode (mB 215) 33 = .ok (.aload_n 0, 1) := by decide +kernel
theorem D215_34 : decode (mB 215) 34 = .ok (.getfield 146, 3) := by decide +kernel
theorem D215_37 : decode (mB 215) 37 = .ok (.iload_n 1, 1) := by decide +kernel
theorem D215_38 : decode (mB 215) 38 = .ok (.aload_n 0, 1) := by decide +kernel
theorem D215_39 : decode (mB 215) 39 = .ok (.getfield 152, 3) := by decide +kernel
theorem D215_42 : decode (mB 215) 42 = .ok (.sipush 844, 3) := by decide +kernel
theorem D215_45 : decode (mB 215) 45 = .ok (.aload_n 0, 1) := by decide +kernel
theorem D215_46 : decode (mB 215) 46 = .ok (.getfield 206, 3) := by decide +kernel
theorem D215_49 : decode (mB 215) 49 = .ok (.imul, 1) := by decide +kernel
theorem D215_50 : decode (mB 215) 50 = .ok (.iload_n 1, 1) := by decide +kernel
theorem D215_51 : decode (mB 215) 51 = .ok (.iadd, 1) := by decide +kernel
theorem D215_52 : decode (mB 215) 52 = .ok (.iaload, 1) := by decide +kernel
theorem D215_53 : decode (mB 215) 53 = .ok (.iastore, 1) := by decide +kernel
theorem D215_54 : decode (mB 215) 54 = .ok (.iinc 1 1, 3) := by decide +kernel
theorem D215_57 : decode (mB 215) 57 = .ok (.goto (-31), 3) := by decide +kernel
theorem D215_60 : decode (mB 215) 60 = .ok (.aload_n 0, 1) := by decide +kernel
theorem D215_61 : decode (mB 215) 61 = .ok (.getfield 206, 3) := by decide +kernel
theorem D215_64 : decode (mB 215) 64 = .ok (.ireturn, 1) := by decide +kernel
theorem D216_0 : decode (mB 216) 0 = .ok (.aload_n 0, 1) := by decide +kernel
theorem D216_1 : decode (mB 216) 1 = .ok (.iconst 0, 1) := by decide +kernel
theorem D216_2 : decode (mB 216) 2 = .ok (.putfield 3, 3) := by decide +kernel
theorem D216_5 : decode (mB 216) 5 = .ok (.aload_n 0, 1) := by decide +kernel
theorem D216_6 : decode (mB 216) 6 = .ok (.invokevirtual 355, 3) := by decide +kernel
theorem D216_9 : decode (mB 216) 9 = .ok (.aload_n 0, 1) := by decide +kernel
theorem D216_10 : decode (mB 216) 10 = .ok (.aload_n 0, 1) := by decide +kernel
theorem D216_11 : decode (mB 216) 11 = .ok (.aload_n 0, 1) := by decide +kernel
theorem D216_12 : decode (mB 216) 12 = .ok (.getfield 146, 3) := by decide +kernel
theorem D216_15 : decode (mB 216) 15 = .ok (.iload_n 1, 1) := by decide +kernel
theorem D216_16 : decode (mB 216) 16 = .ok (.iload_n 2, 1) := by decide +kernel
theorem D216_17 : decode (mB 216) 17 = .ok (.iload_n 3, 1) := by decide +kernel
theorem D216_18 : decode (mB 216) 18 = .ok (.iload 4, 2) := by decide +kernel
theorem D216_20 : decode (mB 216) 20 = .ok (.invokevirtual 358, 3) := by decide +kernel
theorem D216_23 : decode (mB 216) 23 = .ok (.invokevirtual 362, 3) := by decide +kernel
theorem D216_26 : decode (mB 216) 26 = .ok (.ireturn, 1) := by decide +kernel
theorem D217_0 : decode (mB 217) 0 = .ok (.iconst 0, 1) := by decide +kernel
theorem D217_1 : decode (mB 217) 1 = .ok (.istore_n 1, 1) := by decide +kernel
theorem D217_2 : decode (mB 217) 2 = .ok (.iload_n 1, 1) := by decide +kernel
theorem D217_3 : decode (mB 217) 3 = .ok (.sipush 844, 3) := by decide +kernel
theorem D217_6 : decode (mB 217) 6 = .ok (.if_icmp .ge 30, 3) := by decide +kernel
theorem D217_9 : decode (mB 217) 9 = .ok (.aload_n 0, 1) := by decide +kernel
theorem D217_10 : decode (mB 217) 10 = .ok (.getfield 152, 3) := by decide +kernel
theorem D217_13 : decode (mB 217) 13 = .ok (.sipush 844, 3) := by decide +kernel
theorem D217_16 : decode (mB 217) 16 = .ok (.aload_n 0, 1) := by decide +kernel
theorem D217_17 : decode (mB 217) 17 = .ok (.getfield 206, 3) := by decide +kernel
theorem D217_20 : decode (mB 217) 20 = .ok (.imul, 1) := by decide +kernel
theorem D217_21 : decode (mB 217) 21 = .ok (.iload_n 1, 1) := by decide +kernel
theorem D217_22 : decode (mB 217) 22 = .ok (.iadd, 1) := by decide +kernel
theorem D217_23 : decode (mB 217) 23 = .ok (.aload_n 0, 1) := by decide +kernel
theorem D217_24 : decode (mB 217) 24 = .ok (.getfield 146, 3) := by decide +kernel
theorem D217_27 : decode (mB 217) 27 = .ok (.iload_n 1, 1) := by decide +kernel
theorem D217_28 : decode (mB 217) 28 = .ok (.iaload, 1) := by decide +kernel
theorem D217_29 : decode (mB 217) 29 = .ok (.iastore, 1) := by decide +kernel
theorem D217_30 : decode (mB 217) 30 = .ok (.iinc 1 1, 3) := by decide +kernel
theorem D217_33 : decode (mB 217) 33 = .ok (.goto (-31), 3) := by decide +kernel
theorem D217_36 : decode (mB 217) 36 = .ok (.return_, 1) := by decide +kernel
theorem D218_0 : decode (mB 218) 0 = .ok (.aload_n 0, 1) := by decide +kernel
theorem D218_1 : decode (mB 218) 1 = .ok (.iload_n 2, 1) := by decide +kernel
theorem D218_2 : decode (mB 218) 2 = .ok (.invokevirtual 212, 3) := by decide +kernel
theorem D218_5 : decode (mB 218) 5 = .ok (.ifCond .eq 41, 3) := by decide +kernel
theorem D218_8 : decode (mB 218) 8 = .ok (.iload_n 3, 1) := by decide +kernel
theorem D218_9 : decode (mB 218) 9 = .ok (.i2l, 1) := by decide +kernel
theorem D218_10 : decode (mB 218) 10 = .ok (.lconst 0, 1) := by decide +kernel
theorem D218_11 : decode (mB 218) 11 = .ok (.ldc2_w 268, 3) := by decide +kernel
theorem D218_14 : decode (mB 218) 14 = .ok (.invokestatic 21, 3) := by decide +kernel
theorem D218_17 : decode (mB 218) 17 = .ok (.ifCond .eq 29, 3) := by decide +kernel
theorem D218_20 : decode (mB 218) 20 = .ok (.iload 4, 2) := by decide +kernel
theorem D218_22 : decode (mB 218) 22 = .ok (.i2l, 1) := by decide +kernel
theorem D218_23 : decode (mB 218) 23 = .ok (.lconst 0, 1) := by decide +kernel
theorem D218_24 : decode (mB 218) 24 = .ok (.ldc2_w 270, 3) := by decide +kernel
theorem D218_27 : decode (mB 218) 27 = .ok (.invokestatic 21, 3) := by decide +kernel
theorem D218_30 : decode (mB 218) 30 = .ok (.ifCond .eq 16, 3) := by decide +kernel
theorem D218_33 : decode (mB 218) 33 = .ok (.iload 5, 2) := by decide +kernel
theorem D218_35 : decode (mB 218) 35 = .ok (.i2l, 1) := by decide +kernel
theorem D218_36 : decode (mB 218) 36 = .ok (.lconst 0, 1) := by decide +kernel
theorem D218_37 : decode (mB 218) 37 = .ok (.ldc2_w 272, 3) := by decide +kernel
theorem D218_40 : decode (mB 218) 40 = .ok (.invokestatic 21, 3) := by decide +kernel
theorem D218_43 : decode (mB 218) 43 = .ok (.ifCond .ne 5, 3) := by decide +kernel
theorem D218_46 : decode (mB 218) 46 = .ok (.iconst (-1), 1) := by decide +kernel
theorem D218_47 : decode (mB 218) 47 = .ok (.ireturn, 1) := by decide +kernel
theorem D218_48 : decode (mB 218) 48 = .ok (.aload_n 1, 1) := by decide +kernel
theorem D218_49 : decode (mB 218) 49 = .ok (.iload_n 2, 1) := by decide +kernel
theorem D218_50 : decode (mB 218) 50 = .ok (.iconst 0, 1) := by decide +kernel
theorem D218_51 : decode (mB 218) 51 = .ok (.invokestatic 220, 3) := by decide +kernel
theorem D218_54 : decode (mB 218) 54 = .ok (.aload_n 1, 1) := by decide +kernel
theorem D218_55 : decode (mB 218) 55 = .ok (.iload_n 2, 1) := by decide +kernel
theorem D218_56 : decode (mB 218) 56 = .ok (.iconst 4, 1) := by decide +kernel
theorem D218_57 : decode (mB 218) 57 = .ok (.invokestatic 220, 3) := by decide +kernel
theorem D218_60 : decode (mB 218) 60 = .ok (.isub, 1) := by decide +kernel
theorem D218_61 : decode (mB 218) 61 = .ok (.aload_n 0, 1) := by decide +kernel
theorem D218_62 : decode (mB 218) 62 = .ok (.getfield 134, 3) := by decide +kernel
theorem D218_65 : decode (mB 218) 65 = .ok (.iload_n 2, 1) := by decide +kernel
theorem D218_66 : decode (mB 218) 66 = .ok (.iaload, 1) := by decide +kernel
theorem D218_67 : decode (mB 218) 67 = .ok (.iconst 1, 1) := by decide +kernel
theorem D218_68 : decode (mB 218) 68 = .ok (.isub, 1) := by decide +kernel
theorem D218_69 : decode (mB 218) 69 = .ok (.if_icmp .lt 6, 3) := by decide +kernel
theorem D218_72 : decode (mB 218) 72 = .ok (.bipush (-2), 2) := by decide +kernel
theorem D218_74 : decode (mB 218) 74 = .ok (.ireturn, 1) := by decide +kernel
theorem D218_75 : decode (mB 218) 75 = .ok (.aload_n 1, 1) := by decide +kernel
theorem D218_76 : decode (mB 218) 76 = .ok (.iload_n 2, 1) := by decide +kernel
theorem D218_77 : decode (mB 218) 77 = .ok (.invokestatic 274, 3) := by decide +kernel
theorem D218_80 : decode (mB 218) 80 = .ok (.istore 6, 2) := by decide +kernel
theorem D218_82 : decode (mB 218) 82 = .ok (.iload 6, 2) := by decide +kernel
theorem D218_84 : decode (mB 218) 84 = .ok (.ifCond .ge 6, 3) := by decide +kernel
theorem D218_87 : decode (mB 218) 87 = .ok (.bipush (-3), 2) := by decide +kernel
theorem D218_89 : decode (mB 218) 89 = .ok (.ireturn, 1) := by decide +kernel
theorem D218_90 : decode (mB 218) 90 = .ok (.iload_n 2, 1) := by decide +kernel
theorem D218_91 : decode (mB 218) 91 = .ok (.aload_n 1, 1) := by decide +kernel
theorem D218_92 : decode (mB 218) 92 = .ok (.iload_n 2, 1) := by decide +kernel
theorem D218_93 : decode (mB 218) 93 = .ok (.iconst 0, 1) := by decide +kernel
theorem D218_94 : decode (mB 218) 94 = .ok (.invokestatic 220, 3) := by decide +kernel
theorem D218_97 : decode (mB 218) 97 = .ok (.invokestatic 239, 3) := by decide +kernel
theorem D218_100 : decode (mB 218) 100 = .ok (.istore 7, 2) := by decide +kernel
theorem D218_102 : decode (mB 218) 102 = .ok (.aload_n 1, 1) := by decide +kernel
theorem D218_103 : decode (mB 218) 103 = .ok (.iload 7, 2) := by decide +kernel
theorem D218_105 : decode (mB 218) 105 = .ok (.iconst 0, 1) := by decide +kernel
theorem D218_106 : decode (mB 218) 106 = .ok (.iadd, 1) := by decide +kernel
theorem D218_107 : decode (mB 218) 107 = .ok (.iload 6, 2) := by decide +kernel
theorem D218_109 : decode (mB 218) 109 = .ok (.iastore, 1) := by decide +kernel
theorem D218_110 : decode (mB 218) 110 = .ok (.aload_n 1, 1) := by decide +kernel
theorem D218_111 : decode (mB 218) 111 = .ok (.iload 7, 2) := by decide +kernel
theorem D218_113 : decode (mB 218) 113 = .ok (.iconst 1, 1) := by decide +kernel
theorem D218_114 : decode (mB 218) 114 = .ok (.iadd, 1) := by decide +kernel
theorem D218_115 : decode (mB 218) 115 = .ok (.iload_n 3, 1) := by decide +kernel
theorem D218_116 : decode (mB 218) 116 = .ok (.iastore, 1) := by decide +kernel
theorem D218_117 : decode (mB 218) 117 = .ok (.aload_n 1, 1) := by decide +kernel
theorem D218_118 : decode (mB 218) 118 = .ok (.iload 7, 2) := by decide +kernel
theorem D218_120 : decode (mB 218) 120 = .ok (.iconst 2, 1) := by decide +kernel
theorem D218_121 : decode (mB 218) 121 = .ok (.iadd, 1) := by decide +kernel
theorem D218_122 : decode (mB 218) 122 = .ok (.iload 4, 2) := by decide +kernel
theorem D218_124 : decode (mB 218) 124 = .ok (.iastore, 1) := by decide +kernel
theorem D218_125 : decode (mB 218) 125 = .ok (.aload_n 1, 1) := by decide +kernel
theorem D218_126 : decode (mB 218) 126 = .ok (.iload 7, 2) := by decide +kernel
theorem D218_128 : decode (mB 218) 128 = .ok (.iconst 3, 1) := by decide +kernel
theorem D218_129 : decode (mB 218) 129 = .ok (.iadd, 1) := by decide +kernel
theorem D218_130 : decode (mB 218) 130 = .ok (.iload 5, 2) := by decide +kernel
theorem D218_132 : decode (mB 218) 132 = .ok (.iastore, 1) := by decide +kernel
theorem D218_133 : decode (mB 218) 133 = .ok (.aload_n 1, 1) := by decide +kernel
theorem D218_134 : decode (mB 218) 134 = .ok (.iload 7, 2) := by decide +kernel
theorem D218_136 : decode (mB 218) 136 = .ok (.iconst 4, 1) := by decide +kernel
theorem D218_137 : decode (mB 218) 137 = .ok (.iadd, 1) := by decide +kernel
theorem D218_138 : decode (mB 218) 138 = .ok (.iconst 0, 1) := by decide +kernel
theorem D218_139 : decode (mB 218) 139 = .ok (.iastore, 1) := by decide +kernel
theorem D218_140 : decode (mB 218) 140 = .ok (.aload_n 1, 1) := by decide +kernel
theorem D218_141 : decode (mB 218) 141 = .ok (.iload_n 2, 1) := by decide +kernel
theorem D218_142 : decode (mB 218) 142 = .ok (.iconst 0, 1) := by decide +kernel
theorem D218_143 : decode (mB 218) 143 = .ok (.aload_n 1, 1) := by decide +kernel
theorem D218_144 : decode (mB 218) 144 = .ok (.iload_n 2, 1) := by decide +kernel
theorem D218_145 : decode (mB 218) 145 = .ok (.iconst 0, 1) := by decide +kernel
theorem D218_146 : decode (mB 218) 146 = .ok (.invokestatic 220, 3) := by decide +kernel
theorem D218_149 : decode (mB 218) 149 = .ok (.iconst 1, 1) := by decide +kernel
theorem D218_150 : decode (mB 218) 150 = .ok (.iadd, 1) := by decide +kernel
theorem D218_151 : decode (mB 218) 151 = .ok (.invokestatic 278, 3) := by decide +kernel
theorem D218_154 : decode (mB 218) 154 = .ok (.iload 6, 2) := by decide +kernel
theorem D218_156 : decode (mB 218) 156 = .ok (.ireturn, 1) := by decide +kernel
theorem D219_0 : decode (mB 219) 0 = .ok (.iconst 0, 1) := by decide +kernel
theorem D219_1 : decode (mB 219) 1 = .ok (.istore_n 2, 1) := by decide +kernel
theorem D219_2 : decode (mB 219) 2 = .ok (.iload_n 2, 1) := by decide +kernel
theorem D219_3 : decode (mB 219) 3 = .ok (.bipush 16, 2) := by decide +kernel
theorem D219_5 : decode (mB 219) 5 = .ok (.if_icmp .ge 18, 3) := by decide +kernel
theorem D219_8 : decode (mB 219) 8 = .ok (.aload_n 0, 1) := by decide +kernel
theorem D219_9 : decode (mB 219) 9 = .ok (.iload_n 1, 1) := by decide +kernel
theorem D219_10 : decode (mB 219) 10 = .ok (.iload_n 2, 1) := by decide +kernel
theorem D219_11 : decode (mB 219) 11 = .ok (.invokestatic 265, 3) := by decide +kernel
theorem D219_14 : decode (mB 219) 14 = .ok (.ifCond .eq 9, 3) := by decide +kernel
theorem D219_17 : decode (mB 219) 17 = .ok (.iinc 2 1, 3) := by decide +kernel
theorem D219_20 : decode (mB 219) 20 = .ok (.goto (-18), 3) := by decide +kernel
theorem D219_23 : decode (mB 219) 23 = .ok (.iload_n 2, 1) := by decide +kernel
theorem D219_24 : decode (mB 219) 24 = .ok (.bipush 16, 2) := by decide +kernel
theorem D219_26 : decode (mB 219) 26 = .ok (.if_icmp .ne 7, 3) := by decide +kernel
theorem D219_29 : decode (mB 219) 29 = .ok (.iconst (-1), 1) := by decide +kernel
theorem D219_30 : decode (mB 219) 30 = .ok (.goto 4, 3) := by decide +kernel
theorem D219_33 : decode (mB 219) 33 = .ok (.iload_n 2, 1) := by decide +kernel
theorem D219_34 : decode (mB 219) 34 = .ok (.ireturn, 1) := by decide +kernel
theorem D220_0 : decode (mB 220) 0 = .ok (.aload_n 0, 1) := by decide +kernel
theorem D220_1 : decode (mB 220) 1 = .ok (.iload_n 1, 1) := by decide +kernel
theorem D220_2 : decode (mB 220) 2 = .ok (.iload_n 2, 1) := by decide +kernel
theorem D220_3 : decode (mB 220) 3 = .ok (.invokestatic 252, 3) := by decide +kernel
theorem D220_6 : decode (mB 220) 6 = .ok (.ifCond .ge 30, 3) := by decide +kernel
theorem D220_9 : decode (mB 220) 9 = .ok (.aload_n 0, 1) := by decide +kernel
theorem D220_10 : decode (mB 220) 10 = .ok (.iload_n 1, 1) := by decide +kernel
theorem D220_11 : decode (mB 220) 11 = .ok (.iload_n 2, 1) := by decide +kernel
theorem D220_12 : decode (mB 220) 12 = .ok (.invokestatic 255, 3) := by decide +kernel
theorem D220_15 : decode (mB 220) 15 = .ok (.ifCond .ge 21, 3) := by decide +kernel
theorem D220_18 : decode (mB 220) 18 = .ok (.aload_n 0, 1) := by decide +kernel
theorem D220_19 : decode (mB 220) 19 = .ok (.iload_n 1, 1) := by decide +kernel
theorem D220_20 : decode (mB 220) 20 = .ok (.iload_n 2, 1) := by decide +kernel
theorem D220_21 : decode (mB 220) 21 = .ok (.invokestatic 258, 3) := by decide +kernel
theorem D220_24 : decode (mB 220) 24 = .ok (.ifCond .ge 12, 3) := by decide +kernel
theorem D220_27 : decode (mB 220) 27 = .ok (.aload_n 0, 1) := by decide +kernel
theorem D220_28 : decode (mB 220) 28 = .ok (.iload_n 1, 1) := by decide +kernel
theorem D220_29 : decode (mB 220) 29 = .ok (.iload_n 2, 1) := by decide +kernel
theorem D220_30 : decode (mB 220) 30 = .ok (.invokestatic 261, 3) := by decide +kernel
theorem D220_33 : decode (mB 220) 33 = .ok (.ifCond .eq 7, 3) := by decide +kernel
theorem D220_36 : decode (mB 220) 36 = .ok (.iconst 1, 1) := by decide +kernel
theorem D220_37 : decode (mB 220) 37 = .ok (.goto 4, 3) := by decide +kernel
theorem D220_40 : decode (mB 220) 40 = .ok (.iconst 0, 1) := by decide +kernel
theorem D220_41 : decode (mB 220) 41 = .ok (.ireturn, 1) := by decide +kernel
theorem D221_0 : decode (mB 221) 0 = .ok (.aload_n 0, 1) := by decide +kernel
theorem D221_1 : decode (mB 221) 1 = .ok (.iload_n 1, 1) := by decide +kernel
theorem D221_2 : decode (mB 221) 2 = .ok (.iconst 3, 1) := by decide +kernel
theorem D221_3 : decode (mB 221) 3 = .ok (.invokestatic 220, 3) := by decide +kernel
theorem D221_6 : decode (mB 221) 6 = .ok (.istore_n 3, 1) := by decide +kernel
theorem D221_7 : decode (mB 221) 7 = .ok (.iload_n 3, 1) := by decide +kernel
theorem D221_8 : decode (mB 221) 8 = .ok (.aload_n 0, 1) := by decide +kernel
theorem D221_9 : decode (mB 221) 9 = .ok (.iload_n 1, 1) := by decide +kernel
theorem D221_10 : decode (mB 221) 10 = .ok (.iconst 0, 1) := by decide +kernel
theorem D221_11 : decode (mB 221) 11 = .ok (.invokestatic 220, 3) := by decide +kernel
theorem D221_14 : decode (mB 221) 14 = .ok (.if_icmp .ge 31, 3) := by decide +kernel
theorem D221_17 : decode (mB 221) 17 = .ok (.aload_n 0, 1) := by decide +kernel
theorem D221_18 : decode (mB 221) 18 = .ok (.iload_n 1, 1) := by decide +kernel
theorem D221_19 : decode (mB 221) 19 = .ok (.iload_n 3, 1) := by decide +kernel
theorem D221_20 : decode (mB 221) 20 = .ok (.invokestatic 239, 3) := by decide +kernel
theorem D221_23 : decode (mB 221) 23 = .ok (.iconst 0, 1) := by decide +kernel
theorem D221_24 : decode (mB 221) 24 = .ok (.iadd, 1) := by decide +kernel
theorem D221_25 : decode (mB 221) 25 = .ok (.iaload, 1) := by decide +kernel
theorem D221_26 : decode (mB 221) 26 = .ok (.iload_n 2, 1) := by decide +kernel
theorem D221_27 : decode (mB 221) 27 = .ok (.if_icmp .ne 12, 3) := by decide +kernel
theorem D221_30 : decode (mB 221) 30 = .ok (.iload_n 3, 1) := by decide +kernel
theorem D221_31 : decode (mB 221) 31 = .ok (.aload_n 0, 1) := by decide +kernel
theorem D221_32 : decode (mB 221) 32 = .ok (.iload_n 1, 1) := by decide +kernel
theorem D221_33 : decode (mB 221) 33 = .ok (.iconst 3, 1) := by decide +kernel
theorem D221_34 : decode (mB 221) 34 = .ok (.invokestatic 220, 3) := by decide +kernel
theorem D221_37 : decode (mB 221) 37 = .ok (.isub, 1) := by decide +kernel
theorem D221_38 : decode (mB 221) 38 = .ok (.ireturn, 1) := by decide +kernel
theorem D221_39 : decode (mB 221) 39 = .ok (.iinc 3 1, 3) := by decide +kernel
theorem D221_42 : decode (mB 221) 42 = .ok (.goto (-35), 3) := by decide +kernel
theorem D221_45 : decode (mB 221) 45 = .ok (.iconst (-1), 1) := by decide +kernel
theorem D221_46 : decode (mB 221) 46 = .ok (.ireturn, 1) := by decide +kernel
theorem D222_0 : decode (mB 222) 0 = .ok (.bipush 89, 2) := by decide +kernel
theorem D222_2 : decode (mB 222) 2 = .ok (.iload_n 0, 1) := by decide +kernel
theorem D222_3 : decode (mB 222) 3 = .ok (.imul, 1) := by decide +kernel
theorem D222_4 : decode (mB 222) 4 = .ok (.bipush 9, 2) := by decide +kernel
theorem D222_6 : decode (mB 222) 6 = .ok (.iadd, 1) := by decide +kernel
theorem D222_7 : decode (mB 222) 7 = .ok (.iconst 5, 1) := by decide +kernel
theorem D222_8 : decode (mB 222) 8 = .ok (.iload_n 1, 1) := by decide +kernel
theorem D222_9 : decode (mB 222) 9 = .ok (.bipush 8, 2) := by decide +kernel
theorem D222_11 : decode (mB 222) 11 = .ok (.irem, 1) := by decide +kernel
theorem D222_12 : decode (mB 222) 12 = .ok (.imul, 1) := by decide +kernel
theorem D222_13 : decode (mB 222) 13 = .ok (.iadd, 1) := by decide +kernel
theorem D222_14 : decode (mB 222) 14 = .ok (.ireturn, 1) := by decide +kernel
theorem D223_0 : decode (mB 223) 0 = .ok (.iconst 0, 1) := by decide +kernel
theorem D223_1 : decode (mB 223) 1 = .ok (.istore_n 3, 1) := by decide +kernel
theorem D223_2 : decode (mB 223) 2 = .ok (.iload_n 3, 1) := by decide +kernel
theorem D223_3 : decode (mB 223) 3 = .ok (.aload_n 0, 1) := by decide +kernel
theorem D223_4 : decode (mB 223) 4 = .ok (.sipush 493, 3) := by decide +kernel
theorem D223_7 : decode (mB 223) 7 = .ok (.iaload, 1) := by decide +kernel
theorem D223_8 : decode (mB 223) 8 = .ok (.if_icmp .ge 72, 3) := by decide +kernel
theorem D223_11 : decode (mB 223) 11 = .ok (.aload_n 0, 1) := by decide +kernel
theorem D223_12 : decode (mB 223) 12 = .ok (.iload_n 3, 1) := by decide +kernel
theorem D223_13 : decode (mB 223) 13 = .ok (.invokestatic 236, 3) := by decide +kernel
theorem D223_16 : decode (mB 223) 16 = .ok (.iconst 1, 1) := by decide +kernel
theorem D223_17 : decode (mB 223) 17 = .ok (.iadd, 1) := by decide +kernel
theorem D223_18 : decode (mB 223) 18 = .ok (.iconst 0, 1) := by decide +kernel
theorem D223_19 : decode (mB 223) 19 = .ok (.iadd, 1) := by decide +kernel
theorem D223_20 : decode (mB 223) 20 = .ok (.iaload, 1) := by decide +kernel
theorem D223_21 : decode (mB 223) 21 = .ok (.iload_n 2, 1) := by decide +kernel
theorem D223_22 : decode (mB 223) 22 = .ok (.if_icmp .eq 26, 3) := by decide +kernel
theorem D223_25 : decode (mB 223) 25 = .ok (.aload_n 0, 1) := by decide +kernel
theorem D223_26 : decode (mB 223) 26 = .ok (.iload_n 3, 1) := by decide +kernel
theorem D223_27 : decode (mB 223) 27 = .ok (.invokestatic 242, 3) := by decide +kernel
theorem D223_30 : decode (mB 223) 30 = .ok (.ifCond .eq 22, 3) := by decide +kernel
theorem D223_33 : decode (mB 223) 33 = .ok (.aload_n 0, 1) := by decide +kernel
theorem D223_34 : decode (mB 223) 34 = .ok (.iload_n 3, 1) := by decide +kernel
theorem D223_35 : decode (mB 223) 35 = .ok (.invokestatic 236, 3) := by decide +kernel
theorem D223_38 : decode (mB 223) 38 = .ok (.bipush 6, 2) := by decide +kernel
theorem D223_40 : decode (mB 223) 40 = .ok (.iadd, 1) := by decide +kernel
theorem D223_41 : decode (mB 223) 41 = .ok (.iconst 0, 1) := by decide +kernel
theorem D223_42 : decode (mB 223) 42 = .ok (.iadd, 1) := by decide +kernel
theorem D223_43 : decode (mB 223) 43 = .ok (.iaload, 1) := by decide +kernel
theorem D223_44 : decode (mB 223) 44 = .ok (.iload_n 2, 1) := by decide +kernel
theorem D223_45 : decode (mB 223) 45 = .ok (.if_icmp .ne 7, 3) := by decide +kernel
theorem D223_48 : decode (mB 223) 48 = .ok (.iconst 1, 1) := by decide +kernel
theorem D223_49 : decode (mB 223) 49 = .ok (.goto 4, 3) := by decide +kernel
theorem D223_52 : decode (mB 223) 52 = .ok (.iconst 0, 1) := by decide +kernel
theorem D223_53 : decode (mB 223) 53 = .ok (.istore 4, 2) := by decide +kernel
theorem D223_55 : decode (mB 223) 55 = .ok (.aload_n 0, 1) := by decide +kernel
theorem D223_56 : decode (mB 223) 56 = .ok (.iload_n 3, 1) := by decide +kernel
theorem D223_57 : decode (mB 223) 57 = .ok (.invokestatic 236, 3) := by decide +kernel
theorem D223_60 : decode (mB 223) 60 = .ok (.iconst 0, 1) := by decide +kernel
theorem D223_61 : decode (mB 223) 61 = .ok (.iadd, 1) := by decide +kernel
theorem D223_62 : decode (mB 223) 62 = .ok (.iaload, 1) := by decide +kernel
theorem D223_63 : decode (mB 223) 63 = .ok (.iload_n 1, 1) := by decide +kernel
theorem D223_64 : decode (mB 223) 64 = .ok (.if_icmp .ne 10, 3) := by decide +kernel
theorem D223_67 : decode (mB 223) 67 = .ok (.iload 4, 2) := by decide +kernel
theorem D223_69 : decode (mB 223) 69 = .ok (.ifCond .eq 5, 3) := by decide +kernel
theorem D223_72 : decode (mB 223) 72 = .ok (.iload_n 3, 1) := by decide +kernel
theorem D223_73 : decode (mB 223) 73 = .ok (.ireturn, 1) := by decide +kernel
theorem D223_74 : decode (mB 223) 74 = .ok (.iinc 3 1, 3) := by decide +kernel
theorem D223_77 : decode (mB 223) 77 = .ok (.goto (-75), 3) := by decide +kernel
theorem D223_80 : decode (mB 223) 80 = .ok (.iconst (-1), 1) := by decide +kernel
theorem D223_81 : decode (mB 223) 81 = .ok (.ireturn, 1) := by decide +kernel
theorem D224_0 : decode (mB 224) 0 = .ok (.sipush 445, 3) := by decide +kernel
theorem D224_3 : decode (mB 224) 3 = .ok (.bipush 12, 2) := by decide +kernel
theorem D224_5 : decode (mB 224) 5 = .ok (.iload_n 0, 1) := by decide +kernel
theorem D224_6 : decode (mB 224) 6 = .ok (.imul, 1) := by decide +kernel
theorem D224_7 : decode (mB 224) 7 = .ok (.iadd, 1) := by decide +kernel
theorem D224_8 : decode (mB 224) 8 = .ok (.ireturn, 1) := by decide +kernel
theorem D225_0 : decode (mB 225) 0 = .ok (.aload_n 0, 1) := by decide +kernel
theorem D225_1 : decode (mB 225) 1 = .ok (.iload_n 1, 1) := by decide +kernel
theorem D225_2 : decode (mB 225) 2 = .ok (.invokestatic 236, 3) := by decide +kernel
theorem D225_5 : decode (mB 225) 5 = .ok (.bipush 6, 2) := by decide +kernel
theorem D225_7 : decode (mB 225) 7 = .ok (.iadd, 1) := by decide +kernel
theorem D225_8 : decode (mB 225) 8 = .ok (.iconst 1, 1) := by decide +kernel
theorem D225_9 : decode (mB 225) 9 = .ok (.iadd, 1) := by decide +kernel
theorem D225_10 : decode (mB 225) 10 = .ok (.iaload, 1) := by decide +kernel
theorem D225_11 : decode (mB 225) 11 = .ok (.ifCond .lt 7, 3) := by decide +kernel
theorem D225_14 : decode (mB 225) 14 = .ok (.iconst 1, 1) := by decide +kernel
theorem D225_15 : decode (mB 225) 15 = .ok (.goto 4, 3) := by decide +kernel
theorem D225_18 : decode (mB 225) 18 = .ok (.iconst 0, 1) := by decide +kernel
theorem D225_19 : decode (mB 225) 19 = .ok (.ireturn, 1) := by decide +kernel
theorem D226_0 : decode (mB 226) 0 = .ok (.iconst 0, 1) := by decide +kernel
theorem D226_1 : decode (mB 226) 1 = .ok (.istore_n 3, 1) := by decide +kernel
theorem D226_2 : decode (mB 226) 2 = .ok (.iload_n 3, 1) := by decide +kernel
theorem D226_3 : decode (mB 226) 3 = .ok (.aload_n 0, 1) := by decide +kernel
theorem D226_4 : decode (mB 226) 4 = .ok (.sipush 814, 3) := by decide +kernel
theorem D226_7 : decode (mB 226) 7 = .ok (.iaload, 1) := by decide +kernel
theorem D226_8 : decode (mB 226) 8 = .ok (.if_icmp .ge 35, 3) := by decide +kernel
theorem D226_11 : decode (mB 226) 11 = .ok (.aload_n 0, 1) := by decide +kernel
theorem D226_12 : decode (mB 226) 12 = .ok (.iload_n 3, 1) := by decide +kernel
theorem D226_13 : decode (mB 226) 13 = .ok (.invokestatic 246, 3) := by decide +kernel
theorem D226_16 : decode (mB 226) 16 = .ok (.iconst 0, 1) := by decide +kernel
theorem D226_17 : decode (mB 226) 17 = .ok (.iadd, 1) := by decide +kernel
theorem D226_18 : decode (mB 226) 18 = .ok (.iaload, 1) := by decide +kernel
theorem D226_19 : decode (mB 226) 19 = .ok (.iload_n 1, 1) := by decide +kernel
theorem D226_20 : decode (mB 226) 20 = .ok (.if_icmp .ne 17, 3) := by decide +kernel
theorem D226_23 : decode (mB 226) 23 = .ok (.aload_n 0, 1) := by decide +kernel
theorem D226_24 : decode (mB 226) 24 = .ok (.iload_n 3, 1) := by decide +kernel
theorem D226_25 : decode (mB 226) 25 = .ok (.invokestatic 246, 3) := by decide +kernel
theorem D226_28 : decode (mB 226) 28 = .ok (.iconst 1, 1) := by decide +kernel
theorem D226_29 : decode (mB 226) 29 = .ok (.iadd, 1) := by decide +kernel
theorem D226_30 : decode (mB 226) 30 = .ok (.iaload, 1) := by decide +kernel
theorem D226_31 : decode (mB 226) 31 = .ok (.iload_n 2, 1) := by decide +kernel
theorem D226_32 : decode (mB 226) 32 = .ok (.if_icmp .ne 5, 3) := by decide +kernel
theorem D226_35 : decode (mB 226) 35 = .ok (.iload_n 3, 1) := by decide +kernel
theorem D226_36 : decode (mB 226) 36 = .ok (.ireturn, 1) := by decide +kernel
theorem D226_37 : decode (mB 226) 37 = .ok (.iinc 3 1, 3) := by decide +kernel
theorem D226_40 : decode (mB 226) 40 = .ok (.goto (-38), 3) := by decide +kernel
theorem D226_43 : decode (mB 226) 43 = .ok (.iconst (-1), 1) := by decide +kernel
theorem D226_44 : decode (mB 226) 44 = .ok (.ireturn, 1) := by decide +kernel
theorem D227_0 : decode (mB 227) 0 = .ok (.sipush 494, 3) := by decide +kernel
theorem D227_3 : decode (mB 227) 3 = .ok (.iconst 4, 1) := by decide +kernel
theorem D227_4 : decode (mB 227) 4 = .ok (.iload_n 0, 1) := by decide +kernel
theorem D227_5 : decode (mB 227) 5 = .ok (.imul, 1) := by decide +kernel
theorem D227_6 : decode (mB 227) 6 = .ok (.iadd, 1) := by decide +kernel
theorem D227_7 : decode (mB 227) 7 = .ok (.ireturn, 1) := by decide +kernel
theorem D228_0 : decode (mB 228) 0 = .ok (.iconst 0, 1) := by decide +kernel
theorem D228_1 : decode (mB 228) 1 = .ok (.istore_n 3, 1) := by decide +kernel
theorem D228_2 : decode (mB 228) 2 = .ok (.aload_n 0, 1) := by decide +kernel
theorem D228_3 : decode (mB 228) 3 = .ok (.iload_n 1, 1) := by decide +kernel
theorem D228_4 : decode (mB 228) 4 = .ok (.bipush 6, 2) := by decide +kernel
theorem D228_6 : decode (mB 228) 6 = .ok (.invokestatic 220, 3) := by decide +kernel
theorem D228_9 : decode (mB 228) 9 = .ok (.istore 4, 2) := by decide +kernel
theorem D228_11 : decode (mB 228) 11 = .ok (.iload 4, 2) := by decide +kernel
theorem D228_13 : decode (mB 228) 13 = .ok (.aload_n 0, 1) := by decide +kernel
theorem D228_14 : decode (mB 228) 14 = .ok (.iload_n 1, 1) := by decide +kernel
theorem D228_15 : decode (mB 228) 15 = .ok (.iconst 5, 1) := by decide +kernel
theorem D228_16 : decode (mB 228) 16 = .ok (.invokestatic 220, 3) := by decide +kernel
theorem D228_19 : decode (mB 228) 19 = .ok (.if_icmp .ge 33, 3) := by decide +kernel
theorem D228_22 : decode (mB 228) 22 = .ok (.iload_n 3, 1) := by decide +kernel
theorem D228_23 : decode (mB 228) 23 = .ok (.ifCond .ne 17, 3) := by decide +kernel
theorem D228_26 : decode (mB 228) 26 = .ok (.aload_n 0, 1) := by decide +kernel
theorem D228_27 : decode (mB 228) 27 = .ok (.iload_n 1, 1) := by decide +kernel
theorem D228_28 : decode (mB 228) 28 = .ok (.iload 4, 2) := by decide +kernel
theorem D228_30 : decode (mB 228) 30 = .ok (.invokestatic 249, 3) := by decide +kernel
theorem D228_33 : decode (mB 228) 33 = .ok (.iconst 0, 1) := by decide +kernel
theorem D228_34 : decode (mB 228) 34 = .ok (.iadd, 1) := by decide +kernel
theorem D228_35 : decode (mB 228) 35 = .ok (.iaload, 1) := by decide +kernel
theorem D228_36 : decode (mB 228) 36 = .ok (.iload_n 2, 1) := by decide +kernel
theorem D228_37 : decode (mB 228) 37 = .ok (.if_icmp .ne 7, 3) := by decide +kernel
theorem D228_40 : decode (mB 228) 40 = .ok (.iconst 1, 1) := by decide +kernel
theorem D228_41 : decode (mB 228) 41 = .ok (.goto 4, 3) := by decide +kernel
theorem D228_44 : decode (mB 228) 44 = .ok (.iconst 0, 1) := by decide +kernel
theorem D228_45 : decode (mB 228) 45 = .ok (.istore_n 3, 1) := by decide +kernel
theorem D228_46 : decode (mB 228) 46 = .ok (.iinc 4 1, 3) := by decide +kernel
theorem D228_49 : decode (mB 228) 49 = .ok (.goto (-38), 3) := by decide +kernel
theorem D228_52 : decode (mB 228) 52 = .ok (.iload_n 3, 1) := by decide +kernel
theorem D228_53 : decode (mB 228) 53 = .ok (.ireturn, 1) := by decide +kernel
theorem D229_0 : decode (mB 229) 0 = .ok (.bipush 89, 2) := by decide +kernel
theorem D229_2 : decode (mB 229) 2 = .ok (.iload_n 0, 1) := by decide +kernel
theorem D229_3 : decode (mB 229) 3 = .ok (.imul, 1) := by decide +kernel
theorem D229_4 : decode (mB 229) 4 = .ok (.bipush 49, 2) := by decide +kernel
theorem D229_6 : decode (mB 229) 6 = .ok (.iadd, 1) := by decide +kernel
theorem D229_7 : decode (mB 229) 7 = .ok (.iconst 5, 1) := by decide +kernel
theorem D229_8 : decode (mB 229) 8 = .ok (.iload_n 1, 1) := by decide +kernel
theorem D229_9 : decode (mB 229) 9 = .ok (.bipush 8, 2) := by decide +kernel
theorem D229_11 : decode (mB 229) 11 = .ok (.irem, 1) := by decide +kernel
theorem D229_12 : decode (mB 229) 12 = .ok (.imul, 1) := by decide +kernel
theorem D229_13 : decode (mB 229) 13 = .ok (.iadd, 1) := by decide +kernel
theorem D229_14 : decode (mB 229) 14 = .ok (.ireturn, 1) := by decide +kernel
theorem D230_0 : decode (mB 230) 0 = .ok (.aload_n 0, 1) := by decide +kernel
theorem D230_1 : decode (mB 230) 1 = .ok (.bipush 89, 2) := by decide +kernel
theorem D230_3 : decode (mB 230) 3 = .ok (.iload_n 1, 1) := by decide +kernel
theorem D230_4 : decode (mB 230) 4 = .ok (.imul, 1) := by decide +kernel
theorem D230_5 : decode (mB 230) 5 = .ok (.iload_n 2, 1) := by decide +kernel
theorem D230_6 : decode (mB 230) 6 = .ok (.iadd, 1) := by decide +kernel
theorem D230_7 : decode (mB 230) 7 = .ok (.iload_n 3, 1) := by decide +kernel
theorem D230_8 : decode (mB 230) 8 = .ok (.iastore, 1) := by decide +kernel
theorem D230_9 : decode (mB 230) 9 = .ok (.return_, 1) := by decide +kernel
theorem D231_0 : decode (mB 231) 0 = .ok (.iload_n 1, 1) := by decide +kernel
theorem D231_1 : decode (mB 231) 1 = .ok (.ifCond .ge 7, 3) := by decide +kernel
theorem D231_4 : decode (mB 231) 4 = .ok (.iload_n 1, 1) := by decide +kernel
theorem D231_5 : decode (mB 231) 5 = .ok (.goto 8, 3) := by decide +kernel
theorem D231_8 : decode (mB 231) 8 = .ok (.aload_n 0, 1) := by decide +kernel
theorem D231_9 : decode (mB 231) 9 = .ok (.iload_n 1, 1) := by decide +kernel
theorem D231_10 : decode (mB 231) 10 = .ok (.invokevirtual 233, 3) := by decide +kernel
theorem D231_13 : decode (mB 231) 13 = .ok (.ireturn, 1) := by decide +kernel
theorem D232_0 : decode (mB 232) 0 = .ok (.aload_n 0, 1) := by decide +kernel
theorem D232_1 : decode (mB 232) 1 = .ok (.dup, 1) := by decide +kernel
theorem D232_2 : decode (mB 232) 2 = .ok (.getfield 206, 3) := by decide +kernel
theorem D232_5 : decode (mB 232) 5 = .ok (.iconst 1, 1) := by decide +kernel
theorem D232_6 : decode (mB 232) 6 = .ok (.iadd, 1) := by decide +kernel
theorem D232_7 : decode (mB 232) 7 = .ok (.putfield 206, 3) := by decide +kernel
theorem D232_10 : decode (mB 232) 10 = .ok (.aload_n 0, 1) := by decide +kernel
theorem D232_11 : decode (mB 232) 11 = .ok (.getfield 206, 3) := by decide +kernel
theorem D232_14 : decode (mB 232) 14 = .ok (.bipush 8, 2) := by decide +kernel
theorem D232_16 : decode (mB 232) 16 = .ok (.if_icmp .le 44, 3) := by decide +kernel
theorem D232_19 : decode (mB 232) 19 = .ok (.iconst 0, 1) := by decide +kernel
theorem D232_20 : decode (mB 232) 20 = .ok (.istore_n 2, 1) := by decide +kernel
theorem D232_21 : decode (mB 232) 21 = .ok (.iload_n 2, 1) := by decide +kernel
theorem D232_22 : decode (mB 232) 22 = .ok (.sipush 6752, 3) := by decide +kernel
theorem D232_25 : decode (mB 232) 25 = .ok (.if_icmp .ge 25, 3) := by decide +kernel
theorem D232_28 : decode (mB 232) 28 = .ok (.aload_n 0, 1) := by decide +kernel
theorem D232_29 : decode (mB 232) 29 = .ok (.getfield 152, 3) := by decide +kernel
theorem D232_32 : decode (mB 232) 32 = .ok (.iload_n 2, 1) := by decide +kernel
theorem D232_33 : decode (mB 232) 33 = .ok (.aload_n 0, 1) := by decide +kernel
theorem D232_34 : decode (mB 232) 34 = .ok (.getfield 152, 3) := by decide +kernel
theorem D232_37 : decode (mB 232) 37 = .ok (.iload_n 2, 1) := by decide +kernel
theorem D232_38 : decode (mB 232) 38 = .ok (.sipush 844, 3) := by decide +kernel
theorem D232_41 : decode (mB 232) 41 = .ok (.iadd, 1) := by decide +kernel
theorem D232_42 : decode (mB 232) 42 = .ok (.iaload, 1) := by decide +kernel
theorem D232_43 : decode (mB 232) 43 = .ok (.iastore, 1) := by decide +kernel
theorem D232_44 : decode (mB 232) 44 = .ok (.iinc 2 1, 3) := by decide +kernel
theorem D232_47 : decode (mB 232) 47 = .ok (.goto (-26), 3) := by decide +kernel
theorem D232_50 : decode (mB 232) 50 = .ok (.aload_n 0, 1) := by decide +kernel
theorem D232_51 : decode (mB 232) 51 = .ok (.dup, 1) := by decide +kernel
theorem D232_52 : decode (mB 232) 52 = .ok (.getfield 206, 3) := by decide +kernel
theorem D232_55 : decode (mB 232) 55 = .ok (.iconst 1, 1) := by decide +kernel
theorem D232_56 : decode (mB 232) 56 = .ok (.isub, 1) := by decide +kernel
theorem D232_57 : decode (mB 232) 57 = .ok (.putfield 206, 3) := by decide +kernel
theorem D232_60 : decode (mB 232) 60 = .ok (.iload_n 1, 1) := by decide +kernel
theorem D232_61 : decode (mB 232) 61 = .ok (.ireturn, 1) := by decide +kernel
theorem D233_0 : decode (mB 233) 0 = .ok (.aload_n 0, 1) := by decide +kernel
theorem D233_1 : decode (mB 233) 1 = .ok (.iconst 0, 1) := by decide +kernel
theorem D233_2 : decode (mB 233) 2 = .ok (.putfield 3, 3) := by decide +kernel
theorem D233_5 : decode (mB 233) 5 = .ok (.aload_n 0, 1) := by decide +kernel
theorem D233_6 : decode (mB 233) 6 = .ok (.invokevirtual 355, 3) := by decide +kernel
theorem D233_9 : decode (mB 233) 9 = .ok (.aload_n 0, 1) := by decide +kernel
theorem D233_10 : decode (mB 233) 10 = .ok (.aload_n 0, 1) := by decide +kernel
theorem D233_11 : decode (mB 233) 11 = .ok (.aload_n 0, 1) := by decide +kernel
theorem D233_12 : decode (mB 233) 12 = .ok (.getfield 146, 3) := by decide +kernel
theorem D233_15 : decode (mB 233) 15 = .ok (.iload_n 1, 1) := by decide +kernel
theorem D233_16 : decode (mB 233) 16 = .ok (.invokevirtual 365, 3) := by decide +kernel
theorem D233_19 : decode (mB 233) 19 = .ok (.invokevirtual 362, 3) := by decide +kernel
theorem D233_22 : decode (mB 233) 22 = .ok (.ireturn, 1) := by decide +kernel
theorem D234_0 : decode (mB 234) 0 = .ok (.aload_n 0, 1) := by decide +kernel
theorem D234_1 : decode (mB 234) 1 = .ok (.iload_n 2, 1) := by decide +kernel
theorem D234_2 : decode (mB 234) 2 = .ok (.invokevirtual 212, 3) := by decide +kernel
theorem D234_5 : decode (mB 234) 5 = .ok (.ifCond .ne 5, 3) := by decide +kernel
theorem D234_8 : decode (mB 234) 8 = .ok (.iconst (-1), 1) := by decide +kernel
theorem D234_9 : decode (mB 234) 9 = .ok (.ireturn, 1) := by decide +kernel
theorem D234_10 : decode (mB 234) 10 = .ok (.aload_n 1, 1) := by decide +kernel
theorem D234_11 : decode (mB 234) 11 = .ok (.iload_n 2, 1) := by decide +kernel
theorem D234_12 : decode (mB 234) 12 = .ok (.iconst 1, 1) := by decide +kernel
theorem D234_13 : decode (mB 234) 13 = .ok (.invokestatic 220, 3) := by decide +kernel
theorem D234_16 : decode (mB 234) 16 = .ok (.istore_n 3, 1) := by decide +kernel
theorem D234_17 : decode (mB 234) 17 = .ok (.aload_n 1, 1) := by decide +kernel
theorem D234_18 : decode (mB 234) 18 = .ok (.iload_n 2, 1) := by decide +kernel
theorem D234_19 : decode (mB 234) 19 = .ok (.iconst 0, 1) := by decide +kernel
theorem D234_20 : decode (mB 234) 20 = .ok (.invokestatic 220, 3) := by decide +kernel
theorem D234_23 : decode (mB 234) 23 = .ok (.istore 4, 2) := by decide +kernel
theorem D234_25 : decode (mB 234) 25 = .ok (.iload_n 3, 1) := by decide +kernel
theorem D234_26 : decode (mB 234) 26 = .ok (.iload 4, 2) := by decide +kernel
theorem D234_28 : decode (mB 234) 28 = .ok (.if_icmp .ne 6, 3) := by decide +kernel
theorem D234_31 : decode (mB 234) 31 = .ok (.bipush (-2), 2) := by decide +kernel
theorem D234_33 : decode (mB 234) 33 = .ok (.ireturn, 1) := by decide +kernel
theorem D234_34 : decode (mB 234) 34 = .ok (.aload_n 1, 1) := by decide +kernel
theorem D234_35 : decode (mB 234) 35 = .ok (.iload_n 2, 1) := by decide +kernel
theorem D234_36 : decode (mB 234) 36 = .ok (.iconst 1, 1) := by decide +kernel
theorem D234_37 : decode (mB 234) 37 = .ok (.iload 4, 2) := by decide +kernel
theorem D234_39 : decode (mB 234) 39 = .ok (.invokestatic 278, 3) := by decide +kernel
theorem D234_42 : decode (mB 234) 42 = .ok (.aload_n 0, 1) := by decide +kernel
theorem D234_43 : decode (mB 234) 43 = .ok (.getfield 143, 3) := by decide +kernel
theorem D234_46 : decode (mB 234) 46 = .ok (.iload_n 2, 1) := by decide +kernel
theorem D234_47 : decode (mB 234) 47 = .ok (.iaload, 1) := by decide +kernel
theorem D234_48 : decode (mB 234) 48 = .ok (.ifCond .eq 24, 3) := by decide +kernel
theorem D234_51 : decode (mB 234) 51 = .ok (.aload_n 1, 1) := by decide +kernel
theorem D234_52 : decode (mB 234) 52 = .ok (.iload_n 2, 1) := by decide +kernel
theorem D234_53 : decode (mB 234) 53 = .ok (.bipush 7, 2) := by decide +kernel
theorem D234_55 : decode (mB 234) 55 = .ok (.invokestatic 220, 3) := by decide +kernel
theorem D234_58 : decode (mB 234) 58 = .ok (.i2l, 1) := by decide +kernel
theorem D234_59 : decode (mB 234) 59 = .ok (.iload_n 3, 1) := by decide +kernel
theorem D234_60 : decode (mB 234) 60 = .ok (.i2l, 1) := by decide +kernel
theorem D234_61 : decode (mB 234) 61 = .ok (.iload 4, 2) := by decide +kernel
theorem D234_63 : decode (mB 234) 63 = .ok (.iconst 1, 1) := by decide +kernel
theorem D234_64 : decode (mB 234) 64 = .ok (.isub, 1) := by decide +kernel
theorem D234_65 : decode (mB 234) 65 = .ok (.i2l, 1) := by decide +kernel
theorem D234_66 : decode (mB 234) 66 = .ok (.invokestatic 21, 3) := by decide +kernel
theorem D234_69 : decode (mB 234) 69 = .ok (.ifCond .eq 7, 3) := by decide +kernel
theorem D234_72 : decode (mB 234) 72 = .ok (.iconst 1, 1) := by decide +kernel
theorem D234_73 : decode (mB 234) 73 = .ok (.goto 4, 3) := by decide +kernel
theorem D234_76 : decode (mB 234) 76 = .ok (.iconst 0, 1) := by decide +kernel
theorem D234_77 : decode (mB 234) 77 = .ok (.istore 5, 2) := by decide +kernel
theorem D234_79 : decode (mB 234) 79 = .ok (.iload 5, 2) := by decide +kernel
theorem D234_81 : decode (mB 234) 81 = .ok (.ifCond .eq 24, 3) := by decide +kernel
theorem D234_84 : decode (mB 234) 84 = .ok (.aload_n 1, 1) := by decide +kernel
theorem D234_85 : decode (mB 234) 85 = .ok (.iload_n 2, 1) := by decide +kernel
theorem D234_86 : decode (mB 234) 86 = .ok (.iconst 2, 1) := by decide +kernel
theorem D234_87 : decode (mB 234) 87 = .ok (.iload 4, 2) := by decide +kernel
theorem D234_89 : decode (mB 234) 89 = .ok (.invokestatic 278, 3) := by decide +kernel
theorem D234_92 : decode (mB 234) 92 = .ok (.aload_n 1, 1) := by decide +kernel
theorem D234_93 : decode (mB 234) 93 = .ok (.iload_n 2, 1) := by decide +kernel
theorem D234_94 : decode (mB 234) 94 = .ok (.bipush 8, 2) := by decide +kernel
theorem D234_96 : decode (mB 234) 96 = .ok (.aload_n 0, 1) := by decide +kernel
theorem D234_97 : decode (mB 234) 97 = .ok (.getfield 143, 3) := by decide +kernel
theorem D234_100 : decode (mB 234) 100 = .ok (.iload_n 2, 1) := by decide +kernel
theorem D234_101 : decode (mB 234) 101 = .ok (.iaload, 1) := by decide +kernel
theorem D234_102 : decode (mB 234) 102 = .ok (.invokestatic 278, 3) := by decide +kernel
theorem D234_105 : decode (mB 234) 105 = .ok (.aload_n 1, 1) := by decide +kernel
theorem D234_106 : decode (mB 234) 106 = .ok (.sipush 838, 3) := by decide +kernel
theorem D234_109 : decode (mB 234) 109 = .ok (.iload 5, 2) := by decide +kernel
theorem D234_111 : decode (mB 234) 111 = .ok (.ifCond .ne 7, 3) := by decide +kernel
theorem D234_114 : decode (mB 234) 114 = .ok (.iconst 1, 1) := by decide +kernel
theorem D234_115 : decode (mB 234) 115 = .ok (.goto 4, 3) := by decide +kernel
theorem D234_118 : decode (mB 234) 118 = .ok (.iconst 0, 1) := by decide +kernel
theorem D234_119 : decode (mB 234) 119 = .ok (.invokestatic 40, 3) := by decide +kernel
theorem D234_122 : decode (mB 234) 122 = .ok (.iadd, 1) := by decide +kernel
theorem D234_123 : decode (mB 234) 123 = .ok (.dup2, 1) := by decide +kernel
theorem D234_124 : decode (mB 234) 124 = .ok (.iaload, 1) := by decide +kernel
theorem D234_125 : decode (mB 234) 125 = .ok (.iconst 1, 1) := by decide +kernel
theorem D234_126 : decode (mB 234) 126 = .ok (.iadd, 1) := by decide +kernel
theorem D234_127 : decode (mB 234) 127 = .ok (.iastore, 1) := by decide +kernel
theorem D234_128 : decode (mB 234) 128 = .ok (.iload 5, 2) := by decide +kernel
theorem D234_130 : decode (mB 234) 130 = .ok (.invokestatic 40, 3) := by decide +kernel
theorem D234_133 : decode (mB 234) 133 = .ok (.ireturn, 1) := by decide +kernel
theorem D235_0 : decode (mB 235) 0 = .ok (.aload_n 0, 1) := by decide +kernel
theorem D235_1 : decode (mB 235) 1 = .ok (.iconst 0, 1) := by decide +kernel
theorem D235_2 : decode (mB 235) 2 = .ok (.putfield 3, 3) := by decide +kernel
theorem D235_5 : decode (mB 235) 5 = .ok (.iload_n 1, 1) := by decide +kernel
theorem D235_6 : decode (mB 235) 6 = .ok (.i2l, 1) := by decide +kernel
theorem D235_7 : decode (mB 235) 7 = .ok (.lconst 0, 1) := by decide +kernel
theorem D235_8 : decode (mB 235) 8 = .ok (.ldc2_w 368, 3) := by decide +kernel
theorem D235_11 : decode (mB 235) 11 = .ok (.invokestatic 21, 3) := by decide +kernel
theorem D235_14 : decode (mB 235) 14 = .ok (.ifCond .ne 5, 3) := by decide +kernel
theorem D235_17 : decode (mB 235) 17 = .ok (.iconst (-1), 1) := by decide +kernel
theorem D235_18 : decode (mB 235) 18 = .ok (.ireturn, 1) := by decide +kernel
theorem D235_19 : decode (mB 235) 19 = .ok (.aload_n 0, 1) := by decide +kernel
theorem D235_20 : decode (mB 235) 20 = .ok (.invokevirtual 355, 3) := by decide +kernel
theorem D235_23 : decode (mB 235) 23 = .ok (.aload_n 0, 1) := by decide +kernel
theorem D235_24 : decode (mB 235) 24 = .ok (.aload_n 0, 1) := by decide +kernel
theorem D235_25 : decode (mB 235) 25 = .ok (.getfield 146, 3) := by decide +kernel
theorem D235_28 : decode (mB 235) 28 = .ok (.iload_n 1, 1) := by decide +kernel
theorem D235_29 : decode (mB 235) 29 = .ok (.invokevirtual 370, 3) := by decide +kernel
theorem D235_32 : decode (mB 235) 32 = .ok (.aload_n 0, 1) := by decide +kernel
theorem D235_33 : decode (mB 235) 33 = .ok (.iconst 0, 1) := by decide +kernel
theorem D235_34 : decode (mB 235) 34 = .ok (.putfield 11, 3) := by decide +kernel
theorem D235_37 : decode (mB 235) 37 = .ok (.aload_n 0, 1) := by decide +kernel
theorem D235_38 : decode (mB 235) 38 = .ok (.aload_n 0, 1) := by decide +kernel
theorem D235_39 : decode (mB 235) 39 = .ok (.getfield 342, 3) := by decide +kernel
theorem D235_42 : decode (mB 235) 42 = .ok (.i2l, 1) := by decide +kernel
theorem D235_43 : decode (mB 235) 43 = .ok (.invokevirtual 345, 3) := by decide +kernel
theorem D235_46 : decode (mB 235) 46 = .ok (.aload_n 0, 1) := by decide +kernel
theorem D235_47 : decode (mB 235) 47 = .ok (.aload_n 0, 1) := by decide +kernel
theorem D235_48 : decode (mB 235) 48 = .ok (.getfield 349, 3) := by decide +kernel
theorem D235_51 : decode (mB 235) 51 = .ok (.i2l, 1) := by decide +kernel
theorem D235_52 : decode (mB 235) 52 = .ok (.invokevirtual 345, 3) := by decide +kernel
theorem D235_55 : decode (mB 235) 55 = .ok (.aload_n 0, 1) := by decide +kernel
theorem D235_56 : decode (mB 235) 56 = .ok (.aload_n 0, 1) := by decide +kernel
theorem D235_57 : decode (mB 235) 57 = .ok (.getfield 322, 3) := by decide +kernel
theorem D235_60 : decode (mB 235) 60 = .ok (.invokevirtual 233, 3) := by decide +kernel
theorem D235_63 : decode (mB 235) 63 = .ok (.ireturn, 1) := by decide +kernel
theorem D236_0 : decode (mB 236) 0 = .ok (.aload_n 0, 1) := by decide +kernel
theorem D236_1 : decode (mB 236) 1 = .ok (.iconst 0, 1) := by decide +kernel
theorem D236_2 : decode (mB 236) 2 = .ok (.putfield 322, 3) := by decide +kernel
theorem D236_5 : decode (mB 236) 5 = .ok (.aload_n 0, 1) := by decide +kernel
theorem D236_6 : decode (mB 236) 6 = .ok (.iconst 0, 1) := by decide +kernel
theorem D236_7 : decode (mB 236) 7 = .ok (.putfield 342, 3) := by decide +kernel
theorem D236_10 : decode (mB 236) 10 = .ok (.aload_n 0, 1) := by decide +kernel
theorem D236_11 : decode (mB 236) 11 = .ok (.iconst 0, 1) := by decide +kernel
theorem D236_12 : decode (mB 236) 12 = .ok (.putfield 349, 3) := by decide +kernel
theorem D236_15 : decode (mB 236) 15 = .ok (.iconst 0, 1) := by decide +kernel
theorem D236_16 : decode (mB 236) 16 = .ok (.istore_n 3, 1) := by decide +kernel
theorem D236_17 : decode (mB 236) 17 = .ok (.iload_n 3, 1) := by decide +kernel
theorem D236_18 : decode (mB 236) 18 = .ok (.iload_n 2, 1) := by decide +kernel
theorem D236_19 : decode (mB 236) 19 = .ok (.if_icmp .ge 39, 3) := by decide +kernel
theorem D236_22 : decode (mB 236) 22 = .ok (.aload_n 0, 1) := by decide +kernel
theorem D236_23 : decode (mB 236) 23 = .ok (.aload_n 1, 1) := by decide +kernel
theorem D236_24 : decode (mB 236) 24 = .ok (.invokevirtual 352, 3) := by decide +kernel
theorem D236_27 : decode (mB 236) 27 = .ok (.aload_n 0, 1) := by decide +kernel
theorem D236_28 : decode (mB 236) 28 = .ok (.dup, 1) := by decide +kernel
theorem D236_29 : decode (mB 236) 29 = .ok (.getfield 349, 3) := by decide +kernel
theorem D236_32 : decode (mB 236) 32 = .ok (.aload_n 1, 1) := by decide +kernel
theorem D236_33 : decode (mB 236) 33 = .ok (.sipush 493, 3) := by decide +kernel
theorem D236_36 : decode (mB 236) 36 = .ok (.iaload, 1) := by decide +kernel
theorem D236_37 : decode (mB 236) 37 = .ok (.ifCond .ne 7, 3) := by decide +kernel
theorem D236_40 : decode (mB 236) 40 = .ok (.iconst 1, 1) := by decide +kernel
theorem D236_41 : decode (mB 236) 41 = .ok (.goto 4, 3) := by decide +kernel
theorem D236_44 : decode (mB 236) 44 = .ok (.iconst 0, 1) := by decide +kernel
theorem D236_45 : decode (mB 236) 45 = .ok (.invokestatic 40, 3) := by decide +kernel
theorem D236_48 : decode (mB 236) 48 = .ok (.iadd, 1) := by decide +kernel
theorem D236_49 : decode (mB 236) 49 = .ok (.putfield 349, 3) := by decide +kernel
theorem D236_52 : decode (mB 236) 52 = .ok (.iinc 3 1, 3) := by decide +kernel
theorem D236_55 : decode (mB 236) 55 = .ok (.goto (-38), 3) := by decide +kernel
theorem D236_58 : decode (mB 236) 58 = .ok (.return_, 1) := by decide +kernel
theorem D237_0 : decode (mB 237) 0 = .ok (.iconst 0, 1) := by decide +kernel
theorem D237_1 : decode (mB 237) 1 = .ok (.istore_n 2, 1) := by decide +kernel
theorem D237_2 : decode (mB 237) 2 = .ok (.iload_n 2, 1) := by decide +kernel
theorem D237_3 : decode (mB 237) 3 = .ok (.aload_n 1, 1) := by decide +kernel
theorem D237_4 : decode (mB 237) 4 = .ok (.sipush 493, 3) := by decide +kernel
theorem D237_7 : decode (mB 237) 7 = .ok (.iaload, 1) := by decide +kernel
theorem D237_8 : decode (mB 237) 8 = .ok (.if_icmp .ge 22, 3) := by decide +kernel
theorem D237_11 : decode (mB 237) 11 = .ok (.aload_n 1, 1) := by decide +kernel
theorem D237_12 : decode (mB 237) 12 = .ok (.iload_n 2, 1) := by decide +kernel
theorem D237_13 : decode (mB 237) 13 = .ok (.invokestatic 236, 3) := by decide +kernel
theorem D237_16 : decode (mB 237) 16 = .ok (.bipush 11, 2) := by decide +kernel
theorem D237_18 : decode (mB 237) 18 = .ok (.iadd, 1) := by decide +kernel
theorem D237_19 : decode (mB 237) 19 = .ok (.dup2, 1) := by decide +kernel
theorem D237_20 : decode (mB 237) 20 = .ok (.iaload, 1) := by decide +kernel
theorem D237_21 : decode (mB 237) 21 = .ok (.iconst 1, 1) := by decide +kernel
theorem D237_22 : decode (mB 237) 22 = .ok (.isub, 1) := by decide +kernel
theorem D237_23 : decode (mB 237) 23 = .ok (.iastore, 1) := by decide +kernel
theorem D237_24 : decode (mB 237) 24 = .ok (.iinc 2 1, 3) := by decide +kernel
theorem D237_27 : decode (mB 237) 27 = .ok (.goto (-25), 3) := by decide +kernel
theorem D237_30 : decode (mB 237) 30 = .ok (.iconst 0, 1) := by decide +kernel
theorem D237_31 : decode (mB 237) 31 = .ok (.istore_n 2, 1) := by decide +kernel
theorem D237_32 : decode (mB 237) 32 = .ok (.iload_n 2, 1) := by decide +kernel
theorem D237_33 : decode (mB 237) 33 = .ok (.aload_n 1, 1) := by decide +kernel
theorem D237_34 : decode (mB 237) 34 = .ok (.sipush 493, 3) := by decide +kernel
theorem D237_37 : decode (mB 237) 37 = .ok (.iaload, 1) := by decide +kernel
theorem D237_38 : decode (mB 237) 38 = .ok (.if_icmp .ge 30, 3) := by decide +kernel
theorem D237_41 : decode (mB 237) 41 = .ok (.aload_n 1, 1) := by decide +kernel
theorem D237_42 : decode (mB 237) 42 = .ok (.iload_n 2, 1) := by decide +kernel
theorem D237_43 : decode (mB 237) 43 = .ok (.invokestatic 236, 3) := by decide +kernel
theorem D237_46 : decode (mB 237) 46 = .ok (.bipush 11, 2) := by decide +kernel
theorem D237_48 : decode (mB 237) 48 = .ok (.iadd, 1) := by decide +kernel
theorem D237_49 : decode (mB 237) 49 = .ok (.iaload, 1) := by decide +kernel
theorem D237_50 : decode (mB 237) 50 = .ok (.ifCond .ne 12, 3) := by decide +kernel
theorem D237_53 : decode (mB 237) 53 = .ok (.aload_n 0, 1) := by decide +kernel
theorem D237_54 : decode (mB 237) 54 = .ok (.aload_n 1, 1) := by decide +kernel
theorem D237_55 : decode (mB 237) 55 = .ok (.iload_n 2, 1) := by decide +kernel
theorem D237_56 : decode (mB 237) 56 = .ok (.invokevirtual 325, 3) := by decide +kernel
theorem D237_59 : decode (mB 237) 59 = .ok (.goto (-27), 3) := by decide +kernel
theorem D237_62 : decode (mB 237) 62 = .ok (.iinc 2 1, 3) := by decide +kernel
theorem D237_65 : decode (mB 237) 65 = .ok (.goto (-33), 3) := by decide +kernel
theorem D237_68 : decode (mB 237) 68 = .ok (.aload_n 0, 1) := by decide +kernel
theorem D237_69 : decode (mB 237) 69 = .ok (.aload_n 1, 1) := by decide +kernel
theorem D237_70 : decode (mB 237) 70 = .ok (.invokevirtual 328, 3) := by decide +kernel
theorem D237_73 : decode (mB 237) 73 = .ok (.iconst 0, 1) := by decide +kernel
theorem D237_74 : decode (mB 237) 74 = .ok (.istore_n 3, 1) := by decide +kernel
theorem D237_75 : decode (mB 237) 75 = .ok (.iload_n 3, 1) := by decide +kernel
theorem D237_76 : decode (mB 237) 76 = .ok (.aload_n 0, 1) := by decide +kernel
theorem D237_77 : decode (mB 237) 77 = .ok (.getfield 198, 3) := by decide +kernel
theorem D237_80 : decode (mB 237) 80 = .ok (.if_icmp .ge 78, 3) := by decide +kernel
theorem D237_83 : decode (mB 237) 83 = .ok (.aload_n 0, 1) := by decide +kernel
theorem D237_84 : decode (mB 237) 84 = .ok (.getfield 143, 3) := by decide +kernel
theorem D237_87 : decode (mB 237) 87 = .ok (.iload_n 3, 1) := by decide +kernel
theorem D237_88 : decode (mB 237) 88 = .ok (.iaload, 1) := by decide +kernel
theorem D237_89 : decode (mB 237) 89 = .ok (.iconst 1, 1) := by decide +kernel
theorem D237_90 : decode (mB 237) 90 = .ok (.if_icmp .ne 62, 3) := by decide +kernel
theorem D237_93 : decode (mB 237) 93 = .ok (.aload_n 1, 1) := by decide +kernel
theorem D237_94 : decode (mB 237) 94 = .ok (.iload_n 3, 1) := by decide +kernel
theorem D237_95 : decode (mB 237) 95 = .ok (.bipush 8, 2) := by decide +kernel
theorem D237_97 : decode (mB 237) 97 = .ok (.invokestatic 220, 3) := by decide +kernel
theorem D237_100 : decode (mB 237) 100 = .ok (.iconst 1, 1) := by decide +kernel
theorem D237_101 : decode (mB 237) 101 = .ok (.if_icmp .ne 51, 3) := by decide +kernel
theorem D237_104 : decode (mB 237) 104 = .ok (.aload_n 1, 1) := by decide +kernel
theorem D237_105 : decode (mB 237) 105 = .ok (.iload_n 3, 1) := by decide +kernel
theorem D237_106 : decode (mB 237) 106 = .ok (.iconst 2, 1) := by decide +kernel
theorem D237_107 : decode (mB 237) 107 = .ok (.aload_n 1, 1) := by decide +kernel
theorem D237_108 : decode (mB 237) 108 = .ok (.iload_n 3, 1) := by decide +kernel
theorem D237_109 : decode (mB 237) 109 = .ok (.iconst 1, 1) := by decide +kernel
theorem D237_110 : decode (mB 237) 110 = .ok (.invokestatic 220, 3) := by decide +kernel
theorem D237_113 : decode (mB 237) 113 = .ok (.invokestatic 278, 3) := by decide +kernel
theorem D237_116 : decode (mB 237) 116 = .ok (.aload_n 1, 1) := by decide +kernel
theorem D237_117 : decode (mB 237) 117 = .ok (.iload_n 3, 1) := by decide +kernel
theorem D237_118 : decode (mB 237) 118 = .ok (.iconst 2, 1) := by decide +kernel
theorem D237_119 : decode (mB 237) 119 = .ok (.invokestatic 220, 3) := by decide +kernel
theorem D237_122 : decode (mB 237) 122 = .ok (.aload_n 1, 1) := by decide +kernel
theorem D237_123 : decode (mB 237) 123 = .ok (.iload_n 3, 1) := by decide +kernel
theorem D237_124 : decode (mB 237) 124 = .ok (.iconst 3, 1) := by decide +kernel
theorem D237_125 : decode (mB 237) 125 = .ok (.invokestatic 220, 3) := by decide +kernel
theorem D237_128 : decode (mB 237) 128 = .ok (.if_icmp .ne 24, 3) := by decide +kernel
theorem D237_131 : decode (mB 237) 131 = .ok (.aload_n 1, 1) := by decide +kernel
theorem D237_132 : decode (mB 237) 132 = .ok (.iload_n 3, 1) := by decide +kernel
theorem D237_133 : decode (mB 237) 133 = .ok (.bipush 7, 2) := by decide +kernel
theorem D237_135 : decode (mB 237) 135 = .ok (.aload_n 1, 1) := by decide +kernel
theorem D237_136 : decode (mB 237) 136 = .ok (.iload_n 3, 1) := by decide +kernel
theorem D237_137 : decode (mB 237) 137 = .ok (.iconst 2, 1) := by decide +kernel
theorem D237_138 : decode (mB 237) 138 = .ok (.invokestatic 220, 3) := by decide +kernel
theorem D237_141 : decode (mB 237) 141 = .ok (.invokestatic 278, 3) := by decide +kernel
theorem D237_144 : decode (mB 237) 144 = .ok (.aload_n 1, 1) := by decide +kernel
theorem D237_145 : decode (mB 237) 145 = .ok (.iload_n 3, 1) := by decide +kernel
theorem D237_146 : decode (mB 237) 146 = .ok (.bipush 8, 2) := by decide +kernel
theorem D237_148 : decode (mB 237) 148 = .ok (.iconst 0, 1) := by decide +kernel
theorem D237_149 : decode (mB 237) 149 = .ok (.invokestatic 278, 3) := by decide +kernel
theorem D237_152 : decode (mB 237) 152 = .ok (.iinc 3 1, 3) := by decide +kernel
theorem D237_155 : decode (mB 237) 155 = .ok (.goto (-80), 3) := by decide +kernel
theorem D237_158 : decode (mB 237) 158 = .ok (.aload_n 1, 1) := by decide +kernel
theorem D237_159 : decode (mB 237) 159 = .ok (.invokestatic 332, 3) := by decide +kernel
theorem D237_162 : decode (mB 237) 162 = .ok (.istore_n 3, 1) := by decide +kernel
theorem D237_163 : decode (mB 237) 163 = .ok (.aload_n 1, 1) := by decide +kernel
theorem D237_164 : decode (mB 237) 164 = .ok (.sipush 493, 3) := by decide +kernel
theorem D237_167 : decode (mB 237) 167 = .ok (.iaload, 1) := by decide +kernel
theorem D237_168 : decode (mB 237) 168 = .ok (.aload_n 1, 1) := by decide +kernel
theorem D237_169 : decode (mB 237) 169 = .ok (.sipush 826, 3) := by decide +kernel
theorem D237_172 : decode (mB 237) 172 = .ok (.iaload, 1) := by decide +kernel
theorem D237_173 : decode (mB 237) 173 = .ok (.if_icmp .ge 19, 3) := by decide +kernel
theorem D237_176 : decode (mB 237) 176 = .ok (.aload_n 0, 1) := by decide +kernel
theorem D237_177 : decode (mB 237) 177 = .ok (.aload_n 1, 1) := by decide +kernel
theorem D237_178 : decode (mB 237) 178 = .ok (.invokevirtual 335, 3) := by decide +kernel
theorem D237_181 : decode (mB 237) 181 = .ok (.ifCond .eq 11, 3) := by decide +kernel
theorem D237_184 : decode (mB 237) 184 = .ok (.aload_n 0, 1) := by decide +kernel
theorem D237_185 : decode (mB 237) 185 = .ok (.aload_n 1, 1) := by decide +kernel
theorem D237_186 : decode (mB 237) 186 = .ok (.invokevirtual 339, 3) := by decide +kernel
theorem D237_189 : decode (mB 237) 189 = .ok (.goto (-26), 3) := by decide +kernel
theorem D237_192 : decode (mB 237) 192 = .ok (.aload_n 0, 1) := by decide +kernel
theorem D237_193 : decode (mB 237) 193 = .ok (.dup, 1) := by decide +kernel
theorem D237_194 : decode (mB 237) 194 = .ok (.getfield 342, 3) := by decide +kernel
theorem D237_197 : decode (mB 237) 197 = .ok (.aload_n 1, 1) := by decide +kernel
theorem D237_198 : decode (mB 237) 198 = .ok (.invokestatic 332, 3) := by decide +kernel
theorem D237_201 : decode (mB 237) 201 = .ok (.iload_n 3, 1) := by decide +kernel
theorem D237_202 : decode (mB 237) 202 = .ok (.isub, 1) := by decide +kernel
theorem D237_203 : decode (mB 237) 203 = .ok (.iadd, 1) := by decide +kernel
theorem D237_204 : decode (mB 237) 204 = .ok (.putfield 342, 3) := by decide +kernel
theorem D237_207 : decode (mB 237) 207 = .ok (.aload_n 1, 1) := by decide +kernel
theorem D237_208 : decode (mB 237) 208 = .ok (.sipush 827, 3) := by decide +kernel
theorem D237_211 : decode (mB 237) 211 = .ok (.dup2, 1) := by decide +kernel
theorem D237_212 : decode (mB 237) 212 = .ok (.iaload, 1) := by decide +kernel
theorem D237_213 : decode (mB 237) 213 = .ok (.iconst 1, 1) := by decide +kernel
theorem D237_214 : decode (mB 237) 214 = .ok (.iadd, 1) := by decide +kernel
theorem D237_215 : decode (mB 237) 215 = .ok (.iastore, 1) := by decide +kernel
theorem D237_216 : decode (mB 237) 216 = .ok (.return_, 1) := by decide +kernel
theorem D238_0 : decode (mB 238) 0 = .ok (.aload_n 1, 1) := by decide +kernel
theorem D238_1 : decode (mB 238) 1 = .ok (.iload_n 2, 1) := by decide +kernel
theorem D238_2 : decode (mB 238) 2 = .ok (.invokestatic 236, 3) := by decide +kernel
theorem D238_5 : decode (mB 238) 5 = .ok (.iconst 0, 1) := by decide +kernel
theorem D238_6 : decode (mB 238) 6 = .ok (.iadd, 1) := by decide +kernel
theorem D238_7 : decode (mB 238) 7 = .ok (.iaload, 1) := by decide +kernel
theorem D238_8 : decode (mB 238) 8 = .ok (.istore_n 3, 1) := by decide +kernel
theorem D238_9 : decode (mB 238) 9 = .ok (.iload_n 2, 1) := by decide +kernel
theorem D238_10 : decode (mB 238) 10 = .ok (.invokestatic 236, 3) := by decide +kernel
theorem D238_13 : decode (mB 238) 13 = .ok (.iconst 1, 1) := by decide +kernel
theorem D238_14 : decode (mB 238) 14 = .ok (.iadd, 1) := by decide +kernel
theorem D238_15 : decode (mB 238) 15 = .ok (.istore 4, 2) := by decide +kernel
theorem D238_17 : decode (mB 238) 17 = .ok (.aload_n 1, 1) := by decide +kernel
theorem D238_18 : decode (mB 238) 18 = .ok (.iload 4, 2) := by decide +kernel
theorem D238_20 : decode (mB 238) 20 = .ok (.iconst 0, 1) := by decide +kernel
theorem D238_21 : decode (mB 238) 21 = .ok (.iadd, 1) := by decide +kernel
theorem D238_22 : decode (mB 238) 22 = .ok (.iaload, 1) := by decide +kernel
theorem D238_23 : decode (mB 238) 23 = .ok (.istore 5, 2) := by decide +kernel
theorem D238_25 : decode (mB 238) 25 = .ok (.sipush 828, 3) := by decide +kernel
theorem D238_28 : decode (mB 238) 28 = .ok (.aload_n 1, 1) := by decide +kernel
theorem D238_29 : decode (mB 238) 29 = .ok (.iload 4, 2) := by decide +kernel
theorem D238_31 : decode (mB 238) 31 = .ok (.iconst 2, 1) := by decide +kernel
theorem D238_32 : decode (mB 238) 32 = .ok (.iadd, 1) := by decide +kernel
theorem D238_33 : decode (mB 238) 33 = .ok (.iaload, 1) := by decide +kernel
theorem D238_34 : decode (mB 238) 34 = .ok (.iadd, 1) := by decide +kernel
theorem D238_35 : decode (mB 238) 35 = .ok (.istore 6, 2) := by decide +kernel
theorem D238_37 : decode (mB 238) 37 = .ok (.aload_n 1, 1) := by decide +kernel
theorem D238_38 : decode (mB 238) 38 = .ok (.iload 4, 2) := by decide +kernel
theorem D238_40 : decode (mB 238) 40 = .ok (.iconst 1, 1) := by decide +kernel
theorem D238_41 : decode (mB 238) 41 = .ok (.iadd, 1) := by decide +kernel
theorem D238_42 : decode (mB 238) 42 = .ok (.iaload, 1) := by decide +kernel
theorem D238_43 : decode (mB 238) 43 = .ok (.istore 7, 2) := by decide +kernel
theorem D238_45 : decode (mB 238) 45 = .ok (.iload 7, 2) := by decide +kernel
theorem D238_47 : decode (mB 238) 47 = .ok (.ifCond .ne 18, 3) := by decide +kernel
theorem D238_50 : decode (mB 238) 50 = .ok (.aload_n 1, 1) := by decide +kernel
theorem D238_51 : decode (mB 238) 51 = .ok (.iload_n 3, 1) := by decide +kernel
theorem D238_52 : decode (mB 238) 52 = .ok (.iload 5, 2) := by decide +kernel
theorem D238_54 : decode (mB 238) 54 = .ok (.iconst 0, 1) := by decide +kernel
theorem D238_55 : decode (mB 238) 55 = .ok (.aload_n 1, 1) := by decide +kernel
theorem D238_56 : decode (mB 238) 56 = .ok (.iload 6, 2) := by decide +kernel
theorem D238_58 : decode (mB 238) 58 = .ok (.iaload, 1) := by decide +kernel
theorem D238_59 : decode (mB 238) 59 = .ok (.invokestatic 287, 3) := by decide +kernel
theorem D238_62 : decode (mB 238) 62 = .ok (.goto 163, 3) := by decide +kernel
theorem D238_65 : decode (mB 238) 65 = .ok (.iload 7, 2) := by decide +kernel
theorem D238_67 : decode (mB 238) 67 = .ok (.iconst 1, 1) := by decide +kernel
theorem D238_68 : decode (mB 238) 68 = .ok (.if_icmp .ne 30, 3) := by decide +kernel
theorem D238_71 : decode (mB 238) 71 = .ok (.aload_n 1, 1) := by decide +kernel
theorem D238_72 : decode (mB 238) 72 = .ok (.iload 6, 2) := by decide +kernel
theorem D238_74 : decode (mB 238) 74 = .ok (.aload_n 1, 1) := by decide +kernel
theorem D238_75 : decode (mB 238) 75 = .ok (.iload 4, 2) := by decide +kernel
theorem D238_77 : decode (mB 238) 77 = .ok (.iconst 3, 1) := by decide +kernel
theorem D238_78 : decode (mB 238) 78 = .ok (.iadd, 1) := by decide +kernel
theorem D238_79 : decode (mB 238) 79 = .ok (.iaload, 1) := by decide +kernel
theorem D238_80 : decode (mB 238) 80 = .ok (.iastore, 1) := by decide +kernel
theorem D238_81 : decode (mB 238) 81 = .ok (.aload_n 1, 1) := by decide +kernel
theorem D238_82 : decode (mB 238) 82 = .ok (.iload_n 3, 1) := by decide +kernel
theorem D238_83 : decode (mB 238) 83 = .ok (.iload 5, 2) := by decide +kernel
theorem D238_85 : decode (mB 238) 85 = .ok (.iconst 0, 1) := by decide +kernel
theorem D238_86 : decode (mB 238) 86 = .ok (.aload_n 1, 1) := by decide +kernel
theorem D238_87 : decode (mB 238) 87 = .ok (.iload 4, 2) := by decide +kernel
theorem D238_89 : decode (mB 238) 89 = .ok (.iconst 3, 1) := by decide +kernel
theorem D238_90 : decode (mB 238) 90 = .ok (.iadd, 1) := by decide +kernel
theorem D238_91 : decode (mB 238) 91 = .ok (.iaload, 1) := by decide +kernel
theorem D238_92 : decode (mB 238) 92 = .ok (.invokestatic 287, 3) := by decide +kernel
theorem D238_95 : decode (mB 238) 95 = .ok (.goto 130, 3) := by decide +kernel
theorem D238_98 : decode (mB 238) 98 = .ok (.iload 7, 2) := by decide +kernel
theorem D238_100 : decode (mB 238) 100 = .ok (.iconst 4, 1) := by decide +kernel
theorem D238_101 : decode (mB 238) 101 = .ok (.if_icmp .ne 15, 3) := by decide +kernel
theorem D238_104 : decode (mB 238) 104 = .ok (.aload_n 1, 1) := by decide +kernel
theorem D238_105 : decode (mB 238) 105 = .ok (.iload_n 3, 1) := by decide +kernel
theorem D238_106 : decode (mB 238) 106 = .ok (.iload 5, 2) := by decide +kernel
theorem D238_108 : decode (mB 238) 108 = .ok (.iconst 0, 1) := by decide +kernel
theorem D238_109 : decode (mB 238) 109 = .ok (.iconst 0, 1) := by decide +kernel
theorem D238_110 : decode (mB 238) 110 = .ok (.invokestatic 287, 3) := by decide +kernel
theorem D238_113 : decode (mB 238) 113 = .ok (.goto 112, 3) := by decide +kernel
theorem D238_116 : decode (mB 238) 116 = .ok (.iload_n 2, 1) := by decide +kernel
theorem D238_117 : decode (mB 238) 117 = .ok (.invokestatic 236, 3) := by decide +kernel
theorem D238_120 : decode (mB 238) 120 = .ok (.bipush 6, 2) := by decide +kernel
theorem D238_122 : decode (mB 238) 122 = .ok (.iadd, 1) := by decide +kernel
theorem D238_123 : decode (mB 238) 123 = .ok (.istore 8, 2) := by decide +kernel
theorem D238_125 : decode (mB 238) 125 = .ok (.aload_n 1, 1) := by decide +kernel
theorem D238_126 : decode (mB 238) 126 = .ok (.iload 6, 2) := by decide +kernel
theorem D238_128 : decode (mB 238) 128 = .ok (.iaload, 1) := by decide +kernel
theorem D238_129 : decode (mB 238) 129 = .ok (.aload_n 1, 1) := by decide +kernel
theorem D238_130 : decode (mB 238) 130 = .ok (.iload 4, 2) := by decide +kernel
theorem D238_132 : decode (mB 238) 132 = .ok (.iconst 3, 1) := by decide +kernel
theorem D238_133 : decode (mB 238) 133 = .ok (.iadd, 1) := by decide +kernel
theorem D238_134 : decode (mB 238) 134 = .ok (.iaload, 1) := by decide +kernel
theorem D238_135 : decode (mB 238) 135 = .ok (.if_icmp .ne 7, 3) := by decide +kernel
theorem D238_138 : decode (mB 238) 138 = .ok (.iconst 1, 1) := by decide +kernel
theorem D238_139 : decode (mB 238) 139 = .ok (.goto 4, 3) := by decide +kernel
theorem D238_142 : decode (mB 238) 142 = .ok (.iconst 0, 1) := by decide +kernel
theorem D238_143 : decode (mB 238) 143 = .ok (.istore 9, 2) := by decide +kernel
theorem D238_145 : decode (mB 238) 145 = .ok (.aload_n 1, 1) := by decide +kernel
theorem D238_146 : decode (mB 238) 146 = .ok (.iload_n 3, 1) := by decide +kernel
theorem D238_147 : decode (mB 238) 147 = .ok (.iload 5, 2) := by decide +kernel
theorem D238_149 : decode (mB 238) 149 = .ok (.iload 9, 2) := by decide +kernel
theorem D238_151 : decode (mB 238) 151 = .ok (.ifCond .eq 7, 3) := by decide +kernel
theorem D238_154 : decode (mB 238) 154 = .ok (.iconst 0, 1) := by decide +kernel
theorem D238_155 : decode (mB 238) 155 = .ok (.goto 4, 3) := by decide +kernel
theorem D238_158 : decode (mB 238) 158 = .ok (.iconst 2, 1) := by decide +kernel
theorem D238_159 : decode (mB 238) 159 = .ok (.aload_n 1, 1) := by decide +kernel
theorem D238_160 : decode (mB 238) 160 = .ok (.iload 6, 2) := by decide +kernel
theorem D238_162 : decode (mB 238) 162 = .ok (.iaload, 1) := by decide +kernel
theorem D238_163 : decode (mB 238) 163 = .ok (.invokestatic 287, 3) := by decide +kernel
theorem D238_166 : decode (mB 238) 166 = .ok (.iload 9, 2) := by decide +kernel
theorem D238_168 : decode (mB 238) 168 = .ok (.ifCond .eq 21, 3) := by decide +kernel
theorem D238_171 : decode (mB 238) 171 = .ok (.aload_n 1, 1) := by decide +kernel
theorem D238_172 : decode (mB 238) 172 = .ok (.sipush 828, 3) := by decide +kernel
theorem D238_175 : decode (mB 238) 175 = .ok (.aload_n 1, 1) := by decide +kernel
theorem D238_176 : decode (mB 238) 176 = .ok (.iload 8, 2) := by decide +kernel
theorem D238_178 : decode (mB 238) 178 = .ok (.iconst 2, 1) := by decide +kernel
theorem D238_179 : decode (mB 238) 179 = .ok (.iadd, 1) := by decide +kernel
theorem D238_180 : decode (mB 238) 180 = .ok (.iaload, 1) := by decide +kernel
theorem D238_181 : decode (mB 238) 181 = .ok (.iadd, 1) := by decide +kernel
theorem D238_182 : decode (mB 238) 182 = .ok (.aload_n 1, 1) := by decide +kernel
theorem D238_183 : decode (mB 238) 183 = .ok (.iload 8, 2) := by decide +kernel
theorem D238_185 : decode (mB 238) 185 = .ok (.iconst 3, 1) := by decide +kernel
theorem D238_186 : decode (mB 238) 186 = .ok (.iadd, 1) := by decide +kernel
theorem D238_187 : decode (mB 238) 187 = .ok (.iaload, 1) := by decide +kernel
theorem D238_188 : decode (mB 238) 188 = .ok (.iastore, 1) := by decide +kernel
theorem D238_189 : decode (mB 238) 189 = .ok (.aload_n 1, 1) := by decide +kernel
theorem D238_190 : decode (mB 238) 190 = .ok (.iload_n 3, 1) := by decide +kernel
theorem D238_191 : decode (mB 238) 191 = .ok (.aload_n 1, 1) := by decide +kernel
theorem D238_192 : decode (mB 238) 192 = .ok (.iload 8, 2) := by decide +kernel
theorem D238_194 : decode (mB 238) 194 = .ok (.iconst 0, 1) := by decide +kernel
theorem D238_195 : decode (mB 238) 195 = .ok (.iadd, 1) := by decide +kernel
theorem D238_196 : decode (mB 238) 196 = .ok (.iaload, 1) := by decide +kernel
theorem D238_197 : decode (mB 238) 197 = .ok (.iload 9, 2) := by decide +kernel
theorem D238_199 : decode (mB 238) 199 = .ok (.ifCond .eq 7, 3) := by decide +kernel
theorem D238_202 : decode (mB 238) 202 = .ok (.iconst 0, 1) := by decide +kernel
theorem D238_203 : decode (mB 238) 203 = .ok (.goto 4, 3) := by decide +kernel
theorem D238_206 : decode (mB 238) 206 = .ok (.iconst 3, 1) := by decide +kernel
theorem D238_207 : decode (mB 238) 207 = .ok (.iload 9, 2) := by decide +kernel
theorem D238_209 : decode (mB 238) 209 = .ok (.ifCond .eq 12, 3) := by decide +kernel
theorem D238_212 : decode (mB 238) 212 = .ok (.aload_n 1, 1) := by decide +kernel
theorem D238_213 : decode (mB 238) 213 = .ok (.iload 8, 2) := by decide +kernel
theorem D238_215 : decode (mB 238) 215 = .ok (.iconst 3, 1) := by decide +kernel
theorem D238_216 : decode (mB 238) 216 = .ok (.iadd, 1) := by decide +kernel
theorem D238_217 : decode (mB 238) 217 = .ok (.iaload, 1) := by decide +kernel
theorem D238_218 : decode (mB 238) 218 = .ok (.goto 4, 3) := by decide +kernel
theorem D238_221 : decode (mB 238) 221 = .ok (.iconst 0, 1) := by decide +kernel
theorem D238_222 : decode (mB 238) 222 = .ok (.invokestatic 287, 3) := by decide +kernel
theorem D238_225 : decode (mB 238) 225 = .ok (.aload_n 1, 1) := by decide +kernel
theorem D238_226 : decode (mB 238) 226 = .ok (.iload_n 2, 1) := by decide +kernel
theorem D238_227 : decode (mB 238) 227 = .ok (.invokestatic 291, 3) := by decide +kernel
theorem D238_230 : decode (mB 238) 230 = .ok (.return_, 1) := by decide +kernel
theorem D239_0 : decode (mB 239) 0 = .ok (.aload_n 0, 1) := by decide +kernel
theorem D239_1 : decode (mB 239) 1 = .ok (.sipush 814, 3) := by decide +kernel
theorem D239_4 : decode (mB 239) 4 = .ok (.iaload, 1) := by decide +kernel
theorem D239_5 : decode (mB 239) 5 = .ok (.invokestatic 246, 3) := by decide +kernel
theorem D239_8 : decode (mB 239) 8 = .ok (.istore 5, 2) := by decide +kernel
theorem D239_10 : decode (mB 239) 10 = .ok (.aload_n 0, 1) := by decide +kernel
theorem D239_11 : decode (mB 239) 11 = .ok (.iload 5, 2) := by decide +kernel
theorem D239_13 : decode (mB 239) 13 = .ok (.iconst 0, 1) := by decide +kernel
theorem D239_14 : decode (mB 239) 14 = .ok (.iadd, 1) := by decide +kernel
theorem D239_15 : decode (mB 239) 15 = .ok (.iload_n 1, 1) := by decide +kernel
theorem D239_16 : decode (mB 239) 16 = .ok (.iastore, 1) := by decide +kernel
theorem D239_17 : decode (mB 239) 17 = .ok (.aload_n 0, 1) := by decide +kernel
theorem D239_18 : decode (mB 239) 18 = .ok (.iload 5, 2) := by decide +kernel
theorem D239_20 : decode (mB 239) 20 = .ok (.iconst 1, 1) := by decide +kernel
theorem D239_21 : decode (mB 239) 21 = .ok (.iadd, 1) := by decide +kernel
theorem D239_22 : decode (mB 239) 22 = .ok (.iload_n 2, 1) := by decide +kernel
theorem D239_23 : decode (mB 239) 23 = .ok (.iastore, 1) := by decide +kernel
theorem D239_24 : decode (mB 239) 24 = .ok (.aload_n 0, 1) := by decide +kernel
theorem D239_25 : decode (mB 239) 25 = .ok (.iload 5, 2) := by decide +kernel
theorem D239_27 : decode (mB 239) 27 = .ok (.iconst 2, 1) := by decide +kernel
theorem D239_28 : decode (mB 239) 28 = .ok (.iadd, 1) := by decide +kernel
theorem D239_29 : decode (mB 239) 29 = .ok (.iload_n 3, 1) := by decide +kernel
theorem D239_30 : decode (mB 239) 30 = .ok (.iastore, 1) := by decide +kernel
theorem D239_31 : decode (mB 239) 31 = .ok (.aload_n 0, 1) := by decide +kernel
theorem D239_32 : decode (mB 239) 32 = .ok (.iload 5, 2) := by decide +kernel
theorem D239_34 : decode (mB 239) 34 = .ok (.iconst 3, 1) := by decide +kernel
theorem D239_35 : decode (mB 239) 35 = .ok (.iadd, 1) := by decide +kernel
theorem D239_36 : decode (mB 239) 36 = .ok (.iload 4, 2) := by decide +kernel
theorem D239_38 : decode (mB 239) 38 = .ok (.iastore, 1) := by decide +kernel
theorem D239_39 : decode (mB 239) 39 = .ok (.aload_n 0, 1) := by decide +kernel
theorem D239_40 : decode (mB 239) 40 = .ok (.sipush 814, 3) := by decide +kernel
theorem D239_43 : decode (mB 239) 43 = .ok (.dup2, 1) := by decide +kernel
theorem D239_44 : decode (mB 239) 44 = .ok (.iaload, 1) := by decide +kernel
theorem D239_45 : decode (mB 239) 45 = .ok (.iconst 1, 1) := by decide +kernel
theorem D239_46 : decode (mB 239) 46 = .ok (.iadd, 1) := by decide +kernel
theorem D239_47 : decode (mB 239) 47 = .ok (.iastore, 1) := by decide +kernel
theorem D239_48 : decode (mB 239) 48 = .ok (.return_, 1) := by decide +kernel
theorem D240_0 : decode (mB 240) 0 = .ok (.aload_n 0, 1) := by decide +kernel
theorem D240_1 : decode (mB 240) 1 = .ok (.sipush 493, 3) := by decide +kernel
theorem D240_4 : decode (mB 240) 4 = .ok (.dup2, 1) := by decide +kernel
theorem D240_5 : decode (mB 240) 5 = .ok (.iaload, 1) := by decide +kernel
theorem D240_6 : decode (mB 240) 6 = .ok (.iconst 1, 1) := by decide +kernel
theorem D240_7 : decode (mB 240) 7 = .ok (.isub, 1) := by decide +kernel
theorem D240_8 : decode (mB 240) 8 = .ok (.iastore, 1) := by decide +kernel
theorem D240_9 : decode (mB 240) 9 = .ok (.iload_n 1, 1) := by decide +kernel
theorem D240_10 : decode (mB 240) 10 = .ok (.invokestatic 236, 3) := by decide +kernel
theorem D240_13 : decode (mB 240) 13 = .ok (.istore_n 2, 1) := by decide +kernel
theorem D240_14 : decode (mB 240) 14 = .ok (.iload_n 2, 1) := by decide +kernel
theorem D240_15 : decode (mB 240) 15 = .ok (.aload_n 0, 1) := by decide +kernel
theorem D240_16 : decode (mB 240) 16 = .ok (.sipush 493, 3) := by decide +kernel
theorem D240_19 : decode (mB 240) 19 = .ok (.iaload, 1) := by decide +kernel
theorem D240_20 : decode (mB 240) 20 = .ok (.invokestatic 236, 3) := by decide +kernel
theorem D240_23 : decode (mB 240) 23 = .ok (.if_icmp .ge 18, 3) := by decide +kernel
theorem D240_26 : decode (mB 240) 26 = .ok (.aload_n 0, 1) := by decide +kernel
theorem D240_27 : decode (mB 240) 27 = .ok (.iload_n 2, 1) := by decide +kernel
theorem D240_28 : decode (mB 240) 28 = .ok (.aload_n 0, 1) := by decide +kernel
theorem D240_29 : decode (mB 240) 29 = .ok (.iload_n 2, 1) := by decide +kernel
theorem D240_30 : decode (mB 240) 30 = .ok (.bipush 12, 2) := by decide +kernel
theorem D240_32 : decode (mB 240) 32 = .ok (.iadd, 1) := by decide +kernel
theorem D240_33 : decode (mB 240) 33 = .ok (.iaload, 1) := by decide +kernel
theorem D240_34 : decode (mB 240) 34 = .ok (.iastore, 1) := by decide +kernel
theorem D240_35 : decode (mB 240) 35 = .ok (.iinc 2 1, 3) := by decide +kernel
theorem D240_38 : decode (mB 240) 38 = .ok (.goto (-24), 3) := by decide +kernel
theorem D240_41 : decode (mB 240) 41 = .ok (.return_, 1) := by decide +kernel
theorem D241_0 : decode (mB 241) 0 = .ok (.iconst 0, 1) := by decide +kernel
theorem D241_1 : decode (mB 241) 1 = .ok (.istore_n 2, 1) := by decide +kernel
theorem D241_2 : decode (mB 241) 2 = .ok (.iload_n 2, 1) := by decide +kernel
theorem D241_3 : decode (mB 241) 3 = .ok (.aload_n 1, 1) := by decide +kernel
theorem D241_4 : decode (mB 241) 4 = .ok (.sipush 814, 3) := by decide +kernel
theorem D241_7 : decode (mB 241) 7 = .ok (.iaload, 1) := by decide +kernel
theorem D241_8 : decode (mB 241) 8 = .ok (.if_icmp .ge 166, 3) := by decide +kernel
theorem D241_11 : decode (mB 241) 11 = .ok (.iload_n 2, 1) := by decide +kernel
theorem D241_12 : decode (mB 241) 12 = .ok (.invokestatic 246, 3) := by decide +kernel
theorem D241_15 : decode (mB 241) 15 = .ok (.istore_n 3, 1) := by decide +kernel
theorem D241_16 : decode (mB 241) 16 = .ok (.aload_n 1, 1) := by decide +kernel
theorem D241_17 : decode (mB 241) 17 = .ok (.iload_n 3, 1) := by decide +kernel
theorem D241_18 : decode (mB 241) 18 = .ok (.iconst 0, 1) := by decide +kernel
theorem D241_19 : decode (mB 241) 19 = .ok (.iadd, 1) := by decide +kernel
theorem D241_20 : decode (mB 241) 20 = .ok (.iaload, 1) := by decide +kernel
theorem D241_21 : decode (mB 241) 21 = .ok (.istore 4, 2) := by decide +kernel
theorem D241_23 : decode (mB 241) 23 = .ok (.aload_n 1, 1) := by decide +kernel
theorem D241_24 : decode (mB 241) 24 = .ok (.iload 4, 2) := by decide +kernel
theorem D241_26 : decode (mB 241) 26 = .ok (.iconst 5, 1) := by decide +kernel
theorem D241_27 : decode (mB 241) 27 = .ok (.invokestatic 220, 3) := by decide +kernel
theorem D241_30 : decode (mB 241) 30 = .ok (.istore 5, 2) := by decide +kernel
theorem D241_32 : decode (mB 241) 32 = .ok (.iload 5, 2) := by decide +kernel
theorem D241_34 : decode (mB 241) 34 = .ok (.aload_n 1, 1) := by decide +kernel
theorem D241_35 : decode (mB 241) 35 = .ok (.iload 4, 2) := by decide +kernel
theorem D241_37 : decode (mB 241) 37 = .ok (.bipush 6, 2) := by decide +kernel
theorem D241_39 : decode (mB 241) 39 = .ok (.invokestatic 220, 3) := by decide +kernel
theorem D241_42 : decode (mB 241) 42 = .ok (.isub, 1) := by decide +kernel
theorem D241_43 : decode (mB 241) 43 = .ok (.aload_n 0, 1) := by decide +kernel
theorem D241_44 : decode (mB 241) 44 = .ok (.getfield 137, 3) := by decide +kernel
theorem D241_47 : decode (mB 241) 47 = .ok (.iload 4, 2) := by decide +kernel
theorem D241_49 : decode (mB 241) 49 = .ok (.iaload, 1) := by decide +kernel
theorem D241_50 : decode (mB 241) 50 = .ok (.iconst 1, 1) := by decide +kernel
theorem D241_51 : decode (mB 241) 51 = .ok (.isub, 1) := by decide +kernel
theorem D241_52 : decode (mB 241) 52 = .ok (.if_icmp .ge 116, 3) := by decide +kernel
theorem D241_55 : decode (mB 241) 55 = .ok (.iload 4, 2) := by decide +kernel
theorem D241_57 : decode (mB 241) 57 = .ok (.iload 5, 2) := by decide +kernel
theorem D241_59 : decode (mB 241) 59 = .ok (.invokestatic 249, 3) := by decide +kernel
theorem D241_62 : decode (mB 241) 62 = .ok (.istore 6, 2) := by decide +kernel
theorem D241_64 : decode (mB 241) 64 = .ok (.aload_n 1, 1) := by decide +kernel
theorem D241_65 : decode (mB 241) 65 = .ok (.iload 6, 2) := by decide +kernel
theorem D241_67 : decode (mB 241) 67 = .ok (.iconst 0, 1) := by decide +kernel
theorem D241_68 : decode (mB 241) 68 = .ok (.iadd, 1) := by decide +kernel
theorem D241_69 : decode (mB 241) 69 = .ok (.aload_n 1, 1) := by decide +kernel
theorem D241_70 : decode (mB 241) 70 = .ok (.iload_n 3, 1) := by decide +kernel
theorem D241_71 : decode (mB 241) 71 = .ok (.iconst 1, 1) := by decide +kernel
theorem D241_72 : decode (mB 241) 72 = .ok (.iadd, 1) := by decide +kernel
theorem D241_73 : decode (mB 241) 73 = .ok (.iaload, 1) := by decide +kernel
theorem D241_74 : decode (mB 241) 74 = .ok (.iastore, 1) := by decide +kernel
theorem D241_75 : decode (mB 241) 75 = .ok (.aload_n 1, 1) := by decide +kernel
theorem D241_76 : decode (mB 241) 76 = .ok (.iload 6, 2) := by decide +kernel
theorem D241_78 : decode (mB 241) 78 = .ok (.iconst 1, 1) := by decide +kernel
theorem D241_79 : decode (mB 241) 79 = .ok (.iadd, 1) := by decide +kernel
theorem D241_80 : decode (mB 241) 80 = .ok (.aload_n 1, 1) := by decide +kernel
theorem D241_81 : decode (mB 241) 81 = .ok (.iload_n 3, 1) := by decide +kernel
theorem D241_82 : decode (mB 241) 82 = .ok (.iconst 2, 1) := by decide +kernel
theorem D241_83 : decode (mB 241) 83 = .ok (.iadd, 1) := by decide +kernel
theorem D241_84 : decode (mB 241) 84 = .ok (.iaload, 1) := by decide +kernel
theorem D241_85 : decode (mB 241) 85 = .ok (.iastore, 1) := by decide +kernel
theorem D241_86 : decode (mB 241) 86 = .ok (.aload_n 1, 1) := by decide +kernel
theorem D241_87 : decode (mB 241) 87 = .ok (.iload 6, 2) := by decide +kernel
theorem D241_89 : decode (mB 241) 89 = .ok (.iconst 2, 1) := by decide +kernel
theorem D241_90 : decode (mB 241) 90 = .ok (.iadd, 1) := by decide +kernel
theorem D241_91 : decode (mB 241) 91 = .ok (.aload_n 1, 1) := by decide +kernel
theorem D241_92 : decode (mB 241) 92 = .ok (.iload_n 3, 1) := by decide +kernel
theorem D241_93 : decode (mB 241) 93 = .ok (.iconst 3, 1) := by decide +kernel
theorem D241_94 : decode (mB 241) 94 = .ok (.iadd, 1) := by decide +kernel
theorem D241_95 : decode (mB 241) 95 = .ok (.iaload, 1) := by decide +kernel
theorem D241_96 : decode (mB 241) 96 = .ok (.iastore, 1) := by decide +kernel
theorem D241_97 : decode (mB 241) 97 = .ok (.aload_n 1, 1) := by decide +kernel
theorem D241_98 : decode (mB 241) 98 = .ok (.iload 6, 2) := by decide +kernel
theorem D241_100 : decode (mB 241) 100 = .ok (.iconst 3, 1) := by decide +kernel
theorem D241_101 : decode (mB 241) 101 = .ok (.iadd, 1) := by decide +kernel
theorem D241_102 : decode (mB 241) 102 = .ok (.aload_n 1, 1) := by decide +kernel
theorem D241_103 : decode (mB 241) 103 = .ok (.iload 4, 2) := by decide +kernel
theorem D241_105 : decode (mB 241) 105 = .ok (.iconst 3, 1) := by decide +kernel
theorem D241_106 : decode (mB 241) 106 = .ok (.invokestatic 220, 3) := by decide +kernel
theorem D241_109 : decode (mB 241) 109 = .ok (.iastore, 1) := by decide +kernel
theorem D241_110 : decode (mB 241) 110 = .ok (.aload_n 1, 1) := by decide +kernel
theorem D241_111 : decode (mB 241) 111 = .ok (.iload 6, 2) := by decide +kernel
theorem D241_113 : decode (mB 241) 113 = .ok (.iconst 4, 1) := by decide +kernel
theorem D241_114 : decode (mB 241) 114 = .ok (.iadd, 1) := by decide +kernel
theorem D241_115 : decode (mB 241) 115 = .ok (.iload 5, 2) := by decide +kernel
theorem D241_117 : decode (mB 241) 117 = .ok (.aload_n 0, 1) := by decide +kernel
theorem D241_118 : decode (mB 241) 118 = .ok (.getfield 137, 3) := by decide +kernel
theorem D241_121 : decode (mB 241) 121 = .ok (.iload 4, 2) := by decide +kernel
theorem D241_123 : decode (mB 241) 123 = .ok (.iaload, 1) := by decide +kernel
theorem D241_124 : decode (mB 241) 124 = .ok (.idiv, 1) := by decide +kernel
theorem D241_125 : decode (mB 241) 125 = .ok (.iconst 2, 1) := by decide +kernel
theorem D241_126 : decode (mB 241) 126 = .ok (.irem, 1) := by decide +kernel
theorem D241_127 : decode (mB 241) 127 = .ok (.ifCond .ne 7, 3) := by decide +kernel
theorem D241_130 : decode (mB 241) 130 = .ok (.iconst 1, 1) := by decide +kernel
theorem D241_131 : decode (mB 241) 131 = .ok (.goto 4, 3) := by decide +kernel
theorem D241_134 : decode (mB 241) 134 = .ok (.iconst 0, 1) := by decide +kernel
theorem D241_135 : decode (mB 241) 135 = .ok (.invokestatic 40, 3) := by decide +kernel
theorem D241_138 : decode (mB 241) 138 = .ok (.iastore, 1) := by decide +kernel
theorem D241_139 : decode (mB 241) 139 = .ok (.aload_n 1, 1) := by decide +kernel
theorem D241_140 : decode (mB 241) 140 = .ok (.iload 4, 2) := by decide +kernel
theorem D241_142 : decode (mB 241) 142 = .ok (.iconst 5, 1) := by decide +kernel
theorem D241_143 : decode (mB 241) 143 = .ok (.iload 5, 2) := by decide +kernel
theorem D241_145 : decode (mB 241) 145 = .ok (.iconst 1, 1) := by decide +kernel
theorem D241_146 : decode (mB 241) 146 = .ok (.iadd, 1) := by decide +kernel
theorem D241_147 : decode (mB 241) 147 = .ok (.invokestatic 278, 3) := by decide +kernel
theorem D241_150 : decode (mB 241) 150 = .ok (.aload_n 1, 1) := by decide +kernel
theorem D241_151 : decode (mB 241) 151 = .ok (.iload_n 2, 1) := by decide +kernel
theorem D241_152 : decode (mB 241) 152 = .ok (.invokestatic 319, 3) := by decide +kernel
theorem D241_155 : decode (mB 241) 155 = .ok (.aload_n 0, 1) := by decide +kernel
theorem D241_156 : decode (mB 241) 156 = .ok (.dup, 1) := by decide +kernel
theorem D241_157 : decode (mB 241) 157 = .ok (.getfield 322, 3) := by decide +kernel
theorem D241_160 : decode (mB 241) 160 = .ok (.iconst 1, 1) := by decide +kernel
theorem D241_161 : decode (mB 241) 161 = .ok (.iadd, 1) := by decide +kernel
theorem D241_162 : decode (mB 241) 162 = .ok (.putfield 322, 3) := by decide +kernel
theorem D241_165 : decode (mB 241) 165 = .ok (.goto 6, 3) := by decide +kernel
theorem D241_168 : decode (mB 241) 168 = .ok (.iinc 2 1, 3) := by decide +kernel
theorem D241_171 : decode (mB 241) 171 = .ok (.goto (-169), 3) := by decide +kernel
theorem D241_174 : decode (mB 241) 174 = .ok (.return_, 1) := by decide +kernel
theorem D242_0 : decode (mB 242) 0 = .ok (.aload_n 0, 1) := by decide +kernel
theorem D242_1 : decode (mB 242) 1 = .ok (.sipush 814, 3) := by decide +kernel
theorem D242_4 : decode (mB 242) 4 = .ok (.dup2, 1) := by decide +kernel
theorem D242_5 : decode (mB 242) 5 = .ok (.iaload, 1) := by decide +kernel
theorem D242_6 : decode (mB 242) 6 = .ok (.iconst 1, 1) := by decide +kernel
theorem D242_7 : decode (mB 242) 7 = .ok (.isub, 1) := by decide +kernel
theorem D242_8 : decode (mB 242) 8 = .ok (.iastore, 1) := by decide +kernel
theorem D242_9 : decode (mB 242) 9 = .ok (.iload_n 1, 1) := by decide +kernel
theorem D242_10 : decode (mB 242) 10 = .ok (.invokestatic 246, 3) := by decide +kernel
theorem D242_13 : decode (mB 242) 13 = .ok (.istore_n 2, 1) := by decide +kernel
theorem D242_14 : decode (mB 242) 14 = .ok (.iload_n 2, 1) := by decide +kernel
theorem D242_15 : decode (mB 242) 15 = .ok (.aload_n 0, 1) := by decide +kernel
theorem D242_16 : decode (mB 242) 16 = .ok (.sipush 814, 3) := by decide +kernel
theorem D242_19 : decode (mB 242) 19 = .ok (.iaload, 1) := by decide +kernel
theorem D242_20 : decode (mB 242) 20 = .ok (.invokestatic 246, 3) := by decide +kernel
theorem D242_23 : decode (mB 242) 23 = .ok (.if_icmp .ge 17, 3) := by decide +kernel
theorem D242_26 : decode (mB 242) 26 = .ok (.aload_n 0, 1) := by decide +kernel
theorem D242_27 : decode (mB 242) 27 = .ok (.iload_n 2, 1) := by decide +kernel
theorem D242_28 : decode (mB 242) 28 = .ok (.aload_n 0, 1) := by decide +kernel
theorem D242_29 : decode (mB 242) 29 = .ok (.iload_n 2, 1) := by decide +kernel
theorem D242_30 : decode (mB 242) 30 = .ok (.iconst 4, 1) := by decide +kernel
theorem D242_31 : decode (mB 242) 31 = .ok (.iadd, 1) := by decide +kernel
theorem D242_32 : decode (mB 242) 32 = .ok (.iaload, 1) := by decide +kernel
theorem D242_33 : decode (mB 242) 33 = .ok (.iastore, 1) := by decide +kernel
theorem D242_34 : decode (mB 242) 34 = .ok (.iinc 2 1, 3) := by decide +kernel
theorem D242_37 : decode (mB 242) 37 = .ok (.goto (-23), 3) := by decide +kernel
theorem D242_40 : decode (mB 242) 40 = .ok (.return_, 1) := by decide +kernel
theorem D243_0 : decode (mB 243) 0 = .ok (.iconst 0, 1) := by decide +kernel
theorem D243_1 : decode (mB 243) 1 = .ok (.istore_n 1, 1) := by decide +kernel
theorem D243_2 : decode (mB 243) 2 = .ok (.iconst 0, 1) := by decide +kernel
theorem D243_3 : decode (mB 243) 3 = .ok (.istore_n 2, 1) := by decide +kernel
theorem D243_4 : decode (mB 243) 4 = .ok (.iload_n 2, 1) := by decide +kernel
theorem D243_5 : decode (mB 243) 5 = .ok (.iconst 4, 1) := by decide +kernel
theorem D243_6 : decode (mB 243) 6 = .ok (.if_icmp .ge 19, 3) := by decide +kernel
theorem D243_9 : decode (mB 243) 9 = .ok (.iload_n 1, 1) := by decide +kernel
theorem D243_10 : decode (mB 243) 10 = .ok (.aload_n 0, 1) := by decide +kernel
theorem D243_11 : decode (mB 243) 11 = .ok (.sipush 840, 3) := by decide +kernel
theorem D243_14 : decode (mB 243) 14 = .ok (.iload_n 2, 1) := by decide +kernel
theorem D243_15 : decode (mB 243) 15 = .ok (.iadd, 1) := by decide +kernel
theorem D243_16 : decode (mB 243) 16 = .ok (.iaload, 1) := by decide +kernel
theorem D243_17 : decode (mB 243) 17 = .ok (.iadd, 1) := by decide +kernel
theorem D243_18 : decode (mB 243) 18 = .ok (.istore_n 1, 1) := by decide +kernel
theorem D243_19 : decode (mB 243) 19 = .ok (.iinc 2 1, 3) := by decide +kernel
theorem D243_22 : decode (mB 243) 22 = .ok (.goto (-18), 3) := by decide +kernel
theorem D243_25 : decode (mB 243) 25 = .ok (.iload_n 1, 1) := by decide +kernel
theorem D243_26 : decode (mB 243) 26 = .ok (.ireturn, 1) := by decide +kernel
theorem D244_0 : decode (mB 244) 0 = .ok (.iconst 0, 1) := by decide +kernel
theorem D244_1 : decode (mB 244) 1 = .ok (.istore_n 2, 1) := by decide +kernel
theorem D244_2 : decode (mB 244) 2 = .ok (.iconst 0, 1) := by decide +kernel
theorem D244_3 : decode (mB 244) 3 = .ok (.istore_n 3, 1) := by decide +kernel
theorem D244_4 : decode (mB 244) 4 = .ok (.iload_n 3, 1) := by decide +kernel
theorem D244_5 : decode (mB 244) 5 = .ok (.aload_n 0, 1) := by decide +kernel
theorem D244_6 : decode (mB 244) 6 = .ok (.getfield 198, 3) := by decide +kernel
theorem D244_9 : decode (mB 244) 9 = .ok (.if_icmp .ge 27, 3) := by decide +kernel
theorem D244_12 : decode (mB 244) 12 = .ok (.iload_n 2, 1) := by decide +kernel
theorem D244_13 : decode (mB 244) 13 = .ok (.ifCond .ne 11, 3) := by decide +kernel
theorem D244_16 : decode (mB 244) 16 = .ok (.aload_n 1, 1) := by decide +kernel
theorem D244_17 : decode (mB 244) 17 = .ok (.iload_n 3, 1) := by decide +kernel
theorem D244_18 : decode (mB 244) 18 = .ok (.invokestatic 294, 3) := by decide +kernel
theorem D244_21 : decode (mB 244) 21 = .ok (.ifCond .eq 7, 3) := by decide +kernel
theorem D244_24 : decode (mB 244) 24 = .ok (.iconst 1, 1) := by decide +kernel
theorem D244_25 : decode (mB 244) 25 = .ok (.goto 4, 3) := by decide +kernel
theorem D244_28 : decode (mB 244) 28 = .ok (.iconst 0, 1) := by decide +kernel
theorem D244_29 : decode (mB 244) 29 = .ok (.istore_n 2, 1) := by decide +kernel
theorem D244_30 : decode (mB 244) 30 = .ok (.iinc 3 1, 3) := by decide +kernel
theorem D244_33 : decode (mB 244) 33 = .ok (.goto (-29), 3) := by decide +kernel
theorem D244_36 : decode (mB 244) 36 = .ok (.iload_n 2, 1) := by decide +kernel
theorem D244_37 : decode (mB 244) 37 = .ok (.ireturn, 1) := by decide +kernel
theorem D245_0 : decode (mB 245) 0 = .ok (.aload_n 0, 1) := by decide +kernel
theorem D245_1 : decode (mB 245) 1 = .ok (.iload_n 1, 1) := by decide +kernel
theorem D245_2 : decode (mB 245) 2 = .ok (.iconst 2, 1) := by decide +kernel
theorem D245_3 : decode (mB 245) 3 = .ok (.invokestatic 220, 3) := by decide +kernel
theorem D245_6 : decode (mB 245) 6 = .ok (.aload_n 0, 1) := by decide +kernel
theorem D245_7 : decode (mB 245) 7 = .ok (.iload_n 1, 1) := by decide +kernel
theorem D245_8 : decode (mB 245) 8 = .ok (.iconst 3, 1) := by decide +kernel
theorem D245_9 : decode (mB 245) 9 = .ok (.invokestatic 220, 3) := by decide +kernel
theorem D245_12 : decode (mB 245) 12 = .ok (.if_icmp .le 7, 3) := by decide +kernel
theorem D245_15 : decode (mB 245) 15 = .ok (.iconst 1, 1) := by decide +kernel
theorem D245_16 : decode (mB 245) 16 = .ok (.goto 4, 3) := by decide +kernel
theorem D245_19 : decode (mB 245) 19 = .ok (.iconst 0, 1) := by decide +kernel
theorem D245_20 : decode (mB 245) 20 = .ok (.ireturn, 1) := by decide +kernel
theorem D246_0 : decode (mB 246) 0 = .ok (.aload_n 0, 1) := by decide +kernel
theorem D246_1 : decode (mB 246) 1 = .ok (.aload_n 1, 1) := by decide +kernel
theorem D246_2 : decode (mB 246) 2 = .ok (.invokevirtual 306, 3) := by decide +kernel
theorem D246_5 : decode (mB 246) 5 = .ok (.istore_n 2, 1) := by decide +kernel
theorem D246_6 : decode (mB 246) 6 = .ok (.aload_n 0, 1) := by decide +kernel
theorem D246_7 : decode (mB 246) 7 = .ok (.aload_n 1, 1) := by decide +kernel
theorem D246_8 : decode (mB 246) 8 = .ok (.iload_n 2, 1) := by decide +kernel
theorem D246_9 : decode (mB 246) 9 = .ok (.invokevirtual 309, 3) := by decide +kernel
theorem D246_12 : decode (mB 246) 12 = .ok (.istore_n 3, 1) := by decide +kernel
theorem D246_13 : decode (mB 246) 13 = .ok (.aload_n 1, 1) := by decide +kernel
theorem D246_14 : decode (mB 246) 14 = .ok (.iload_n 3, 1) := by decide +kernel
theorem D246_15 : decode (mB 246) 15 = .ok (.iconst 0, 1) := by decide +kernel
theorem D246_16 : decode (mB 246) 16 = .ok (.iadd, 1) := by decide +kernel
theorem D246_17 : decode (mB 246) 17 = .ok (.iaload, 1) := by decide +kernel
theorem D246_18 : decode (mB 246) 18 = .ok (.istore 4, 2) := by decide +kernel
theorem D246_20 : decode (mB 246) 20 = .ok (.aload_n 1, 1) := by decide +kernel
theorem D246_21 : decode (mB 246) 21 = .ok (.iload_n 3, 1) := by decide +kernel
theorem D246_22 : decode (mB 246) 22 = .ok (.iconst 1, 1) := by decide +kernel
theorem D246_23 : decode (mB 246) 23 = .ok (.iadd, 1) := by decide +kernel
theorem D246_24 : decode (mB 246) 24 = .ok (.iaload, 1) := by decide +kernel
theorem D246_25 : decode (mB 246) 25 = .ok (.istore 5, 2) := by decide +kernel
theorem D246_27 : decode (mB 246) 27 = .ok (.aload_n 1, 1) := by decide +kernel
theorem D246_28 : decode (mB 246) 28 = .ok (.iload_n 3, 1) := by decide +kernel
theorem D246_29 : decode (mB 246) 29 = .ok (.iconst 4, 1) := by decide +kernel
theorem D246_30 : decode (mB 246) 30 = .ok (.iadd, 1) := by decide +kernel
theorem D246_31 : decode (mB 246) 31 = .ok (.iaload, 1) := by decide +kernel
theorem D246_32 : decode (mB 246) 32 = .ok (.iconst 1, 1) := by decide +kernel
theorem D246_33 : decode (mB 246) 33 = .ok (.if_icmp .ne 13, 3) := by decide +kernel
theorem D246_36 : decode (mB 246) 36 = .ok (.aload_n 1, 1) := by decide +kernel
theorem D246_37 : decode (mB 246) 37 = .ok (.iload_n 2, 1) := by decide +kernel
theorem D246_38 : decode (mB 246) 38 = .ok (.iload 4, 2) := by decide +kernel
theorem D246_40 : decode (mB 246) 40 = .ok (.iconst 1, 1) := by decide +kernel
theorem D246_41 : decode (mB 246) 41 = .ok (.iconst 0, 1) := by decide +kernel
theorem D246_42 : decode (mB 246) 42 = .ok (.invokestatic 287, 3) := by decide +kernel
theorem D246_45 : decode (mB 246) 45 = .ok (.return_, 1) := by decide +kernel
theorem D246_46 : decode (mB 246) 46 = .ok (.iload_n 2, 1) := by decide +kernel
theorem D246_47 : decode (mB 246) 47 = .ok (.aload_n 1, 1) := by decide +kernel
theorem D246_48 : decode (mB 246) 48 = .ok (.iload_n 2, 1) := by decide +kernel
theorem D246_49 : decode (mB 246) 49 = .ok (.iconst 3, 1) := by decide +kernel
theorem D246_50 : decode (mB 246) 50 = .ok (.invokestatic 220, 3) := by decide +kernel
theorem D246_53 : decode (mB 246) 53 = .ok (.invokestatic 239, 3) := by decide +kernel
theorem D246_56 : decode (mB 246) 56 = .ok (.istore 6, 2) := by decide +kernel
theorem D246_58 : decode (mB 246) 58 = .ok (.iload 5, 2) := by decide +kernel
theorem D246_60 : decode (mB 246) 60 = .ok (.iconst 2, 1) := by decide +kernel
theorem D246_61 : decode (mB 246) 61 = .ok (.if_icmp .ne 34, 3) := by decide +kernel
theorem D246_64 : decode (mB 246) 64 = .ok (.aload_n 1, 1) := by decide +kernel
theorem D246_65 : decode (mB 246) 65 = .ok (.iload_n 2, 1) := by decide +kernel
theorem D246_66 : decode (mB 246) 66 = .ok (.invokestatic 294, 3) := by decide +kernel
theorem D246_69 : decode (mB 246) 69 = .ok (.ifCond .eq 26, 3) := by decide +kernel
theorem D246_72 : decode (mB 246) 72 = .ok (.aload_n 1, 1) := by decide +kernel
theorem D246_73 : decode (mB 246) 73 = .ok (.iload 6, 2) := by decide +kernel
theorem D246_75 : decode (mB 246) 75 = .ok (.iconst 1, 1) := by decide +kernel
theorem D246_76 : decode (mB 246) 76 = .ok (.iadd, 1) := by decide +kernel
theorem D246_77 : decode (mB 246) 77 = .ok (.iaload, 1) := by decide +kernel
theorem D246_78 : decode (mB 246) 78 = .ok (.iconst 3, 1) := by decide +kernel
theorem D246_79 : decode (mB 246) 79 = .ok (.if_icmp .ne 16, 3) := by decide +kernel
theorem D246_82 : decode (mB 246) 82 = .ok (.aload_n 1, 1) := by decide +kernel
theorem D246_83 : decode (mB 246) 83 = .ok (.iload 6, 2) := by decide +kernel
theorem D246_85 : decode (mB 246) 85 = .ok (.iconst 4, 1) := by decide +kernel
theorem D246_86 : decode (mB 246) 86 = .ok (.iadd, 1) := by decide +kernel
theorem D246_87 : decode (mB 246) 87 = .ok (.iaload, 1) := by decide +kernel
theorem D246_88 : decode (mB 246) 88 = .ok (.ifCond .ne 7, 3) := by decide +kernel
theorem D246_91 : decode (mB 246) 91 = .ok (.iconst 1, 1) := by decide +kernel
theorem D246_92 : decode (mB 246) 92 = .ok (.goto 4, 3) := by decide +kernel
theorem D246_95 : decode (mB 246) 95 = .ok (.iconst 0, 1) := by decide +kernel
theorem D246_96 : decode (mB 246) 96 = .ok (.istore 7, 2) := by decide +kernel
theorem D246_98 : decode (mB 246) 98 = .ok (.iload 5, 2) := by decide +kernel
theorem D246_100 : decode (mB 246) 100 = .ok (.iconst 2, 1) := by decide +kernel
theorem D246_101 : decode (mB 246) 101 = .ok (.if_icmp .ne 8, 3) := by decide +kernel
theorem D246_104 : decode (mB 246) 104 = .ok (.iload 7, 2) := by decide +kernel
theorem D246_106 : decode (mB 246) 106 = .ok (.ifCond .eq 9, 3) := by decide +kernel
theorem D246_109 : decode (mB 246) 109 = .ok (.iload 5, 2) := by decide +kernel
theorem D246_111 : decode (mB 246) 111 = .ok (.iconst 3, 1) := by decide +kernel
theorem D246_112 : decode (mB 246) 112 = .ok (.if_icmp .ne 13, 3) := by decide +kernel
theorem D246_115 : decode (mB 246) 115 = .ok (.aload_n 1, 1) := by decide +kernel
theorem D246_116 : decode (mB 246) 116 = .ok (.iload_n 2, 1) := by decide +kernel
theorem D246_117 : decode (mB 246) 117 = .ok (.iload 4, 2) := by decide +kernel
theorem D246_119 : decode (mB 246) 119 = .ok (.iconst 4, 1) := by decide +kernel
theorem D246_120 : decode (mB 246) 120 = .ok (.iconst 0, 1) := by decide +kernel
theorem D246_121 : decode (mB 246) 121 = .ok (.invokestatic 287, 3) := by decide +kernel
theorem D246_124 : decode (mB 246) 124 = .ok (.return_, 1) := by decide +kernel
theorem D246_125 : decode (mB 246) 125 = .ok (.aload_n 0, 1) := by decide +kernel
theorem D246_126 : decode (mB 246) 126 = .ok (.aload_n 1, 1) := by decide +kernel
theorem D246_127 : decode (mB 246) 127 = .ok (.iload_n 2, 1) := by decide +kernel
theorem D246_128 : decode (mB 246) 128 = .ok (.iload_n 3, 1) := by decide +kernel
theorem D246_129 : decode (mB 246) 129 = .ok (.invokevirtual 312, 3) := by decide +kernel
theorem D246_132 : decode (mB 246) 132 = .ok (.istore 8, 2) := by decide +kernel
theorem D246_134 : decode (mB 246) 134 = .ok (.aload_n 1, 1) := by decide +kernel
theorem D246_135 : decode (mB 246) 135 = .ok (.sipush 493, 3) := by decide +kernel
theorem D246_138 : decode (mB 246) 138 = .ok (.iaload, 1) := by decide +kernel
theorem D246_139 : decode (mB 246) 139 = .ok (.invokestatic 236, 3) := by decide +kernel
theorem D246_142 : decode (mB 246) 142 = .ok (.istore 9, 2) := by decide +kernel
theorem D246_144 : decode (mB 246) 144 = .ok (.aload_n 1, 1) := by decide +kernel
theorem D246_145 : decode (mB 246) 145 = .ok (.iload 9, 2) := by decide +kernel
theorem D246_147 : decode (mB 246) 147 = .ok (.iconst 0, 1) := by decide +kernel
theorem D246_148 : decode (mB 246) 148 = .ok (.iadd, 1) := by decide +kernel
theorem D246_149 : decode (mB 246) 149 = .ok (.iload_n 2, 1) := by decide +kernel
theorem D246_150 : decode (mB 246) 150 = .ok (.iastore, 1) := by decide +kernel
theorem D246_151 : decode (mB 246) 151 = .ok (.aload_n 1, 1) := by decide +kernel
theorem D246_152 : decode (mB 246) 152 = .ok (.iload 9, 2) := by decide +kernel
theorem D246_154 : decode (mB 246) 154 = .ok (.iconst 1, 1) := by decide +kernel
theorem D246_155 : decode (mB 246) 155 = .ok (.iadd, 1) := by decide +kernel
theorem D246_156 : decode (mB 246) 156 = .ok (.iload_n 3, 1) := by decide +kernel
theorem D246_157 : decode (mB 246) 157 = .ok (.invokestatic 315, 3) := by decide +kernel
theorem D246_160 : decode (mB 246) 160 = .ok (.aload_n 1, 1) := by decide +kernel
theorem D246_161 : decode (mB 246) 161 = .ok (.iload 9, 2) := by decide +kernel
theorem D246_163 : decode (mB 246) 163 = .ok (.bipush 6, 2) := by decide +kernel
theorem D246_165 : decode (mB 246) 165 = .ok (.iadd, 1) := by decide +kernel
theorem D246_166 : decode (mB 246) 166 = .ok (.iconst 1, 1) := by decide +kernel
theorem D246_167 : decode (mB 246) 167 = .ok (.iadd, 1) := by decide +kernel
theorem D246_168 : decode (mB 246) 168 = .ok (.iconst (-1), 1) := by decide +kernel
theorem D246_169 : decode (mB 246) 169 = .ok (.iastore, 1) := by decide +kernel
theorem D246_170 : decode (mB 246) 170 = .ok (.iload 7, 2) := by decide +kernel
theorem D246_172 : decode (mB 246) 172 = .ok (.ifCond .eq 18, 3) := by decide +kernel
theorem D246_175 : decode (mB 246) 175 = .ok (.aload_n 1, 1) := by decide +kernel
theorem D246_176 : decode (mB 246) 176 = .ok (.iload 9, 2) := by decide +kernel
theorem D246_178 : decode (mB 246) 178 = .ok (.bipush 6, 2) := by decide +kernel
theorem D246_180 : decode (mB 246) 180 = .ok (.iadd, 1) := by decide +kernel
theorem D246_181 : decode (mB 246) 181 = .ok (.aload_n 0, 1) := by decide +kernel
theorem D246_182 : decode (mB 246) 182 = .ok (.aload_n 1, 1) := by decide +kernel
theorem D246_183 : decode (mB 246) 183 = .ok (.iload_n 2, 1) := by decide +kernel
theorem D246_184 : decode (mB 246) 184 = .ok (.invokevirtual 309, 3) := by decide +kernel
theorem D246_187 : decode (mB 246) 187 = .ok (.invokestatic 315, 3) := by decide +kernel
theorem D246_190 : decode (mB 246) 190 = .ok (.aload_n 1, 1) := by decide +kernel
theorem D246_191 : decode (mB 246) 191 = .ok (.iload 9, 2) := by decide +kernel
theorem D246_193 : decode (mB 246) 193 = .ok (.bipush 11, 2) := by decide +kernel
theorem D246_195 : decode (mB 246) 195 = .ok (.iadd, 1) := by decide +kernel
theorem D246_196 : decode (mB 246) 196 = .ok (.iload 8, 2) := by decide +kernel
theorem D246_198 : decode (mB 246) 198 = .ok (.iastore, 1) := by decide +kernel
theorem D246_199 : decode (mB 246) 199 = .ok (.aload_n 1, 1) := by decide +kernel
theorem D246_200 : decode (mB 246) 200 = .ok (.sipush 493, 3) := by decide +kernel
theorem D246_203 : decode (mB 246) 203 = .ok (.dup2, 1) := by decide +kernel
theorem D246_204 : decode (mB 246) 204 = .ok (.iaload, 1) := by decide +kernel
theorem D246_205 : decode (mB 246) 205 = .ok (.iconst 1, 1) := by decide +kernel
theorem D246_206 : decode (mB 246) 206 = .ok (.iadd, 1) := by decide +kernel
theorem D246_207 : decode (mB 246) 207 = .ok (.iastore, 1) := by decide +kernel
theorem D246_208 : decode (mB 246) 208 = .ok (.return_, 1) := by decide +kernel
theorem D247_0 : decode (mB 247) 0 = .ok (.aload_n 0, 1) := by decide +kernel
theorem D247_1 : decode (mB 247) 1 = .ok (.aload_n 1, 1) := by decide +kernel
theorem D247_2 : decode (mB 247) 2 = .ok (.iconst 0, 1) := by decide +kernel
theorem D247_3 : decode (mB 247) 3 = .ok (.invokevirtual 297, 3) := by decide +kernel
theorem D247_6 : decode (mB 247) 6 = .ok (.istore_n 2, 1) := by decide +kernel
theorem D247_7 : decode (mB 247) 7 = .ok (.iconst 0, 1) := by decide +kernel
theorem D247_8 : decode (mB 247) 8 = .ok (.istore_n 3, 1) := by decide +kernel
theorem D247_9 : decode (mB 247) 9 = .ok (.iload_n 2, 1) := by decide +kernel
theorem D247_10 : decode (mB 247) 10 = .ok (.ifCond .ge 66, 3) := by decide +kernel
theorem D247_13 : decode (mB 247) 13 = .ok (.aload_n 0, 1) := by decide +kernel
theorem D247_14 : decode (mB 247) 14 = .ok (.aload_n 1, 1) := by decide +kernel
theorem D247_15 : decode (mB 247) 15 = .ok (.invokevirtual 300, 3) := by decide +kernel
theorem D247_18 : decode (mB 247) 18 = .ok (.ifCond .ge 34, 3) := by decide +kernel
theorem D247_21 : decode (mB 247) 21 = .ok (.iconst 1, 1) := by decide +kernel
theorem D247_22 : decode (mB 247) 22 = .ok (.istore 4, 2) := by decide +kernel
theorem D247_24 : decode (mB 247) 24 = .ok (.iload 4, 2) := by decide +kernel
theorem D247_26 : decode (mB 247) 26 = .ok (.iconst 4, 1) := by decide +kernel
theorem D247_27 : decode (mB 247) 27 = .ok (.if_icmp .ge 25, 3) := by decide +kernel
theorem D247_30 : decode (mB 247) 30 = .ok (.aload_n 1, 1) := by decide +kernel
theorem D247_31 : decode (mB 247) 31 = .ok (.sipush 818, 3) := by decide +kernel
theorem D247_34 : decode (mB 247) 34 = .ok (.iload 4, 2) := by decide +kernel
theorem D247_36 : decode (mB 247) 36 = .ok (.iadd, 1) := by decide +kernel
theorem D247_37 : decode (mB 247) 37 = .ok (.aload_n 1, 1) := by decide +kernel
theorem D247_38 : decode (mB 247) 38 = .ok (.sipush 814, 3) := by decide +kernel
theorem D247_41 : decode (mB 247) 41 = .ok (.iload 4, 2) := by decide +kernel
theorem D247_43 : decode (mB 247) 43 = .ok (.iadd, 1) := by decide +kernel
theorem D247_44 : decode (mB 247) 44 = .ok (.iaload, 1) := by decide +kernel
theorem D247_45 : decode (mB 247) 45 = .ok (.iastore, 1) := by decide +kernel
theorem D247_46 : decode (mB 247) 46 = .ok (.iinc 4 1, 3) := by decide +kernel
theorem D247_49 : decode (mB 247) 49 = .ok (.goto (-25), 3) := by decide +kernel
theorem D247_52 : decode (mB 247) 52 = .ok (.aload_n 0, 1) := by decide +kernel
theorem D247_53 : decode (mB 247) 53 = .ok (.aload_n 1, 1) := by decide +kernel
theorem D247_54 : decode (mB 247) 54 = .ok (.invokevirtual 300, 3) := by decide +kernel
theorem D247_57 : decode (mB 247) 57 = .ok (.istore_n 3, 1) := by decide +kernel
theorem D247_58 : decode (mB 247) 58 = .ok (.aload_n 0, 1) := by decide +kernel
theorem D247_59 : decode (mB 247) 59 = .ok (.aload_n 1, 1) := by decide +kernel
theorem D247_60 : decode (mB 247) 60 = .ok (.iload_n 3, 1) := by decide +kernel
theorem D247_61 : decode (mB 247) 61 = .ok (.invokevirtual 297, 3) := by decide +kernel
theorem D247_64 : decode (mB 247) 64 = .ok (.istore_n 2, 1) := by decide +kernel
theorem D247_65 : decode (mB 247) 65 = .ok (.aload_n 1, 1) := by decide +kernel
theorem D247_66 : decode (mB 247) 66 = .ok (.sipush 818, 3) := by decide +kernel
theorem D247_69 : decode (mB 247) 69 = .ok (.iload_n 3, 1) := by decide +kernel
theorem D247_70 : decode (mB 247) 70 = .ok (.iadd, 1) := by decide +kernel
theorem D247_71 : decode (mB 247) 71 = .ok (.dup2, 1) := by decide +kernel
theorem D247_72 : decode (mB 247) 72 = .ok (.iaload, 1) := by decide +kernel
theorem D247_73 : decode (mB 247) 73 = .ok (.iconst 1, 1) := by decide +kernel
theorem D247_74 : decode (mB 247) 74 = .ok (.isub, 1) := by decide +kernel
theorem D247_75 : decode (mB 247) 75 = .ok (.iastore, 1) := by decide +kernel
theorem D247_76 : decode (mB 247) 76 = .ok (.aload_n 1, 1) := by decide +kernel
theorem D247_77 : decode (mB 247) 77 = .ok (.sipush 822, 3) := by decide +kernel
theorem D247_80 : decode (mB 247) 80 = .ok (.iload_n 3, 1) := by decide +kernel
theorem D247_81 : decode (mB 247) 81 = .ok (.iadd, 1) := by decide +kernel
theorem D247_82 : decode (mB 247) 82 = .ok (.iload_n 2, 1) := by decide +kernel
theorem D247_83 : decode (mB 247) 83 = .ok (.iastore, 1) := by decide +kernel
theorem D247_84 : decode (mB 247) 84 = .ok (.iload_n 2, 1) := by decide +kernel
theorem D247_85 : decode (mB 247) 85 = .ok (.ireturn, 1) := by decide +kernel
theorem D248_0 : decode (mB 248) 0 = .ok (.iconst 1, 1) := by decide +kernel
theorem D248_1 : decode (mB 248) 1 = .ok (.istore_n 3, 1) := by decide +kernel
theorem D248_2 : decode (mB 248) 2 = .ok (.iload_n 3, 1) := by decide +kernel
theorem D248_3 : decode (mB 248) 3 = .ok (.iconst 5, 1) := by decide +kernel
theorem D248_4 : decode (mB 248) 4 = .ok (.if_icmp .gt 54, 3) := by decide +kernel
theorem D248_7 : decode (mB 248) 7 = .ok (.aload_n 1, 1) := by decide +kernel
theorem D248_8 : decode (mB 248) 8 = .ok (.sipush 822, 3) := by decide +kernel
theorem D248_11 : decode (mB 248) 11 = .ok (.iload_n 2, 1) := by decide +kernel
theorem D248_12 : decode (mB 248) 12 = .ok (.iadd, 1) := by decide +kernel
theorem D248_13 : decode (mB 248) 13 = .ok (.iaload, 1) := by decide +kernel
theorem D248_14 : decode (mB 248) 14 = .ok (.iload_n 3, 1) := by decide +kernel
theorem D248_15 : decode (mB 248) 15 = .ok (.iadd, 1) := by decide +kernel
theorem D248_16 : decode (mB 248) 16 = .ok (.iconst 5, 1) := by decide +kernel
theorem D248_17 : decode (mB 248) 17 = .ok (.irem, 1) := by decide +kernel
theorem D248_18 : decode (mB 248) 18 = .ok (.istore 4, 2) := by decide +kernel
theorem D248_20 : decode (mB 248) 20 = .ok (.aload_n 0, 1) := by decide +kernel
theorem D248_21 : decode (mB 248) 21 = .ok (.iload 4, 2) := by decide +kernel
theorem D248_23 : decode (mB 248) 23 = .ok (.invokevirtual 212, 3) := by decide +kernel
theorem D248_26 : decode (mB 248) 26 = .ok (.ifCond .eq 26, 3) := by decide +kernel
theorem D248_29 : decode (mB 248) 29 = .ok (.aload_n 0, 1) := by decide +kernel
theorem D248_30 : decode (mB 248) 30 = .ok (.getfield 140, 3) := by decide +kernel
theorem D248_33 : decode (mB 248) 33 = .ok (.iload 4, 2) := by decide +kernel
theorem D248_35 : decode (mB 248) 35 = .ok (.iaload, 1) := by decide +kernel
theorem D248_36 : decode (mB 248) 36 = .ok (.iload_n 2, 1) := by decide +kernel
theorem D248_37 : decode (mB 248) 37 = .ok (.if_icmp .ne 15, 3) := by decide +kernel
theorem D248_40 : decode (mB 248) 40 = .ok (.aload_n 1, 1) := by decide +kernel
theorem D248_41 : decode (mB 248) 41 = .ok (.iload 4, 2) := by decide +kernel
theorem D248_43 : decode (mB 248) 43 = .ok (.invokestatic 294, 3) := by decide +kernel
theorem D248_46 : decode (mB 248) 46 = .ok (.ifCond .eq 6, 3) := by decide +kernel
theorem D248_49 : decode (mB 248) 49 = .ok (.iload 4, 2) := by decide +kernel
theorem D248_51 : decode (mB 248) 51 = .ok (.ireturn, 1) := by decide +kernel
theorem D248_52 : decode (mB 248) 52 = .ok (.iinc 3 1, 3) := by decide +kernel
theorem D248_55 : decode (mB 248) 55 = .ok (.goto (-53), 3) := by decide +kernel
theorem D248_58 : decode (mB 248) 58 = .ok (.iconst (-1), 1) := by decide +kernel
theorem D248_59 : decode (mB 248) 59 = .ok (.ireturn, 1) := by decide +kernel
theorem D249_0 : decode (mB 249) 0 = .ok (.iconst 1, 1) := by decide +kernel
theorem D249_1 : decode (mB 249) 1 = .ok (.istore_n 2, 1) := by decide +kernel
theorem D249_2 : decode (mB 249) 2 = .ok (.iload_n 2, 1) := by decide +kernel
theorem D249_3 : decode (mB 249) 3 = .ok (.iconst 4, 1) := by decide +kernel
theorem D249_4 : decode (mB 249) 4 = .ok (.if_icmp .ge 30, 3) := by decide +kernel
theorem D249_7 : decode (mB 249) 7 = .ok (.aload_n 1, 1) := by decide +kernel
theorem D249_8 : decode (mB 249) 8 = .ok (.sipush 818, 3) := by decide +kernel
theorem D249_11 : decode (mB 249) 11 = .ok (.iload_n 2, 1) := by decide +kernel
theorem D249_12 : decode (mB 249) 12 = .ok (.iadd, 1) := by decide +kernel
theorem D249_13 : decode (mB 249) 13 = .ok (.iaload, 1) := by decide +kernel
theorem D249_14 : decode (mB 249) 14 = .ok (.ifCond .le 14, 3) := by decide +kernel
theorem D249_17 : decode (mB 249) 17 = .ok (.aload_n 0, 1) := by decide +kernel
theorem D249_18 : decode (mB 249) 18 = .ok (.aload_n 1, 1) := by decide +kernel
theorem D249_19 : decode (mB 249) 19 = .ok (.iload_n 2, 1) := by decide +kernel
theorem D249_20 : decode (mB 249) 20 = .ok (.invokevirtual 297, 3) := by decide +kernel
theorem D249_23 : decode (mB 249) 23 = .ok (.ifCond .lt 5, 3) := by decide +kernel
theorem D249_26 : decode (mB 249) 26 = .ok (.iload_n 2, 1) := by decide +kernel
theorem D249_27 : decode (mB 249) 27 = .ok (.ireturn, 1) := by decide +kernel
theorem D249_28 : decode (mB 249) 28 = .ok (.iinc 2 1, 3) := by decide +kernel
theorem D249_31 : decode (mB 249) 31 = .ok (.goto (-29), 3) := by decide +kernel
theorem D249_34 : decode (mB 249) 34 = .ok (.iconst (-1), 1) := by decide +kernel
theorem D249_35 : decode (mB 249) 35 = .ok (.ireturn, 1) := by decide +kernel
theorem E189_0 {d : Nat} {S : SS} {I : II} (h0 : MA S 427) : ev d 189 0 [(2, 427)] [] S I = some ((0, I 427 0), S, I) := by
  refine (sx_aload_n D189_0 rfl).trans ?_
  refine (sx_gfI (q := (9, 0, 0, 1368)) (j := 0) D189_1 (by decide +kernel) (by decide +kernel) (by decide) (MA_o h0) rfl rfl).trans ?_
  exact sx_ireturn D189_4 (by decide +kernel)
theorem E190_0 {d : Nat} {a1 : Int} {S : SS} {I : II} (h0 : MA S 427) : ev d 190 0 [(2, 427), (0, a1), uU] [] S I = if 76 < w (I 427 4) then (some ((0, (-1)), S, (up2 I 427 0 0))) else (ev d 190 18 [(2, 427), (0, a1), (0, 0)] [] S (up2 I 427 0 0)) := by
  refine (sx_aload_n D190_0 rfl).trans ?_
  refine (sx_iconst D190_1).trans ?_
  refine (sx_pfI (q := (9, 0, 0, 1368)) (j := 0) D190_2 (by decide +kernel) (by decide) (by decide) (MA_o h0) rfl).trans ?_
  refine (sx_aload_n D190_5 rfl).trans ?_
  refine (sx_gfI (q := (9, 4, 0, 1372)) (j := 4) D190_6 (by decide +kernel) (by decide +kernel) (by decide) (MA_o h0) rfl (up2_slot (by decide))).trans ?_
  refine (sx_bipush D190_9 (by decide)).trans ?_
  refine sx_if_le (pc' := 16) D190_11 (by decide) (by decide) ?_ ?_ rfl (w_small (by decide) (by decide))
  · refine (sx_iconst D190_14).trans ?_
    exact sx_ireturn D190_15 (by decide +kernel)
  · refine (sx_iconst D190_16).trans ?_
    refine (sx_istore_n (al' := [(2, 427), (0, a1), (0, 0)]) D190_17 (Nat.le_of_ble_eq_true rfl) rfl rfl).trans ?_
    exact rfl
theorem E190_18 {d : Nat} {a1 a2 : Int} {S : SS} {I : II} (h0 : MA S 427) : ev d 190 18 [(2, 427), (0, a1), (0, a2)] [] S I = if w a2 < 4 then (gdR (0 ≤ w ((I 427 4) + a2) ∧ w ((I 427 4) + a2) < 80) (ev d 190 18 [(2, 427), (0, a1), (0, a2 + 1)] [] S (up2 I 429 (w ((I 427 4) + a2)) (iAnd (iShr a1 (24 - (8 * a2))) 255)))) else (some ((0, (I 427 4) + 4), S, (up2 I 427 4 ((I 427 4) + 4)))) := by
  refine (sx_iload_n D190_18 rfl).trans ?_
  refine (sx_iconst D190_19).trans ?_
  refine sx_if_ge (pc' := 53) D190_20 (by decide) (by decide) ?_ ?_ rfl (w_small (by decide) (by decide))
  · refine (sx_aload_n D190_23 rfl).trans ?_
    refine (sx_gfR (q := (9, 3, 0, 1371)) (b := 429) D190_24 (by decide +kernel) (by decide +kernel) (by decide) (MA_o h0) (MA_g3 h0)).trans ?_
    refine (sx_aload_n D190_27 rfl).trans ?_
    refine (sx_gfI (q := (9, 4, 0, 1372)) (j := 4) D190_28 (by decide +kernel) (by decide +kernel) (by decide) (MA_o h0) rfl rfl).trans ?_
    refine (sx_iload_n D190_31 rfl).trans ?_
    refine (sx_iadd D190_32).trans ?_
    refine (sx_iload_n D190_33 rfl).trans ?_
    refine (sx_bipush D190_34 (by decide)).trans ?_
    refine (sx_bipush D190_36 (by decide)).trans ?_
    refine (sx_iload_n D190_38 rfl).trans ?_
    refine (sx_imul D190_39).trans ?_
    refine (sx_isub D190_40).trans ?_
    refine (sx_ishr D190_41).trans ?_
    refine (sx_sipush D190_42 (by decide)).trans ?_
    refine (sx_iand D190_45).trans ?_
    refine (sx_is D190_46 (MA_k3 h0)).trans (gdR_to fun g1 => ?_)
    refine (sx_iinc (al' := [(2, 427), (0, a1), (0, a2 + 1)]) D190_47 rfl rfl).trans ?_
    refine (sx_goto (pc' := 18) D190_50 (by decide) (by decide)).trans ?_
    exact rfl
  · refine (sx_aload_n D190_53 rfl).trans ?_
    refine (sx_dup D190_54 (by decide)).trans ?_
    refine (sx_gfI (q := (9, 4, 0, 1372)) (j := 4) D190_55 (by decide +kernel) (by decide +kernel) (by decide) (MA_o h0) rfl rfl).trans ?_
    refine (sx_iconst D190_58).trans ?_
    refine (sx_iadd D190_59).trans ?_
    refine (sx_pfI (q := (9, 4, 0, 1372)) (j := 4) D190_60 (by decide +kernel) (by decide) (by decide) (MA_o h0) rfl).trans ?_
    refine (sx_aload_n D190_63 rfl).trans ?_
    refine (sx_gfI (q := (9, 4, 0, 1372)) (j := 4) D190_64 (by decide +kernel) (by decide +kernel) (by decide) (MA_o h0) rfl (up2_same _ _ _ _)).trans ?_
    exact sx_ireturn D190_67 (by decide +kernel)
theorem E191_0 {d : Nat} {a1 : Int} {S : SS} {I : II} (h0 : MA S 427) : ev (d + 1) 191 0 [(2, 427), (0, a1)] [] S I = (ev d 192 0 [(1, w a1), uU, (1, 0), uU, (1, w (I 427 4)), uU] [] S (up2 I 427 0 0)).bind (fun q => ev (d + 1) 191 16 [(2, 427), (0, a1)] (psh q.1 []) q.2.1 q.2.2) := by
  refine (sx_aload_n D191_0 rfl).trans ?_
  refine (sx_iconst D191_1).trans ?_
  refine (sx_pfI (q := (9, 0, 0, 1368)) (j := 0) D191_2 (by decide +kernel) (by decide) (by decide) (MA_o h0) rfl).trans ?_
  refine (sx_iload_n D191_5 rfl).trans ?_
  refine (sx_i2l D191_6).trans ?_
  refine (sx_lconst D191_7).trans ?_
  refine (sx_aload_n D191_8 rfl).trans ?_
  refine (sx_gfI (q := (9, 4, 0, 1372)) (j := 4) D191_9 (by decide +kernel) (by decide +kernel) (by decide) (MA_o h0) rfl (up2_slot (by decide))).trans ?_
  refine (sx_i2l D191_12).trans ?_
  exact sx_stat (ag := [(1, w a1), (1, 0), (1, w (I 427 4))]) (r := []) (al' := [(1, w a1), uU, (1, 0), uU, (1, w (I 427 4)), uU]) (np := 3) (nl := 6) (q := (0, 192, 1299)) D191_13 (by decide +kernel) (by decide) mP_192 mL_192 (Nat.le_of_ble_eq_true rfl) rfl rfl (by simp [cat]) rfl rfl
theorem E191_16 {d : Nat} {a1 s0 : Int} {S : SS} {I : II} (h0 : MA S 427) : ev d 191 16 [(2, 427), (0, a1)] [(0, s0)] S I = if w s0 = 0 then (some ((0, 0), S, I)) else (some ((0, 1), S, (up2 I 427 4 a1))) := by
  refine sx_i0_ne (pc' := 21) D191_16 (by decide) (by decide) ?_ ?_ rfl
  · refine (sx_iconst D191_19).trans ?_
    exact sx_zreturn D191_20 (by decide +kernel) (by decide)
  · refine (sx_aload_n D191_21 rfl).trans ?_
    refine (sx_iload_n D191_22 rfl).trans ?_
    refine (sx_pfI (q := (9, 4, 0, 1372)) (j := 4) D191_23 (by decide +kernel) (by decide) (by decide) (MA_o h0) rfl).trans ?_
    refine (sx_iconst D191_26).trans ?_
    exact sx_zreturn D191_27 (by decide +kernel) (by decide)
theorem E192_0 {d : Nat} {a0 a2 a4 : Int} {S : SS} {I : II}  : ev d 192 0 [(1, a0), uU, (1, a2), uU, (1, a4), uU] [] S I = if lCmp a0 a2 < 0 then (ev d 192 17 [(1, a0), uU, (1, a2), uU, (1, a4), uU] [] S I) else (if 0 < lCmp a0 a4 then (ev d 192 17 [(1, a0), uU, (1, a2), uU, (1, a4), uU] [] S I) else (ev d 192 18 [(1, a0), uU, (1, a2), uU, (1, a4), uU] [(0, 1)] S I)) := by
  refine (sx_lload_n D192_0 rfl).trans ?_
  refine (sx_lload_n D192_1 rfl).trans ?_
  refine (sx_lcmp D192_2).trans ?_
  refine sx_i0_lt (pc' := 17) D192_3 (by decide) (by decide) ?_ ?_ (w_lCmp _ _)
  · exact rfl
  · refine (sx_lload_n D192_6 rfl).trans ?_
    refine (sx_lload D192_7 rfl).trans ?_
    refine (sx_lcmp D192_9).trans ?_
    refine sx_i0_gt (pc' := 17) D192_10 (by decide) (by decide) ?_ ?_ (w_lCmp _ _)
    · exact rfl
    · refine (sx_iconst D192_13).trans ?_
      refine (sx_goto (pc' := 18) D192_14 (by decide) (by decide)).trans ?_
      exact rfl
theorem E192_17 {d : Nat} {a0 a2 a4 : Int} {S : SS} {I : II}  : ev d 192 17 [(1, a0), uU, (1, a2), uU, (1, a4), uU] [] S I = ev d 192 18 [(1, a0), uU, (1, a2), uU, (1, a4), uU] [(0, 0)] S I := by
  refine (sx_iconst D192_17).trans ?_
  exact rfl
theorem E192_18 {d : Nat} {a0 a2 a4 s0 : Int} {S : SS} {I : II} (h0 : s0 = 0 ∨ s0 = 1) : ev d 192 18 [(1, a0), uU, (1, a2), uU, (1, a4), uU] [(0, s0)] S I = some ((0, s0), S, I) := by
  exact sx_zreturn D192_18 (by decide +kernel) h0
theorem E193_0 {d : Nat} {S : SS} {I : II} (h0 : MA S 427) : ev (d + 1) 193 0 [(2, 427), uU] [] S I = (ev d 194 0 [(2, 427), uU, uU] [] S (up2 I 427 0 0)).bind (fun q => ev (d + 1) 193 9 [(2, 427), uU] (psh q.1 []) q.2.1 q.2.2) := by
  refine (sx_aload_n D193_0 rfl).trans ?_
  refine (sx_iconst D193_1).trans ?_
  refine (sx_pfI (q := (9, 0, 0, 1368)) (j := 0) D193_2 (by decide +kernel) (by decide) (by decide) (MA_o h0) rfl).trans ?_
  refine (sx_aload_n D193_5 rfl).trans ?_
  exact sx_virt (c := 11) (ag := [(2, 427)]) (r := []) (al' := [(2, 427), uU, uU]) (np := 0) (nl := 3) (q := (1, 194, 1306)) D193_6 (by decide +kernel) (by decide) mP_194 mL_194 mC_194 (Nat.le_of_ble_eq_true rfl) rfl rfl (by simp [cat]) (by decide) (MA_o h0) rfl rfl
theorem E193_9 {d : Nat} {s0 : Int} {S : SS} {I : II} (h0 : MA S 427) : ev (d + 1) 193 9 [(2, 427), uU] [(0, s0)] S I = if w s0 = 0 then ((ev d 205 0 [(2, 427), (2, 431), (0, I 427 11), uU] [] S I).bind (fun q => ev (d + 1) 193 26 [(2, 427), (0, s0)] (psh q.1 []) q.2.1 q.2.2)) else (ev (d + 1) 193 26 [(2, 427), (0, s0)] [] S I) := by
  refine (sx_istore_n (al' := [(2, 427), (0, s0)]) D193_9 (Nat.le_of_ble_eq_true rfl) rfl rfl).trans ?_
  refine (sx_iload_n D193_10 rfl).trans ?_
  refine sx_i0_ne (pc' := 26) D193_11 (by decide) (by decide) ?_ ?_ rfl
  · refine (sx_aload_n D193_14 rfl).trans ?_
    refine (sx_aload_n D193_15 rfl).trans ?_
    refine (sx_gfR (q := (9, 9, 0, 1377)) (b := 431) D193_16 (by decide +kernel) (by decide +kernel) (by decide) (MA_o h0) (MA_g9 h0)).trans ?_
    refine (sx_aload_n D193_19 rfl).trans ?_
    refine (sx_gfI (q := (9, 11, 0, 1379)) (j := 11) D193_20 (by decide +kernel) (by decide +kernel) (by decide) (MA_o h0) rfl rfl).trans ?_
    exact sx_virt (c := 11) (ag := [(2, 427), (2, 431), (0, I 427 11)]) (r := []) (al' := [(2, 427), (2, 431), (0, I 427 11), uU]) (np := 2) (nl := 4) (q := (1, 205, 1359)) D193_23 (by decide +kernel) (by decide) mP_205 mL_205 mC_205 (Nat.le_of_ble_eq_true rfl) rfl rfl (by simp [cat]) (by decide) (MA_o h0) rfl rfl
  · exact rfl
theorem E193_26 {d : Nat} {a1 : Int} {S : SS} {I : II}  : ev d 193 26 [(2, 427), (0, a1)] [] S I = some ((0, a1), S, I) := by
  refine (sx_iload_n D193_26 rfl).trans ?_
  exact sx_ireturn D193_27 (by decide +kernel)
theorem E194_0 {d : Nat} {S : SS} {I : II} (h0 : MA S 427) : ev (d + 1) 194 0 [(2, 427), uU, uU] [] S I = (ev d 195 0 [(2, 427), (0, 40), uU] [] S I).bind (fun q => ev (d + 1) 194 6 [(2, 427), uU, uU] (psh q.1 []) q.2.1 q.2.2) := by
  refine (sx_aload_n D194_0 rfl).trans ?_
  refine (sx_bipush D194_1 (by decide)).trans ?_
  exact sx_virt (c := 11) (ag := [(2, 427), (0, 40)]) (r := []) (al' := [(2, 427), (0, 40), uU]) (np := 1) (nl := 3) (q := (1, 195, 1311)) D194_3 (by decide +kernel) (by decide) mP_195 mL_195 mC_195 (Nat.le_of_ble_eq_true rfl) rfl rfl (by simp [cat]) (by decide) (MA_o h0) rfl rfl
theorem E194_6 {d : Nat} {s0 : Int} {S : SS} {I : II} (h0 : MA S 427) : ev (d + 1) 194 6 [(2, 427), uU, uU] [(0, s0)] S I = if w s0 = 0 then (ev (d + 1) 194 24 [(2, 427), (0, s0), uU] [] S (up2 I 427 11 0)) else ((ev d 196 0 [(2, 427), (0, 0), uU, uU] [] S (up2 I 427 11 0)).bind (fun q => ev (d + 1) 194 21 [(2, 427), (0, s0), uU] (psh q.1 []) q.2.1 q.2.2)) := by
  refine (sx_istore_n (al' := [(2, 427), (0, s0), uU]) D194_6 (Nat.le_of_ble_eq_true rfl) rfl rfl).trans ?_
  refine (sx_aload_n D194_7 rfl).trans ?_
  refine (sx_iconst D194_8).trans ?_
  refine (sx_pfI (q := (9, 11, 0, 1379)) (j := 11) D194_9 (by decide +kernel) (by decide) (by decide) (MA_o h0) rfl).trans ?_
  refine (sx_iload_n D194_12 rfl).trans ?_
  refine sx_i0_eq (pc' := 24) D194_13 (by decide) (by decide) ?_ ?_ rfl
  · exact rfl
  · refine (sx_aload_n D194_16 rfl).trans ?_
    refine (sx_iconst D194_17).trans ?_
    exact sx_virt (c := 11) (ag := [(2, 427), (0, 0)]) (r := []) (al' := [(2, 427), (0, 0), uU, uU]) (np := 1) (nl := 4) (q := (1, 196, 1316)) D194_18 (by decide +kernel) (by decide) mP_196 mL_196 mC_196 (Nat.le_of_ble_eq_true rfl) rfl rfl (by simp [cat]) (by decide) (MA_o h0) rfl rfl
theorem E194_21 {d : Nat} {a1 s0 : Int} {S : SS} {I : II}  : ev d 194 21 [(2, 427), (0, a1), uU] [(0, s0)] S I = if w s0 = 0 then (ev d 194 29 [(2, 427), (0, a1), uU] [(0, 0)] S I) else (ev d 194 24 [(2, 427), (0, a1), uU] [] S I) := by
  refine sx_i0_eq (pc' := 28) D194_21 (by decide) (by decide) ?_ ?_ rfl
  · refine (sx_iconst D194_28).trans ?_
    exact rfl
  · exact rfl
theorem E194_24 {d : Nat} {a1 : Int} {S : SS} {I : II}  : ev d 194 24 [(2, 427), (0, a1), uU] [] S I = ev d 194 29 [(2, 427), (0, a1), uU] [(0, 1)] S I := by
  refine (sx_iconst D194_24).trans ?_
  refine (sx_goto (pc' := 29) D194_25 (by decide) (by decide)).trans ?_
  exact rfl
theorem E194_29 {d : Nat} {a1 s0 : Int} {S : SS} {I : II} (h0 : MA S 427) : ev (d + 1) 194 29 [(2, 427), (0, a1), uU] [(0, s0)] S I = (ev d 204 0 [(2, 427), (0, a1), (0, 40), (0, s0), uU] [] S I).bind (fun q => ev (d + 1) 194 38 [(2, 427), (0, a1), (0, s0)] (psh q.1 []) q.2.1 q.2.2) := by
  refine (sx_istore_n (al' := [(2, 427), (0, a1), (0, s0)]) D194_29 (Nat.le_of_ble_eq_true rfl) rfl rfl).trans ?_
  refine (sx_aload_n D194_30 rfl).trans ?_
  refine (sx_iload_n D194_31 rfl).trans ?_
  refine (sx_bipush D194_32 (by decide)).trans ?_
  refine (sx_iload_n D194_34 rfl).trans ?_
  exact sx_virt (c := 11) (ag := [(2, 427), (0, a1), (0, 40), (0, s0)]) (r := []) (al' := [(2, 427), (0, a1), (0, 40), (0, s0), uU]) (np := 3) (nl := 5) (q := (1, 204, 1355)) D194_35 (by decide +kernel) (by decide) mP_204 mL_204 mC_204 (Nat.le_of_ble_eq_true rfl) rfl rfl (by simp [cat]) (by decide) (MA_o h0) rfl rfl
theorem E194_38 {d : Nat} {a1 a2 s0 : Int} {S : SS} {I : II}  : ev d 194 38 [(2, 427), (0, a1), (0, a2)] [(0, s0)] S I = some ((0, s0), S, I) := by
  exact sx_ireturn D194_38 (by decide +kernel)
theorem E195_0 {d : Nat} {a1 : Int} {S : SS} {I : II} (h0 : MA S 427) : ev d 195 0 [(2, 427), (0, a1), uU] [] S I = some ((0, I 427 4), S, (up2 (up2 (up2 (up2 I 427 4 0) 427 5 0) 427 7 0) 427 6 (if w a1 < w (I 427 4) then w a1 else w (I 427 4)))) := by
  refine (sx_aload_n D195_0 rfl).trans ?_
  refine (sx_gfI (q := (9, 4, 0, 1372)) (j := 4) D195_1 (by decide +kernel) (by decide +kernel) (by decide) (MA_o h0) rfl rfl).trans ?_
  refine (sx_istore_n (al' := [(2, 427), (0, a1), (0, I 427 4)]) D195_4 (Nat.le_of_ble_eq_true rfl) rfl rfl).trans ?_
  refine (sx_aload_n D195_5 rfl).trans ?_
  refine (sx_iconst D195_6).trans ?_
  refine (sx_pfI (q := (9, 4, 0, 1372)) (j := 4) D195_7 (by decide +kernel) (by decide) (by decide) (MA_o h0) rfl).trans ?_
  refine (sx_aload_n D195_10 rfl).trans ?_
  refine (sx_iconst D195_11).trans ?_
  refine (sx_pfI (q := (9, 5, 0, 1373)) (j := 5) D195_12 (by decide +kernel) (by decide) (by decide) (MA_o h0) rfl).trans ?_
  refine (sx_aload_n D195_15 rfl).trans ?_
  refine (sx_iconst D195_16).trans ?_
  refine (sx_pfI (q := (9, 7, 0, 1375)) (j := 7) D195_17 (by decide +kernel) (by decide) (by decide) (MA_o h0) rfl).trans ?_
  refine (sx_aload_n D195_20 rfl).trans ?_
  refine (sx_iload_n D195_21 rfl).trans ?_
  refine (sx_iload_n D195_22 rfl).trans ?_
  refine (sx_min (q := (13, 0, 1315)) D195_23 (by decide +kernel) rfl (by simp [cat]) rfl rfl).trans ?_
  refine (sx_pfI (q := (9, 6, 0, 1374)) (j := 6) D195_26 (by decide +kernel) (by decide) (by decide) (MA_o h0) rfl).trans ?_
  refine (sx_iload_n D195_29 rfl).trans ?_
  exact sx_ireturn D195_30 (by decide +kernel)
theorem E196_0 {d : Nat} {a1 : Int} {S : SS} {I : II} (h0 : MA S 427) : ev (d + 1) 196 0 [(2, 427), (0, a1), uU, uU] [] S I = if w a1 = 3 then ((ev d 197 0 [(2, 427), uU] [] S I).bind (fun q => ev (d + 1) 196 9 [(2, 427), (0, a1), uU, uU] (psh q.1 []) q.2.1 q.2.2)) else ((ev d 196 0 [(2, 427), (0, a1 + 1), uU, uU] [] S I).bind (fun q => ev (d + 1) 196 17 [(2, 427), (0, a1), uU, uU] (psh q.1 []) q.2.1 q.2.2)) := by
  refine (sx_iload_n D196_0 rfl).trans ?_
  refine (sx_iconst D196_1).trans ?_
  refine sx_if_ne (pc' := 10) D196_2 (by decide) (by decide) ?_ ?_ rfl (w_small (by decide) (by decide))
  · refine (sx_aload_n D196_5 rfl).trans ?_
    exact sx_virt (c := 11) (ag := [(2, 427)]) (r := []) (al' := [(2, 427), uU]) (np := 0) (nl := 2) (q := (1, 197, 1320)) D196_6 (by decide +kernel) (by decide) mP_197 mL_197 mC_197 (Nat.le_of_ble_eq_true rfl) rfl rfl (by simp [cat]) (by decide) (MA_o h0) rfl rfl
  · refine (sx_aload_n D196_10 rfl).trans ?_
    refine (sx_iload_n D196_11 rfl).trans ?_
    refine (sx_iconst D196_12).trans ?_
    refine (sx_iadd D196_13).trans ?_
    exact sx_virt (c := 11) (ag := [(2, 427), (0, a1 + 1)]) (r := []) (al' := [(2, 427), (0, a1 + 1), uU, uU]) (np := 1) (nl := 4) (q := (1, 196, 1316)) D196_14 (by decide +kernel) (by decide) mP_196 mL_196 mC_196 (Nat.le_of_ble_eq_true rfl) rfl rfl (by simp [cat]) (by decide) (MA_o h0) rfl rfl
theorem E196_9 {d : Nat} {a1 s0 : Int} {S : SS} {I : II} (h0 : s0 = 0 ∨ s0 = 1) : ev d 196 9 [(2, 427), (0, a1), uU, uU] [(0, s0)] S I = some ((0, s0), S, I) := by
  exact sx_zreturn D196_9 (by decide +kernel) h0
theorem E196_17 {d : Nat} {a1 s0 : Int} {S : SS} {I : II}  : ev d 196 17 [(2, 427), (0, a1), uU, uU] [(0, s0)] S I = if w s0 = 0 then (some ((0, 0), S, I)) else (ev d 196 24 [(2, 427), (0, a1), (0, 1), uU] [] S I) := by
  refine sx_i0_ne (pc' := 22) D196_17 (by decide) (by decide) ?_ ?_ rfl
  · refine (sx_iconst D196_20).trans ?_
    exact sx_zreturn D196_21 (by decide +kernel) (by decide)
  · refine (sx_iconst D196_22).trans ?_
    refine (sx_istore_n (al' := [(2, 427), (0, a1), (0, 1), uU]) D196_23 (Nat.le_of_ble_eq_true rfl) rfl rfl).trans ?_
    exact rfl
theorem E196_24 {d : Nat} {a1 a2 : Int} {a3 : AV} {S : SS} {I : II}  : ev d 196 24 [(2, 427), (0, a1), (0, a2), a3] [] S I = if w a2 = 0 then (some ((0, 1), S, I)) else (if w a1 = 0 then (ev d 196 50 [(2, 427), (0, a1), (0, a2), a3] [(2, (-17)), (2, 427)] S I) else (if w a1 = 1 then (ev d 196 50 [(2, 427), (0, a1), (0, a2), a3] [(2, (-18)), (2, 427)] S I) else (ev d 196 50 [(2, 427), (0, a1), (0, a2), a3] [(2, (-19)), (2, 427)] S I))) := by
  refine (sx_iload_n D196_24 rfl).trans ?_
  refine sx_i0_eq (pc' := 113) D196_25 (by decide) (by decide) ?_ ?_ rfl
  · refine (sx_iconst D196_113).trans ?_
    exact sx_zreturn D196_114 (by decide +kernel) (by decide)
  · refine (sx_aload_n D196_28 rfl).trans ?_
    refine (sx_iload_n D196_29 rfl).trans ?_
    refine sx_i0_ne (pc' := 38) D196_30 (by decide) (by decide) ?_ ?_ rfl
    · refine (sx_ldcS (q := (7, 1352)) D196_33 (by decide +kernel) (by decide +kernel)).trans ?_
      show ev d 196 35 [(2, 427), (0, a1), (0, a2), a3] [(2, (-17)), (2, 427)] S I = _
      refine (sx_goto (pc' := 50) D196_35 (by decide) (by decide)).trans ?_
      exact rfl
    · refine (sx_iload_n D196_38 rfl).trans ?_
      refine (sx_iconst D196_39).trans ?_
      refine sx_if_ne (pc' := 48) D196_40 (by decide) (by decide) ?_ ?_ rfl (w_small (by decide) (by decide))
      · refine (sx_ldcS (q := (8, 1353)) D196_43 (by decide +kernel) (by decide +kernel)).trans ?_
        show ev d 196 45 [(2, 427), (0, a1), (0, a2), a3] [(2, (-18)), (2, 427)] S I = _
        refine (sx_goto (pc' := 50) D196_45 (by decide) (by decide)).trans ?_
        exact rfl
      · refine (sx_ldcS (q := (9, 1354)) D196_48 (by decide +kernel) (by decide +kernel)).trans ?_
        show ev d 196 50 [(2, 427), (0, a1), (0, a2), a3] [(2, (-19)), (2, 427)] S I = _
        exact rfl
theorem E196_50 {d : Nat} {a1 a2 s1 : Int} {a3 : AV} {S : SS} {I : II} (h0 : MA S 427) : ev (d + 1) 196 50 [(2, 427), (0, a1), (0, a2), a3] [(2, s1), (2, 427)] S I = (ev d 203 0 [(2, 427), (2, s1), uU] [] S I).bind (fun q => ev (d + 1) 196 53 [(2, 427), (0, a1), (0, a2), a3] (psh q.1 []) q.2.1 q.2.2) := by
  exact sx_virt (c := 11) (ag := [(2, 427), (2, s1)]) (r := []) (al' := [(2, 427), (2, s1), uU]) (np := 1) (nl := 3) (q := (1, 203, 1346)) D196_50 (by decide +kernel) (by decide) mP_203 mL_203 mC_203 (Nat.le_of_ble_eq_true rfl) rfl rfl (by simp [cat]) (by decide) (MA_o h0) rfl rfl
theorem E196_53 {d : Nat} {a1 a2 s0 : Int} {a3 : AV} {S : SS} {I : II} (h0 : MA S 427) : ev (d + 1) 196 53 [(2, 427), (0, a1), (0, a2), a3] [(0, s0)] S I = if w s0 < 0 then (some ((0, 1), S, I)) else ((ev d 196 0 [(2, 427), (0, a1 + 1), uU, uU] [] S I).bind (fun q => ev (d + 1) 196 67 [(2, 427), (0, a1), (0, a2), (0, s0)] (psh q.1 []) q.2.1 q.2.2)) := by
  refine (sx_istore_n (al' := [(2, 427), (0, a1), (0, a2), (0, s0)]) D196_53 (Nat.le_of_ble_eq_true rfl) rfl rfl).trans ?_
  refine (sx_iload_n D196_54 rfl).trans ?_
  refine sx_i0_ge (pc' := 60) D196_55 (by decide) (by decide) ?_ ?_ rfl
  · refine (sx_iconst D196_58).trans ?_
    exact sx_zreturn D196_59 (by decide +kernel) (by decide)
  · refine (sx_aload_n D196_60 rfl).trans ?_
    refine (sx_iload_n D196_61 rfl).trans ?_
    refine (sx_iconst D196_62).trans ?_
    refine (sx_iadd D196_63).trans ?_
    exact sx_virt (c := 11) (ag := [(2, 427), (0, a1 + 1)]) (r := []) (al' := [(2, 427), (0, a1 + 1), uU, uU]) (np := 1) (nl := 4) (q := (1, 196, 1316)) D196_64 (by decide +kernel) (by decide) mP_196 mL_196 mC_196 (Nat.le_of_ble_eq_true rfl) rfl rfl (by simp [cat]) (by decide) (MA_o h0) rfl rfl
theorem E196_67 {d : Nat} {a1 a2 a3 s0 : Int} {S : SS} {I : II}  : ev d 196 67 [(2, 427), (0, a1), (0, a2), (0, a3)] [(0, s0)] S I = if w s0 = 0 then (some ((0, 0), S, I)) else (if w a1 = 0 then (ev d 196 96 [(2, 427), (0, a1), (0, a2), (0, a3)] [(0, 0), (0, 2000 + a3), (2, 427)] S I) else (if w a1 = 1 then (ev d 196 96 [(2, 427), (0, a1), (0, a2), (0, a3)] [(0, 3), (0, 2000 + a3), (2, 427)] S I) else (ev d 196 96 [(2, 427), (0, a1), (0, a2), (0, a3)] [(0, 5), (0, 2000 + a3), (2, 427)] S I))) := by
  refine sx_i0_ne (pc' := 72) D196_67 (by decide) (by decide) ?_ ?_ rfl
  · refine (sx_iconst D196_70).trans ?_
    exact sx_zreturn D196_71 (by decide +kernel) (by decide)
  · refine (sx_aload_n D196_72 rfl).trans ?_
    refine (sx_sipush D196_73 (by decide)).trans ?_
    refine (sx_iload_n D196_76 rfl).trans ?_
    refine (sx_iadd D196_77).trans ?_
    refine (sx_iload_n D196_78 rfl).trans ?_
    refine sx_i0_ne (pc' := 86) D196_79 (by decide) (by decide) ?_ ?_ rfl
    · refine (sx_iconst D196_82).trans ?_
      refine (sx_goto (pc' := 96) D196_83 (by decide) (by decide)).trans ?_
      exact rfl
    · refine (sx_iload_n D196_86 rfl).trans ?_
      refine (sx_iconst D196_87).trans ?_
      refine sx_if_ne (pc' := 95) D196_88 (by decide) (by decide) ?_ ?_ rfl (w_small (by decide) (by decide))
      · refine (sx_iconst D196_91).trans ?_
        refine (sx_goto (pc' := 96) D196_92 (by decide) (by decide)).trans ?_
        exact rfl
      · refine (sx_iconst D196_95).trans ?_
        exact rfl
theorem E196_96 {d : Nat} {a1 a2 a3 s1 s2 : Int} {S : SS} {I : II} (h0 : MA S 427) : ev (d + 1) 196 96 [(2, 427), (0, a1), (0, a2), (0, a3)] [(0, s2), (0, s1), (2, 427)] S I = (ev d 200 0 [(2, 427), (0, s1 + s2)] [] S I).bind (fun q => ev (d + 1) 196 100 [(2, 427), (0, a1), (0, a2), (0, a3)] (psh q.1 []) q.2.1 q.2.2) := by
  refine (sx_iadd D196_96).trans ?_
  exact sx_virt (c := 11) (ag := [(2, 427), (0, s1 + s2)]) (r := []) (al' := [(2, 427), (0, s1 + s2)]) (np := 1) (nl := 2) (q := (1, 200, 1331)) D196_97 (by decide +kernel) (by decide) mP_200 mL_200 mC_200 (Nat.le_of_ble_eq_true rfl) rfl rfl (by simp [cat]) (by decide) (MA_o h0) rfl rfl
theorem E196_100 {d : Nat} {a1 a2 a3 : Int} {S : SS} {I : II}  : ev d 196 100 [(2, 427), (0, a1), (0, a2), (0, a3)] [] S I = if 0 < w a1 then (ev d 196 109 [(2, 427), (0, a1), (0, a2), (0, a3)] [(0, 1)] S I) else (ev d 196 109 [(2, 427), (0, a1), (0, a2), (0, a3)] [(0, 0)] S I) := by
  refine (sx_iload_n D196_100 rfl).trans ?_
  refine sx_i0_le (pc' := 108) D196_101 (by decide) (by decide) ?_ ?_ rfl
  · refine (sx_iconst D196_104).trans ?_
    refine (sx_goto (pc' := 109) D196_105 (by decide) (by decide)).trans ?_
    exact rfl
  · refine (sx_iconst D196_108).trans ?_
    exact rfl
theorem E196_109 {d : Nat} {a1 a2 a3 s0 : Int} {S : SS} {I : II}  : ev d 196 109 [(2, 427), (0, a1), (0, a2), (0, a3)] [(0, s0)] S I = ev d 196 24 [(2, 427), (0, a1), (0, s0), (0, a3)] [] S I := by
  refine (sx_istore_n (al' := [(2, 427), (0, a1), (0, s0), (0, a3)]) D196_109 (Nat.le_of_ble_eq_true rfl) rfl rfl).trans ?_
  refine (sx_goto (pc' := 24) D196_110 (by decide) (by decide)).trans ?_
  exact rfl
theorem E197_0 {d : Nat} {S : SS} {I : II} (h0 : MA S 427) : ev (d + 1) 197 0 [(2, 427), uU] [] S I = (ev d 198 0 [(2, 427), (0, 45), uU] [] S I).bind (fun q => ev (d + 1) 197 6 [(2, 427), uU] (psh q.1 []) q.2.1 q.2.2) := by
  refine (sx_aload_n D197_0 rfl).trans ?_
  refine (sx_bipush D197_1 (by decide)).trans ?_
  exact sx_virt (c := 11) (ag := [(2, 427), (0, 45)]) (r := []) (al' := [(2, 427), (0, 45), uU]) (np := 1) (nl := 3) (q := (1, 198, 1324)) D197_3 (by decide +kernel) (by decide) mP_198 mL_198 mC_198 (Nat.le_of_ble_eq_true rfl) rfl rfl (by simp [cat]) (by decide) (MA_o h0) rfl rfl
theorem E197_6 {d : Nat} {s0 : Int} {S : SS} {I : II} (h0 : MA S 427) : ev (d + 1) 197 6 [(2, 427), uU] [(0, s0)] S I = if w s0 = 0 then ((ev d 201 0 [(2, 427)] [] S I).bind (fun q => ev (d + 1) 197 27 [(2, 427), uU] (psh q.1 []) q.2.1 q.2.2)) else ((ev d 197 0 [(2, 427), uU] [] S I).bind (fun q => ev (d + 1) 197 13 [(2, 427), uU] (psh q.1 []) q.2.1 q.2.2)) := by
  refine sx_i0_eq (pc' := 23) D197_6 (by decide) (by decide) ?_ ?_ rfl
  · refine (sx_aload_n D197_23 rfl).trans ?_
    exact sx_virt (c := 11) (ag := [(2, 427)]) (r := []) (al' := [(2, 427)]) (np := 0) (nl := 1) (q := (1, 201, 1335)) D197_24 (by decide +kernel) (by decide) mP_201 mL_201 mC_201 (Nat.le_of_ble_eq_true rfl) rfl rfl (by simp [cat]) (by decide) (MA_o h0) rfl rfl
  · refine (sx_aload_n D197_9 rfl).trans ?_
    exact sx_virt (c := 11) (ag := [(2, 427)]) (r := []) (al' := [(2, 427), uU]) (np := 0) (nl := 2) (q := (1, 197, 1320)) D197_10 (by decide +kernel) (by decide) mP_197 mL_197 mC_197 (Nat.le_of_ble_eq_true rfl) rfl rfl (by simp [cat]) (by decide) (MA_o h0) rfl rfl
theorem E197_13 {d : Nat} {s0 : Int} {S : SS} {I : II} (h0 : MA S 427) : ev (d + 1) 197 13 [(2, 427), uU] [(0, s0)] S I = (ev d 200 0 [(2, 427), (0, 3000)] [] S I).bind (fun q => ev (d + 1) 197 21 [(2, 427), (0, s0)] (psh q.1 []) q.2.1 q.2.2) := by
  refine (sx_istore_n (al' := [(2, 427), (0, s0)]) D197_13 (Nat.le_of_ble_eq_true rfl) rfl rfl).trans ?_
  refine (sx_aload_n D197_14 rfl).trans ?_
  refine (sx_sipush D197_15 (by decide)).trans ?_
  exact sx_virt (c := 11) (ag := [(2, 427), (0, 3000)]) (r := []) (al' := [(2, 427), (0, 3000)]) (np := 1) (nl := 2) (q := (1, 200, 1331)) D197_18 (by decide +kernel) (by decide) mP_200 mL_200 mC_200 (Nat.le_of_ble_eq_true rfl) rfl rfl (by simp [cat]) (by decide) (MA_o h0) rfl rfl
theorem E197_21 {d : Nat} {a1 : Int} {S : SS} {I : II} (h0 : a1 = 0 ∨ a1 = 1) : ev d 197 21 [(2, 427), (0, a1)] [] S I = some ((0, a1), S, I) := by
  refine (sx_iload_n D197_21 rfl).trans ?_
  exact sx_zreturn D197_22 (by decide +kernel) h0
theorem E197_27 {d : Nat} {s0 : Int} {S : SS} {I : II} (h0 : MA S 427) : ev (d + 1) 197 27 [(2, 427), uU] [(0, s0)] S I = if w s0 = 0 then ((ev d 203 0 [(2, 427), (2, (-10)), uU] [] S I).bind (fun q => ev (d + 1) 197 47 [(2, 427), uU] (psh q.1 []) q.2.1 q.2.2)) else ((ev d 202 0 [(2, 427), (0, 3), uU, uU] [] S I).bind (fun q => ev (d + 1) 197 36 [(2, 427), uU] (psh q.1 [(2, 427)]) q.2.1 q.2.2)) := by
  refine sx_i0_eq (pc' := 41) D197_27 (by decide) (by decide) ?_ ?_ rfl
  · refine (sx_aload_n D197_41 rfl).trans ?_
    refine (sx_ldcS (q := (0, 1345)) D197_42 (by decide +kernel) (by decide +kernel)).trans ?_
    show ev (d + 1) 197 44 [(2, 427), uU] [(2, (-10)), (2, 427)] S I = _
    exact sx_virt (c := 11) (ag := [(2, 427), (2, (-10))]) (r := []) (al' := [(2, 427), (2, (-10)), uU]) (np := 1) (nl := 3) (q := (1, 203, 1346)) D197_44 (by decide +kernel) (by decide) mP_203 mL_203 mC_203 (Nat.le_of_ble_eq_true rfl) rfl rfl (by simp [cat]) (by decide) (MA_o h0) rfl rfl
  · refine (sx_aload_n D197_30 rfl).trans ?_
    refine (sx_aload_n D197_31 rfl).trans ?_
    refine (sx_iconst D197_32).trans ?_
    exact sx_virt (c := 11) (ag := [(2, 427), (0, 3)]) (r := [(2, 427)]) (al' := [(2, 427), (0, 3), uU, uU]) (np := 1) (nl := 4) (q := (1, 202, 1341)) D197_33 (by decide +kernel) (by decide) mP_202 mL_202 mC_202 (Nat.le_of_ble_eq_true rfl) rfl rfl (by simp [cat]) (by decide) (MA_o h0) rfl rfl
theorem E197_36 {d : Nat} {s1 : Int} {S : SS} {I : II} (h0 : MA S 427) : ev (d + 1) 197 36 [(2, 427), uU] [(0, s1), (2, 427)] S I = (ev d 200 0 [(2, 427), (0, s1)] [] S I).bind (fun q => ev (d + 1) 197 39 [(2, 427), uU] (psh q.1 []) q.2.1 q.2.2) := by
  exact sx_virt (c := 11) (ag := [(2, 427), (0, s1)]) (r := []) (al' := [(2, 427), (0, s1)]) (np := 1) (nl := 2) (q := (1, 200, 1331)) D197_36 (by decide +kernel) (by decide) mP_200 mL_200 mC_200 (Nat.le_of_ble_eq_true rfl) rfl rfl (by simp [cat]) (by decide) (MA_o h0) rfl rfl
theorem E197_39 {d : Nat} {S : SS} {I : II}  : ev d 197 39 [(2, 427), uU] [] S I = some ((0, 1), S, I) := by
  refine (sx_iconst D197_39).trans ?_
  exact sx_zreturn D197_40 (by decide +kernel) (by decide)
theorem E197_47 {d : Nat} {s0 : Int} {S : SS} {I : II} (h0 : MA S 427) : ev (d + 1) 197 47 [(2, 427), uU] [(0, s0)] S I = if w s0 < 0 then (if w (I 427 7) = 4 then (ev (d + 1) 197 80 [(2, 427), (0, s0)] [] S I) else ((ev d 198 0 [(2, 427), (0, 40), uU] [] S I).bind (fun q => ev (d + 1) 197 77 [(2, 427), (0, s0)] (psh q.1 []) q.2.1 q.2.2))) else ((ev d 200 0 [(2, 427), (0, 1000 + s0)] [] S I).bind (fun q => ev (d + 1) 197 61 [(2, 427), (0, s0)] (psh q.1 []) q.2.1 q.2.2)) := by
  refine (sx_istore_n (al' := [(2, 427), (0, s0)]) D197_47 (Nat.le_of_ble_eq_true rfl) rfl rfl).trans ?_
  refine (sx_iload_n D197_48 rfl).trans ?_
  refine sx_i0_lt (pc' := 63) D197_49 (by decide) (by decide) ?_ ?_ rfl
  · refine (sx_aload_n D197_63 rfl).trans ?_
    refine (sx_gfI (q := (9, 7, 0, 1375)) (j := 7) D197_64 (by decide +kernel) (by decide +kernel) (by decide) (MA_o h0) rfl rfl).trans ?_
    refine (sx_iconst D197_67).trans ?_
    refine sx_if_eq (pc' := 80) D197_68 (by decide) (by decide) ?_ ?_ rfl (w_small (by decide) (by decide))
    · exact rfl
    · refine (sx_aload_n D197_71 rfl).trans ?_
      refine (sx_bipush D197_72 (by decide)).trans ?_
      exact sx_virt (c := 11) (ag := [(2, 427), (0, 40)]) (r := []) (al' := [(2, 427), (0, 40), uU]) (np := 1) (nl := 3) (q := (1, 198, 1324)) D197_74 (by decide +kernel) (by decide) mP_198 mL_198 mC_198 (Nat.le_of_ble_eq_true rfl) rfl rfl (by simp [cat]) (by decide) (MA_o h0) rfl rfl
  · refine (sx_aload_n D197_52 rfl).trans ?_
    refine (sx_sipush D197_53 (by decide)).trans ?_
    refine (sx_iload_n D197_56 rfl).trans ?_
    refine (sx_iadd D197_57).trans ?_
    exact sx_virt (c := 11) (ag := [(2, 427), (0, 1000 + s0)]) (r := []) (al' := [(2, 427), (0, 1000 + s0)]) (np := 1) (nl := 2) (q := (1, 200, 1331)) D197_58 (by decide +kernel) (by decide) mP_200 mL_200 mC_200 (Nat.le_of_ble_eq_true rfl) rfl rfl (by simp [cat]) (by decide) (MA_o h0) rfl rfl
theorem E197_61 {d : Nat} {a1 : Int} {S : SS} {I : II}  : ev d 197 61 [(2, 427), (0, a1)] [] S I = some ((0, 1), S, I) := by
  refine (sx_iconst D197_61).trans ?_
  exact sx_zreturn D197_62 (by decide +kernel) (by decide)
theorem E197_77 {d : Nat} {a1 s0 : Int} {S : SS} {I : II} (h0 : MA S 427) : ev (d + 1) 197 77 [(2, 427), (0, a1)] [(0, s0)] S I = if w s0 = 0 then (ev (d + 1) 197 80 [(2, 427), (0, a1)] [] S I) else ((ev d 196 0 [(2, 427), (0, 0), uU, uU] [] S (up2 I 427 7 ((I 427 7) + 1))).bind (fun q => ev (d + 1) 197 97 [(2, 427), (0, a1)] (psh q.1 []) q.2.1 q.2.2)) := by
  refine sx_i0_ne (pc' := 82) D197_77 (by decide) (by decide) ?_ ?_ rfl
  · exact rfl
  · refine (sx_aload_n D197_82 rfl).trans ?_
    refine (sx_dup D197_83 (by decide)).trans ?_
    refine (sx_gfI (q := (9, 7, 0, 1375)) (j := 7) D197_84 (by decide +kernel) (by decide +kernel) (by decide) (MA_o h0) rfl rfl).trans ?_
    refine (sx_iconst D197_87).trans ?_
    refine (sx_iadd D197_88).trans ?_
    refine (sx_pfI (q := (9, 7, 0, 1375)) (j := 7) D197_89 (by decide +kernel) (by decide) (by decide) (MA_o h0) rfl).trans ?_
    refine (sx_aload_n D197_92 rfl).trans ?_
    refine (sx_iconst D197_93).trans ?_
    exact sx_virt (c := 11) (ag := [(2, 427), (0, 0)]) (r := []) (al' := [(2, 427), (0, 0), uU, uU]) (np := 1) (nl := 4) (q := (1, 196, 1316)) D197_94 (by decide +kernel) (by decide) mP_196 mL_196 mC_196 (Nat.le_of_ble_eq_true rfl) rfl rfl (by simp [cat]) (by decide) (MA_o h0) rfl rfl
theorem E197_80 {d : Nat} {a1 : Int} {S : SS} {I : II}  : ev d 197 80 [(2, 427), (0, a1)] [] S I = some ((0, 0), S, I) := by
  refine (sx_iconst D197_80).trans ?_
  exact sx_zreturn D197_81 (by decide +kernel) (by decide)
theorem E197_97 {d : Nat} {a1 s0 : Int} {S : SS} {I : II} (h0 : MA S 427) : ev (d + 1) 197 97 [(2, 427), (0, a1)] [(0, s0)] S I = if w s0 = 0 then (ev (d + 1) 197 109 [(2, 427), (0, a1)] [] S I) else ((ev d 198 0 [(2, 427), (0, 41), uU] [] S I).bind (fun q => ev (d + 1) 197 106 [(2, 427), (0, a1)] (psh q.1 []) q.2.1 q.2.2)) := by
  refine sx_i0_eq (pc' := 109) D197_97 (by decide) (by decide) ?_ ?_ rfl
  · exact rfl
  · refine (sx_aload_n D197_100 rfl).trans ?_
    refine (sx_bipush D197_101 (by decide)).trans ?_
    exact sx_virt (c := 11) (ag := [(2, 427), (0, 41)]) (r := []) (al' := [(2, 427), (0, 41), uU]) (np := 1) (nl := 3) (q := (1, 198, 1324)) D197_103 (by decide +kernel) (by decide) mP_198 mL_198 mC_198 (Nat.le_of_ble_eq_true rfl) rfl rfl (by simp [cat]) (by decide) (MA_o h0) rfl rfl
theorem E197_106 {d : Nat} {a1 s0 : Int} {S : SS} {I : II} (h0 : MA S 427) : ev d 197 106 [(2, 427), (0, a1)] [(0, s0)] S I = if w s0 = 0 then (ev d 197 109 [(2, 427), (0, a1)] [] S I) else (some ((0, 1), S, (up2 I 427 7 ((I 427 7) - 1)))) := by
  refine sx_i0_ne (pc' := 111) D197_106 (by decide) (by decide) ?_ ?_ rfl
  · exact rfl
  · refine (sx_aload_n D197_111 rfl).trans ?_
    refine (sx_dup D197_112 (by decide)).trans ?_
    refine (sx_gfI (q := (9, 7, 0, 1375)) (j := 7) D197_113 (by decide +kernel) (by decide +kernel) (by decide) (MA_o h0) rfl rfl).trans ?_
    refine (sx_iconst D197_116).trans ?_
    refine (sx_isub D197_117).trans ?_
    refine (sx_pfI (q := (9, 7, 0, 1375)) (j := 7) D197_118 (by decide +kernel) (by decide) (by decide) (MA_o h0) rfl).trans ?_
    refine (sx_iconst D197_121).trans ?_
    exact sx_zreturn D197_122 (by decide +kernel) (by decide)
theorem E197_109 {d : Nat} {a1 : Int} {S : SS} {I : II}  : ev d 197 109 [(2, 427), (0, a1)] [] S I = some ((0, 0), S, I) := by
  refine (sx_iconst D197_109).trans ?_
  exact sx_zreturn D197_110 (by decide +kernel) (by decide)
theorem E198_0 {d : Nat} {a1 : Int} {S : SS} {I : II} (h0 : MA S 427) : ev d 198 0 [(2, 427), (0, a1), uU] [] S I = if w (I 427 5) < w (I 427 6) then (gdR (0 ≤ w (I 427 5) ∧ w (I 427 5) < 80) (if w (I 429 (w (I 427 5))) = w a1 then (ev d 198 29 [(2, 427), (0, a1), uU] [(0, 1)] S I) else (ev d 198 28 [(2, 427), (0, a1), uU] [] S I))) else (ev d 198 28 [(2, 427), (0, a1), uU] [] S I) := by
  refine (sx_aload_n D198_0 rfl).trans ?_
  refine (sx_gfI (q := (9, 5, 0, 1373)) (j := 5) D198_1 (by decide +kernel) (by decide +kernel) (by decide) (MA_o h0) rfl rfl).trans ?_
  refine (sx_aload_n D198_4 rfl).trans ?_
  refine (sx_gfI (q := (9, 6, 0, 1374)) (j := 6) D198_5 (by decide +kernel) (by decide +kernel) (by decide) (MA_o h0) rfl rfl).trans ?_
  refine sx_if_ge (pc' := 28) D198_8 (by decide) (by decide) ?_ ?_ rfl rfl
  · refine (sx_aload_n D198_11 rfl).trans ?_
    refine (sx_gfR (q := (9, 3, 0, 1371)) (b := 429) D198_12 (by decide +kernel) (by decide +kernel) (by decide) (MA_o h0) (MA_g3 h0)).trans ?_
    refine (sx_aload_n D198_15 rfl).trans ?_
    refine (sx_gfI (q := (9, 5, 0, 1373)) (j := 5) D198_16 (by decide +kernel) (by decide +kernel) (by decide) (MA_o h0) rfl rfl).trans ?_
    refine (sx_ia D198_19 (MA_k3 h0) rfl).trans (gdR_to fun g1 => ?_)
    refine (sx_iload_n D198_20 rfl).trans ?_
    refine sx_if_ne (pc' := 28) D198_21 (by decide) (by decide) ?_ ?_ rfl rfl
    · refine (sx_iconst D198_24).trans ?_
      refine (sx_goto (pc' := 29) D198_25 (by decide) (by decide)).trans ?_
      exact rfl
    · exact rfl
  · exact rfl
theorem E198_28 {d : Nat} {a1 : Int} {S : SS} {I : II}  : ev d 198 28 [(2, 427), (0, a1), uU] [] S I = ev d 198 29 [(2, 427), (0, a1), uU] [(0, 0)] S I := by
  refine (sx_iconst D198_28).trans ?_
  exact rfl
theorem E198_29 {d : Nat} {a1 s0 : Int} {S : SS} {I : II} (h0 : MA S 427) : ev (d + 1) 198 29 [(2, 427), (0, a1), uU] [(0, s0)] S I = (ev d 199 0 [(0, s0)] [] S I).bind (fun q => ev (d + 1) 198 39 [(2, 427), (0, a1), (0, s0)] (psh q.1 [(0, I 427 5), (2, 427)]) q.2.1 q.2.2) := by
  refine (sx_istore_n (al' := [(2, 427), (0, a1), (0, s0)]) D198_29 (Nat.le_of_ble_eq_true rfl) rfl rfl).trans ?_
  refine (sx_aload_n D198_30 rfl).trans ?_
  refine (sx_dup D198_31 (by decide)).trans ?_
  refine (sx_gfI (q := (9, 5, 0, 1373)) (j := 5) D198_32 (by decide +kernel) (by decide +kernel) (by decide) (MA_o h0) rfl rfl).trans ?_
  refine (sx_iload_n D198_35 rfl).trans ?_
  exact sx_stat (ag := [(0, s0)]) (r := [(0, I 427 5), (2, 427)]) (al' := [(0, s0)]) (np := 1) (nl := 1) (q := (0, 199, 1328)) D198_36 (by decide +kernel) (by decide) mP_199 mL_199 (Nat.le_of_ble_eq_true rfl) rfl rfl (by simp [cat]) rfl rfl
theorem E198_39 {d : Nat} {a1 a2 s1 s2 : Int} {S : SS} {I : II} (h0 : MA S 427) (h1 : a2 = 0 ∨ a2 = 1) : ev d 198 39 [(2, 427), (0, a1), (0, a2)] [(0, s2), (0, s1), (2, 427)] S I = some ((0, a2), S, (up2 I 427 5 (s1 + s2))) := by
  refine (sx_iadd D198_39).trans ?_
  refine (sx_pfI (q := (9, 5, 0, 1373)) (j := 5) D198_40 (by decide +kernel) (by decide) (by decide) (MA_o h0) rfl).trans ?_
  refine (sx_iload_n D198_43 rfl).trans ?_
  exact sx_zreturn D198_44 (by decide +kernel) h1
theorem E199_0 {d : Nat} {a0 : Int} {S : SS} {I : II}  : ev d 199 0 [(0, a0)] [] S I = if w a0 = 0 then (ev d 199 9 [(0, a0)] [(0, 0)] S I) else (ev d 199 9 [(0, a0)] [(0, 1)] S I) := by
  refine (sx_iload_n D199_0 rfl).trans ?_
  refine sx_i0_eq (pc' := 8) D199_1 (by decide) (by decide) ?_ ?_ rfl
  · refine (sx_iconst D199_8).trans ?_
    exact rfl
  · refine (sx_iconst D199_4).trans ?_
    refine (sx_goto (pc' := 9) D199_5 (by decide) (by decide)).trans ?_
    exact rfl
theorem E199_9 {d : Nat} {a0 s0 : Int} {S : SS} {I : II}  : ev d 199 9 [(0, a0)] [(0, s0)] S I = some ((0, s0), S, I) := by
  exact sx_ireturn D199_9 (by decide +kernel)
theorem E200_0 {d : Nat} {a1 : Int} {S : SS} {I : II} (h0 : MA S 427) : ev d 200 0 [(2, 427), (0, a1)] [] S I = gdR (0 ≤ w (I 427 11) ∧ w (I 427 11) < 80) (some (uU, S, (up2 (up2 I 431 (w (I 427 11)) a1) 427 11 ((I 427 11) + 1)))) := by
  refine (sx_aload_n D200_0 rfl).trans ?_
  refine (sx_gfR (q := (9, 9, 0, 1377)) (b := 431) D200_1 (by decide +kernel) (by decide +kernel) (by decide) (MA_o h0) (MA_g9 h0)).trans ?_
  refine (sx_aload_n D200_4 rfl).trans ?_
  refine (sx_gfI (q := (9, 11, 0, 1379)) (j := 11) D200_5 (by decide +kernel) (by decide +kernel) (by decide) (MA_o h0) rfl rfl).trans ?_
  refine (sx_iload_n D200_8 rfl).trans ?_
  refine (sx_is D200_9 (MA_k9 h0)).trans (gdR_to fun g1 => ?_)
  refine (sx_aload_n D200_10 rfl).trans ?_
  refine (sx_dup D200_11 (by decide)).trans ?_
  refine (sx_gfI (q := (9, 11, 0, 1379)) (j := 11) D200_12 (by decide +kernel) (by decide +kernel) (by decide) (MA_o h0) rfl (up2_cell (by omega))).trans ?_
  refine (sx_iconst D200_15).trans ?_
  refine (sx_iadd D200_16).trans ?_
  refine (sx_pfI (q := (9, 11, 0, 1379)) (j := 11) D200_17 (by decide +kernel) (by decide) (by decide) (MA_o h0) rfl).trans ?_
  exact sx_return D200_20 (by decide +kernel)
theorem E201_0 {d : Nat} {S : SS} {I : II} (h0 : MA S 427) : ev (d + 1) 201 0 [(2, 427)] [] S I = if w (I 427 5) < w (I 427 6) then (gdR (0 ≤ w (I 427 5) ∧ w (I 427 5) < 80) ((ev d 192 0 [(1, w (I 429 (w (I 427 5)))), uU, (1, 48), uU, (1, 57), uU] [] S I).bind (fun q => ev (d + 1) 201 30 [(2, 427)] (psh q.1 []) q.2.1 q.2.2))) else (ev (d + 1) 201 37 [(2, 427)] [] S I) := by
  refine (sx_aload_n D201_0 rfl).trans ?_
  refine (sx_gfI (q := (9, 5, 0, 1373)) (j := 5) D201_1 (by decide +kernel) (by decide +kernel) (by decide) (MA_o h0) rfl rfl).trans ?_
  refine (sx_aload_n D201_4 rfl).trans ?_
  refine (sx_gfI (q := (9, 6, 0, 1374)) (j := 6) D201_5 (by decide +kernel) (by decide +kernel) (by decide) (MA_o h0) rfl rfl).trans ?_
  refine sx_if_ge (pc' := 37) D201_8 (by decide) (by decide) ?_ ?_ rfl rfl
  · refine (sx_aload_n D201_11 rfl).trans ?_
    refine (sx_gfR (q := (9, 3, 0, 1371)) (b := 429) D201_12 (by decide +kernel) (by decide +kernel) (by decide) (MA_o h0) (MA_g3 h0)).trans ?_
    refine (sx_aload_n D201_15 rfl).trans ?_
    refine (sx_gfI (q := (9, 5, 0, 1373)) (j := 5) D201_16 (by decide +kernel) (by decide +kernel) (by decide) (MA_o h0) rfl rfl).trans ?_
    refine (sx_ia D201_19 (MA_k3 h0) rfl).trans (gdR_to fun g1 => ?_)
    refine (sx_i2l D201_20).trans ?_
    refine (sx_ldc2_w (q := (48, 1339)) D201_21 (by decide +kernel)).trans ?_
    refine (sx_ldc2_w (q := (57, 1340)) D201_24 (by decide +kernel)).trans ?_
    exact sx_stat (ag := [(1, w (I 429 (w (I 427 5)))), (1, 48), (1, 57)]) (r := []) (al' := [(1, w (I 429 (w (I 427 5)))), uU, (1, 48), uU, (1, 57), uU]) (np := 3) (nl := 6) (q := (0, 192, 1299)) D201_27 (by decide +kernel) (by decide) mP_192 mL_192 (Nat.le_of_ble_eq_true rfl) rfl rfl (by simp [cat]) rfl rfl
  · exact rfl
theorem E201_30 {d : Nat} {s0 : Int} {S : SS} {I : II}  : ev d 201 30 [(2, 427)] [(0, s0)] S I = if w s0 = 0 then (ev d 201 37 [(2, 427)] [] S I) else (ev d 201 38 [(2, 427)] [(0, 1)] S I) := by
  refine sx_i0_eq (pc' := 37) D201_30 (by decide) (by decide) ?_ ?_ rfl
  · exact rfl
  · refine (sx_iconst D201_33).trans ?_
    refine (sx_goto (pc' := 38) D201_34 (by decide) (by decide)).trans ?_
    exact rfl
theorem E201_37 {d : Nat} {S : SS} {I : II}  : ev d 201 37 [(2, 427)] [] S I = ev d 201 38 [(2, 427)] [(0, 0)] S I := by
  refine (sx_iconst D201_37).trans ?_
  exact rfl
theorem E201_38 {d : Nat} {s0 : Int} {S : SS} {I : II} (h0 : s0 = 0 ∨ s0 = 1) : ev d 201 38 [(2, 427)] [(0, s0)] S I = some ((0, s0), S, I) := by
  exact sx_zreturn D201_38 (by decide +kernel) h0
theorem E202_0 {d : Nat} {a1 : Int} {S : SS} {I : II} (h0 : MA S 427) : ev (d + 1) 202 0 [(2, 427), (0, a1), uU, uU] [] S I = (ev d 201 0 [(2, 427)] [] S I).bind (fun q => ev (d + 1) 202 4 [(2, 427), (0, a1), uU, uU] (psh q.1 []) q.2.1 q.2.2) := by
  refine (sx_aload_n D202_0 rfl).trans ?_
  exact sx_virt (c := 11) (ag := [(2, 427)]) (r := []) (al' := [(2, 427)]) (np := 0) (nl := 1) (q := (1, 201, 1335)) D202_1 (by decide +kernel) (by decide) mP_201 mL_201 mC_201 (Nat.le_of_ble_eq_true rfl) rfl rfl (by simp [cat]) (by decide) (MA_o h0) rfl rfl
theorem E202_4 {d : Nat} {a1 s0 : Int} {S : SS} {I : II}  : ev d 202 4 [(2, 427), (0, a1), uU, uU] [(0, s0)] S I = if w s0 = 0 then (some ((0, (-1)), S, I)) else (ev d 202 13 [(2, 427), (0, a1), (0, 0), (0, 0)] [] S I) := by
  refine sx_i0_ne (pc' := 9) D202_4 (by decide) (by decide) ?_ ?_ rfl
  · refine (sx_iconst D202_7).trans ?_
    exact sx_ireturn D202_8 (by decide +kernel)
  · refine (sx_iconst D202_9).trans ?_
    refine (sx_istore_n (al' := [(2, 427), (0, a1), (0, 0), uU]) D202_10 (Nat.le_of_ble_eq_true rfl) rfl rfl).trans ?_
    refine (sx_iconst D202_11).trans ?_
    refine (sx_istore_n (al' := [(2, 427), (0, a1), (0, 0), (0, 0)]) D202_12 (Nat.le_of_ble_eq_true rfl) rfl rfl).trans ?_
    exact rfl
theorem E202_13 {d : Nat} {a1 a2 a3 : Int} {S : SS} {I : II} (h0 : MA S 427) : ev (d + 1) 202 13 [(2, 427), (0, a1), (0, a2), (0, a3)] [] S I = if w a3 < w a1 then ((ev d 201 0 [(2, 427)] [] S I).bind (fun q => ev (d + 1) 202 22 [(2, 427), (0, a1), (0, a2), (0, a3)] (psh q.1 []) q.2.1 q.2.2)) else (ev (d + 1) 202 59 [(2, 427), (0, a1), (0, a2), (0, a3)] [] S I) := by
  refine (sx_iload_n D202_13 rfl).trans ?_
  refine (sx_iload_n D202_14 rfl).trans ?_
  refine sx_if_ge (pc' := 59) D202_15 (by decide) (by decide) ?_ ?_ rfl rfl
  · refine (sx_aload_n D202_18 rfl).trans ?_
    exact sx_virt (c := 11) (ag := [(2, 427)]) (r := []) (al' := [(2, 427)]) (np := 0) (nl := 1) (q := (1, 201, 1335)) D202_19 (by decide +kernel) (by decide) mP_201 mL_201 mC_201 (Nat.le_of_ble_eq_true rfl) rfl rfl (by simp [cat]) (by decide) (MA_o h0) rfl rfl
  · exact rfl
theorem E202_22 {d : Nat} {a1 a2 a3 s0 : Int} {S : SS} {I : II} (h0 : MA S 427) : ev d 202 22 [(2, 427), (0, a1), (0, a2), (0, a3)] [(0, s0)] S I = if w s0 = 0 then (ev d 202 59 [(2, 427), (0, a1), (0, a2), (0, a3)] [] S I) else (gdR (0 ≤ w (I 427 5) ∧ w (I 427 5) < 80) (ev d 202 13 [(2, 427), (0, a1), (0, ((10 * a2) + (I 429 (w (I 427 5)))) - 48), (0, a3 + 1)] [] S (up2 I 427 5 ((I 427 5) + 1)))) := by
  refine sx_i0_eq (pc' := 59) D202_22 (by decide) (by decide) ?_ ?_ rfl
  · exact rfl
  · refine (sx_bipush D202_25 (by decide)).trans ?_
    refine (sx_iload_n D202_27 rfl).trans ?_
    refine (sx_imul D202_28).trans ?_
    refine (sx_aload_n D202_29 rfl).trans ?_
    refine (sx_gfR (q := (9, 3, 0, 1371)) (b := 429) D202_30 (by decide +kernel) (by decide +kernel) (by decide) (MA_o h0) (MA_g3 h0)).trans ?_
    refine (sx_aload_n D202_33 rfl).trans ?_
    refine (sx_gfI (q := (9, 5, 0, 1373)) (j := 5) D202_34 (by decide +kernel) (by decide +kernel) (by decide) (MA_o h0) rfl rfl).trans ?_
    refine (sx_ia D202_37 (MA_k3 h0) rfl).trans (gdR_to fun g1 => ?_)
    refine (sx_iadd D202_38).trans ?_
    refine (sx_bipush D202_39 (by decide)).trans ?_
    refine (sx_isub D202_41).trans ?_
    refine (sx_istore_n (al' := [(2, 427), (0, a1), (0, ((10 * a2) + (I 429 (w (I 427 5)))) - 48), (0, a3)]) D202_42 (Nat.le_of_ble_eq_true rfl) rfl rfl).trans ?_
    refine (sx_aload_n D202_43 rfl).trans ?_
    refine (sx_dup D202_44 (by decide)).trans ?_
    refine (sx_gfI (q := (9, 5, 0, 1373)) (j := 5) D202_45 (by decide +kernel) (by decide +kernel) (by decide) (MA_o h0) rfl rfl).trans ?_
    refine (sx_iconst D202_48).trans ?_
    refine (sx_iadd D202_49).trans ?_
    refine (sx_pfI (q := (9, 5, 0, 1373)) (j := 5) D202_50 (by decide +kernel) (by decide) (by decide) (MA_o h0) rfl).trans ?_
    refine (sx_iinc (al' := [(2, 427), (0, a1), (0, ((10 * a2) + (I 429 (w (I 427 5)))) - 48), (0, a3 + 1)]) D202_53 rfl rfl).trans ?_
    refine (sx_goto (pc' := 13) D202_56 (by decide) (by decide)).trans ?_
    exact rfl
theorem E202_59 {d : Nat} {a1 a2 a3 : Int} {S : SS} {I : II}  : ev d 202 59 [(2, 427), (0, a1), (0, a2), (0, a3)] [] S I = some ((0, a2), S, I) := by
  refine (sx_iload_n D202_59 rfl).trans ?_
  exact sx_ireturn D202_60 (by decide +kernel)
theorem E203_0 {d : Nat} {a1 : Int} {S : SS} {I : II}  : ev d 203 0 [(2, 427), (2, a1), uU] [] S I = ev d 203 2 [(2, 427), (2, a1), (0, 0)] [] S I := by
  refine (sx_iconst D203_0).trans ?_
  refine (sx_istore_n (al' := [(2, 427), (2, a1), (0, 0)]) D203_1 (Nat.le_of_ble_eq_true rfl) rfl rfl).trans ?_
  exact rfl
theorem E203_2 {d : Nat} {a1 a2 : Int} {S : SS} {I : II} (h0 : isT (-10 - a1)) : ev (d + 1) 203 2 [(2, 427), (2, a1), (0, a2)] [] S I = (ev d 315 0 [(2, a1)] [] S I).bind (fun q => ev (d + 1) 203 7 [(2, 427), (2, a1), (0, a2)] (psh q.1 [(0, a2)]) q.2.1 q.2.2) := by
  refine (sx_iload_n D203_2 rfl).trans ?_
  refine (sx_aload_n D203_3 rfl).trans ?_
  exact sx_virtS (ag := [(2, a1)]) (r := [(0, a2)]) (al' := [(2, a1)]) (np := 0) (nl := 1) (q := (1, 315, 1350)) D203_4 (by decide +kernel) (by decide) mP_315 mL_315 mC_315 (Nat.le_of_ble_eq_true rfl) rfl rfl (by simp [cat]) h0 rfl rfl
theorem E203_7 {d : Nat} {a1 a2 s0 s1 : Int} {S : SS} {I : II} (h0 : MA S 427) (h1 : isT (-10 - a1)) : ev (d + 1) 203 7 [(2, 427), (2, a1), (0, a2)] [(0, s1), (0, s0)] S I = if w s0 < w s1 then (if w (I 427 5) < w (I 427 6) then ((ev d 317 0 [(2, a1), (0, a2)] [] S I).bind (fun q => ev (d + 1) 203 26 [(2, 427), (2, a1), (0, a2)] (psh q.1 []) q.2.1 q.2.2)) else (ev (d + 1) 203 56 [(2, 427), (2, a1), (0, a2)] [] S I)) else (ev (d + 1) 203 56 [(2, 427), (2, a1), (0, a2)] [] S I) := by
  refine sx_if_ge (pc' := 56) D203_7 (by decide) (by decide) ?_ ?_ rfl rfl
  · refine (sx_aload_n D203_10 rfl).trans ?_
    refine (sx_gfI (q := (9, 5, 0, 1373)) (j := 5) D203_11 (by decide +kernel) (by decide +kernel) (by decide) (MA_o h0) rfl rfl).trans ?_
    refine (sx_aload_n D203_14 rfl).trans ?_
    refine (sx_gfI (q := (9, 6, 0, 1374)) (j := 6) D203_15 (by decide +kernel) (by decide +kernel) (by decide) (MA_o h0) rfl rfl).trans ?_
    refine sx_if_ge (pc' := 56) D203_18 (by decide) (by decide) ?_ ?_ rfl rfl
    · refine (sx_aload_n D203_21 rfl).trans ?_
      refine (sx_iload_n D203_22 rfl).trans ?_
      exact sx_virtS (ag := [(2, a1), (0, a2)]) (r := []) (al' := [(2, a1), (0, a2)]) (np := 1) (nl := 2) (q := (1, 317, 1351)) D203_23 (by decide +kernel) (by decide) mP_317 mL_317 mC_317 (Nat.le_of_ble_eq_true rfl) rfl rfl (by simp [cat]) h1 rfl rfl
    · exact rfl
  · exact rfl
theorem E203_26 {d : Nat} {a1 a2 s0 : Int} {S : SS} {I : II} (h0 : MA S 427) : ev d 203 26 [(2, 427), (2, a1), (0, a2)] [(0, s0)] S I = gdR (0 ≤ w (I 427 5) ∧ w (I 427 5) < 80) (if w s0 = w (I 429 (w (I 427 5))) then (some ((0, a2), S, (up2 I 427 5 ((I 427 5) + 1)))) else (ev d 203 2 [(2, 427), (2, a1), (0, a2 + 1)] [] S I)) := by
  refine (sx_aload_n D203_26 rfl).trans ?_
  refine (sx_gfR (q := (9, 3, 0, 1371)) (b := 429) D203_27 (by decide +kernel) (by decide +kernel) (by decide) (MA_o h0) (MA_g3 h0)).trans ?_
  refine (sx_aload_n D203_30 rfl).trans ?_
  refine (sx_gfI (q := (9, 5, 0, 1373)) (j := 5) D203_31 (by decide +kernel) (by decide +kernel) (by decide) (MA_o h0) rfl rfl).trans ?_
  refine (sx_ia D203_34 (MA_k3 h0) rfl).trans (gdR_to fun g1 => ?_)
  refine sx_if_ne (pc' := 50) D203_35 (by decide) (by decide) ?_ ?_ rfl rfl
  · refine (sx_aload_n D203_38 rfl).trans ?_
    refine (sx_dup D203_39 (by decide)).trans ?_
    refine (sx_gfI (q := (9, 5, 0, 1373)) (j := 5) D203_40 (by decide +kernel) (by decide +kernel) (by decide) (MA_o h0) rfl rfl).trans ?_
    refine (sx_iconst D203_43).trans ?_
    refine (sx_iadd D203_44).trans ?_
    refine (sx_pfI (q := (9, 5, 0, 1373)) (j := 5) D203_45 (by decide +kernel) (by decide) (by decide) (MA_o h0) rfl).trans ?_
    refine (sx_iload_n D203_48 rfl).trans ?_
    exact sx_ireturn D203_49 (by decide +kernel)
  · refine (sx_iinc (al' := [(2, 427), (2, a1), (0, a2 + 1)]) D203_50 rfl rfl).trans ?_
    refine (sx_goto (pc' := 2) D203_53 (by decide) (by decide)).trans ?_
    exact rfl
theorem E203_56 {d : Nat} {a1 a2 : Int} {S : SS} {I : II}  : ev d 203 56 [(2, 427), (2, a1), (0, a2)] [] S I = some ((0, (-1)), S, I) := by
  refine (sx_iconst D203_56).trans ?_
  exact sx_ireturn D203_57 (by decide +kernel)
theorem E204_0 {d : Nat} {a1 a2 a3 : Int} {S : SS} {I : II} (h0 : MA S 427) : ev d 204 0 [(2, 427), (0, a1), (0, a2), (0, a3), uU] [] S I = if w a3 = 0 then (ev d 204 19 [(2, 427), (0, a1), (0, a2), (0, a3), uU] [] S I) else (if w (I 427 5) = w (I 427 6) then (ev d 204 20 [(2, 427), (0, a1), (0, a2), (0, a3), uU] [(0, 1)] S I) else (ev d 204 19 [(2, 427), (0, a1), (0, a2), (0, a3), uU] [] S I)) := by
  refine (sx_iload_n D204_0 rfl).trans ?_
  refine sx_i0_eq (pc' := 19) D204_1 (by decide) (by decide) ?_ ?_ rfl
  · exact rfl
  · refine (sx_aload_n D204_4 rfl).trans ?_
    refine (sx_gfI (q := (9, 5, 0, 1373)) (j := 5) D204_5 (by decide +kernel) (by decide +kernel) (by decide) (MA_o h0) rfl rfl).trans ?_
    refine (sx_aload_n D204_8 rfl).trans ?_
    refine (sx_gfI (q := (9, 6, 0, 1374)) (j := 6) D204_9 (by decide +kernel) (by decide +kernel) (by decide) (MA_o h0) rfl rfl).trans ?_
    refine sx_if_ne (pc' := 19) D204_12 (by decide) (by decide) ?_ ?_ rfl rfl
    · refine (sx_iconst D204_15).trans ?_
      refine (sx_goto (pc' := 20) D204_16 (by decide) (by decide)).trans ?_
      exact rfl
    · exact rfl
theorem E204_19 {d : Nat} {a1 a2 a3 : Int} {S : SS} {I : II}  : ev d 204 19 [(2, 427), (0, a1), (0, a2), (0, a3), uU] [] S I = ev d 204 20 [(2, 427), (0, a1), (0, a2), (0, a3), uU] [(0, 0)] S I := by
  refine (sx_iconst D204_19).trans ?_
  exact rfl
theorem E204_20 {d : Nat} {a1 a2 a3 s0 : Int} {S : SS} {I : II} (h0 : MA S 427) : ev d 204 20 [(2, 427), (0, a1), (0, a2), (0, a3), uU] [(0, s0)] S I = if w a2 < w a1 then (if w s0 = 0 then (if w (I 427 5) < w a2 then (ev d 204 44 [(2, 427), (0, a1), (0, a2), (0, a3), (0, s0)] [] S I) else (ev d 204 40 [(2, 427), (0, a1), (0, a2), (0, a3), (0, s0)] [] S I)) else (ev d 204 40 [(2, 427), (0, a1), (0, a2), (0, a3), (0, s0)] [] S I)) else (ev d 204 44 [(2, 427), (0, a1), (0, a2), (0, a3), (0, s0)] [] S I) := by
  refine (sx_istore (al' := [(2, 427), (0, a1), (0, a2), (0, a3), (0, s0)]) D204_20 (Nat.le_of_ble_eq_true rfl) rfl rfl).trans ?_
  refine (sx_iload_n D204_22 rfl).trans ?_
  refine (sx_iload_n D204_23 rfl).trans ?_
  refine sx_if_le (pc' := 44) D204_24 (by decide) (by decide) ?_ ?_ rfl rfl
  · refine (sx_iload D204_27 rfl).trans ?_
    refine sx_i0_ne (pc' := 40) D204_29 (by decide) (by decide) ?_ ?_ rfl
    · refine (sx_aload_n D204_32 rfl).trans ?_
      refine (sx_gfI (q := (9, 5, 0, 1373)) (j := 5) D204_33 (by decide +kernel) (by decide +kernel) (by decide) (MA_o h0) rfl rfl).trans ?_
      refine (sx_iload_n D204_36 rfl).trans ?_
      refine sx_if_lt (pc' := 44) D204_37 (by decide) (by decide) ?_ ?_ rfl rfl
      · exact rfl
      · exact rfl
    · exact rfl
  · exact rfl
theorem E204_40 {d : Nat} {a1 a2 a3 a4 : Int} {S : SS} {I : II}  : ev d 204 40 [(2, 427), (0, a1), (0, a2), (0, a3), (0, a4)] [] S I = some ((0, (-1) - a2), S, I) := by
  refine (sx_iconst D204_40).trans ?_
  refine (sx_iload_n D204_41 rfl).trans ?_
  refine (sx_isub D204_42).trans ?_
  exact sx_ireturn D204_43 (by decide +kernel)
theorem E204_44 {d : Nat} {a1 a2 a3 a4 : Int} {S : SS} {I : II} (h0 : MA S 427) : ev d 204 44 [(2, 427), (0, a1), (0, a2), (0, a3), (0, a4)] [] S I = if w a4 = 0 then (ev d 204 59 [(2, 427), (0, a1), (0, a2), (0, a3), (0, a4)] [(0, (-1) - (I 427 5))] S I) else (ev d 204 59 [(2, 427), (0, a1), (0, a2), (0, a3), (0, a4)] [(0, 0)] S I) := by
  refine (sx_iload D204_44 rfl).trans ?_
  refine sx_i0_eq (pc' := 53) D204_46 (by decide) (by decide) ?_ ?_ rfl
  · refine (sx_iconst D204_53).trans ?_
    refine (sx_aload_n D204_54 rfl).trans ?_
    refine (sx_gfI (q := (9, 5, 0, 1373)) (j := 5) D204_55 (by decide +kernel) (by decide +kernel) (by decide) (MA_o h0) rfl rfl).trans ?_
    refine (sx_isub D204_58).trans ?_
    exact rfl
  · refine (sx_iconst D204_49).trans ?_
    refine (sx_goto (pc' := 59) D204_50 (by decide) (by decide)).trans ?_
    exact rfl
theorem E204_59 {d : Nat} {a1 a2 a3 a4 s0 : Int} {S : SS} {I : II}  : ev d 204 59 [(2, 427), (0, a1), (0, a2), (0, a3), (0, a4)] [(0, s0)] S I = some ((0, s0), S, I) := by
  exact sx_ireturn D204_59 (by decide +kernel)
theorem E205_0 {d : Nat} {a1 a2 : Int} {S : SS} {I : II} (h0 : MA S 427) : ev d 205 0 [(2, 427), (2, a1), (0, a2), uU] [] S I = ev d 205 7 [(2, 427), (2, a1), (0, a2), (0, 0)] [] S (up2 I 427 10 a2) := by
  refine (sx_aload_n D205_0 rfl).trans ?_
  refine (sx_iload_n D205_1 rfl).trans ?_
  refine (sx_pfI (q := (9, 10, 0, 1378)) (j := 10) D205_2 (by decide +kernel) (by decide) (by decide) (MA_o h0) rfl).trans ?_
  refine (sx_iconst D205_5).trans ?_
  refine (sx_istore_n (al' := [(2, 427), (2, a1), (0, a2), (0, 0)]) D205_6 (Nat.le_of_ble_eq_true rfl) rfl rfl).trans ?_
  exact rfl
theorem E205_7 {d : Nat} {a1 a2 a3 ln1 : Int} {S : SS} {I : II} (h0 : MA S 427) (h1 : KA S a1 20 ln1) : ev d 205 7 [(2, 427), (2, a1), (0, a2), (0, a3)] [] S I = if w a3 < w a2 then (gdR (0 ≤ w a3 ∧ w a3 < ln1) (gdR (0 ≤ w a3 ∧ w a3 < 80) (ev d 205 7 [(2, 427), (2, a1), (0, a2), (0, a3 + 1)] [] S (up2 I 430 (w a3) (I a1 (w a3)))))) else (some (uU, S, I)) := by
  refine (sx_iload_n D205_7 rfl).trans ?_
  refine (sx_iload_n D205_8 rfl).trans ?_
  refine sx_if_ge (pc' := 27) D205_9 (by decide) (by decide) ?_ ?_ rfl rfl
  · refine (sx_aload_n D205_12 rfl).trans ?_
    refine (sx_gfR (q := (9, 8, 0, 1376)) (b := 430) D205_13 (by decide +kernel) (by decide +kernel) (by decide) (MA_o h0) (MA_g8 h0)).trans ?_
    refine (sx_iload_n D205_16 rfl).trans ?_
    refine (sx_aload_n D205_17 rfl).trans ?_
    refine (sx_iload_n D205_18 rfl).trans ?_
    refine (sx_ia D205_19 h1 rfl).trans (gdR_to fun g1 => ?_)
    refine (sx_is D205_20 (MA_k8 h0)).trans (gdR_to fun g2 => ?_)
    refine (sx_iinc (al' := [(2, 427), (2, a1), (0, a2), (0, a3 + 1)]) D205_21 rfl rfl).trans ?_
    refine (sx_goto (pc' := 7) D205_24 (by decide) (by decide)).trans ?_
    exact rfl
  · exact sx_return D205_27 (by decide +kernel)
theorem E206_0 {d : Nat} {S : SS} {I : II} (h0 : (0 : Int) ≤ 427) : ev d 206 0 [(2, 427), uU] [] S I = ev d 206 9 [(2, 427), uU] [(2, (S.1 : Int)), (2, 427)] (newS S 21 24) (newI S I) := by
  refine (sx_aload_n D206_0 rfl).trans ?_
  refine (sx_obj (q := (10, 0, 1367)) D206_1 (by decide +kernel) rfl h0 (by simp [cat])).trans ?_
  refine (sx_aload_n D206_4 rfl).trans ?_
  refine (sx_bipush D206_5 (by decide)).trans ?_
  refine (sx_newarr (kk := 21) D206_7 (by decide) (by decide)).trans ?_
  exact rfl
theorem E206_9 {d : Nat} {s1 : Int} {S : SS} {I : II} (h0 : (0 : Int) ≤ s1) (h1 : KO S 427 9) : ev d 206 9 [(2, 427), uU] [(2, s1), (2, 427)] S I = ev d 206 12 [(2, 427), uU] [] (S.1, S.2.1, S.2.2.1, up2 (sG S) 427 2 s1) I := by
  refine (sx_pfR (q := (9, 2, 0, 1370)) (j := 2) D206_9 (by decide +kernel) (by decide +kernel) (by decide) h1 h0 rfl).trans ?_
  exact rfl
theorem E206_12 {d : Nat} {S : SS} {I : II}  : ev d 206 12 [(2, 427), uU] [] S I = ev d 206 17 [(2, 427), uU] [(2, (S.1 : Int)), (2, 427)] (newS S 20 80) (newI S I) := by
  refine (sx_aload_n D206_12 rfl).trans ?_
  refine (sx_bipush D206_13 (by decide)).trans ?_
  refine (sx_newarr (kk := 20) D206_15 (by decide) (by decide)).trans ?_
  exact rfl
theorem E206_17 {d : Nat} {s1 : Int} {S : SS} {I : II} (h0 : (0 : Int) ≤ s1) (h1 : KO S 427 9) : ev d 206 17 [(2, 427), uU] [(2, s1), (2, 427)] S I = ev d 206 20 [(2, 427), uU] [] (S.1, S.2.1, S.2.2.1, up2 (sG S) 427 3 s1) I := by
  refine (sx_pfR (q := (9, 3, 0, 1371)) (j := 3) D206_17 (by decide +kernel) (by decide +kernel) (by decide) h1 h0 rfl).trans ?_
  exact rfl
theorem E206_20 {d : Nat} {S : SS} {I : II}  : ev d 206 20 [(2, 427), uU] [] S I = ev d 206 25 [(2, 427), uU] [(2, (S.1 : Int)), (2, 427)] (newS S 20 80) (newI S I) := by
  refine (sx_aload_n D206_20 rfl).trans ?_
  refine (sx_bipush D206_21 (by decide)).trans ?_
  refine (sx_newarr (kk := 20) D206_23 (by decide) (by decide)).trans ?_
  exact rfl
theorem E206_25 {d : Nat} {s1 : Int} {S : SS} {I : II} (h0 : (0 : Int) ≤ s1) (h1 : KO S 427 9) : ev d 206 25 [(2, 427), uU] [(2, s1), (2, 427)] S I = ev d 206 28 [(2, 427), uU] [] (S.1, S.2.1, S.2.2.1, up2 (sG S) 427 8 s1) I := by
  refine (sx_pfR (q := (9, 8, 0, 1376)) (j := 8) D206_25 (by decide +kernel) (by decide +kernel) (by decide) h1 h0 rfl).trans ?_
  exact rfl
theorem E206_28 {d : Nat} {S : SS} {I : II}  : ev d 206 28 [(2, 427), uU] [] S I = ev d 206 33 [(2, 427), uU] [(2, (S.1 : Int)), (2, 427)] (newS S 20 80) (newI S I) := by
  refine (sx_aload_n D206_28 rfl).trans ?_
  refine (sx_bipush D206_29 (by decide)).trans ?_
  refine (sx_newarr (kk := 20) D206_31 (by decide) (by decide)).trans ?_
  exact rfl
theorem E206_33 {d : Nat} {s1 : Int} {S : SS} {I : II} (h0 : (0 : Int) ≤ s1) (h1 : KO S 427 9) : ev d 206 33 [(2, 427), uU] [(2, s1), (2, 427)] S I = ev d 206 36 [(2, 427), uU] [] (S.1, S.2.1, S.2.2.1, up2 (sG S) 427 9 s1) I := by
  refine (sx_pfR (q := (9, 9, 0, 1377)) (j := 9) D206_33 (by decide +kernel) (by decide +kernel) (by decide) h1 h0 rfl).trans ?_
  exact rfl
theorem E206_36 {d : Nat} {S : SS} {I : II}  : ev d 206 36 [(2, 427), uU] [] S I = ev d 206 41 [(2, 427), uU] [(2, (S.1 : Int)), (2, 427)] (newS S 20 80) (newI S I) := by
  refine (sx_aload_n D206_36 rfl).trans ?_
  refine (sx_bipush D206_37 (by decide)).trans ?_
  refine (sx_newarr (kk := 20) D206_39 (by decide) (by decide)).trans ?_
  exact rfl
theorem E206_41 {d : Nat} {s1 : Int} {S : SS} {I : II} (h0 : (0 : Int) ≤ s1) (h1 : KO S 427 9) : ev d 206 41 [(2, 427), uU] [(2, s1), (2, 427)] S I = ev d 206 44 [(2, 427), uU] [] (S.1, S.2.1, S.2.2.1, up2 (sG S) 427 12 s1) I := by
  refine (sx_pfR (q := (9, 12, 0, 1380)) (j := 12) D206_41 (by decide +kernel) (by decide +kernel) (by decide) h1 h0 rfl).trans ?_
  exact rfl
theorem E206_44 {d : Nat} {S : SS} {I : II}  : ev d 206 44 [(2, 427), uU] [] S I = ev d 206 49 [(2, 427), uU] [(2, (S.1 : Int)), (2, 427)] (newS S 20 7) (newI S I) := by
  refine (sx_aload_n D206_44 rfl).trans ?_
  refine (sx_bipush D206_45 (by decide)).trans ?_
  refine (sx_newarr (kk := 20) D206_47 (by decide) (by decide)).trans ?_
  exact rfl
theorem E206_49 {d : Nat} {s1 : Int} {S : SS} {I : II} (h0 : (0 : Int) ≤ s1) (h1 : KO S 427 9) : ev d 206 49 [(2, 427), uU] [(2, s1), (2, 427)] S I = ev d 206 52 [(2, 427), uU] [] (S.1, S.2.1, S.2.2.1, up2 (sG S) 427 13 s1) I := by
  refine (sx_pfR (q := (9, 13, 0, 1381)) (j := 13) D206_49 (by decide +kernel) (by decide +kernel) (by decide) h1 h0 rfl).trans ?_
  exact rfl
theorem E206_52 {d : Nat} {S : SS} {I : II}  : ev d 206 52 [(2, 427), uU] [] S I = ev d 206 56 [(2, 427), uU] [(2, (S.1 : Int)), (2, 427)] (newS S 20 5) (newI S I) := by
  refine (sx_aload_n D206_52 rfl).trans ?_
  refine (sx_iconst D206_53).trans ?_
  refine (sx_newarr (kk := 20) D206_54 (by decide) (by decide)).trans ?_
  exact rfl
theorem E206_56 {d : Nat} {s1 : Int} {S : SS} {I : II} (h0 : (0 : Int) ≤ s1) (h1 : KO S 427 9) : ev d 206 56 [(2, 427), uU] [(2, s1), (2, 427)] S I = ev d 206 59 [(2, 427), uU] [] (S.1, S.2.1, S.2.2.1, up2 (sG S) 427 16 s1) I := by
  refine (sx_pfR (q := (9, 16, 0, 1384)) (j := 16) D206_56 (by decide +kernel) (by decide +kernel) (by decide) h1 h0 rfl).trans ?_
  exact rfl
theorem E206_59 {d : Nat} {S : SS} {I : II}  : ev d 206 59 [(2, 427), uU] [] S I = ev d 206 63 [(2, 427), uU] [(2, (S.1 : Int)), (2, 427)] (newS S 20 5) (newI S I) := by
  refine (sx_aload_n D206_59 rfl).trans ?_
  refine (sx_iconst D206_60).trans ?_
  refine (sx_newarr (kk := 20) D206_61 (by decide) (by decide)).trans ?_
  exact rfl
theorem E206_63 {d : Nat} {s1 : Int} {S : SS} {I : II} (h0 : (0 : Int) ≤ s1) (h1 : KO S 427 9) : ev d 206 63 [(2, 427), uU] [(2, s1), (2, 427)] S I = ev d 206 66 [(2, 427), uU] [] (S.1, S.2.1, S.2.2.1, up2 (sG S) 427 17 s1) I := by
  refine (sx_pfR (q := (9, 17, 0, 1385)) (j := 17) D206_63 (by decide +kernel) (by decide +kernel) (by decide) h1 h0 rfl).trans ?_
  exact rfl
theorem E206_66 {d : Nat} {S : SS} {I : II}  : ev d 206 66 [(2, 427), uU] [] S I = ev d 206 70 [(2, 427), uU] [(2, (S.1 : Int)), (2, 427)] (newS S 20 5) (newI S I) := by
  refine (sx_aload_n D206_66 rfl).trans ?_
  refine (sx_iconst D206_67).trans ?_
  refine (sx_newarr (kk := 20) D206_68 (by decide) (by decide)).trans ?_
  exact rfl
theorem E206_70 {d : Nat} {s1 : Int} {S : SS} {I : II} (h0 : (0 : Int) ≤ s1) (h1 : KO S 427 9) : ev d 206 70 [(2, 427), uU] [(2, s1), (2, 427)] S I = ev d 206 73 [(2, 427), uU] [] (S.1, S.2.1, S.2.2.1, up2 (sG S) 427 18 s1) I := by
  refine (sx_pfR (q := (9, 18, 0, 1386)) (j := 18) D206_70 (by decide +kernel) (by decide +kernel) (by decide) h1 h0 rfl).trans ?_
  exact rfl
theorem E206_73 {d : Nat} {S : SS} {I : II}  : ev d 206 73 [(2, 427), uU] [] S I = ev d 206 77 [(2, 427), uU] [(2, (S.1 : Int)), (2, 427)] (newS S 20 5) (newI S I) := by
  refine (sx_aload_n D206_73 rfl).trans ?_
  refine (sx_iconst D206_74).trans ?_
  refine (sx_newarr (kk := 20) D206_75 (by decide) (by decide)).trans ?_
  exact rfl
theorem E206_77 {d : Nat} {s1 : Int} {S : SS} {I : II} (h0 : (0 : Int) ≤ s1) (h1 : KO S 427 9) : ev d 206 77 [(2, 427), uU] [(2, s1), (2, 427)] S I = ev d 206 80 [(2, 427), uU] [] (S.1, S.2.1, S.2.2.1, up2 (sG S) 427 19 s1) I := by
  refine (sx_pfR (q := (9, 19, 0, 1387)) (j := 19) D206_77 (by decide +kernel) (by decide +kernel) (by decide) h1 h0 rfl).trans ?_
  exact rfl
theorem E206_80 {d : Nat} {S : SS} {I : II}  : ev d 206 80 [(2, 427), uU] [] S I = ev d 206 86 [(2, 427), uU] [(2, (S.1 : Int)), (2, 427)] (newS S 20 844) (newI S I) := by
  refine (sx_aload_n D206_80 rfl).trans ?_
  refine (sx_sipush D206_81 (by decide)).trans ?_
  refine (sx_newarr (kk := 20) D206_84 (by decide) (by decide)).trans ?_
  exact rfl
theorem E206_86 {d : Nat} {s1 : Int} {S : SS} {I : II} (h0 : (0 : Int) ≤ s1) (h1 : KO S 427 9) : ev d 206 86 [(2, 427), uU] [(2, s1), (2, 427)] S I = ev d 206 89 [(2, 427), uU] [] (S.1, S.2.1, S.2.2.1, up2 (sG S) 427 20 s1) I := by
  refine (sx_pfR (q := (9, 20, 0, 1388)) (j := 20) D206_86 (by decide +kernel) (by decide +kernel) (by decide) h1 h0 rfl).trans ?_
  exact rfl
theorem E206_89 {d : Nat} {S : SS} {I : II}  : ev d 206 89 [(2, 427), uU] [] S I = ev d 206 95 [(2, 427), uU] [(2, (S.1 : Int)), (2, 427)] (newS S 20 844) (newI S I) := by
  refine (sx_aload_n D206_89 rfl).trans ?_
  refine (sx_sipush D206_90 (by decide)).trans ?_
  refine (sx_newarr (kk := 20) D206_93 (by decide) (by decide)).trans ?_
  exact rfl
theorem E206_95 {d : Nat} {s1 : Int} {S : SS} {I : II} (h0 : (0 : Int) ≤ s1) (h1 : KO S 427 9) : ev d 206 95 [(2, 427), uU] [(2, s1), (2, 427)] S I = ev d 206 98 [(2, 427), uU] [] (S.1, S.2.1, S.2.2.1, up2 (sG S) 427 21 s1) I := by
  refine (sx_pfR (q := (9, 21, 0, 1389)) (j := 21) D206_95 (by decide +kernel) (by decide +kernel) (by decide) h1 h0 rfl).trans ?_
  exact rfl
theorem E206_98 {d : Nat} {S : SS} {I : II}  : ev d 206 98 [(2, 427), uU] [] S I = ev d 206 104 [(2, 427), uU] [(2, (S.1 : Int)), (2, 427)] (newS S 20 7596) (newI S I) := by
  refine (sx_aload_n D206_98 rfl).trans ?_
  refine (sx_sipush D206_99 (by decide)).trans ?_
  refine (sx_newarr (kk := 20) D206_102 (by decide) (by decide)).trans ?_
  exact rfl
theorem E206_104 {d : Nat} {s1 : Int} {S : SS} {I : II} (h0 : (0 : Int) ≤ s1) (h1 : KO S 427 9) : ev d 206 104 [(2, 427), uU] [(2, s1), (2, 427)] S I = ev d 206 107 [(2, 427), uU] [] (S.1, S.2.1, S.2.2.1, up2 (sG S) 427 23 s1) I := by
  refine (sx_pfR (q := (9, 23, 0, 1391)) (j := 23) D206_104 (by decide +kernel) (by decide +kernel) (by decide) h1 h0 rfl).trans ?_
  exact rfl
theorem E206_107 {d : Nat} {S : SS} {I : II}  : ev d 206 107 [(2, 427), uU] [] S I = ev d 206 112 [(2, 427), uU] [(2, (S.1 : Int)), (2, 427)] (newS S 20 80) (newI S I) := by
  refine (sx_aload_n D206_107 rfl).trans ?_
  refine (sx_bipush D206_108 (by decide)).trans ?_
  refine (sx_newarr (kk := 20) D206_110 (by decide) (by decide)).trans ?_
  exact rfl
theorem E206_112 {d : Nat} {s1 : Int} {S : SS} {I : II} (h0 : (0 : Int) ≤ s1) (h1 : KO S 427 9) : ev d 206 112 [(2, 427), uU] [(2, s1), (2, 427)] S I = ev d 206 115 [(2, 427), uU] [] (S.1, S.2.1, S.2.2.1, up2 (sG S) 427 27 s1) I := by
  refine (sx_pfR (q := (9, 27, 0, 1395)) (j := 27) D206_112 (by decide +kernel) (by decide +kernel) (by decide) h1 h0 rfl).trans ?_
  exact rfl
theorem E206_115 {d : Nat} {S : SS} {I : II}  : ev d 206 115 [(2, 427), uU] [] S I = ev d 206 120 [(2, 427), uU] [(2, (S.1 : Int)), (2, 427)] (newS S 20 80) (newI S I) := by
  refine (sx_aload_n D206_115 rfl).trans ?_
  refine (sx_bipush D206_116 (by decide)).trans ?_
  refine (sx_newarr (kk := 20) D206_118 (by decide) (by decide)).trans ?_
  exact rfl
theorem E206_120 {d : Nat} {s1 : Int} {S : SS} {I : II} (h0 : (0 : Int) ≤ s1) (h1 : KO S 427 9) : ev d 206 120 [(2, 427), uU] [(2, s1), (2, 427)] S I = ev d 206 123 [(2, 427), uU] [] (S.1, S.2.1, S.2.2.1, up2 (sG S) 427 28 s1) I := by
  refine (sx_pfR (q := (9, 28, 0, 1396)) (j := 28) D206_120 (by decide +kernel) (by decide +kernel) (by decide) h1 h0 rfl).trans ?_
  exact rfl
theorem E206_123 {d : Nat} {S : SS} {I : II}  : ev d 206 123 [(2, 427), uU] [] S I = ev d 206 128 [(2, 427), uU] [(2, (S.1 : Int)), (2, 427)] (newS S 20 80) (newI S I) := by
  refine (sx_aload_n D206_123 rfl).trans ?_
  refine (sx_bipush D206_124 (by decide)).trans ?_
  refine (sx_newarr (kk := 20) D206_126 (by decide) (by decide)).trans ?_
  exact rfl
theorem E206_128 {d : Nat} {s1 : Int} {S : SS} {I : II} (h0 : (0 : Int) ≤ s1) (h1 : KO S 427 9) : ev d 206 128 [(2, 427), uU] [(2, s1), (2, 427)] S I = ev d 206 131 [(2, 427), uU] [] (S.1, S.2.1, S.2.2.1, up2 (sG S) 427 29 s1) I := by
  refine (sx_pfR (q := (9, 29, 0, 1397)) (j := 29) D206_128 (by decide +kernel) (by decide +kernel) (by decide) h1 h0 rfl).trans ?_
  exact rfl
theorem E206_131 {d : Nat} {S : SS} {I : II}  : ev d 206 131 [(2, 427), uU] [] S I = ev d 206 136 [(2, 427), uU] [(2, (S.1 : Int)), (2, 427)] (newS S 20 80) (newI S I) := by
  refine (sx_aload_n D206_131 rfl).trans ?_
  refine (sx_bipush D206_132 (by decide)).trans ?_
  refine (sx_newarr (kk := 20) D206_134 (by decide) (by decide)).trans ?_
  exact rfl
theorem E206_136 {d : Nat} {s1 : Int} {S : SS} {I : II} (h0 : (0 : Int) ≤ s1) (h1 : KO S 427 9) : ev d 206 136 [(2, 427), uU] [(2, s1), (2, 427)] S I = ev d 206 139 [(2, 427), uU] [] (S.1, S.2.1, S.2.2.1, up2 (sG S) 427 30 s1) I := by
  refine (sx_pfR (q := (9, 30, 0, 1398)) (j := 30) D206_136 (by decide +kernel) (by decide +kernel) (by decide) h1 h0 rfl).trans ?_
  exact rfl
theorem E206_139 {d : Nat} {S : SS} {I : II}  : ev d 206 139 [(2, 427), uU] [] S I = ev d 206 144 [(2, 427), uU] [(2, (S.1 : Int)), (2, 427)] (newS S 20 80) (newI S I) := by
  refine (sx_aload_n D206_139 rfl).trans ?_
  refine (sx_bipush D206_140 (by decide)).trans ?_
  refine (sx_newarr (kk := 20) D206_142 (by decide) (by decide)).trans ?_
  exact rfl
theorem E206_144 {d : Nat} {s1 : Int} {S : SS} {I : II} (h0 : (0 : Int) ≤ s1) (h1 : KO S 427 9) : ev d 206 144 [(2, 427), uU] [(2, s1), (2, 427)] S I = ev d 206 147 [(2, 427), uU] [] (S.1, S.2.1, S.2.2.1, up2 (sG S) 427 31 s1) I := by
  refine (sx_pfR (q := (9, 31, 0, 1399)) (j := 31) D206_144 (by decide +kernel) (by decide +kernel) (by decide) h1 h0 rfl).trans ?_
  exact rfl
theorem E206_147 {d : Nat} {S : SS} {I : II}  : ev d 206 147 [(2, 427), uU] [] S I = ev d 206 151 [(2, 427), uU] [(2, (S.1 : Int)), (2, 427)] (newS S 20 4) (newI S I) := by
  refine (sx_aload_n D206_147 rfl).trans ?_
  refine (sx_iconst D206_148).trans ?_
  refine (sx_newarr (kk := 20) D206_149 (by decide) (by decide)).trans ?_
  exact rfl
theorem E206_151 {d : Nat} {s1 : Int} {S : SS} {I : II} (h0 : (0 : Int) ≤ s1) (h1 : KO S 427 9) : ev d 206 151 [(2, 427), uU] [(2, s1), (2, 427)] S I = ev d 206 154 [(2, 427), uU] [] (S.1, S.2.1, S.2.2.1, up2 (sG S) 427 33 s1) I := by
  refine (sx_pfR (q := (9, 33, 0, 1401)) (j := 33) D206_151 (by decide +kernel) (by decide +kernel) (by decide) h1 h0 rfl).trans ?_
  exact rfl
theorem E206_154 {d : Nat} {S : SS} {I : II}  : ev d 206 154 [(2, 427), uU] [] S I = ev d 206 158 [(2, 427), uU] [(2, (S.1 : Int)), (2, 427)] (newS S 20 5) (newI S I) := by
  refine (sx_aload_n D206_154 rfl).trans ?_
  refine (sx_iconst D206_155).trans ?_
  refine (sx_newarr (kk := 20) D206_156 (by decide) (by decide)).trans ?_
  exact rfl
theorem E206_158 {d : Nat} {s1 : Int} {S : SS} {I : II} (h0 : (0 : Int) ≤ s1) (h1 : KO S 427 9) : ev d 206 158 [(2, 427), uU] [(2, s1), (2, 427)] S I = ev d 206 161 [(2, 427), uU] [] (S.1, S.2.1, S.2.2.1, up2 (sG S) 427 34 s1) I := by
  refine (sx_pfR (q := (9, 34, 0, 1402)) (j := 34) D206_158 (by decide +kernel) (by decide +kernel) (by decide) h1 h0 rfl).trans ?_
  exact rfl
theorem E206_161 {d : Nat} {S : SS} {I : II}  : ev d 206 161 [(2, 427), uU] [] S I = ev d 206 166 [(2, 427), uU] [(2, (S.1 : Int)), (2, 427)] (newS S 20 12) (newI S I) := by
  refine (sx_aload_n D206_161 rfl).trans ?_
  refine (sx_bipush D206_162 (by decide)).trans ?_
  refine (sx_newarr (kk := 20) D206_164 (by decide) (by decide)).trans ?_
  exact rfl
theorem E206_166 {d : Nat} {s1 : Int} {S : SS} {I : II} (h0 : (0 : Int) ≤ s1) (h1 : KO S 427 9) : ev d 206 166 [(2, 427), uU] [(2, s1), (2, 427)] S I = ev d 206 169 [(2, 427), uU] [] (S.1, S.2.1, S.2.2.1, up2 (sG S) 427 37 s1) I := by
  refine (sx_pfR (q := (9, 37, 0, 1405)) (j := 37) D206_166 (by decide +kernel) (by decide +kernel) (by decide) h1 h0 rfl).trans ?_
  exact rfl
theorem E206_169 {d : Nat} {S : SS} {I : II}  : ev d 206 169 [(2, 427), uU] [] S I = ev d 206 174 [(2, 427), uU] [(2, (S.1 : Int)), (2, 427)] (newS S 20 12) (newI S I) := by
  refine (sx_aload_n D206_169 rfl).trans ?_
  refine (sx_bipush D206_170 (by decide)).trans ?_
  refine (sx_newarr (kk := 20) D206_172 (by decide) (by decide)).trans ?_
  exact rfl
theorem E206_174 {d : Nat} {s1 : Int} {S : SS} {I : II} (h0 : (0 : Int) ≤ s1) (h1 : KO S 427 9) : ev d 206 174 [(2, 427), uU] [(2, s1), (2, 427)] S I = ev d 206 177 [(2, 427), uU] [] (S.1, S.2.1, S.2.2.1, up2 (sG S) 427 38 s1) I := by
  refine (sx_pfR (q := (9, 38, 0, 1406)) (j := 38) D206_174 (by decide +kernel) (by decide +kernel) (by decide) h1 h0 rfl).trans ?_
  exact rfl
theorem E206_177 {d : Nat} {S : SS} {I : II}  : ev d 206 177 [(2, 427), uU] [] S I = ev d 206 182 [(2, 427), uU] [(2, (S.1 : Int)), (2, 427)] (newS S 20 41) (newI S I) := by
  refine (sx_aload_n D206_177 rfl).trans ?_
  refine (sx_bipush D206_178 (by decide)).trans ?_
  refine (sx_newarr (kk := 20) D206_180 (by decide) (by decide)).trans ?_
  exact rfl
theorem E206_182 {d : Nat} {s1 : Int} {S : SS} {I : II} (h0 : (0 : Int) ≤ s1) (h1 : KO S 427 9) : ev d 206 182 [(2, 427), uU] [(2, s1), (2, 427)] S I = ev d 206 185 [(2, 427), uU] [] (S.1, S.2.1, S.2.2.1, up2 (sG S) 427 39 s1) I := by
  refine (sx_pfR (q := (9, 39, 0, 1407)) (j := 39) D206_182 (by decide +kernel) (by decide +kernel) (by decide) h1 h0 rfl).trans ?_
  exact rfl
theorem E206_185 {d : Nat} {S : SS} {I : II}  : ev d 206 185 [(2, 427), uU] [] S I = ev d 206 190 [(2, 427), uU] [(2, (S.1 : Int)), (2, 427)] (newS S 20 80) (newI S I) := by
  refine (sx_aload_n D206_185 rfl).trans ?_
  refine (sx_bipush D206_186 (by decide)).trans ?_
  refine (sx_newarr (kk := 20) D206_188 (by decide) (by decide)).trans ?_
  exact rfl
theorem E206_190 {d : Nat} {s1 : Int} {S : SS} {I : II} (h0 : (0 : Int) ≤ s1) (h1 : KO S 427 9) : ev d 206 190 [(2, 427), uU] [(2, s1), (2, 427)] S I = ev d 206 193 [(2, 427), uU] [] (S.1, S.2.1, S.2.2.1, up2 (sG S) 427 40 s1) I := by
  refine (sx_pfR (q := (9, 40, 0, 1408)) (j := 40) D206_190 (by decide +kernel) (by decide +kernel) (by decide) h1 h0 rfl).trans ?_
  exact rfl
theorem E206_193 {d : Nat} {S : SS} {I : II}  : ev d 206 193 [(2, 427), uU] [] S I = ev d 206 197 [(2, 427), uU] [(2, (S.1 : Int)), (2, 427)] (newS S 23 2) (newI S I) := by
  refine (sx_aload_n D206_193 rfl).trans ?_
  refine (sx_iconst D206_194).trans ?_
  refine (sx_newarr (kk := 23) D206_195 (by decide) (by decide)).trans ?_
  exact rfl
theorem E206_197 {d : Nat} {s1 : Int} {S : SS} {I : II} (h0 : (0 : Int) ≤ s1) (h1 : KO S 427 9) : ev d 206 197 [(2, 427), uU] [(2, s1), (2, 427)] S I = ev d 206 200 [(2, 427), uU] [] (S.1, S.2.1, S.2.2.1, up2 (sG S) 427 42 s1) I := by
  refine (sx_pfR (q := (9, 42, 0, 1410)) (j := 42) D206_197 (by decide +kernel) (by decide +kernel) (by decide) h1 h0 rfl).trans ?_
  exact rfl
theorem E206_200 {d : Nat} {S : SS} {I : II}  : ev d 206 200 [(2, 427), uU] [] S I = ev d 206 204 [(2, 427), uU] [(2, (S.1 : Int)), (2, 427)] (newS S 20 2) (newI S I) := by
  refine (sx_aload_n D206_200 rfl).trans ?_
  refine (sx_iconst D206_201).trans ?_
  refine (sx_newarr (kk := 20) D206_202 (by decide) (by decide)).trans ?_
  exact rfl
theorem E206_204 {d : Nat} {s1 : Int} {S : SS} {I : II} (h0 : (0 : Int) ≤ s1) (h1 : KO S 427 9) : ev d 206 204 [(2, 427), uU] [(2, s1), (2, 427)] S I = ev d 206 207 [(2, 427), uU] [] (S.1, S.2.1, S.2.2.1, up2 (sG S) 427 43 s1) I := by
  refine (sx_pfR (q := (9, 43, 0, 1411)) (j := 43) D206_204 (by decide +kernel) (by decide +kernel) (by decide) h1 h0 rfl).trans ?_
  exact rfl
theorem E206_207 {d : Nat} {S : SS} {I : II}  : ev d 206 207 [(2, 427), uU] [] S I = ev d 206 213 [(2, 427), uU] [(2, (S.1 : Int)), (2, 427)] (newS S 20 1688) (newI S I) := by
  refine (sx_aload_n D206_207 rfl).trans ?_
  refine (sx_sipush D206_208 (by decide)).trans ?_
  refine (sx_newarr (kk := 20) D206_211 (by decide) (by decide)).trans ?_
  exact rfl
theorem E206_213 {d : Nat} {s1 : Int} {S : SS} {I : II} (h0 : (0 : Int) ≤ s1) (h1 : KO S 427 9) : ev d 206 213 [(2, 427), uU] [(2, s1), (2, 427)] S I = ev d 206 216 [(2, 427), uU] [] (S.1, S.2.1, S.2.2.1, up2 (sG S) 427 44 s1) I := by
  refine (sx_pfR (q := (9, 44, 0, 1412)) (j := 44) D206_213 (by decide +kernel) (by decide +kernel) (by decide) h1 h0 rfl).trans ?_
  exact rfl
theorem E206_216 {d : Nat} {S : SS} {I : II}  : ev d 206 216 [(2, 427), uU] [] S I = ev d 206 218 [(2, 427), (0, 1)] [] S I := by
  refine (sx_iconst D206_216).trans ?_
  refine (sx_istore_n (al' := [(2, 427), (0, 1)]) D206_217 (Nat.le_of_ble_eq_true rfl) rfl rfl).trans ?_
  exact rfl
theorem E206_218 {d : Nat} {a1 ln1 : Int} {S : SS} {I : II} (h0 : KO S 427 9) (h1 : KA S (sG S 427 20) 20 ln1) : ev d 206 218 [(2, 427), (0, a1)] [] S I = if w a1 < 4 then (gdR (0 ≤ w (814 + a1) ∧ w (814 + a1) < ln1) (gdR (0 ≤ w (818 + a1) ∧ w (818 + a1) < ln1) (ev d 206 218 [(2, 427), (0, a1 + 1)] [] S (up2 (up2 I (sG S 427 20) (w (814 + a1)) (4 - a1)) (sG S 427 20) (w (818 + a1)) (4 - a1))))) else (ev d 206 257 [(2, 427), (0, 0)] [] S I) := by
  refine (sx_iload_n D206_218 rfl).trans ?_
  refine (sx_iconst D206_219).trans ?_
  refine sx_if_ge (pc' := 255) D206_220 (by decide) (by decide) ?_ ?_ rfl (w_small (by decide) (by decide))
  · refine (sx_aload_n D206_223 rfl).trans ?_
    refine (sx_gfR (q := (9, 20, 0, 1388)) (b := sG S 427 20) D206_224 (by decide +kernel) (by decide +kernel) (by decide) h0 rfl).trans ?_
    refine (sx_sipush D206_227 (by decide)).trans ?_
    refine (sx_iload_n D206_230 rfl).trans ?_
    refine (sx_iadd D206_231).trans ?_
    refine (sx_iconst D206_232).trans ?_
    refine (sx_iload_n D206_233 rfl).trans ?_
    refine (sx_isub D206_234).trans ?_
    refine (sx_is D206_235 h1).trans (gdR_to fun g1 => ?_)
    refine (sx_aload_n D206_236 rfl).trans ?_
    refine (sx_gfR (q := (9, 20, 0, 1388)) (b := sG S 427 20) D206_237 (by decide +kernel) (by decide +kernel) (by decide) h0 rfl).trans ?_
    refine (sx_sipush D206_240 (by decide)).trans ?_
    refine (sx_iload_n D206_243 rfl).trans ?_
    refine (sx_iadd D206_244).trans ?_
    refine (sx_iconst D206_245).trans ?_
    refine (sx_iload_n D206_246 rfl).trans ?_
    refine (sx_isub D206_247).trans ?_
    refine (sx_is D206_248 h1).trans (gdR_to fun g2 => ?_)
    refine (sx_iinc (al' := [(2, 427), (0, a1 + 1)]) D206_249 rfl rfl).trans ?_
    refine (sx_goto (pc' := 218) D206_252 (by decide) (by decide)).trans ?_
    exact rfl
  · refine (sx_iconst D206_255).trans ?_
    refine (sx_istore_n (al' := [(2, 427), (0, 0)]) D206_256 (Nat.le_of_ble_eq_true rfl) rfl rfl).trans ?_
    exact rfl
theorem E206_257 {d : Nat} {a1 ln1 : Int} {S : SS} {I : II} (h0 : KO S 427 9) (h1 : KA S (sG S 427 20) 20 ln1) : ev d 206 257 [(2, 427), (0, a1)] [] S I = if w a1 < 4 then (gdR (0 ≤ w (822 + a1) ∧ w (822 + a1) < ln1) (ev d 206 257 [(2, 427), (0, a1 + 1)] [] S (up2 I (sG S 427 20) (w (822 + a1)) 4))) else (gdR (0 ≤ w 826 ∧ w 826 < ln1) (some (uU, S, (up2 I (sG S 427 20) (w 826) 2)))) := by
  refine (sx_iload_n D206_257 rfl).trans ?_
  refine (sx_iconst D206_258).trans ?_
  refine sx_if_ge (pc' := 279) D206_259 (by decide) (by decide) ?_ ?_ rfl (w_small (by decide) (by decide))
  · refine (sx_aload_n D206_262 rfl).trans ?_
    refine (sx_gfR (q := (9, 20, 0, 1388)) (b := sG S 427 20) D206_263 (by decide +kernel) (by decide +kernel) (by decide) h0 rfl).trans ?_
    refine (sx_sipush D206_266 (by decide)).trans ?_
    refine (sx_iload_n D206_269 rfl).trans ?_
    refine (sx_iadd D206_270).trans ?_
    refine (sx_iconst D206_271).trans ?_
    refine (sx_is D206_272 h1).trans (gdR_to fun g1 => ?_)
    refine (sx_iinc (al' := [(2, 427), (0, a1 + 1)]) D206_273 rfl rfl).trans ?_
    refine (sx_goto (pc' := 257) D206_276 (by decide) (by decide)).trans ?_
    exact rfl
  · refine (sx_aload_n D206_279 rfl).trans ?_
    refine (sx_gfR (q := (9, 20, 0, 1388)) (b := sG S 427 20) D206_280 (by decide +kernel) (by decide +kernel) (by decide) h0 rfl).trans ?_
    refine (sx_sipush D206_283 (by decide)).trans ?_
    refine (sx_iconst D206_286).trans ?_
    refine (sx_is D206_287 h1).trans (gdR_to fun g2 => ?_)
    exact sx_return D206_288 (by decide +kernel)
theorem E207_0 {d : Nat} {S : SS} {I : II} (h0 : MA S 427) : ev (d + 1) 207 0 [(2, 427), uU, uU, uU, uU] [] S I = (ev d 195 0 [(2, 427), (0, 80), uU] [] S (up2 I 427 0 0)).bind (fun q => ev (d + 1) 207 11 [(2, 427), uU, uU, uU, uU] (psh q.1 []) q.2.1 q.2.2) := by
  refine (sx_aload_n D207_0 rfl).trans ?_
  refine (sx_iconst D207_1).trans ?_
  refine (sx_pfI (q := (9, 0, 0, 1368)) (j := 0) D207_2 (by decide +kernel) (by decide) (by decide) (MA_o h0) rfl).trans ?_
  refine (sx_aload_n D207_5 rfl).trans ?_
  refine (sx_bipush D207_6 (by decide)).trans ?_
  exact sx_virt (c := 11) (ag := [(2, 427), (0, 80)]) (r := []) (al' := [(2, 427), (0, 80), uU]) (np := 1) (nl := 3) (q := (1, 195, 1311)) D207_8 (by decide +kernel) (by decide) mP_195 mL_195 mC_195 (Nat.le_of_ble_eq_true rfl) rfl rfl (by simp [cat]) (by decide) (MA_o h0) rfl rfl
theorem E207_11 {d : Nat} {s0 : Int} {S : SS} {I : II} (h0 : MA S 427) : ev (d + 1) 207 11 [(2, 427), uU, uU, uU, uU] [(0, s0)] S I = (ev d 208 0 [(2, 427), (0, 2), (0, 8)] [] S I).bind (fun q => ev (d + 1) 207 19 [(2, 427), uU, uU, uU, uU] (psh q.1 []) q.2.1 q.2.2) := by
  refine (sx_pop D207_11 (by decide)).trans ?_
  refine (sx_aload_n D207_12 rfl).trans ?_
  refine (sx_iconst D207_13).trans ?_
  refine (sx_bipush D207_14 (by decide)).trans ?_
  exact sx_virt (c := 11) (ag := [(2, 427), (0, 2), (0, 8)]) (r := []) (al' := [(2, 427), (0, 2), (0, 8)]) (np := 2) (nl := 3) (q := (1, 208, 1508)) D207_16 (by decide +kernel) (by decide) mP_208 mL_208 mC_208 (Nat.le_of_ble_eq_true rfl) rfl rfl (by simp [cat]) (by decide) (MA_o h0) rfl rfl
theorem E207_19 {d : Nat} {s0 : Int} {S : SS} {I : II} (h0 : MA S 427) : ev (d + 1) 207 19 [(2, 427), uU, uU, uU, uU] [(0, s0)] S I = if w s0 < 0 then (ev (d + 1) 207 35 [(2, 427), (0, s0), uU, uU, uU] [(0, (-1))] S I) else ((ev d 208 0 [(2, 427), (0, 2), (0, 8)] [] S I).bind (fun q => ev (d + 1) 207 35 [(2, 427), (0, s0), uU, uU, uU] (psh q.1 []) q.2.1 q.2.2)) := by
  refine (sx_istore_n (al' := [(2, 427), (0, s0), uU, uU, uU]) D207_19 (Nat.le_of_ble_eq_true rfl) rfl rfl).trans ?_
  refine (sx_iload_n D207_20 rfl).trans ?_
  refine sx_i0_ge (pc' := 28) D207_21 (by decide) (by decide) ?_ ?_ rfl
  · refine (sx_iconst D207_24).trans ?_
    refine (sx_goto (pc' := 35) D207_25 (by decide) (by decide)).trans ?_
    exact rfl
  · refine (sx_aload_n D207_28 rfl).trans ?_
    refine (sx_iconst D207_29).trans ?_
    refine (sx_bipush D207_30 (by decide)).trans ?_
    exact sx_virt (c := 11) (ag := [(2, 427), (0, 2), (0, 8)]) (r := []) (al' := [(2, 427), (0, 2), (0, 8)]) (np := 2) (nl := 3) (q := (1, 208, 1508)) D207_32 (by decide +kernel) (by decide) mP_208 mL_208 mC_208 (Nat.le_of_ble_eq_true rfl) rfl rfl (by simp [cat]) (by decide) (MA_o h0) rfl rfl
theorem E207_35 {d : Nat} {a1 s0 : Int} {S : SS} {I : II} (h0 : MA S 427) : ev (d + 1) 207 35 [(2, 427), (0, a1), uU, uU, uU] [(0, s0)] S I = if w s0 < 0 then (ev (d + 1) 207 50 [(2, 427), (0, a1), (0, s0), uU, uU] [(0, (-1))] S I) else ((ev d 203 0 [(2, 427), (2, (-20)), uU] [] S I).bind (fun q => ev (d + 1) 207 50 [(2, 427), (0, a1), (0, s0), uU, uU] (psh q.1 []) q.2.1 q.2.2)) := by
  refine (sx_istore_n (al' := [(2, 427), (0, a1), (0, s0), uU, uU]) D207_35 (Nat.le_of_ble_eq_true rfl) rfl rfl).trans ?_
  refine (sx_iload_n D207_36 rfl).trans ?_
  refine sx_i0_ge (pc' := 44) D207_37 (by decide) (by decide) ?_ ?_ rfl
  · refine (sx_iconst D207_40).trans ?_
    refine (sx_goto (pc' := 50) D207_41 (by decide) (by decide)).trans ?_
    exact rfl
  · refine (sx_aload_n D207_44 rfl).trans ?_
    refine (sx_ldcS (q := (10, 1512)) D207_45 (by decide +kernel) (by decide +kernel)).trans ?_
    show ev (d + 1) 207 47 [(2, 427), (0, a1), (0, s0), uU, uU] [(2, (-20)), (2, 427)] S I = _
    exact sx_virt (c := 11) (ag := [(2, 427), (2, (-20))]) (r := []) (al' := [(2, 427), (2, (-20)), uU]) (np := 1) (nl := 3) (q := (1, 203, 1346)) D207_47 (by decide +kernel) (by decide) mP_203 mL_203 mC_203 (Nat.le_of_ble_eq_true rfl) rfl rfl (by simp [cat]) (by decide) (MA_o h0) rfl rfl
theorem E207_50 {d : Nat} {a1 a2 s0 : Int} {S : SS} {I : II} (h0 : MA S 427) : ev (d + 1) 207 50 [(2, 427), (0, a1), (0, a2), uU, uU] [(0, s0)] S I = if w s0 < 0 then (some ((0, (-1) - (I 427 5)), S, I)) else ((ev d 198 0 [(2, 427), (0, 115), uU] [] S I).bind (fun q => ev (d + 1) 207 68 [(2, 427), (0, a1), (0, a2), (0, s0), uU] (psh q.1 []) q.2.1 q.2.2)) := by
  refine (sx_istore_n (al' := [(2, 427), (0, a1), (0, a2), (0, s0), uU]) D207_50 (Nat.le_of_ble_eq_true rfl) rfl rfl).trans ?_
  refine (sx_iload_n D207_51 rfl).trans ?_
  refine sx_i0_ge (pc' := 62) D207_52 (by decide) (by decide) ?_ ?_ rfl
  · refine (sx_iconst D207_55).trans ?_
    refine (sx_aload_n D207_56 rfl).trans ?_
    refine (sx_gfI (q := (9, 5, 0, 1373)) (j := 5) D207_57 (by decide +kernel) (by decide +kernel) (by decide) (MA_o h0) rfl rfl).trans ?_
    refine (sx_isub D207_60).trans ?_
    exact sx_ireturn D207_61 (by decide +kernel)
  · refine (sx_aload_n D207_62 rfl).trans ?_
    refine (sx_bipush D207_63 (by decide)).trans ?_
    exact sx_virt (c := 11) (ag := [(2, 427), (0, 115)]) (r := []) (al' := [(2, 427), (0, 115), uU]) (np := 1) (nl := 3) (q := (1, 198, 1324)) D207_65 (by decide +kernel) (by decide) mP_198 mL_198 mC_198 (Nat.le_of_ble_eq_true rfl) rfl rfl (by simp [cat]) (by decide) (MA_o h0) rfl rfl
theorem E207_68 {d : Nat} {a1 a2 a3 s0 : Int} {S : SS} {I : II} (h0 : MA S 427) : ev (d + 1) 207 68 [(2, 427), (0, a1), (0, a2), (0, a3), uU] [(0, s0)] S I = if w (I 427 5) < w (I 427 6) then (some ((0, (-1) - (I 427 5)), S, I)) else (if w (I 427 14) = 5 then (some ((0, (-100)), S, I)) else (gdR (0 ≤ w (I 427 14) ∧ w (I 427 14) < 5) (gdR (0 ≤ w (I 427 14) ∧ w (I 427 14) < 5) (gdR (0 ≤ w (I 427 14) ∧ w (I 427 14) < 5) ((ev d 199 0 [(0, s0)] [] S (up2 (up2 (up2 I 434 (w (I 427 14)) a1) 435 (w (I 427 14)) a2) 436 (w (I 427 14)) a3)).bind (fun q => ev (d + 1) 207 142 [(2, 427), (0, a1), (0, a2), (0, a3), (0, s0)] (psh q.1 [(0, I 427 14), (2, 437)]) q.2.1 q.2.2)))))) := by
  refine (sx_istore (al' := [(2, 427), (0, a1), (0, a2), (0, a3), (0, s0)]) D207_68 (Nat.le_of_ble_eq_true rfl) rfl rfl).trans ?_
  refine (sx_aload_n D207_70 rfl).trans ?_
  refine (sx_gfI (q := (9, 5, 0, 1373)) (j := 5) D207_71 (by decide +kernel) (by decide +kernel) (by decide) (MA_o h0) rfl rfl).trans ?_
  refine (sx_aload_n D207_74 rfl).trans ?_
  refine (sx_gfI (q := (9, 6, 0, 1374)) (j := 6) D207_75 (by decide +kernel) (by decide +kernel) (by decide) (MA_o h0) rfl rfl).trans ?_
  refine sx_if_ge (pc' := 88) D207_78 (by decide) (by decide) ?_ ?_ rfl rfl
  · refine (sx_iconst D207_81).trans ?_
    refine (sx_aload_n D207_82 rfl).trans ?_
    refine (sx_gfI (q := (9, 5, 0, 1373)) (j := 5) D207_83 (by decide +kernel) (by decide +kernel) (by decide) (MA_o h0) rfl rfl).trans ?_
    refine (sx_isub D207_86).trans ?_
    exact sx_ireturn D207_87 (by decide +kernel)
  · refine (sx_aload_n D207_88 rfl).trans ?_
    refine (sx_gfI (q := (9, 14, 0, 1382)) (j := 14) D207_89 (by decide +kernel) (by decide +kernel) (by decide) (MA_o h0) rfl rfl).trans ?_
    refine (sx_iconst D207_92).trans ?_
    refine sx_if_ne (pc' := 99) D207_93 (by decide) (by decide) ?_ ?_ rfl (w_small (by decide) (by decide))
    · refine (sx_bipush D207_96 (by decide)).trans ?_
      exact sx_ireturn D207_98 (by decide +kernel)
    · refine (sx_aload_n D207_99 rfl).trans ?_
      refine (sx_gfR (q := (9, 16, 0, 1384)) (b := 434) D207_100 (by decide +kernel) (by decide +kernel) (by decide) (MA_o h0) (MA_g16 h0)).trans ?_
      refine (sx_aload_n D207_103 rfl).trans ?_
      refine (sx_gfI (q := (9, 14, 0, 1382)) (j := 14) D207_104 (by decide +kernel) (by decide +kernel) (by decide) (MA_o h0) rfl rfl).trans ?_
      refine (sx_iload_n D207_107 rfl).trans ?_
      refine (sx_is D207_108 (MA_k16 h0)).trans (gdR_to fun g1 => ?_)
      refine (sx_aload_n D207_109 rfl).trans ?_
      refine (sx_gfR (q := (9, 17, 0, 1385)) (b := 435) D207_110 (by decide +kernel) (by decide +kernel) (by decide) (MA_o h0) (MA_g17 h0)).trans ?_
      refine (sx_aload_n D207_113 rfl).trans ?_
      refine (sx_gfI (q := (9, 14, 0, 1382)) (j := 14) D207_114 (by decide +kernel) (by decide +kernel) (by decide) (MA_o h0) rfl (up2_cell (by omega))).trans ?_
      refine (sx_iload_n D207_117 rfl).trans ?_
      refine (sx_is D207_118 (MA_k17 h0)).trans (gdR_to fun g2 => ?_)
      refine (sx_aload_n D207_119 rfl).trans ?_
      refine (sx_gfR (q := (9, 18, 0, 1386)) (b := 436) D207_120 (by decide +kernel) (by decide +kernel) (by decide) (MA_o h0) (MA_g18 h0)).trans ?_
      refine (sx_aload_n D207_123 rfl).trans ?_
      refine (sx_gfI (q := (9, 14, 0, 1382)) (j := 14) D207_124 (by decide +kernel) (by decide +kernel) (by decide) (MA_o h0) rfl ((up2_cell (by omega)).trans (up2_cell (by omega)))).trans ?_
      refine (sx_iload_n D207_127 rfl).trans ?_
      refine (sx_is D207_128 (MA_k18 h0)).trans (gdR_to fun g3 => ?_)
      refine (sx_aload_n D207_129 rfl).trans ?_
      refine (sx_gfR (q := (9, 19, 0, 1387)) (b := 437) D207_130 (by decide +kernel) (by decide +kernel) (by decide) (MA_o h0) (MA_g19 h0)).trans ?_
      refine (sx_aload_n D207_133 rfl).trans ?_
      refine (sx_gfI (q := (9, 14, 0, 1382)) (j := 14) D207_134 (by decide +kernel) (by decide +kernel) (by decide) (MA_o h0) rfl ((up2_cell (by omega)).trans ((up2_cell (by omega)).trans (up2_cell (by omega))))).trans ?_
      refine (sx_iload D207_137 rfl).trans ?_
      exact sx_stat (ag := [(0, s0)]) (r := [(0, I 427 14), (2, 437)]) (al' := [(0, s0)]) (np := 1) (nl := 1) (q := (0, 199, 1328)) D207_139 (by decide +kernel) (by decide) mP_199 mL_199 (Nat.le_of_ble_eq_true rfl) rfl rfl (by simp [cat]) rfl rfl
theorem E207_142 {d : Nat} {a1 a2 a3 a4 s0 s1 s2 ln0 : Int} {S : SS} {I : II} (h0 : KA S s0 20 ln0) (h1 : s0 = 438 ∨ s0 = 439) (h2 : MA S 427) : ev d 207 142 [(2, 427), (0, a1), (0, a2), (0, a3), (0, a4)] [(0, s2), (0, s1), (2, s0)] S I = gdR (0 ≤ w s1 ∧ w s1 < ln0) (some ((0, ((I 427 14) + 1) - 1), S, (up2 (up2 (up2 (up2 I s0 (w s1) s2) 427 14 ((I 427 14) + 1)) 427 22 0) 427 15 ((I 427 15) + 1)))) := by
  refine (sx_is D207_142 h0).trans (gdR_to fun g1 => ?_)
  refine (sx_aload_n D207_143 rfl).trans ?_
  refine (sx_dup D207_144 (by decide)).trans ?_
  refine (sx_gfI (q := (9, 14, 0, 1382)) (j := 14) D207_145 (by decide +kernel) (by decide +kernel) (by decide) (MA_o h2) rfl (up2_cell (by omega))).trans ?_
  refine (sx_iconst D207_148).trans ?_
  refine (sx_iadd D207_149).trans ?_
  refine (sx_pfI (q := (9, 14, 0, 1382)) (j := 14) D207_150 (by decide +kernel) (by decide) (by decide) (MA_o h2) rfl).trans ?_
  refine (sx_aload_n D207_153 rfl).trans ?_
  refine (sx_iconst D207_154).trans ?_
  refine (sx_pfI (q := (9, 22, 0, 1390)) (j := 22) D207_155 (by decide +kernel) (by decide) (by decide) (MA_o h2) rfl).trans ?_
  refine (sx_aload_n D207_158 rfl).trans ?_
  refine (sx_dup D207_159 (by decide)).trans ?_
  refine (sx_gfI (q := (9, 15, 0, 1383)) (j := 15) D207_160 (by decide +kernel) (by decide +kernel) (by decide) (MA_o h2) rfl ((up2_slot (by decide)).trans ((up2_slot (by decide)).trans (up2_cell (by omega))))).trans ?_
  refine (sx_iconst D207_163).trans ?_
  refine (sx_iadd D207_164).trans ?_
  refine (sx_pfI (q := (9, 15, 0, 1383)) (j := 15) D207_165 (by decide +kernel) (by decide) (by decide) (MA_o h2) rfl).trans ?_
  refine (sx_aload_n D207_168 rfl).trans ?_
  refine (sx_gfI (q := (9, 14, 0, 1382)) (j := 14) D207_169 (by decide +kernel) (by decide +kernel) (by decide) (MA_o h2) rfl ((up2_slot (by decide)).trans ((up2_slot (by decide)).trans (up2_same _ _ _ _)))).trans ?_
  refine (sx_iconst D207_172).trans ?_
  refine (sx_isub D207_173).trans ?_
  exact sx_ireturn D207_174 (by decide +kernel)
theorem E208_0 {d : Nat} {a1 a2 : Int} {S : SS} {I : II} (h0 : MA S 427) : ev (d + 1) 208 0 [(2, 427), (0, a1), (0, a2)] [] S I = if w (I 427 5) < w (I 427 6) then (gdR (0 ≤ w (I 427 5) ∧ w (I 427 5) < 80) ((ev d 192 0 [(1, w ((I 429 (w (I 427 5))) - 48)), uU, (1, w a1), uU, (1, w a2), uU] [] S I).bind (fun q => ev (d + 1) 208 31 [(2, 427), (0, a1), (0, a2)] (psh q.1 []) q.2.1 q.2.2))) else (ev (d + 1) 208 34 [(2, 427), (0, a1), (0, a2)] [] S I) := by
  refine (sx_aload_n D208_0 rfl).trans ?_
  refine (sx_gfI (q := (9, 5, 0, 1373)) (j := 5) D208_1 (by decide +kernel) (by decide +kernel) (by decide) (MA_o h0) rfl rfl).trans ?_
  refine (sx_aload_n D208_4 rfl).trans ?_
  refine (sx_gfI (q := (9, 6, 0, 1374)) (j := 6) D208_5 (by decide +kernel) (by decide +kernel) (by decide) (MA_o h0) rfl rfl).trans ?_
  refine sx_if_ge (pc' := 34) D208_8 (by decide) (by decide) ?_ ?_ rfl rfl
  · refine (sx_aload_n D208_11 rfl).trans ?_
    refine (sx_gfR (q := (9, 3, 0, 1371)) (b := 429) D208_12 (by decide +kernel) (by decide +kernel) (by decide) (MA_o h0) (MA_g3 h0)).trans ?_
    refine (sx_aload_n D208_15 rfl).trans ?_
    refine (sx_gfI (q := (9, 5, 0, 1373)) (j := 5) D208_16 (by decide +kernel) (by decide +kernel) (by decide) (MA_o h0) rfl rfl).trans ?_
    refine (sx_ia D208_19 (MA_k3 h0) rfl).trans (gdR_to fun g1 => ?_)
    refine (sx_bipush D208_20 (by decide)).trans ?_
    refine (sx_isub D208_22).trans ?_
    refine (sx_i2l D208_23).trans ?_
    refine (sx_iload_n D208_24 rfl).trans ?_
    refine (sx_i2l D208_25).trans ?_
    refine (sx_iload_n D208_26 rfl).trans ?_
    refine (sx_i2l D208_27).trans ?_
    exact sx_stat (ag := [(1, w ((I 429 (w (I 427 5))) - 48)), (1, w a1), (1, w a2)]) (r := []) (al' := [(1, w ((I 429 (w (I 427 5))) - 48)), uU, (1, w a1), uU, (1, w a2), uU]) (np := 3) (nl := 6) (q := (0, 192, 1299)) D208_28 (by decide +kernel) (by decide) mP_192 mL_192 (Nat.le_of_ble_eq_true rfl) rfl rfl (by simp [cat]) rfl rfl
  · exact rfl
theorem E208_31 {d : Nat} {a1 a2 s0 : Int} {S : SS} {I : II} (h0 : MA S 427) : ev d 208 31 [(2, 427), (0, a1), (0, a2)] [(0, s0)] S I = if w s0 = 0 then (ev d 208 34 [(2, 427), (0, a1), (0, a2)] [] S I) else (gdR (0 ≤ w (((I 427 5) + 1) - 1) ∧ w (((I 427 5) + 1) - 1) < 80) (some ((0, (I 429 (w (((I 427 5) + 1) - 1))) - 48), S, (up2 I 427 5 ((I 427 5) + 1))))) := by
  refine sx_i0_ne (pc' := 36) D208_31 (by decide) (by decide) ?_ ?_ rfl
  · exact rfl
  · refine (sx_aload_n D208_36 rfl).trans ?_
    refine (sx_dup D208_37 (by decide)).trans ?_
    refine (sx_gfI (q := (9, 5, 0, 1373)) (j := 5) D208_38 (by decide +kernel) (by decide +kernel) (by decide) (MA_o h0) rfl rfl).trans ?_
    refine (sx_iconst D208_41).trans ?_
    refine (sx_iadd D208_42).trans ?_
    refine (sx_pfI (q := (9, 5, 0, 1373)) (j := 5) D208_43 (by decide +kernel) (by decide) (by decide) (MA_o h0) rfl).trans ?_
    refine (sx_aload_n D208_46 rfl).trans ?_
    refine (sx_gfR (q := (9, 3, 0, 1371)) (b := 429) D208_47 (by decide +kernel) (by decide +kernel) (by decide) (MA_o h0) (MA_g3 h0)).trans ?_
    refine (sx_aload_n D208_50 rfl).trans ?_
    refine (sx_gfI (q := (9, 5, 0, 1373)) (j := 5) D208_51 (by decide +kernel) (by decide +kernel) (by decide) (MA_o h0) rfl (up2_same _ _ _ _)).trans ?_
    refine (sx_iconst D208_54).trans ?_
    refine (sx_isub D208_55).trans ?_
    refine (sx_ia D208_56 (MA_k3 h0) (up2_cell (by omega))).trans (gdR_to fun g1 => ?_)
    refine (sx_bipush D208_57 (by decide)).trans ?_
    refine (sx_isub D208_59).trans ?_
    exact sx_ireturn D208_60 (by decide +kernel)
theorem E208_34 {d : Nat} {a1 a2 : Int} {S : SS} {I : II}  : ev d 208 34 [(2, 427), (0, a1), (0, a2)] [] S I = some ((0, (-1)), S, I) := by
  refine (sx_iconst D208_34).trans ?_
  exact sx_ireturn D208_35 (by decide +kernel)
theorem E209_0 {d : Nat} {a1 a2 : Int} {S : SS} {I : II} (h0 : MA S 427) : ev (d + 1) 209 0 [(2, 427), (0, a1), (0, a2)] [] S I = (ev d 210 0 [(2, 427), (0, a1)] [] S (up2 I 427 0 0)).bind (fun q => ev (d + 1) 209 10 [(2, 427), (0, a1), (0, a2)] (psh q.1 []) q.2.1 q.2.2) := by
  refine (sx_aload_n D209_0 rfl).trans ?_
  refine (sx_iconst D209_1).trans ?_
  refine (sx_pfI (q := (9, 0, 0, 1368)) (j := 0) D209_2 (by decide +kernel) (by decide) (by decide) (MA_o h0) rfl).trans ?_
  refine (sx_aload_n D209_5 rfl).trans ?_
  refine (sx_iload_n D209_6 rfl).trans ?_
  exact sx_virt (c := 11) (ag := [(2, 427), (0, a1)]) (r := []) (al' := [(2, 427), (0, a1)]) (np := 1) (nl := 2) (q := (1, 210, 1517)) D209_7 (by decide +kernel) (by decide) mP_210 mL_210 mC_210 (Nat.le_of_ble_eq_true rfl) rfl rfl (by simp [cat]) (by decide) (MA_o h0) rfl rfl
theorem E209_10 {d : Nat} {a1 a2 s0 : Int} {S : SS} {I : II}  : ev (d + 1) 209 10 [(2, 427), (0, a1), (0, a2)] [(0, s0)] S I = if w s0 = 0 then (ev (d + 1) 209 25 [(2, 427), (0, a1), (0, a2)] [] S I) else ((ev d 192 0 [(1, w a2), uU, (1, 0), uU, (1, 12), uU] [] S I).bind (fun q => ev (d + 1) 209 22 [(2, 427), (0, a1), (0, a2)] (psh q.1 []) q.2.1 q.2.2)) := by
  refine sx_i0_eq (pc' := 25) D209_10 (by decide) (by decide) ?_ ?_ rfl
  · exact rfl
  · refine (sx_iload_n D209_13 rfl).trans ?_
    refine (sx_i2l D209_14).trans ?_
    refine (sx_lconst D209_15).trans ?_
    refine (sx_ldc2_w (q := (12, 1521)) D209_16 (by decide +kernel)).trans ?_
    exact sx_stat (ag := [(1, w a2), (1, 0), (1, 12)]) (r := []) (al' := [(1, w a2), uU, (1, 0), uU, (1, 12), uU]) (np := 3) (nl := 6) (q := (0, 192, 1299)) D209_19 (by decide +kernel) (by decide) mP_192 mL_192 (Nat.le_of_ble_eq_true rfl) rfl rfl (by simp [cat]) rfl rfl
theorem E209_22 {d : Nat} {a1 a2 s0 : Int} {S : SS} {I : II} (h0 : MA S 427) : ev (d + 1) 209 22 [(2, 427), (0, a1), (0, a2)] [(0, s0)] S I = if w s0 = 0 then (ev (d + 1) 209 25 [(2, 427), (0, a1), (0, a2)] [] S I) else (if w a2 = 0 then (gdR (0 ≤ w a1 ∧ w a1 < 5) (some ((0, I 434 (w a1)), S, I))) else (if w a2 = 1 then (gdR (0 ≤ w a1 ∧ w a1 < 5) (some ((0, I 435 (w a1)), S, I))) else (if w a2 = 2 then (gdR (0 ≤ w a1 ∧ w a1 < 5) (some ((0, I 436 (w a1)), S, I))) else (if w a2 = 3 then (gdR (0 ≤ w a1 ∧ w a1 < 5) (some ((0, I 437 (w a1)), S, I))) else ((ev d 212 0 [(2, 438), (0, a1), (0, a2 - 4)] [] S I).bind (fun q => ev (d + 1) 209 99 [(2, 427), (0, a1), (0, a2)] (psh q.1 []) q.2.1 q.2.2)))))) := by
  refine sx_i0_ne (pc' := 30) D209_22 (by decide) (by decide) ?_ ?_ rfl
  · exact rfl
  · refine (sx_iload_n D209_30 rfl).trans ?_
    refine ite_go (c := w a2 = 0) (fun x1 => ?_) (fun x1 => ?_)
    · refine (sx_tsw (pc' := 60) D209_31 ((rfl).trans x1) (by decide) rfl (by decide) (by decide)).trans ?_
      refine (sx_aload_n D209_60 rfl).trans ?_
      refine (sx_gfR (q := (9, 16, 0, 1384)) (b := 434) D209_61 (by decide +kernel) (by decide +kernel) (by decide) (MA_o h0) (MA_g16 h0)).trans ?_
      refine (sx_iload_n D209_64 rfl).trans ?_
      refine (sx_ia D209_65 (MA_k16 h0) rfl).trans (gdR_to fun g2 => ?_)
      exact sx_ireturn D209_66 (by decide +kernel)
    refine ite_go (c := w a2 = 1) (fun x3 => ?_) (fun x3 => ?_)
    · refine (sx_tsw (pc' := 67) D209_31 ((rfl).trans x3) (by decide) rfl (by decide) (by decide)).trans ?_
      refine (sx_aload_n D209_67 rfl).trans ?_
      refine (sx_gfR (q := (9, 17, 0, 1385)) (b := 435) D209_68 (by decide +kernel) (by decide +kernel) (by decide) (MA_o h0) (MA_g17 h0)).trans ?_
      refine (sx_iload_n D209_71 rfl).trans ?_
      refine (sx_ia D209_72 (MA_k17 h0) rfl).trans (gdR_to fun g4 => ?_)
      exact sx_ireturn D209_73 (by decide +kernel)
    refine ite_go (c := w a2 = 2) (fun x5 => ?_) (fun x5 => ?_)
    · refine (sx_tsw (pc' := 74) D209_31 ((rfl).trans x5) (by decide) rfl (by decide) (by decide)).trans ?_
      refine (sx_aload_n D209_74 rfl).trans ?_
      refine (sx_gfR (q := (9, 18, 0, 1386)) (b := 436) D209_75 (by decide +kernel) (by decide +kernel) (by decide) (MA_o h0) (MA_g18 h0)).trans ?_
      refine (sx_iload_n D209_78 rfl).trans ?_
      refine (sx_ia D209_79 (MA_k18 h0) rfl).trans (gdR_to fun g6 => ?_)
      exact sx_ireturn D209_80 (by decide +kernel)
    refine ite_go (c := w a2 = 3) (fun x7 => ?_) (fun x7 => ?_)
    · refine (sx_tsw (pc' := 81) D209_31 ((rfl).trans x7) (by decide) rfl (by decide) (by decide)).trans ?_
      refine (sx_aload_n D209_81 rfl).trans ?_
      refine (sx_gfR (q := (9, 19, 0, 1387)) (b := 437) D209_82 (by decide +kernel) (by decide +kernel) (by decide) (MA_o h0) (MA_g19 h0)).trans ?_
      refine (sx_iload_n D209_85 rfl).trans ?_
      refine (sx_ia D209_86 (MA_k19 h0) rfl).trans (gdR_to fun g8 => ?_)
      exact sx_ireturn D209_87 (by decide +kernel)
    refine (sx_tsd (pc' := 88) D209_31 (by rw [show w _ = _ from rfl]; omega) (by decide) (by decide)).trans ?_
    refine (sx_aload_n D209_88 rfl).trans ?_
    refine (sx_gfR (q := (9, 20, 0, 1388)) (b := 438) D209_89 (by decide +kernel) (by decide +kernel) (by decide) (MA_o h0) (MA_g20 h0)).trans ?_
    refine (sx_iload_n D209_92 rfl).trans ?_
    refine (sx_iload_n D209_93 rfl).trans ?_
    refine (sx_iconst D209_94).trans ?_
    refine (sx_isub D209_95).trans ?_
    exact sx_stat (ag := [(2, 438), (0, a1), (0, a2 - 4)]) (r := []) (al' := [(2, 438), (0, a1), (0, a2 - 4)]) (np := 3) (nl := 3) (q := (0, 212, 1526)) D209_96 (by decide +kernel) (by decide) mP_212 mL_212 (Nat.le_of_ble_eq_true rfl) rfl rfl (by simp [cat]) rfl rfl
theorem E209_25 {d : Nat} {a1 a2 : Int} {S : SS} {I : II} (h0 : MA S 427) : ev (d + 1) 209 25 [(2, 427), (0, a1), (0, a2)] [] S I = (ev d 211 0 [(2, 427)] [] S I).bind (fun q => ev (d + 1) 209 29 [(2, 427), (0, a1), (0, a2)] (psh q.1 []) q.2.1 q.2.2) := by
  refine (sx_aload_n D209_25 rfl).trans ?_
  exact sx_virt (c := 11) (ag := [(2, 427)]) (r := []) (al' := [(2, 427)]) (np := 0) (nl := 1) (q := (1, 211, 1522)) D209_26 (by decide +kernel) (by decide) mP_211 mL_211 mC_211 (Nat.le_of_ble_eq_true rfl) rfl rfl (by simp [cat]) (by decide) (MA_o h0) rfl rfl
theorem E209_29 {d : Nat} {a1 a2 s0 : Int} {S : SS} {I : II}  : ev d 209 29 [(2, 427), (0, a1), (0, a2)] [(0, s0)] S I = some ((0, s0), S, I) := by
  exact sx_ireturn D209_29 (by decide +kernel)
theorem E209_99 {d : Nat} {a1 a2 s0 : Int} {S : SS} {I : II}  : ev d 209 99 [(2, 427), (0, a1), (0, a2)] [(0, s0)] S I = some ((0, s0), S, I) := by
  exact sx_ireturn D209_99 (by decide +kernel)
theorem E210_0 {d : Nat} {a1 : Int} {S : SS} {I : II} (h0 : MA S 427) : ev (d + 1) 210 0 [(2, 427), (0, a1)] [] S I = (ev d 192 0 [(1, w a1), uU, (1, 0), uU, (1, w ((I 427 14) - 1)), uU] [] S I).bind (fun q => ev (d + 1) 210 13 [(2, 427), (0, a1)] (psh q.1 []) q.2.1 q.2.2) := by
  refine (sx_iload_n D210_0 rfl).trans ?_
  refine (sx_i2l D210_1).trans ?_
  refine (sx_lconst D210_2).trans ?_
  refine (sx_aload_n D210_3 rfl).trans ?_
  refine (sx_gfI (q := (9, 14, 0, 1382)) (j := 14) D210_4 (by decide +kernel) (by decide +kernel) (by decide) (MA_o h0) rfl rfl).trans ?_
  refine (sx_iconst D210_7).trans ?_
  refine (sx_isub D210_8).trans ?_
  refine (sx_i2l D210_9).trans ?_
  exact sx_stat (ag := [(1, w a1), (1, 0), (1, w ((I 427 14) - 1))]) (r := []) (al' := [(1, w a1), uU, (1, 0), uU, (1, w ((I 427 14) - 1)), uU]) (np := 3) (nl := 6) (q := (0, 192, 1299)) D210_10 (by decide +kernel) (by decide) mP_192 mL_192 (Nat.le_of_ble_eq_true rfl) rfl rfl (by simp [cat]) rfl rfl
theorem E210_13 {d : Nat} {a1 s0 : Int} {S : SS} {I : II} (h0 : s0 = 0 ∨ s0 = 1) : ev d 210 13 [(2, 427), (0, a1)] [(0, s0)] S I = some ((0, s0), S, I) := by
  exact sx_zreturn D210_13 (by decide +kernel) h0
theorem E211_0 {d : Nat} {S : SS} {I : II} (h0 : MA S 427) : ev d 211 0 [(2, 427)] [] S I = some ((0, 0), S, (up2 I 427 0 1)) := by
  refine (sx_aload_n D211_0 rfl).trans ?_
  refine (sx_iconst D211_1).trans ?_
  refine (sx_pfI (q := (9, 0, 0, 1368)) (j := 0) D211_2 (by decide +kernel) (by decide) (by decide) (MA_o h0) rfl).trans ?_
  refine (sx_iconst D211_5).trans ?_
  exact sx_ireturn D211_6 (by decide +kernel)
theorem E212_0 {d : Nat} {a0 a1 a2 ln0 : Int} {S : SS} {I : II} (h0 : KA S a0 20 ln0) : ev d 212 0 [(2, a0), (0, a1), (0, a2)] [] S I = gdR (0 ≤ w ((89 * a1) + a2) ∧ w ((89 * a1) + a2) < ln0) (some ((0, I a0 (w ((89 * a1) + a2))), S, I)) := by
  refine (sx_aload_n D212_0 rfl).trans ?_
  refine (sx_bipush D212_1 (by decide)).trans ?_
  refine (sx_iload_n D212_3 rfl).trans ?_
  refine (sx_imul D212_4).trans ?_
  refine (sx_iload_n D212_5 rfl).trans ?_
  refine (sx_iadd D212_6).trans ?_
  refine (sx_ia D212_7 h0 rfl).trans (gdR_to fun g1 => ?_)
  exact sx_ireturn D212_8 (by decide +kernel)
theorem E213_0 {d : Nat} {a1 a2 a3 a4 : Int} {S : SS} {I : II} (h0 : MA S 427) : ev (d + 1) 213 0 [(2, 427), (0, a1), (0, a2), (0, a3), (0, a4), uU, uU, uU] [] S I = (ev d 192 0 [(1, w a1), uU, (1, 0), uU, (1, 3), uU] [] S (up2 I 427 0 0)).bind (fun q => ev (d + 1) 213 14 [(2, 427), (0, a1), (0, a2), (0, a3), (0, a4), uU, uU, uU] (psh q.1 []) q.2.1 q.2.2) := by
  refine (sx_aload_n D213_0 rfl).trans ?_
  refine (sx_iconst D213_1).trans ?_
  refine (sx_pfI (q := (9, 0, 0, 1368)) (j := 0) D213_2 (by decide +kernel) (by decide) (by decide) (MA_o h0) rfl).trans ?_
  refine (sx_iload_n D213_5 rfl).trans ?_
  refine (sx_i2l D213_6).trans ?_
  refine (sx_lconst D213_7).trans ?_
  refine (sx_ldc2_w (q := (3, 1533)) D213_8 (by decide +kernel)).trans ?_
  exact sx_stat (ag := [(1, w a1), (1, 0), (1, 3)]) (r := []) (al' := [(1, w a1), uU, (1, 0), uU, (1, 3), uU]) (np := 3) (nl := 6) (q := (0, 192, 1299)) D213_11 (by decide +kernel) (by decide) mP_192 mL_192 (Nat.le_of_ble_eq_true rfl) rfl rfl (by simp [cat]) rfl rfl
theorem E213_14 {d : Nat} {a1 a2 a3 a4 s0 : Int} {S : SS} {I : II}  : ev d 213 14 [(2, 427), (0, a1), (0, a2), (0, a3), (0, a4), uU, uU, uU] [(0, s0)] S I = if w s0 = 0 then (ev d 213 23 [(2, 427), (0, a1), (0, a2), (0, a3), (0, a4), uU, uU, uU] [] S I) else (if 10 < w a2 then (ev d 213 23 [(2, 427), (0, a1), (0, a2), (0, a3), (0, a4), uU, uU, uU] [] S I) else (if w a1 = 3 then (ev d 213 37 [(2, 427), (0, a1), (0, a2), (0, a3), (0, a4), uU, uU, uU] [] S I) else (if w a2 < 0 then (some ((0, (-2)), S, I)) else (ev d 213 37 [(2, 427), (0, a1), (0, a2), (0, a3), (0, a4), uU, uU, uU] [] S I)))) := by
  refine sx_i0_eq (pc' := 23) D213_14 (by decide) (by decide) ?_ ?_ rfl
  · exact rfl
  · refine (sx_iload_n D213_17 rfl).trans ?_
    refine (sx_bipush D213_18 (by decide)).trans ?_
    refine sx_if_le (pc' := 25) D213_20 (by decide) (by decide) ?_ ?_ rfl (w_small (by decide) (by decide))
    · exact rfl
    · refine (sx_iload_n D213_25 rfl).trans ?_
      refine (sx_iconst D213_26).trans ?_
      refine sx_if_eq (pc' := 37) D213_27 (by decide) (by decide) ?_ ?_ rfl (w_small (by decide) (by decide))
      · exact rfl
      · refine (sx_iload_n D213_30 rfl).trans ?_
        refine sx_i0_ge (pc' := 37) D213_31 (by decide) (by decide) ?_ ?_ rfl
        · refine (sx_bipush D213_34 (by decide)).trans ?_
          exact sx_ireturn D213_36 (by decide +kernel)
        · exact rfl
theorem E213_23 {d : Nat} {a1 a2 a3 a4 : Int} {S : SS} {I : II}  : ev d 213 23 [(2, 427), (0, a1), (0, a2), (0, a3), (0, a4), uU, uU, uU] [] S I = some ((0, (-1)), S, I) := by
  refine (sx_iconst D213_23).trans ?_
  exact sx_ireturn D213_24 (by decide +kernel)
theorem E213_37 {d : Nat} {a1 a2 a3 a4 : Int} {S : SS} {I : II}  : ev d 213 37 [(2, 427), (0, a1), (0, a2), (0, a3), (0, a4), uU, uU, uU] [] S I = ev d 213 43 [(2, 427), (0, a1), (0, a2), (0, a3), (0, a4), (0, a3), (0, 0), uU] [] S I := by
  refine (sx_iload_n D213_37 rfl).trans ?_
  refine (sx_istore (al' := [(2, 427), (0, a1), (0, a2), (0, a3), (0, a4), (0, a3), uU, uU]) D213_38 (Nat.le_of_ble_eq_true rfl) rfl rfl).trans ?_
  refine (sx_iconst D213_40).trans ?_
  refine (sx_istore (al' := [(2, 427), (0, a1), (0, a2), (0, a3), (0, a4), (0, a3), (0, 0), uU]) D213_41 (Nat.le_of_ble_eq_true rfl) rfl rfl).trans ?_
  exact rfl
theorem E213_43 {d : Nat} {a1 a2 a3 a4 a5 a6 : Int} {a7 : AV} {S : SS} {I : II} (h0 : MA S 427) : ev (d + 1) 213 43 [(2, 427), (0, a1), (0, a2), (0, a3), (0, a4), (0, a5), (0, a6), a7] [] S I = if w a6 < 10 then (if w a1 = 0 then (ev (d + 1) 213 73 [(2, 427), (0, a1), (0, a2), (0, a3), (0, a4), (0, a5), (0, a6), a7] [(0, iB a5)] S I) else (if w a1 = 1 then (ev (d + 1) 213 73 [(2, 427), (0, a1), (0, a2), (0, a3), (0, a4), (0, a5), (0, a6), a7] [(0, iS a5)] S I) else (ev (d + 1) 213 73 [(2, 427), (0, a1), (0, a2), (0, a3), (0, a4), (0, a5), (0, a6), a7] [(0, a5)] S I))) else (if w a1 = 3 then (ev (d + 1) 213 142 [(2, 427), (0, a1), (0, a2), (0, a3), (0, a4), (0, a5), (0, a6), a7] [(0, (-3))] S I) else ((ev d 214 0 [(2, 438), uU, uU] [] S I).bind (fun q => ev (d + 1) 213 142 [(2, 427), (0, a1), (0, a2), (0, a3), (0, a4), (0, a5), (0, a6), a7] (psh q.1 []) q.2.1 q.2.2))) := by
  refine (sx_iload D213_43 rfl).trans ?_
  refine (sx_bipush D213_45 (by decide)).trans ?_
  refine sx_if_ge (pc' := 125) D213_47 (by decide) (by decide) ?_ ?_ rfl (w_small (by decide) (by decide))
  · refine (sx_iload_n D213_50 rfl).trans ?_
    refine sx_i0_ne (pc' := 60) D213_51 (by decide) (by decide) ?_ ?_ rfl
    · refine (sx_iload D213_54 rfl).trans ?_
      refine (sx_i2b D213_56).trans ?_
      refine (sx_goto (pc' := 73) D213_57 (by decide) (by decide)).trans ?_
      exact rfl
    · refine (sx_iload_n D213_60 rfl).trans ?_
      refine (sx_iconst D213_61).trans ?_
      refine sx_if_ne (pc' := 71) D213_62 (by decide) (by decide) ?_ ?_ rfl (w_small (by decide) (by decide))
      · refine (sx_iload D213_65 rfl).trans ?_
        refine (sx_i2s D213_67).trans ?_
        refine (sx_goto (pc' := 73) D213_68 (by decide) (by decide)).trans ?_
        exact rfl
      · refine (sx_iload D213_71 rfl).trans ?_
        exact rfl
  · refine (sx_iload_n D213_125 rfl).trans ?_
    refine (sx_iconst D213_126).trans ?_
    refine sx_if_ne (pc' := 135) D213_127 (by decide) (by decide) ?_ ?_ rfl (w_small (by decide) (by decide))
    · refine (sx_bipush D213_130 (by decide)).trans ?_
      refine (sx_goto (pc' := 142) D213_132 (by decide) (by decide)).trans ?_
      exact rfl
    · refine (sx_aload_n D213_135 rfl).trans ?_
      refine (sx_gfR (q := (9, 20, 0, 1388)) (b := 438) D213_136 (by decide +kernel) (by decide +kernel) (by decide) (MA_o h0) (MA_g20 h0)).trans ?_
      exact sx_stat (ag := [(2, 438)]) (r := []) (al' := [(2, 438), uU, uU]) (np := 1) (nl := 3) (q := (0, 214, 1535)) D213_139 (by decide +kernel) (by decide) mP_214 mL_214 (Nat.le_of_ble_eq_true rfl) rfl rfl (by simp [cat]) rfl rfl
theorem E213_73 {d : Nat} {a1 a2 a3 a4 a5 a6 s0 : Int} {a7 : AV} {S : SS} {I : II} (h0 : MA S 427) : ev d 213 73 [(2, 427), (0, a1), (0, a2), (0, a3), (0, a4), (0, a5), (0, a6), a7] [(0, s0)] S I = if w a1 = 3 then (ev d 213 96 [(2, 427), (0, a1), (0, a2), (0, a3), (0, a4), (0, a5), (0, a6), (0, s0)] [(0, 828 + a6), (2, 438)] S I) else (if w a6 < w a2 then (ev d 213 111 [(2, 427), (0, a1), (0, a2), (0, a3), (0, a4), (0, a5), (0, a6), (0, s0)] [(0, if 0 < (if w s0 < 99 then w s0 else 99) then (if w s0 < 99 then w s0 else 99) else 0), (0, 828 + a6), (2, 438)] S I) else (ev d 213 96 [(2, 427), (0, a1), (0, a2), (0, a3), (0, a4), (0, a5), (0, a6), (0, s0)] [(0, 828 + a6), (2, 438)] S I)) := by
  refine (sx_istore (al' := [(2, 427), (0, a1), (0, a2), (0, a3), (0, a4), (0, a5), (0, a6), (0, s0)]) D213_73 (Nat.le_of_ble_eq_true rfl) rfl rfl).trans ?_
  refine (sx_aload_n D213_75 rfl).trans ?_
  refine (sx_gfR (q := (9, 20, 0, 1388)) (b := 438) D213_76 (by decide +kernel) (by decide +kernel) (by decide) (MA_o h0) (MA_g20 h0)).trans ?_
  refine (sx_sipush D213_79 (by decide)).trans ?_
  refine (sx_iload D213_82 rfl).trans ?_
  refine (sx_iadd D213_84).trans ?_
  refine (sx_iload_n D213_85 rfl).trans ?_
  refine (sx_iconst D213_86).trans ?_
  refine sx_if_eq (pc' := 96) D213_87 (by decide) (by decide) ?_ ?_ rfl (w_small (by decide) (by decide))
  · exact rfl
  · refine (sx_iload D213_90 rfl).trans ?_
    refine (sx_iload_n D213_92 rfl).trans ?_
    refine sx_if_lt (pc' := 100) D213_93 (by decide) (by decide) ?_ ?_ rfl rfl
    · refine (sx_iconst D213_100).trans ?_
      refine (sx_bipush D213_101 (by decide)).trans ?_
      refine (sx_iload D213_103 rfl).trans ?_
      refine (sx_min (q := (13, 0, 1315)) D213_105 (by decide +kernel) rfl (by simp [cat]) (w_small (by decide) (by decide)) rfl).trans ?_
      refine (sx_max (q := (12, 0, 1534)) D213_108 (by decide +kernel) rfl (by simp [cat]) (w_small (by decide) (by decide)) (w_ite (w_toInt _) (w_small (by decide) (by decide)))).trans ?_
      exact rfl
    · exact rfl
theorem E213_96 {d : Nat} {a1 a2 a3 a4 a5 a6 a7 s0 s1 : Int} {S : SS} {I : II}  : ev d 213 96 [(2, 427), (0, a1), (0, a2), (0, a3), (0, a4), (0, a5), (0, a6), (0, a7)] [(0, s1), (2, s0)] S I = ev d 213 111 [(2, 427), (0, a1), (0, a2), (0, a3), (0, a4), (0, a5), (0, a6), (0, a7)] [(0, 0), (0, s1), (2, s0)] S I := by
  refine (sx_iconst D213_96).trans ?_
  refine (sx_goto (pc' := 111) D213_97 (by decide) (by decide)).trans ?_
  exact rfl
theorem E213_111 {d : Nat} {a1 a2 a3 a4 a5 a6 a7 s0 s1 s2 ln0 : Int} {S : SS} {I : II} (h0 : KA S s0 20 ln0) : ev d 213 111 [(2, 427), (0, a1), (0, a2), (0, a3), (0, a4), (0, a5), (0, a6), (0, a7)] [(0, s2), (0, s1), (2, s0)] S I = gdR (0 ≤ w s1 ∧ w s1 < ln0) (ev d 213 43 [(2, 427), (0, a1), (0, a2), (0, a3), (0, a4), (0, a5 + a4), (0, a6 + 1), (0, a7)] [] S (up2 I s0 (w s1) s2)) := by
  refine (sx_is D213_111 h0).trans (gdR_to fun g1 => ?_)
  refine (sx_iload D213_112 rfl).trans ?_
  refine (sx_iload D213_114 rfl).trans ?_
  refine (sx_iadd D213_116).trans ?_
  refine (sx_istore (al' := [(2, 427), (0, a1), (0, a2), (0, a3), (0, a4), (0, a5 + a4), (0, a6), (0, a7)]) D213_117 (Nat.le_of_ble_eq_true rfl) rfl rfl).trans ?_
  refine (sx_iinc (al' := [(2, 427), (0, a1), (0, a2), (0, a3), (0, a4), (0, a5 + a4), (0, a6 + 1), (0, a7)]) D213_119 rfl rfl).trans ?_
  refine (sx_goto (pc' := 43) D213_122 (by decide) (by decide)).trans ?_
  exact rfl
theorem E213_142 {d : Nat} {a1 a2 a3 a4 a5 a6 s0 : Int} {a7 : AV} {S : SS} {I : II}  : ev d 213 142 [(2, 427), (0, a1), (0, a2), (0, a3), (0, a4), (0, a5), (0, a6), a7] [(0, s0)] S I = some ((0, s0), S, I) := by
  exact sx_ireturn D213_142 (by decide +kernel)
theorem E214_0 {d : Nat} {a0 : Int} {S : SS} {I : II}  : ev d 214 0 [(2, a0), uU, uU] [] S I = ev d 214 4 [(2, a0), (0, 0), (0, 0)] [] S I := by
  refine (sx_iconst D214_0).trans ?_
  refine (sx_istore_n (al' := [(2, a0), (0, 0), uU]) D214_1 (Nat.le_of_ble_eq_true rfl) rfl rfl).trans ?_
  refine (sx_iconst D214_2).trans ?_
  refine (sx_istore_n (al' := [(2, a0), (0, 0), (0, 0)]) D214_3 (Nat.le_of_ble_eq_true rfl) rfl rfl).trans ?_
  exact rfl
theorem E214_4 {d : Nat} {a0 a1 a2 ln0 : Int} {S : SS} {I : II} (h0 : KA S a0 20 ln0) : ev d 214 4 [(2, a0), (0, a1), (0, a2)] [] S I = if w a2 < 10 then (gdR (0 ≤ w (828 + a2) ∧ w (828 + a2) < ln0) (ev d 214 4 [(2, a0), (0, a1 + (I a0 (w (828 + a2)))), (0, a2 + 1)] [] S I)) else (some ((0, a1), S, I)) := by
  refine (sx_iload_n D214_4 rfl).trans ?_
  refine (sx_bipush D214_5 (by decide)).trans ?_
  refine sx_if_ge (pc' := 26) D214_7 (by decide) (by decide) ?_ ?_ rfl (w_small (by decide) (by decide))
  · refine (sx_iload_n D214_10 rfl).trans ?_
    refine (sx_aload_n D214_11 rfl).trans ?_
    refine (sx_sipush D214_12 (by decide)).trans ?_
    refine (sx_iload_n D214_15 rfl).trans ?_
    refine (sx_iadd D214_16).trans ?_
    refine (sx_ia D214_17 h0 rfl).trans (gdR_to fun g1 => ?_)
    refine (sx_iadd D214_18).trans ?_
    refine (sx_istore_n (al' := [(2, a0), (0, a1 + (I a0 (w (828 + a2)))), (0, a2)]) D214_19 (Nat.le_of_ble_eq_true rfl) rfl rfl).trans ?_
    refine (sx_iinc (al' := [(2, a0), (0, a1 + (I a0 (w (828 + a2)))), (0, a2 + 1)]) D214_20 rfl rfl).trans ?_
    refine (sx_goto (pc' := 4) D214_23 (by decide) (by decide)).trans ?_
    exact rfl
  · refine (sx_iload_n D214_26 rfl).trans ?_
    exact sx_ireturn D214_27 (by decide +kernel)
theorem E215_0 {d : Nat} {S : SS} {I : II} (h0 : MA S 427) : ev d 215 0 [(2, 427), uU] [] S I = if w (I 427 22) = 0 then (some ((0, (-1)), S, (up2 I 427 0 0))) else (ev d 215 26 [(2, 427), (0, 0)] [] S (up2 (up2 I 427 0 0) 427 22 ((I 427 22) - 1))) := by
  refine (sx_aload_n D215_0 rfl).trans ?_
  refine (sx_iconst D215_1).trans ?_
  refine (sx_pfI (q := (9, 0, 0, 1368)) (j := 0) D215_2 (by decide +kernel) (by decide) (by decide) (MA_o h0) rfl).trans ?_
  refine (sx_aload_n D215_5 rfl).trans ?_
  refine (sx_gfI (q := (9, 22, 0, 1390)) (j := 22) D215_6 (by decide +kernel) (by decide +kernel) (by decide) (MA_o h0) rfl (up2_slot (by decide))).trans ?_
  refine sx_i0_ne (pc' := 14) D215_9 (by decide) (by decide) ?_ ?_ rfl
  · refine (sx_iconst D215_12).trans ?_
    exact sx_ireturn D215_13 (by decide +kernel)
  · refine (sx_aload_n D215_14 rfl).trans ?_
    refine (sx_dup D215_15 (by decide)).trans ?_
    refine (sx_gfI (q := (9, 22, 0, 1390)) (j := 22) D215_16 (by decide +kernel) (by decide +kernel) (by decide) (MA_o h0) rfl (up2_slot (by decide))).trans ?_
    refine (sx_iconst D215_19).trans ?_
    refine (sx_isub D215_20).trans ?_
    refine (sx_pfI (q := (9, 22, 0, 1390)) (j := 22) D215_21 (by decide +kernel) (by decide) (by decide) (MA_o h0) rfl).trans ?_
    refine (sx_iconst D215_24).trans ?_
    refine (sx_istore_n (al' := [(2, 427), (0, 0)]) D215_25 (Nat.le_of_ble_eq_true rfl) rfl rfl).trans ?_
    exact rfl
theorem E215_26 {d : Nat} {a1 : Int} {S : SS} {I : II} (h0 : MA S 427) : ev d 215 26 [(2, 427), (0, a1)] [] S I = if w a1 < 844 then (gdR (0 ≤ w ((844 * (I 427 22)) + a1) ∧ w ((844 * (I 427 22)) + a1) < 7596) (gdR (0 ≤ w a1 ∧ w a1 < 844) (ev d 215 26 [(2, 427), (0, a1 + 1)] [] S (up2 I 438 (w a1) (I 440 (w ((844 * (I 427 22)) + a1))))))) else (some ((0, I 427 22), S, I)) := by
  refine (sx_iload_n D215_26 rfl).trans ?_
  refine (sx_sipush D215_27 (by decide)).trans ?_
  refine sx_if_ge (pc' := 60) D215_30 (by decide) (by decide) ?_ ?_ rfl (w_small (by decide) (by decide))
  · refine (sx_aload_n D215_33 rfl).trans ?_
    refine (sx_gfR (q := (9, 20, 0, 1388)) (b := 438) D215_34 (by decide +kernel) (by decide +kernel) (by decide) (MA_o h0) (MA_g20 h0)).trans ?_
    refine (sx_iload_n D215_37 rfl).trans ?_
    refine (sx_aload_n D215_38 rfl).trans ?_
    refine (sx_gfR (q := (9, 23, 0, 1391)) (b := 440) D215_39 (by decide +kernel) (by decide +kernel) (by decide) (MA_o h0) (MA_g23 h0)).trans ?_
    refine (sx_sipush D215_42 (by decide)).trans ?_
    refine (sx_aload_n D215_45 rfl).trans ?_
    refine (sx_gfI (q := (9, 22, 0, 1390)) (j := 22) D215_46 (by decide +kernel) (by decide +kernel) (by decide) (MA_o h0) rfl rfl).trans ?_
    refine (sx_imul D215_49).trans ?_
    refine (sx_iload_n D215_50 rfl).trans ?_
    refine (sx_iadd D215_51).trans ?_
    refine (sx_ia D215_52 (MA_k23 h0) rfl).trans (gdR_to fun g1 => ?_)
    refine (sx_is D215_53 (MA_k20 h0)).trans (gdR_to fun g2 => ?_)
    refine (sx_iinc (al' := [(2, 427), (0, a1 + 1)]) D215_54 rfl rfl).trans ?_
    refine (sx_goto (pc' := 26) D215_57 (by decide) (by decide)).trans ?_
    exact rfl
  · refine (sx_aload_n D215_60 rfl).trans ?_
    refine (sx_gfI (q := (9, 22, 0, 1390)) (j := 22) D215_61 (by decide +kernel) (by decide +kernel) (by decide) (MA_o h0) rfl rfl).trans ?_
    exact sx_ireturn D215_64 (by decide +kernel)
theorem E216_0 {d : Nat} {a1 a2 a3 a4 : Int} {S : SS} {I : II} (h0 : MA S 427) : ev (d + 1) 216 0 [(2, 427), (0, a1), (0, a2), (0, a3), (0, a4)] [] S I = (ev d 217 0 [(2, 427), uU] [] S (up2 I 427 0 0)).bind (fun q => ev (d + 1) 216 9 [(2, 427), (0, a1), (0, a2), (0, a3), (0, a4)] (psh q.1 []) q.2.1 q.2.2) := by
  refine (sx_aload_n D216_0 rfl).trans ?_
  refine (sx_iconst D216_1).trans ?_
  refine (sx_pfI (q := (9, 0, 0, 1368)) (j := 0) D216_2 (by decide +kernel) (by decide) (by decide) (MA_o h0) rfl).trans ?_
  refine (sx_aload_n D216_5 rfl).trans ?_
  exact sx_virt (c := 11) (ag := [(2, 427)]) (r := []) (al' := [(2, 427), uU]) (np := 0) (nl := 2) (q := (1, 217, 1546)) D216_6 (by decide +kernel) (by decide) mP_217 mL_217 mC_217 (Nat.le_of_ble_eq_true rfl) rfl rfl (by simp [cat]) (by decide) (MA_o h0) rfl rfl
theorem E216_9 {d : Nat} {a1 a2 a3 a4 : Int} {S : SS} {I : II} (h0 : MA S 427) : ev (d + 1) 216 9 [(2, 427), (0, a1), (0, a2), (0, a3), (0, a4)] [] S I = (ev d 218 0 [(2, 427), (2, 438), (0, a1), (0, a2), (0, a3), (0, a4), uU, uU] [] S I).bind (fun q => ev (d + 1) 216 23 [(2, 427), (0, a1), (0, a2), (0, a3), (0, a4)] (psh q.1 [(2, 427)]) q.2.1 q.2.2) := by
  refine (sx_aload_n D216_9 rfl).trans ?_
  refine (sx_aload_n D216_10 rfl).trans ?_
  refine (sx_aload_n D216_11 rfl).trans ?_
  refine (sx_gfR (q := (9, 20, 0, 1388)) (b := 438) D216_12 (by decide +kernel) (by decide +kernel) (by decide) (MA_o h0) (MA_g20 h0)).trans ?_
  refine (sx_iload_n D216_15 rfl).trans ?_
  refine (sx_iload_n D216_16 rfl).trans ?_
  refine (sx_iload_n D216_17 rfl).trans ?_
  refine (sx_iload D216_18 rfl).trans ?_
  exact sx_virt (c := 11) (ag := [(2, 427), (2, 438), (0, a1), (0, a2), (0, a3), (0, a4)]) (r := [(2, 427)]) (al' := [(2, 427), (2, 438), (0, a1), (0, a2), (0, a3), (0, a4), uU, uU]) (np := 5) (nl := 8) (q := (1, 218, 1550)) D216_20 (by decide +kernel) (by decide) mP_218 mL_218 mC_218 (Nat.le_of_ble_eq_true rfl) rfl rfl (by simp [cat]) (by decide) (MA_o h0) rfl rfl
theorem E216_23 {d : Nat} {a1 a2 a3 a4 s1 : Int} {S : SS} {I : II} (h0 : MA S 427) : ev (d + 1) 216 23 [(2, 427), (0, a1), (0, a2), (0, a3), (0, a4)] [(0, s1), (2, 427)] S I = (ev d 231 0 [(2, 427), (0, s1)] [] S I).bind (fun q => ev (d + 1) 216 26 [(2, 427), (0, a1), (0, a2), (0, a3), (0, a4)] (psh q.1 []) q.2.1 q.2.2) := by
  exact sx_virt (c := 11) (ag := [(2, 427), (0, s1)]) (r := []) (al' := [(2, 427), (0, s1)]) (np := 1) (nl := 2) (q := (1, 231, 1593)) D216_23 (by decide +kernel) (by decide) mP_231 mL_231 mC_231 (Nat.le_of_ble_eq_true rfl) rfl rfl (by simp [cat]) (by decide) (MA_o h0) rfl rfl
theorem E216_26 {d : Nat} {a1 a2 a3 a4 s0 : Int} {S : SS} {I : II}  : ev d 216 26 [(2, 427), (0, a1), (0, a2), (0, a3), (0, a4)] [(0, s0)] S I = some ((0, s0), S, I) := by
  exact sx_ireturn D216_26 (by decide +kernel)
theorem E217_0 {d : Nat} {S : SS} {I : II}  : ev d 217 0 [(2, 427), uU] [] S I = ev d 217 2 [(2, 427), (0, 0)] [] S I := by
  refine (sx_iconst D217_0).trans ?_
  refine (sx_istore_n (al' := [(2, 427), (0, 0)]) D217_1 (Nat.le_of_ble_eq_true rfl) rfl rfl).trans ?_
  exact rfl
theorem E217_2 {d : Nat} {a1 : Int} {S : SS} {I : II} (h0 : MA S 427) : ev d 217 2 [(2, 427), (0, a1)] [] S I = if w a1 < 844 then (gdR (0 ≤ w a1 ∧ w a1 < 844) (gdR (0 ≤ w ((844 * (I 427 22)) + a1) ∧ w ((844 * (I 427 22)) + a1) < 7596) (ev d 217 2 [(2, 427), (0, a1 + 1)] [] S (up2 I 440 (w ((844 * (I 427 22)) + a1)) (I 438 (w a1)))))) else (some (uU, S, I)) := by
  refine (sx_iload_n D217_2 rfl).trans ?_
  refine (sx_sipush D217_3 (by decide)).trans ?_
  refine sx_if_ge (pc' := 36) D217_6 (by decide) (by decide) ?_ ?_ rfl (w_small (by decide) (by decide))
  · refine (sx_aload_n D217_9 rfl).trans ?_
    refine (sx_gfR (q := (9, 23, 0, 1391)) (b := 440) D217_10 (by decide +kernel) (by decide +kernel) (by decide) (MA_o h0) (MA_g23 h0)).trans ?_
    refine (sx_sipush D217_13 (by decide)).trans ?_
    refine (sx_aload_n D217_16 rfl).trans ?_
    refine (sx_gfI (q := (9, 22, 0, 1390)) (j := 22) D217_17 (by decide +kernel) (by decide +kernel) (by decide) (MA_o h0) rfl rfl).trans ?_
    refine (sx_imul D217_20).trans ?_
    refine (sx_iload_n D217_21 rfl).trans ?_
    refine (sx_iadd D217_22).trans ?_
    refine (sx_aload_n D217_23 rfl).trans ?_
    refine (sx_gfR (q := (9, 20, 0, 1388)) (b := 438) D217_24 (by decide +kernel) (by decide +kernel) (by decide) (MA_o h0) (MA_g20 h0)).trans ?_
    refine (sx_iload_n D217_27 rfl).trans ?_
    refine (sx_ia D217_28 (MA_k20 h0) rfl).trans (gdR_to fun g1 => ?_)
    refine (sx_is D217_29 (MA_k23 h0)).trans (gdR_to fun g2 => ?_)
    refine (sx_iinc (al' := [(2, 427), (0, a1 + 1)]) D217_30 rfl rfl).trans ?_
    refine (sx_goto (pc' := 2) D217_33 (by decide) (by decide)).trans ?_
    exact rfl
  · exact sx_return D217_36 (by decide +kernel)
theorem E218_0 {d : Nat} {a1 a2 a3 a4 a5 : Int} {S : SS} {I : II} (h0 : MA S 427) : ev (d + 1) 218 0 [(2, 427), (2, a1), (0, a2), (0, a3), (0, a4), (0, a5), uU, uU] [] S I = (ev d 210 0 [(2, 427), (0, a2)] [] S I).bind (fun q => ev (d + 1) 218 5 [(2, 427), (2, a1), (0, a2), (0, a3), (0, a4), (0, a5), uU, uU] (psh q.1 []) q.2.1 q.2.2) := by
  refine (sx_aload_n D218_0 rfl).trans ?_
  refine (sx_iload_n D218_1 rfl).trans ?_
  exact sx_virt (c := 11) (ag := [(2, 427), (0, a2)]) (r := []) (al' := [(2, 427), (0, a2)]) (np := 1) (nl := 2) (q := (1, 210, 1517)) D218_2 (by decide +kernel) (by decide) mP_210 mL_210 mC_210 (Nat.le_of_ble_eq_true rfl) rfl rfl (by simp [cat]) (by decide) (MA_o h0) rfl rfl
theorem E218_5 {d : Nat} {a1 a2 a3 a4 a5 s0 : Int} {S : SS} {I : II}  : ev (d + 1) 218 5 [(2, 427), (2, a1), (0, a2), (0, a3), (0, a4), (0, a5), uU, uU] [(0, s0)] S I = if w s0 = 0 then (ev (d + 1) 218 46 [(2, 427), (2, a1), (0, a2), (0, a3), (0, a4), (0, a5), uU, uU] [] S I) else ((ev d 192 0 [(1, w a3), uU, (1, 0), uU, (1, 4), uU] [] S I).bind (fun q => ev (d + 1) 218 17 [(2, 427), (2, a1), (0, a2), (0, a3), (0, a4), (0, a5), uU, uU] (psh q.1 []) q.2.1 q.2.2)) := by
  refine sx_i0_eq (pc' := 46) D218_5 (by decide) (by decide) ?_ ?_ rfl
  · exact rfl
  · refine (sx_iload_n D218_8 rfl).trans ?_
    refine (sx_i2l D218_9).trans ?_
    refine (sx_lconst D218_10).trans ?_
    refine (sx_ldc2_w (q := (4, 1554)) D218_11 (by decide +kernel)).trans ?_
    exact sx_stat (ag := [(1, w a3), (1, 0), (1, 4)]) (r := []) (al' := [(1, w a3), uU, (1, 0), uU, (1, 4), uU]) (np := 3) (nl := 6) (q := (0, 192, 1299)) D218_14 (by decide +kernel) (by decide) mP_192 mL_192 (Nat.le_of_ble_eq_true rfl) rfl rfl (by simp [cat]) rfl rfl
theorem E218_17 {d : Nat} {a1 a2 a3 a4 a5 s0 : Int} {S : SS} {I : II}  : ev (d + 1) 218 17 [(2, 427), (2, a1), (0, a2), (0, a3), (0, a4), (0, a5), uU, uU] [(0, s0)] S I = if w s0 = 0 then (ev (d + 1) 218 46 [(2, 427), (2, a1), (0, a2), (0, a3), (0, a4), (0, a5), uU, uU] [] S I) else ((ev d 192 0 [(1, w a4), uU, (1, 0), uU, (1, 9), uU] [] S I).bind (fun q => ev (d + 1) 218 30 [(2, 427), (2, a1), (0, a2), (0, a3), (0, a4), (0, a5), uU, uU] (psh q.1 []) q.2.1 q.2.2)) := by
  refine sx_i0_eq (pc' := 46) D218_17 (by decide) (by decide) ?_ ?_ rfl
  · exact rfl
  · refine (sx_iload D218_20 rfl).trans ?_
    refine (sx_i2l D218_22).trans ?_
    refine (sx_lconst D218_23).trans ?_
    refine (sx_ldc2_w (q := (9, 1555)) D218_24 (by decide +kernel)).trans ?_
    exact sx_stat (ag := [(1, w a4), (1, 0), (1, 9)]) (r := []) (al' := [(1, w a4), uU, (1, 0), uU, (1, 9), uU]) (np := 3) (nl := 6) (q := (0, 192, 1299)) D218_27 (by decide +kernel) (by decide) mP_192 mL_192 (Nat.le_of_ble_eq_true rfl) rfl rfl (by simp [cat]) rfl rfl
theorem E218_30 {d : Nat} {a1 a2 a3 a4 a5 s0 : Int} {S : SS} {I : II}  : ev (d + 1) 218 30 [(2, 427), (2, a1), (0, a2), (0, a3), (0, a4), (0, a5), uU, uU] [(0, s0)] S I = if w s0 = 0 then (ev (d + 1) 218 46 [(2, 427), (2, a1), (0, a2), (0, a3), (0, a4), (0, a5), uU, uU] [] S I) else ((ev d 192 0 [(1, w a5), uU, (1, 0), uU, (1, 99), uU] [] S I).bind (fun q => ev (d + 1) 218 43 [(2, 427), (2, a1), (0, a2), (0, a3), (0, a4), (0, a5), uU, uU] (psh q.1 []) q.2.1 q.2.2)) := by
  refine sx_i0_eq (pc' := 46) D218_30 (by decide) (by decide) ?_ ?_ rfl
  · exact rfl
  · refine (sx_iload D218_33 rfl).trans ?_
    refine (sx_i2l D218_35).trans ?_
    refine (sx_lconst D218_36).trans ?_
    refine (sx_ldc2_w (q := (99, 1556)) D218_37 (by decide +kernel)).trans ?_
    exact sx_stat (ag := [(1, w a5), (1, 0), (1, 99)]) (r := []) (al' := [(1, w a5), uU, (1, 0), uU, (1, 99), uU]) (np := 3) (nl := 6) (q := (0, 192, 1299)) D218_40 (by decide +kernel) (by decide) mP_192 mL_192 (Nat.le_of_ble_eq_true rfl) rfl rfl (by simp [cat]) rfl rfl
theorem E218_43 {d : Nat} {a1 a2 a3 a4 a5 s0 : Int} {S : SS} {I : II}  : ev (d + 1) 218 43 [(2, 427), (2, a1), (0, a2), (0, a3), (0, a4), (0, a5), uU, uU] [(0, s0)] S I = if w s0 = 0 then (ev (d + 1) 218 46 [(2, 427), (2, a1), (0, a2), (0, a3), (0, a4), (0, a5), uU, uU] [] S I) else ((ev d 212 0 [(2, a1), (0, a2), (0, 0)] [] S I).bind (fun q => ev (d + 1) 218 54 [(2, 427), (2, a1), (0, a2), (0, a3), (0, a4), (0, a5), uU, uU] (psh q.1 []) q.2.1 q.2.2)) := by
  refine sx_i0_ne (pc' := 48) D218_43 (by decide) (by decide) ?_ ?_ rfl
  · exact rfl
  · refine (sx_aload_n D218_48 rfl).trans ?_
    refine (sx_iload_n D218_49 rfl).trans ?_
    refine (sx_iconst D218_50).trans ?_
    exact sx_stat (ag := [(2, a1), (0, a2), (0, 0)]) (r := []) (al' := [(2, a1), (0, a2), (0, 0)]) (np := 3) (nl := 3) (q := (0, 212, 1526)) D218_51 (by decide +kernel) (by decide) mP_212 mL_212 (Nat.le_of_ble_eq_true rfl) rfl rfl (by simp [cat]) rfl rfl
theorem E218_46 {d : Nat} {a1 a2 a3 a4 a5 : Int} {S : SS} {I : II}  : ev d 218 46 [(2, 427), (2, a1), (0, a2), (0, a3), (0, a4), (0, a5), uU, uU] [] S I = some ((0, (-1)), S, I) := by
  refine (sx_iconst D218_46).trans ?_
  exact sx_ireturn D218_47 (by decide +kernel)
theorem E218_54 {d : Nat} {a1 a2 a3 a4 a5 s0 : Int} {S : SS} {I : II}  : ev (d + 1) 218 54 [(2, 427), (2, a1), (0, a2), (0, a3), (0, a4), (0, a5), uU, uU] [(0, s0)] S I = (ev d 212 0 [(2, a1), (0, a2), (0, 4)] [] S I).bind (fun q => ev (d + 1) 218 60 [(2, 427), (2, a1), (0, a2), (0, a3), (0, a4), (0, a5), uU, uU] (psh q.1 [(0, s0)]) q.2.1 q.2.2) := by
  refine (sx_aload_n D218_54 rfl).trans ?_
  refine (sx_iload_n D218_55 rfl).trans ?_
  refine (sx_iconst D218_56).trans ?_
  exact sx_stat (ag := [(2, a1), (0, a2), (0, 4)]) (r := [(0, s0)]) (al' := [(2, a1), (0, a2), (0, 4)]) (np := 3) (nl := 3) (q := (0, 212, 1526)) D218_57 (by decide +kernel) (by decide) mP_212 mL_212 (Nat.le_of_ble_eq_true rfl) rfl rfl (by simp [cat]) rfl rfl
theorem E218_60 {d : Nat} {a1 a2 a3 a4 a5 s0 s1 : Int} {S : SS} {I : II} (h0 : MA S 427) : ev (d + 1) 218 60 [(2, 427), (2, a1), (0, a2), (0, a3), (0, a4), (0, a5), uU, uU] [(0, s1), (0, s0)] S I = gdR (0 ≤ w a2 ∧ w a2 < 5) (if w (s0 - s1) < w ((I 434 (w a2)) - 1) then ((ev d 219 0 [(2, a1), (0, a2), uU] [] S I).bind (fun q => ev (d + 1) 218 80 [(2, 427), (2, a1), (0, a2), (0, a3), (0, a4), (0, a5), uU, uU] (psh q.1 []) q.2.1 q.2.2)) else (some ((0, (-2)), S, I))) := by
  refine (sx_isub D218_60).trans ?_
  refine (sx_aload_n D218_61 rfl).trans ?_
  refine (sx_gfR (q := (9, 16, 0, 1384)) (b := 434) D218_62 (by decide +kernel) (by decide +kernel) (by decide) (MA_o h0) (MA_g16 h0)).trans ?_
  refine (sx_iload_n D218_65 rfl).trans ?_
  refine (sx_ia D218_66 (MA_k16 h0) rfl).trans (gdR_to fun g1 => ?_)
  refine (sx_iconst D218_67).trans ?_
  refine (sx_isub D218_68).trans ?_
  refine sx_if_lt (pc' := 75) D218_69 (by decide) (by decide) ?_ ?_ rfl rfl
  · refine (sx_aload_n D218_75 rfl).trans ?_
    refine (sx_iload_n D218_76 rfl).trans ?_
    exact sx_stat (ag := [(2, a1), (0, a2)]) (r := []) (al' := [(2, a1), (0, a2), uU]) (np := 2) (nl := 3) (q := (0, 219, 1557)) D218_77 (by decide +kernel) (by decide) mP_219 mL_219 (Nat.le_of_ble_eq_true rfl) rfl rfl (by simp [cat]) rfl rfl
  · refine (sx_bipush D218_72 (by decide)).trans ?_
    exact sx_ireturn D218_74 (by decide +kernel)
theorem E218_80 {d : Nat} {a1 a2 a3 a4 a5 s0 : Int} {S : SS} {I : II}  : ev (d + 1) 218 80 [(2, 427), (2, a1), (0, a2), (0, a3), (0, a4), (0, a5), uU, uU] [(0, s0)] S I = if w s0 < 0 then (some ((0, (-3)), S, I)) else ((ev d 212 0 [(2, a1), (0, a2), (0, 0)] [] S I).bind (fun q => ev (d + 1) 218 97 [(2, 427), (2, a1), (0, a2), (0, a3), (0, a4), (0, a5), (0, s0), uU] (psh q.1 [(0, a2)]) q.2.1 q.2.2)) := by
  refine (sx_istore (al' := [(2, 427), (2, a1), (0, a2), (0, a3), (0, a4), (0, a5), (0, s0), uU]) D218_80 (Nat.le_of_ble_eq_true rfl) rfl rfl).trans ?_
  refine (sx_iload D218_82 rfl).trans ?_
  refine sx_i0_ge (pc' := 90) D218_84 (by decide) (by decide) ?_ ?_ rfl
  · refine (sx_bipush D218_87 (by decide)).trans ?_
    exact sx_ireturn D218_89 (by decide +kernel)
  · refine (sx_iload_n D218_90 rfl).trans ?_
    refine (sx_aload_n D218_91 rfl).trans ?_
    refine (sx_iload_n D218_92 rfl).trans ?_
    refine (sx_iconst D218_93).trans ?_
    exact sx_stat (ag := [(2, a1), (0, a2), (0, 0)]) (r := [(0, a2)]) (al' := [(2, a1), (0, a2), (0, 0)]) (np := 3) (nl := 3) (q := (0, 212, 1526)) D218_94 (by decide +kernel) (by decide) mP_212 mL_212 (Nat.le_of_ble_eq_true rfl) rfl rfl (by simp [cat]) rfl rfl
theorem E218_97 {d : Nat} {a1 a2 a3 a4 a5 a6 s0 s1 : Int} {S : SS} {I : II}  : ev (d + 1) 218 97 [(2, 427), (2, a1), (0, a2), (0, a3), (0, a4), (0, a5), (0, a6), uU] [(0, s1), (0, s0)] S I = (ev d 222 0 [(0, s0), (0, s1)] [] S I).bind (fun q => ev (d + 1) 218 100 [(2, 427), (2, a1), (0, a2), (0, a3), (0, a4), (0, a5), (0, a6), uU] (psh q.1 []) q.2.1 q.2.2) := by
  exact sx_stat (ag := [(0, s0), (0, s1)]) (r := []) (al' := [(0, s0), (0, s1)]) (np := 2) (nl := 2) (q := (0, 222, 1566)) D218_97 (by decide +kernel) (by decide) mP_222 mL_222 (Nat.le_of_ble_eq_true rfl) rfl rfl (by simp [cat]) rfl rfl
theorem E218_100 {d : Nat} {a1 a2 a3 a4 a5 a6 s0 ln0 : Int} {S : SS} {I : II} (h0 : KA S a1 20 ln0) : ev (d + 1) 218 100 [(2, 427), (2, a1), (0, a2), (0, a3), (0, a4), (0, a5), (0, a6), uU] [(0, s0)] S I = gdR (0 ≤ w (s0 + 0) ∧ w (s0 + 0) < ln0) (gdR (0 ≤ w (s0 + 1) ∧ w (s0 + 1) < ln0) (gdR (0 ≤ w (s0 + 2) ∧ w (s0 + 2) < ln0) (gdR (0 ≤ w (s0 + 3) ∧ w (s0 + 3) < ln0) (gdR (0 ≤ w (s0 + 4) ∧ w (s0 + 4) < ln0) ((ev d 212 0 [(2, a1), (0, a2), (0, 0)] [] S (up2 (up2 (up2 (up2 (up2 I a1 (w (s0 + 0)) a6) a1 (w (s0 + 1)) a3) a1 (w (s0 + 2)) a4) a1 (w (s0 + 3)) a5) a1 (w (s0 + 4)) 0)).bind (fun q => ev (d + 1) 218 149 [(2, 427), (2, a1), (0, a2), (0, a3), (0, a4), (0, a5), (0, a6), (0, s0)] (psh q.1 [(0, 0), (0, a2), (2, a1)]) q.2.1 q.2.2)))))) := by
  refine (sx_istore (al' := [(2, 427), (2, a1), (0, a2), (0, a3), (0, a4), (0, a5), (0, a6), (0, s0)]) D218_100 (Nat.le_of_ble_eq_true rfl) rfl rfl).trans ?_
  refine (sx_aload_n D218_102 rfl).trans ?_
  refine (sx_iload D218_103 rfl).trans ?_
  refine (sx_iconst D218_105).trans ?_
  refine (sx_iadd D218_106).trans ?_
  refine (sx_iload D218_107 rfl).trans ?_
  refine (sx_is D218_109 h0).trans (gdR_to fun g1 => ?_)
  refine (sx_aload_n D218_110 rfl).trans ?_
  refine (sx_iload D218_111 rfl).trans ?_
  refine (sx_iconst D218_113).trans ?_
  refine (sx_iadd D218_114).trans ?_
  refine (sx_iload_n D218_115 rfl).trans ?_
  refine (sx_is D218_116 h0).trans (gdR_to fun g2 => ?_)
  refine (sx_aload_n D218_117 rfl).trans ?_
  refine (sx_iload D218_118 rfl).trans ?_
  refine (sx_iconst D218_120).trans ?_
  refine (sx_iadd D218_121).trans ?_
  refine (sx_iload D218_122 rfl).trans ?_
  refine (sx_is D218_124 h0).trans (gdR_to fun g3 => ?_)
  refine (sx_aload_n D218_125 rfl).trans ?_
  refine (sx_iload D218_126 rfl).trans ?_
  refine (sx_iconst D218_128).trans ?_
  refine (sx_iadd D218_129).trans ?_
  refine (sx_iload D218_130 rfl).trans ?_
  refine (sx_is D218_132 h0).trans (gdR_to fun g4 => ?_)
  refine (sx_aload_n D218_133 rfl).trans ?_
  refine (sx_iload D218_134 rfl).trans ?_
  refine (sx_iconst D218_136).trans ?_
  refine (sx_iadd D218_137).trans ?_
  refine (sx_iconst D218_138).trans ?_
  refine (sx_is D218_139 h0).trans (gdR_to fun g5 => ?_)
  refine (sx_aload_n D218_140 rfl).trans ?_
  refine (sx_iload_n D218_141 rfl).trans ?_
  refine (sx_iconst D218_142).trans ?_
  refine (sx_aload_n D218_143 rfl).trans ?_
  refine (sx_iload_n D218_144 rfl).trans ?_
  refine (sx_iconst D218_145).trans ?_
  exact sx_stat (ag := [(2, a1), (0, a2), (0, 0)]) (r := [(0, 0), (0, a2), (2, a1)]) (al' := [(2, a1), (0, a2), (0, 0)]) (np := 3) (nl := 3) (q := (0, 212, 1526)) D218_146 (by decide +kernel) (by decide) mP_212 mL_212 (Nat.le_of_ble_eq_true rfl) rfl rfl (by simp [cat]) rfl rfl
theorem E218_149 {d : Nat} {a1 a2 a3 a4 a5 a6 a7 s0 s1 s2 s3 : Int} {S : SS} {I : II}  : ev (d + 1) 218 149 [(2, 427), (2, a1), (0, a2), (0, a3), (0, a4), (0, a5), (0, a6), (0, a7)] [(0, s3), (0, s2), (0, s1), (2, s0)] S I = (ev d 230 0 [(2, s0), (0, s1), (0, s2), (0, s3 + 1)] [] S I).bind (fun q => ev (d + 1) 218 154 [(2, 427), (2, a1), (0, a2), (0, a3), (0, a4), (0, a5), (0, a6), (0, a7)] (psh q.1 []) q.2.1 q.2.2) := by
  refine (sx_iconst D218_149).trans ?_
  refine (sx_iadd D218_150).trans ?_
  exact sx_stat (ag := [(2, s0), (0, s1), (0, s2), (0, s3 + 1)]) (r := []) (al' := [(2, s0), (0, s1), (0, s2), (0, s3 + 1)]) (np := 4) (nl := 4) (q := (0, 230, 1590)) D218_151 (by decide +kernel) (by decide) mP_230 mL_230 (Nat.le_of_ble_eq_true rfl) rfl rfl (by simp [cat]) rfl rfl
theorem E218_154 {d : Nat} {a1 a2 a3 a4 a5 a6 a7 : Int} {S : SS} {I : II}  : ev d 218 154 [(2, 427), (2, a1), (0, a2), (0, a3), (0, a4), (0, a5), (0, a6), (0, a7)] [] S I = some ((0, a6), S, I) := by
  refine (sx_iload D218_154 rfl).trans ?_
  exact sx_ireturn D218_156 (by decide +kernel)
theorem E219_0 {d : Nat} {a0 a1 : Int} {S : SS} {I : II}  : ev d 219 0 [(2, a0), (0, a1), uU] [] S I = ev d 219 2 [(2, a0), (0, a1), (0, 0)] [] S I := by
  refine (sx_iconst D219_0).trans ?_
  refine (sx_istore_n (al' := [(2, a0), (0, a1), (0, 0)]) D219_1 (Nat.le_of_ble_eq_true rfl) rfl rfl).trans ?_
  exact rfl
theorem E219_2 {d : Nat} {a0 a1 a2 : Int} {S : SS} {I : II}  : ev (d + 1) 219 2 [(2, a0), (0, a1), (0, a2)] [] S I = if w a2 < 16 then ((ev d 220 0 [(2, a0), (0, a1), (0, a2)] [] S I).bind (fun q => ev (d + 1) 219 14 [(2, a0), (0, a1), (0, a2)] (psh q.1 []) q.2.1 q.2.2)) else (ev (d + 1) 219 23 [(2, a0), (0, a1), (0, a2)] [] S I) := by
  refine (sx_iload_n D219_2 rfl).trans ?_
  refine (sx_bipush D219_3 (by decide)).trans ?_
  refine sx_if_ge (pc' := 23) D219_5 (by decide) (by decide) ?_ ?_ rfl (w_small (by decide) (by decide))
  · refine (sx_aload_n D219_8 rfl).trans ?_
    refine (sx_iload_n D219_9 rfl).trans ?_
    refine (sx_iload_n D219_10 rfl).trans ?_
    exact sx_stat (ag := [(2, a0), (0, a1), (0, a2)]) (r := []) (al' := [(2, a0), (0, a1), (0, a2)]) (np := 3) (nl := 3) (q := (0, 220, 1560)) D219_11 (by decide +kernel) (by decide) mP_220 mL_220 (Nat.le_of_ble_eq_true rfl) rfl rfl (by simp [cat]) rfl rfl
  · exact rfl
theorem E219_14 {d : Nat} {a0 a1 a2 s0 : Int} {S : SS} {I : II}  : ev d 219 14 [(2, a0), (0, a1), (0, a2)] [(0, s0)] S I = if w s0 = 0 then (ev d 219 23 [(2, a0), (0, a1), (0, a2)] [] S I) else (ev d 219 2 [(2, a0), (0, a1), (0, a2 + 1)] [] S I) := by
  refine sx_i0_eq (pc' := 23) D219_14 (by decide) (by decide) ?_ ?_ rfl
  · exact rfl
  · refine (sx_iinc (al' := [(2, a0), (0, a1), (0, a2 + 1)]) D219_17 rfl rfl).trans ?_
    refine (sx_goto (pc' := 2) D219_20 (by decide) (by decide)).trans ?_
    exact rfl
theorem E219_23 {d : Nat} {a0 a1 a2 : Int} {S : SS} {I : II}  : ev d 219 23 [(2, a0), (0, a1), (0, a2)] [] S I = if w a2 = 16 then (ev d 219 34 [(2, a0), (0, a1), (0, a2)] [(0, (-1))] S I) else (ev d 219 34 [(2, a0), (0, a1), (0, a2)] [(0, a2)] S I) := by
  refine (sx_iload_n D219_23 rfl).trans ?_
  refine (sx_bipush D219_24 (by decide)).trans ?_
  refine sx_if_ne (pc' := 33) D219_26 (by decide) (by decide) ?_ ?_ rfl (w_small (by decide) (by decide))
  · refine (sx_iconst D219_29).trans ?_
    refine (sx_goto (pc' := 34) D219_30 (by decide) (by decide)).trans ?_
    exact rfl
  · refine (sx_iload_n D219_33 rfl).trans ?_
    exact rfl
theorem E219_34 {d : Nat} {a0 a1 a2 s0 : Int} {S : SS} {I : II}  : ev d 219 34 [(2, a0), (0, a1), (0, a2)] [(0, s0)] S I = some ((0, s0), S, I) := by
  exact sx_ireturn D219_34 (by decide +kernel)
theorem E220_0 {d : Nat} {a0 a1 a2 : Int} {S : SS} {I : II}  : ev (d + 1) 220 0 [(2, a0), (0, a1), (0, a2)] [] S I = (ev d 221 0 [(2, a0), (0, a1), (0, a2), uU] [] S I).bind (fun q => ev (d + 1) 220 6 [(2, a0), (0, a1), (0, a2)] (psh q.1 []) q.2.1 q.2.2) := by
  refine (sx_aload_n D220_0 rfl).trans ?_
  refine (sx_iload_n D220_1 rfl).trans ?_
  refine (sx_iload_n D220_2 rfl).trans ?_
  exact sx_stat (ag := [(2, a0), (0, a1), (0, a2)]) (r := []) (al' := [(2, a0), (0, a1), (0, a2), uU]) (np := 3) (nl := 4) (q := (0, 221, 1563)) D220_3 (by decide +kernel) (by decide) mP_221 mL_221 (Nat.le_of_ble_eq_true rfl) rfl rfl (by simp [cat]) rfl rfl
theorem E220_6 {d : Nat} {a0 a1 a2 s0 : Int} {S : SS} {I : II}  : ev (d + 1) 220 6 [(2, a0), (0, a1), (0, a2)] [(0, s0)] S I = if w s0 < 0 then ((ev d 223 0 [(2, a0), (0, a1), (0, a2), uU, uU] [] S I).bind (fun q => ev (d + 1) 220 15 [(2, a0), (0, a1), (0, a2)] (psh q.1 []) q.2.1 q.2.2)) else (ev (d + 1) 220 36 [(2, a0), (0, a1), (0, a2)] [] S I) := by
  refine sx_i0_ge (pc' := 36) D220_6 (by decide) (by decide) ?_ ?_ rfl
  · refine (sx_aload_n D220_9 rfl).trans ?_
    refine (sx_iload_n D220_10 rfl).trans ?_
    refine (sx_iload_n D220_11 rfl).trans ?_
    exact sx_stat (ag := [(2, a0), (0, a1), (0, a2)]) (r := []) (al' := [(2, a0), (0, a1), (0, a2), uU, uU]) (np := 3) (nl := 5) (q := (0, 223, 1569)) D220_12 (by decide +kernel) (by decide) mP_223 mL_223 (Nat.le_of_ble_eq_true rfl) rfl rfl (by simp [cat]) rfl rfl
  · exact rfl
theorem E220_15 {d : Nat} {a0 a1 a2 s0 : Int} {S : SS} {I : II}  : ev (d + 1) 220 15 [(2, a0), (0, a1), (0, a2)] [(0, s0)] S I = if w s0 < 0 then ((ev d 226 0 [(2, a0), (0, a1), (0, a2), uU] [] S I).bind (fun q => ev (d + 1) 220 24 [(2, a0), (0, a1), (0, a2)] (psh q.1 []) q.2.1 q.2.2)) else (ev (d + 1) 220 36 [(2, a0), (0, a1), (0, a2)] [] S I) := by
  refine sx_i0_ge (pc' := 36) D220_15 (by decide) (by decide) ?_ ?_ rfl
  · refine (sx_aload_n D220_18 rfl).trans ?_
    refine (sx_iload_n D220_19 rfl).trans ?_
    refine (sx_iload_n D220_20 rfl).trans ?_
    exact sx_stat (ag := [(2, a0), (0, a1), (0, a2)]) (r := []) (al' := [(2, a0), (0, a1), (0, a2), uU]) (np := 3) (nl := 4) (q := (0, 226, 1578)) D220_21 (by decide +kernel) (by decide) mP_226 mL_226 (Nat.le_of_ble_eq_true rfl) rfl rfl (by simp [cat]) rfl rfl
  · exact rfl
theorem E220_24 {d : Nat} {a0 a1 a2 s0 : Int} {S : SS} {I : II}  : ev (d + 1) 220 24 [(2, a0), (0, a1), (0, a2)] [(0, s0)] S I = if w s0 < 0 then ((ev d 228 0 [(2, a0), (0, a1), (0, a2), uU, uU] [] S I).bind (fun q => ev (d + 1) 220 33 [(2, a0), (0, a1), (0, a2)] (psh q.1 []) q.2.1 q.2.2)) else (ev (d + 1) 220 36 [(2, a0), (0, a1), (0, a2)] [] S I) := by
  refine sx_i0_ge (pc' := 36) D220_24 (by decide) (by decide) ?_ ?_ rfl
  · refine (sx_aload_n D220_27 rfl).trans ?_
    refine (sx_iload_n D220_28 rfl).trans ?_
    refine (sx_iload_n D220_29 rfl).trans ?_
    exact sx_stat (ag := [(2, a0), (0, a1), (0, a2)]) (r := []) (al' := [(2, a0), (0, a1), (0, a2), uU, uU]) (np := 3) (nl := 5) (q := (0, 228, 1584)) D220_30 (by decide +kernel) (by decide) mP_228 mL_228 (Nat.le_of_ble_eq_true rfl) rfl rfl (by simp [cat]) rfl rfl
  · exact rfl
theorem E220_33 {d : Nat} {a0 a1 a2 s0 : Int} {S : SS} {I : II}  : ev d 220 33 [(2, a0), (0, a1), (0, a2)] [(0, s0)] S I = if w s0 = 0 then (ev d 220 41 [(2, a0), (0, a1), (0, a2)] [(0, 0)] S I) else (ev d 220 36 [(2, a0), (0, a1), (0, a2)] [] S I) := by
  refine sx_i0_eq (pc' := 40) D220_33 (by decide) (by decide) ?_ ?_ rfl
  · refine (sx_iconst D220_40).trans ?_
    exact rfl
  · exact rfl
theorem E220_36 {d : Nat} {a0 a1 a2 : Int} {S : SS} {I : II}  : ev d 220 36 [(2, a0), (0, a1), (0, a2)] [] S I = ev d 220 41 [(2, a0), (0, a1), (0, a2)] [(0, 1)] S I := by
  refine (sx_iconst D220_36).trans ?_
  refine (sx_goto (pc' := 41) D220_37 (by decide) (by decide)).trans ?_
  exact rfl
theorem E220_41 {d : Nat} {a0 a1 a2 s0 : Int} {S : SS} {I : II} (h0 : s0 = 0 ∨ s0 = 1) : ev d 220 41 [(2, a0), (0, a1), (0, a2)] [(0, s0)] S I = some ((0, s0), S, I) := by
  exact sx_zreturn D220_41 (by decide +kernel) h0
theorem E221_0 {d : Nat} {a0 a1 a2 : Int} {S : SS} {I : II}  : ev (d + 1) 221 0 [(2, a0), (0, a1), (0, a2), uU] [] S I = (ev d 212 0 [(2, a0), (0, a1), (0, 3)] [] S I).bind (fun q => ev (d + 1) 221 6 [(2, a0), (0, a1), (0, a2), uU] (psh q.1 []) q.2.1 q.2.2) := by
  refine (sx_aload_n D221_0 rfl).trans ?_
  refine (sx_iload_n D221_1 rfl).trans ?_
  refine (sx_iconst D221_2).trans ?_
  exact sx_stat (ag := [(2, a0), (0, a1), (0, 3)]) (r := []) (al' := [(2, a0), (0, a1), (0, 3)]) (np := 3) (nl := 3) (q := (0, 212, 1526)) D221_3 (by decide +kernel) (by decide) mP_212 mL_212 (Nat.le_of_ble_eq_true rfl) rfl rfl (by simp [cat]) rfl rfl
theorem E221_6 {d : Nat} {a0 a1 a2 s0 : Int} {S : SS} {I : II}  : ev d 221 6 [(2, a0), (0, a1), (0, a2), uU] [(0, s0)] S I = ev d 221 7 [(2, a0), (0, a1), (0, a2), (0, s0)] [] S I := by
  refine (sx_istore_n (al' := [(2, a0), (0, a1), (0, a2), (0, s0)]) D221_6 (Nat.le_of_ble_eq_true rfl) rfl rfl).trans ?_
  exact rfl
theorem E221_7 {d : Nat} {a0 a1 a2 a3 : Int} {S : SS} {I : II}  : ev (d + 1) 221 7 [(2, a0), (0, a1), (0, a2), (0, a3)] [] S I = (ev d 212 0 [(2, a0), (0, a1), (0, 0)] [] S I).bind (fun q => ev (d + 1) 221 14 [(2, a0), (0, a1), (0, a2), (0, a3)] (psh q.1 [(0, a3)]) q.2.1 q.2.2) := by
  refine (sx_iload_n D221_7 rfl).trans ?_
  refine (sx_aload_n D221_8 rfl).trans ?_
  refine (sx_iload_n D221_9 rfl).trans ?_
  refine (sx_iconst D221_10).trans ?_
  exact sx_stat (ag := [(2, a0), (0, a1), (0, 0)]) (r := [(0, a3)]) (al' := [(2, a0), (0, a1), (0, 0)]) (np := 3) (nl := 3) (q := (0, 212, 1526)) D221_11 (by decide +kernel) (by decide) mP_212 mL_212 (Nat.le_of_ble_eq_true rfl) rfl rfl (by simp [cat]) rfl rfl
theorem E221_14 {d : Nat} {a0 a1 a2 a3 s0 s1 : Int} {S : SS} {I : II}  : ev (d + 1) 221 14 [(2, a0), (0, a1), (0, a2), (0, a3)] [(0, s1), (0, s0)] S I = if w s0 < w s1 then ((ev d 222 0 [(0, a1), (0, a3)] [] S I).bind (fun q => ev (d + 1) 221 23 [(2, a0), (0, a1), (0, a2), (0, a3)] (psh q.1 [(2, a0)]) q.2.1 q.2.2)) else (some ((0, (-1)), S, I)) := by
  refine sx_if_ge (pc' := 45) D221_14 (by decide) (by decide) ?_ ?_ rfl rfl
  · refine (sx_aload_n D221_17 rfl).trans ?_
    refine (sx_iload_n D221_18 rfl).trans ?_
    refine (sx_iload_n D221_19 rfl).trans ?_
    exact sx_stat (ag := [(0, a1), (0, a3)]) (r := [(2, a0)]) (al' := [(0, a1), (0, a3)]) (np := 2) (nl := 2) (q := (0, 222, 1566)) D221_20 (by decide +kernel) (by decide) mP_222 mL_222 (Nat.le_of_ble_eq_true rfl) rfl rfl (by simp [cat]) rfl rfl
  · refine (sx_iconst D221_45).trans ?_
    exact sx_ireturn D221_46 (by decide +kernel)
theorem E221_23 {d : Nat} {a0 a1 a2 a3 s0 s1 ln0 : Int} {S : SS} {I : II} (h0 : KA S s0 20 ln0) : ev (d + 1) 221 23 [(2, a0), (0, a1), (0, a2), (0, a3)] [(0, s1), (2, s0)] S I = gdR (0 ≤ w (s1 + 0) ∧ w (s1 + 0) < ln0) (if w (I s0 (w (s1 + 0))) = w a2 then ((ev d 212 0 [(2, a0), (0, a1), (0, 3)] [] S I).bind (fun q => ev (d + 1) 221 37 [(2, a0), (0, a1), (0, a2), (0, a3)] (psh q.1 [(0, a3)]) q.2.1 q.2.2)) else (ev (d + 1) 221 7 [(2, a0), (0, a1), (0, a2), (0, a3 + 1)] [] S I)) := by
  refine (sx_iconst D221_23).trans ?_
  refine (sx_iadd D221_24).trans ?_
  refine (sx_ia D221_25 h0 rfl).trans (gdR_to fun g1 => ?_)
  refine (sx_iload_n D221_26 rfl).trans ?_
  refine sx_if_ne (pc' := 39) D221_27 (by decide) (by decide) ?_ ?_ rfl rfl
  · refine (sx_iload_n D221_30 rfl).trans ?_
    refine (sx_aload_n D221_31 rfl).trans ?_
    refine (sx_iload_n D221_32 rfl).trans ?_
    refine (sx_iconst D221_33).trans ?_
    exact sx_stat (ag := [(2, a0), (0, a1), (0, 3)]) (r := [(0, a3)]) (al' := [(2, a0), (0, a1), (0, 3)]) (np := 3) (nl := 3) (q := (0, 212, 1526)) D221_34 (by decide +kernel) (by decide) mP_212 mL_212 (Nat.le_of_ble_eq_true rfl) rfl rfl (by simp [cat]) rfl rfl
  · refine (sx_iinc (al' := [(2, a0), (0, a1), (0, a2), (0, a3 + 1)]) D221_39 rfl rfl).trans ?_
    refine (sx_goto (pc' := 7) D221_42 (by decide) (by decide)).trans ?_
    exact rfl
theorem E221_37 {d : Nat} {a0 a1 a2 a3 s0 s1 : Int} {S : SS} {I : II}  : ev d 221 37 [(2, a0), (0, a1), (0, a2), (0, a3)] [(0, s1), (0, s0)] S I = some ((0, s0 - s1), S, I) := by
  refine (sx_isub D221_37).trans ?_
  exact sx_ireturn D221_38 (by decide +kernel)
theorem E222_0 {d : Nat} {a0 a1 : Int} {S : SS} {I : II}  : ev d 222 0 [(0, a0), (0, a1)] [] S I = some ((0, ((89 * a0) + 9) + (5 * (iRem a1 8))), S, I) := by
  refine (sx_bipush D222_0 (by decide)).trans ?_
  refine (sx_iload_n D222_2 rfl).trans ?_
  refine (sx_imul D222_3).trans ?_
  refine (sx_bipush D222_4 (by decide)).trans ?_
  refine (sx_iadd D222_6).trans ?_
  refine (sx_iconst D222_7).trans ?_
  refine (sx_iload_n D222_8 rfl).trans ?_
  refine (sx_bipush D222_9 (by decide)).trans ?_
  refine ((sx_irem D222_11).trans (gdR_pos (by decide))).trans ?_
  refine (sx_imul D222_12).trans ?_
  refine (sx_iadd D222_13).trans ?_
  exact sx_ireturn D222_14 (by decide +kernel)
theorem E223_0 {d : Nat} {a0 a1 a2 : Int} {S : SS} {I : II}  : ev d 223 0 [(2, a0), (0, a1), (0, a2), uU, uU] [] S I = ev d 223 2 [(2, a0), (0, a1), (0, a2), (0, 0), uU] [] S I := by
  refine (sx_iconst D223_0).trans ?_
  refine (sx_istore_n (al' := [(2, a0), (0, a1), (0, a2), (0, 0), uU]) D223_1 (Nat.le_of_ble_eq_true rfl) rfl rfl).trans ?_
  exact rfl
theorem E223_2 {d : Nat} {a0 a1 a2 a3 ln0 : Int} {a4 : AV} {S : SS} {I : II} (h0 : KA S a0 20 ln0) : ev (d + 1) 223 2 [(2, a0), (0, a1), (0, a2), (0, a3), a4] [] S I = gdR (0 ≤ w 493 ∧ w 493 < ln0) (if w a3 < w (I a0 (w 493)) then ((ev d 224 0 [(0, a3)] [] S I).bind (fun q => ev (d + 1) 223 16 [(2, a0), (0, a1), (0, a2), (0, a3), a4] (psh q.1 [(2, a0)]) q.2.1 q.2.2)) else (some ((0, (-1)), S, I))) := by
  refine (sx_iload_n D223_2 rfl).trans ?_
  refine (sx_aload_n D223_3 rfl).trans ?_
  refine (sx_sipush D223_4 (by decide)).trans ?_
  refine (sx_ia D223_7 h0 rfl).trans (gdR_to fun g1 => ?_)
  refine sx_if_ge (pc' := 80) D223_8 (by decide) (by decide) ?_ ?_ rfl rfl
  · refine (sx_aload_n D223_11 rfl).trans ?_
    refine (sx_iload_n D223_12 rfl).trans ?_
    exact sx_stat (ag := [(0, a3)]) (r := [(2, a0)]) (al' := [(0, a3)]) (np := 1) (nl := 1) (q := (0, 224, 1572)) D223_13 (by decide +kernel) (by decide) mP_224 mL_224 (Nat.le_of_ble_eq_true rfl) rfl rfl (by simp [cat]) rfl rfl
  · refine (sx_iconst D223_80).trans ?_
    exact sx_ireturn D223_81 (by decide +kernel)
theorem E223_16 {d : Nat} {a0 a1 a2 a3 s0 s1 ln0 : Int} {a4 : AV} {S : SS} {I : II} (h0 : KA S s0 20 ln0) : ev (d + 1) 223 16 [(2, a0), (0, a1), (0, a2), (0, a3), a4] [(0, s1), (2, s0)] S I = gdR (0 ≤ w ((s1 + 1) + 0) ∧ w ((s1 + 1) + 0) < ln0) (if w (I s0 (w ((s1 + 1) + 0))) = w a2 then (ev (d + 1) 223 48 [(2, a0), (0, a1), (0, a2), (0, a3), a4] [] S I) else ((ev d 225 0 [(2, a0), (0, a3)] [] S I).bind (fun q => ev (d + 1) 223 30 [(2, a0), (0, a1), (0, a2), (0, a3), a4] (psh q.1 []) q.2.1 q.2.2))) := by
  refine (sx_iconst D223_16).trans ?_
  refine (sx_iadd D223_17).trans ?_
  refine (sx_iconst D223_18).trans ?_
  refine (sx_iadd D223_19).trans ?_
  refine (sx_ia D223_20 h0 rfl).trans (gdR_to fun g1 => ?_)
  refine (sx_iload_n D223_21 rfl).trans ?_
  refine sx_if_eq (pc' := 48) D223_22 (by decide) (by decide) ?_ ?_ rfl rfl
  · exact rfl
  · refine (sx_aload_n D223_25 rfl).trans ?_
    refine (sx_iload_n D223_26 rfl).trans ?_
    exact sx_stat (ag := [(2, a0), (0, a3)]) (r := []) (al' := [(2, a0), (0, a3)]) (np := 2) (nl := 2) (q := (0, 225, 1575)) D223_27 (by decide +kernel) (by decide) mP_225 mL_225 (Nat.le_of_ble_eq_true rfl) rfl rfl (by simp [cat]) rfl rfl
theorem E223_30 {d : Nat} {a0 a1 a2 a3 s0 : Int} {a4 : AV} {S : SS} {I : II}  : ev (d + 1) 223 30 [(2, a0), (0, a1), (0, a2), (0, a3), a4] [(0, s0)] S I = if w s0 = 0 then (ev (d + 1) 223 52 [(2, a0), (0, a1), (0, a2), (0, a3), a4] [] S I) else ((ev d 224 0 [(0, a3)] [] S I).bind (fun q => ev (d + 1) 223 38 [(2, a0), (0, a1), (0, a2), (0, a3), a4] (psh q.1 [(2, a0)]) q.2.1 q.2.2)) := by
  refine sx_i0_eq (pc' := 52) D223_30 (by decide) (by decide) ?_ ?_ rfl
  · exact rfl
  · refine (sx_aload_n D223_33 rfl).trans ?_
    refine (sx_iload_n D223_34 rfl).trans ?_
    exact sx_stat (ag := [(0, a3)]) (r := [(2, a0)]) (al' := [(0, a3)]) (np := 1) (nl := 1) (q := (0, 224, 1572)) D223_35 (by decide +kernel) (by decide) mP_224 mL_224 (Nat.le_of_ble_eq_true rfl) rfl rfl (by simp [cat]) rfl rfl
theorem E223_38 {d : Nat} {a0 a1 a2 a3 s0 s1 ln0 : Int} {a4 : AV} {S : SS} {I : II} (h0 : KA S s0 20 ln0) : ev d 223 38 [(2, a0), (0, a1), (0, a2), (0, a3), a4] [(0, s1), (2, s0)] S I = gdR (0 ≤ w ((s1 + 6) + 0) ∧ w ((s1 + 6) + 0) < ln0) (if w (I s0 (w ((s1 + 6) + 0))) = w a2 then (ev d 223 48 [(2, a0), (0, a1), (0, a2), (0, a3), a4] [] S I) else (ev d 223 52 [(2, a0), (0, a1), (0, a2), (0, a3), a4] [] S I)) := by
  refine (sx_bipush D223_38 (by decide)).trans ?_
  refine (sx_iadd D223_40).trans ?_
  refine (sx_iconst D223_41).trans ?_
  refine (sx_iadd D223_42).trans ?_
  refine (sx_ia D223_43 h0 rfl).trans (gdR_to fun g1 => ?_)
  refine (sx_iload_n D223_44 rfl).trans ?_
  refine sx_if_ne (pc' := 52) D223_45 (by decide) (by decide) ?_ ?_ rfl rfl
  · exact rfl
  · exact rfl
theorem E223_48 {d : Nat} {a0 a1 a2 a3 : Int} {a4 : AV} {S : SS} {I : II}  : ev d 223 48 [(2, a0), (0, a1), (0, a2), (0, a3), a4] [] S I = ev d 223 53 [(2, a0), (0, a1), (0, a2), (0, a3), a4] [(0, 1)] S I := by
  refine (sx_iconst D223_48).trans ?_
  refine (sx_goto (pc' := 53) D223_49 (by decide) (by decide)).trans ?_
  exact rfl
theorem E223_52 {d : Nat} {a0 a1 a2 a3 : Int} {a4 : AV} {S : SS} {I : II}  : ev d 223 52 [(2, a0), (0, a1), (0, a2), (0, a3), a4] [] S I = ev d 223 53 [(2, a0), (0, a1), (0, a2), (0, a3), a4] [(0, 0)] S I := by
  refine (sx_iconst D223_52).trans ?_
  exact rfl
theorem E223_53 {d : Nat} {a0 a1 a2 a3 s0 : Int} {a4 : AV} {S : SS} {I : II}  : ev (d + 1) 223 53 [(2, a0), (0, a1), (0, a2), (0, a3), a4] [(0, s0)] S I = (ev d 224 0 [(0, a3)] [] S I).bind (fun q => ev (d + 1) 223 60 [(2, a0), (0, a1), (0, a2), (0, a3), (0, s0)] (psh q.1 [(2, a0)]) q.2.1 q.2.2) := by
  refine (sx_istore (al' := [(2, a0), (0, a1), (0, a2), (0, a3), (0, s0)]) D223_53 (Nat.le_of_ble_eq_true rfl) rfl rfl).trans ?_
  refine (sx_aload_n D223_55 rfl).trans ?_
  refine (sx_iload_n D223_56 rfl).trans ?_
  exact sx_stat (ag := [(0, a3)]) (r := [(2, a0)]) (al' := [(0, a3)]) (np := 1) (nl := 1) (q := (0, 224, 1572)) D223_57 (by decide +kernel) (by decide) mP_224 mL_224 (Nat.le_of_ble_eq_true rfl) rfl rfl (by simp [cat]) rfl rfl
theorem E223_60 {d : Nat} {a0 a1 a2 a3 a4 s0 s1 ln0 : Int} {S : SS} {I : II} (h0 : KA S s0 20 ln0) : ev d 223 60 [(2, a0), (0, a1), (0, a2), (0, a3), (0, a4)] [(0, s1), (2, s0)] S I = gdR (0 ≤ w (s1 + 0) ∧ w (s1 + 0) < ln0) (if w (I s0 (w (s1 + 0))) = w a1 then (if w a4 = 0 then (ev d 223 74 [(2, a0), (0, a1), (0, a2), (0, a3), (0, a4)] [] S I) else (some ((0, a3), S, I))) else (ev d 223 74 [(2, a0), (0, a1), (0, a2), (0, a3), (0, a4)] [] S I)) := by
  refine (sx_iconst D223_60).trans ?_
  refine (sx_iadd D223_61).trans ?_
  refine (sx_ia D223_62 h0 rfl).trans (gdR_to fun g1 => ?_)
  refine (sx_iload_n D223_63 rfl).trans ?_
  refine sx_if_ne (pc' := 74) D223_64 (by decide) (by decide) ?_ ?_ rfl rfl
  · refine (sx_iload D223_67 rfl).trans ?_
    refine sx_i0_eq (pc' := 74) D223_69 (by decide) (by decide) ?_ ?_ rfl
    · exact rfl
    · refine (sx_iload_n D223_72 rfl).trans ?_
      exact sx_ireturn D223_73 (by decide +kernel)
  · exact rfl
theorem E223_74 {d : Nat} {a0 a1 a2 a3 a4 : Int} {S : SS} {I : II}  : ev d 223 74 [(2, a0), (0, a1), (0, a2), (0, a3), (0, a4)] [] S I = ev d 223 2 [(2, a0), (0, a1), (0, a2), (0, a3 + 1), (0, a4)] [] S I := by
  refine (sx_iinc (al' := [(2, a0), (0, a1), (0, a2), (0, a3 + 1), (0, a4)]) D223_74 rfl rfl).trans ?_
  refine (sx_goto (pc' := 2) D223_77 (by decide) (by decide)).trans ?_
  exact rfl
theorem E224_0 {d : Nat} {a0 : Int} {S : SS} {I : II}  : ev d 224 0 [(0, a0)] [] S I = some ((0, 445 + (12 * a0)), S, I) := by
  refine (sx_sipush D224_0 (by decide)).trans ?_
  refine (sx_bipush D224_3 (by decide)).trans ?_
  refine (sx_iload_n D224_5 rfl).trans ?_
  refine (sx_imul D224_6).trans ?_
  refine (sx_iadd D224_7).trans ?_
  exact sx_ireturn D224_8 (by decide +kernel)
theorem E225_0 {d : Nat} {a0 a1 : Int} {S : SS} {I : II}  : ev (d + 1) 225 0 [(2, a0), (0, a1)] [] S I = (ev d 224 0 [(0, a1)] [] S I).bind (fun q => ev (d + 1) 225 5 [(2, a0), (0, a1)] (psh q.1 [(2, a0)]) q.2.1 q.2.2) := by
  refine (sx_aload_n D225_0 rfl).trans ?_
  refine (sx_iload_n D225_1 rfl).trans ?_
  exact sx_stat (ag := [(0, a1)]) (r := [(2, a0)]) (al' := [(0, a1)]) (np := 1) (nl := 1) (q := (0, 224, 1572)) D225_2 (by decide +kernel) (by decide) mP_224 mL_224 (Nat.le_of_ble_eq_true rfl) rfl rfl (by simp [cat]) rfl rfl
theorem E225_5 {d : Nat} {a0 a1 s0 s1 ln0 : Int} {S : SS} {I : II} (h0 : KA S s0 20 ln0) : ev d 225 5 [(2, a0), (0, a1)] [(0, s1), (2, s0)] S I = gdR (0 ≤ w ((s1 + 6) + 1) ∧ w ((s1 + 6) + 1) < ln0) (if w (I s0 (w ((s1 + 6) + 1))) < 0 then (ev d 225 19 [(2, a0), (0, a1)] [(0, 0)] S I) else (ev d 225 19 [(2, a0), (0, a1)] [(0, 1)] S I)) := by
  refine (sx_bipush D225_5 (by decide)).trans ?_
  refine (sx_iadd D225_7).trans ?_
  refine (sx_iconst D225_8).trans ?_
  refine (sx_iadd D225_9).trans ?_
  refine (sx_ia D225_10 h0 rfl).trans (gdR_to fun g1 => ?_)
  refine sx_i0_lt (pc' := 18) D225_11 (by decide) (by decide) ?_ ?_ rfl
  · refine (sx_iconst D225_18).trans ?_
    exact rfl
  · refine (sx_iconst D225_14).trans ?_
    refine (sx_goto (pc' := 19) D225_15 (by decide) (by decide)).trans ?_
    exact rfl
theorem E225_19 {d : Nat} {a0 a1 s0 : Int} {S : SS} {I : II} (h0 : s0 = 0 ∨ s0 = 1) : ev d 225 19 [(2, a0), (0, a1)] [(0, s0)] S I = some ((0, s0), S, I) := by
  exact sx_zreturn D225_19 (by decide +kernel) h0
theorem E226_0 {d : Nat} {a0 a1 a2 : Int} {S : SS} {I : II}  : ev d 226 0 [(2, a0), (0, a1), (0, a2), uU] [] S I = ev d 226 2 [(2, a0), (0, a1), (0, a2), (0, 0)] [] S I := by
  refine (sx_iconst D226_0).trans ?_
  refine (sx_istore_n (al' := [(2, a0), (0, a1), (0, a2), (0, 0)]) D226_1 (Nat.le_of_ble_eq_true rfl) rfl rfl).trans ?_
  exact rfl
theorem E226_2 {d : Nat} {a0 a1 a2 a3 ln0 : Int} {S : SS} {I : II} (h0 : KA S a0 20 ln0) : ev (d + 1) 226 2 [(2, a0), (0, a1), (0, a2), (0, a3)] [] S I = gdR (0 ≤ w 814 ∧ w 814 < ln0) (if w a3 < w (I a0 (w 814)) then ((ev d 227 0 [(0, a3)] [] S I).bind (fun q => ev (d + 1) 226 16 [(2, a0), (0, a1), (0, a2), (0, a3)] (psh q.1 [(2, a0)]) q.2.1 q.2.2)) else (some ((0, (-1)), S, I))) := by
  refine (sx_iload_n D226_2 rfl).trans ?_
  refine (sx_aload_n D226_3 rfl).trans ?_
  refine (sx_sipush D226_4 (by decide)).trans ?_
  refine (sx_ia D226_7 h0 rfl).trans (gdR_to fun g1 => ?_)
  refine sx_if_ge (pc' := 43) D226_8 (by decide) (by decide) ?_ ?_ rfl rfl
  · refine (sx_aload_n D226_11 rfl).trans ?_
    refine (sx_iload_n D226_12 rfl).trans ?_
    exact sx_stat (ag := [(0, a3)]) (r := [(2, a0)]) (al' := [(0, a3)]) (np := 1) (nl := 1) (q := (0, 227, 1581)) D226_13 (by decide +kernel) (by decide) mP_227 mL_227 (Nat.le_of_ble_eq_true rfl) rfl rfl (by simp [cat]) rfl rfl
  · refine (sx_iconst D226_43).trans ?_
    exact sx_ireturn D226_44 (by decide +kernel)
theorem E226_16 {d : Nat} {a0 a1 a2 a3 s0 s1 ln0 : Int} {S : SS} {I : II} (h0 : KA S s0 20 ln0) : ev (d + 1) 226 16 [(2, a0), (0, a1), (0, a2), (0, a3)] [(0, s1), (2, s0)] S I = gdR (0 ≤ w (s1 + 0) ∧ w (s1 + 0) < ln0) (if w (I s0 (w (s1 + 0))) = w a1 then ((ev d 227 0 [(0, a3)] [] S I).bind (fun q => ev (d + 1) 226 28 [(2, a0), (0, a1), (0, a2), (0, a3)] (psh q.1 [(2, a0)]) q.2.1 q.2.2)) else (ev (d + 1) 226 37 [(2, a0), (0, a1), (0, a2), (0, a3)] [] S I)) := by
  refine (sx_iconst D226_16).trans ?_
  refine (sx_iadd D226_17).trans ?_
  refine (sx_ia D226_18 h0 rfl).trans (gdR_to fun g1 => ?_)
  refine (sx_iload_n D226_19 rfl).trans ?_
  refine sx_if_ne (pc' := 37) D226_20 (by decide) (by decide) ?_ ?_ rfl rfl
  · refine (sx_aload_n D226_23 rfl).trans ?_
    refine (sx_iload_n D226_24 rfl).trans ?_
    exact sx_stat (ag := [(0, a3)]) (r := [(2, a0)]) (al' := [(0, a3)]) (np := 1) (nl := 1) (q := (0, 227, 1581)) D226_25 (by decide +kernel) (by decide) mP_227 mL_227 (Nat.le_of_ble_eq_true rfl) rfl rfl (by simp [cat]) rfl rfl
  · exact rfl
theorem E226_28 {d : Nat} {a0 a1 a2 a3 s0 s1 ln0 : Int} {S : SS} {I : II} (h0 : KA S s0 20 ln0) : ev d 226 28 [(2, a0), (0, a1), (0, a2), (0, a3)] [(0, s1), (2, s0)] S I = gdR (0 ≤ w (s1 + 1) ∧ w (s1 + 1) < ln0) (if w (I s0 (w (s1 + 1))) = w a2 then (some ((0, a3), S, I)) else (ev d 226 37 [(2, a0), (0, a1), (0, a2), (0, a3)] [] S I)) := by
  refine (sx_iconst D226_28).trans ?_
  refine (sx_iadd D226_29).trans ?_
  refine (sx_ia D226_30 h0 rfl).trans (gdR_to fun g1 => ?_)
  refine (sx_iload_n D226_31 rfl).trans ?_
  refine sx_if_ne (pc' := 37) D226_32 (by decide) (by decide) ?_ ?_ rfl rfl
  · refine (sx_iload_n D226_35 rfl).trans ?_
    exact sx_ireturn D226_36 (by decide +kernel)
  · exact rfl
theorem E226_37 {d : Nat} {a0 a1 a2 a3 : Int} {S : SS} {I : II}  : ev d 226 37 [(2, a0), (0, a1), (0, a2), (0, a3)] [] S I = ev d 226 2 [(2, a0), (0, a1), (0, a2), (0, a3 + 1)] [] S I := by
  refine (sx_iinc (al' := [(2, a0), (0, a1), (0, a2), (0, a3 + 1)]) D226_37 rfl rfl).trans ?_
  refine (sx_goto (pc' := 2) D226_40 (by decide) (by decide)).trans ?_
  exact rfl
theorem E227_0 {d : Nat} {a0 : Int} {S : SS} {I : II}  : ev d 227 0 [(0, a0)] [] S I = some ((0, 494 + (4 * a0)), S, I) := by
  refine (sx_sipush D227_0 (by decide)).trans ?_
  refine (sx_iconst D227_3).trans ?_
  refine (sx_iload_n D227_4 rfl).trans ?_
  refine (sx_imul D227_5).trans ?_
  refine (sx_iadd D227_6).trans ?_
  exact sx_ireturn D227_7 (by decide +kernel)
theorem E228_0 {d : Nat} {a0 a1 a2 : Int} {S : SS} {I : II}  : ev (d + 1) 228 0 [(2, a0), (0, a1), (0, a2), uU, uU] [] S I = (ev d 212 0 [(2, a0), (0, a1), (0, 6)] [] S I).bind (fun q => ev (d + 1) 228 9 [(2, a0), (0, a1), (0, a2), (0, 0), uU] (psh q.1 []) q.2.1 q.2.2) := by
  refine (sx_iconst D228_0).trans ?_
  refine (sx_istore_n (al' := [(2, a0), (0, a1), (0, a2), (0, 0), uU]) D228_1 (Nat.le_of_ble_eq_true rfl) rfl rfl).trans ?_
  refine (sx_aload_n D228_2 rfl).trans ?_
  refine (sx_iload_n D228_3 rfl).trans ?_
  refine (sx_bipush D228_4 (by decide)).trans ?_
  exact sx_stat (ag := [(2, a0), (0, a1), (0, 6)]) (r := []) (al' := [(2, a0), (0, a1), (0, 6)]) (np := 3) (nl := 3) (q := (0, 212, 1526)) D228_6 (by decide +kernel) (by decide) mP_212 mL_212 (Nat.le_of_ble_eq_true rfl) rfl rfl (by simp [cat]) rfl rfl
theorem E228_9 {d : Nat} {a0 a1 a2 a3 s0 : Int} {S : SS} {I : II}  : ev d 228 9 [(2, a0), (0, a1), (0, a2), (0, a3), uU] [(0, s0)] S I = ev d 228 11 [(2, a0), (0, a1), (0, a2), (0, a3), (0, s0)] [] S I := by
  refine (sx_istore (al' := [(2, a0), (0, a1), (0, a2), (0, a3), (0, s0)]) D228_9 (Nat.le_of_ble_eq_true rfl) rfl rfl).trans ?_
  exact rfl
theorem E228_11 {d : Nat} {a0 a1 a2 a3 a4 : Int} {S : SS} {I : II}  : ev (d + 1) 228 11 [(2, a0), (0, a1), (0, a2), (0, a3), (0, a4)] [] S I = (ev d 212 0 [(2, a0), (0, a1), (0, 5)] [] S I).bind (fun q => ev (d + 1) 228 19 [(2, a0), (0, a1), (0, a2), (0, a3), (0, a4)] (psh q.1 [(0, a4)]) q.2.1 q.2.2) := by
  refine (sx_iload D228_11 rfl).trans ?_
  refine (sx_aload_n D228_13 rfl).trans ?_
  refine (sx_iload_n D228_14 rfl).trans ?_
  refine (sx_iconst D228_15).trans ?_
  exact sx_stat (ag := [(2, a0), (0, a1), (0, 5)]) (r := [(0, a4)]) (al' := [(2, a0), (0, a1), (0, 5)]) (np := 3) (nl := 3) (q := (0, 212, 1526)) D228_16 (by decide +kernel) (by decide) mP_212 mL_212 (Nat.le_of_ble_eq_true rfl) rfl rfl (by simp [cat]) rfl rfl
theorem E228_19 {d : Nat} {a0 a1 a2 a3 a4 s0 s1 : Int} {S : SS} {I : II} (h0 : a3 = 0 ∨ a3 = 1) : ev (d + 1) 228 19 [(2, a0), (0, a1), (0, a2), (0, a3), (0, a4)] [(0, s1), (0, s0)] S I = if w s0 < w s1 then (if w a3 = 0 then ((ev d 229 0 [(0, a1), (0, a4)] [] S I).bind (fun q => ev (d + 1) 228 33 [(2, a0), (0, a1), (0, a2), (0, a3), (0, a4)] (psh q.1 [(2, a0)]) q.2.1 q.2.2)) else (ev (d + 1) 228 40 [(2, a0), (0, a1), (0, a2), (0, a3), (0, a4)] [] S I)) else (some ((0, a3), S, I)) := by
  refine sx_if_ge (pc' := 52) D228_19 (by decide) (by decide) ?_ ?_ rfl rfl
  · refine (sx_iload_n D228_22 rfl).trans ?_
    refine sx_i0_ne (pc' := 40) D228_23 (by decide) (by decide) ?_ ?_ rfl
    · refine (sx_aload_n D228_26 rfl).trans ?_
      refine (sx_iload_n D228_27 rfl).trans ?_
      refine (sx_iload D228_28 rfl).trans ?_
      exact sx_stat (ag := [(0, a1), (0, a4)]) (r := [(2, a0)]) (al' := [(0, a1), (0, a4)]) (np := 2) (nl := 2) (q := (0, 229, 1587)) D228_30 (by decide +kernel) (by decide) mP_229 mL_229 (Nat.le_of_ble_eq_true rfl) rfl rfl (by simp [cat]) rfl rfl
    · exact rfl
  · refine (sx_iload_n D228_52 rfl).trans ?_
    exact sx_zreturn D228_53 (by decide +kernel) h0
theorem E228_33 {d : Nat} {a0 a1 a2 a3 a4 s0 s1 ln0 : Int} {S : SS} {I : II} (h0 : KA S s0 20 ln0) : ev d 228 33 [(2, a0), (0, a1), (0, a2), (0, a3), (0, a4)] [(0, s1), (2, s0)] S I = gdR (0 ≤ w (s1 + 0) ∧ w (s1 + 0) < ln0) (if w (I s0 (w (s1 + 0))) = w a2 then (ev d 228 40 [(2, a0), (0, a1), (0, a2), (0, a3), (0, a4)] [] S I) else (ev d 228 45 [(2, a0), (0, a1), (0, a2), (0, a3), (0, a4)] [(0, 0)] S I)) := by
  refine (sx_iconst D228_33).trans ?_
  refine (sx_iadd D228_34).trans ?_
  refine (sx_ia D228_35 h0 rfl).trans (gdR_to fun g1 => ?_)
  refine (sx_iload_n D228_36 rfl).trans ?_
  refine sx_if_ne (pc' := 44) D228_37 (by decide) (by decide) ?_ ?_ rfl rfl
  · exact rfl
  · refine (sx_iconst D228_44).trans ?_
    exact rfl
theorem E228_40 {d : Nat} {a0 a1 a2 a3 a4 : Int} {S : SS} {I : II}  : ev d 228 40 [(2, a0), (0, a1), (0, a2), (0, a3), (0, a4)] [] S I = ev d 228 45 [(2, a0), (0, a1), (0, a2), (0, a3), (0, a4)] [(0, 1)] S I := by
  refine (sx_iconst D228_40).trans ?_
  refine (sx_goto (pc' := 45) D228_41 (by decide) (by decide)).trans ?_
  exact rfl
theorem E228_45 {d : Nat} {a0 a1 a2 a3 a4 s0 : Int} {S : SS} {I : II}  : ev d 228 45 [(2, a0), (0, a1), (0, a2), (0, a3), (0, a4)] [(0, s0)] S I = ev d 228 11 [(2, a0), (0, a1), (0, a2), (0, s0), (0, a4 + 1)] [] S I := by
  refine (sx_istore_n (al' := [(2, a0), (0, a1), (0, a2), (0, s0), (0, a4)]) D228_45 (Nat.le_of_ble_eq_true rfl) rfl rfl).trans ?_
  refine (sx_iinc (al' := [(2, a0), (0, a1), (0, a2), (0, s0), (0, a4 + 1)]) D228_46 rfl rfl).trans ?_
  refine (sx_goto (pc' := 11) D228_49 (by decide) (by decide)).trans ?_
  exact rfl
theorem E229_0 {d : Nat} {a0 a1 : Int} {S : SS} {I : II}  : ev d 229 0 [(0, a0), (0, a1)] [] S I = some ((0, ((89 * a0) + 49) + (5 * (iRem a1 8))), S, I) := by
  refine (sx_bipush D229_0 (by decide)).trans ?_
  refine (sx_iload_n D229_2 rfl).trans ?_
  refine (sx_imul D229_3).trans ?_
  refine (sx_bipush D229_4 (by decide)).trans ?_
  refine (sx_iadd D229_6).trans ?_
  refine (sx_iconst D229_7).trans ?_
  refine (sx_iload_n D229_8 rfl).trans ?_
  refine (sx_bipush D229_9 (by decide)).trans ?_
  refine ((sx_irem D229_11).trans (gdR_pos (by decide))).trans ?_
  refine (sx_imul D229_12).trans ?_
  refine (sx_iadd D229_13).trans ?_
  exact sx_ireturn D229_14 (by decide +kernel)
theorem E230_0 {d : Nat} {a0 a1 a2 a3 ln0 : Int} {S : SS} {I : II} (h0 : KA S a0 20 ln0) : ev d 230 0 [(2, a0), (0, a1), (0, a2), (0, a3)] [] S I = gdR (0 ≤ w ((89 * a1) + a2) ∧ w ((89 * a1) + a2) < ln0) (some (uU, S, (up2 I a0 (w ((89 * a1) + a2)) a3))) := by
  refine (sx_aload_n D230_0 rfl).trans ?_
  refine (sx_bipush D230_1 (by decide)).trans ?_
  refine (sx_iload_n D230_3 rfl).trans ?_
  refine (sx_imul D230_4).trans ?_
  refine (sx_iload_n D230_5 rfl).trans ?_
  refine (sx_iadd D230_6).trans ?_
  refine (sx_iload_n D230_7 rfl).trans ?_
  refine (sx_is D230_8 h0).trans (gdR_to fun g1 => ?_)
  exact sx_return D230_9 (by decide +kernel)
theorem E231_0 {d : Nat} {a1 : Int} {S : SS} {I : II} (h0 : MA S 427) : ev (d + 1) 231 0 [(2, 427), (0, a1)] [] S I = if w a1 < 0 then (ev (d + 1) 231 13 [(2, 427), (0, a1)] [(0, a1)] S I) else ((ev d 232 0 [(2, 427), (0, a1), uU] [] S I).bind (fun q => ev (d + 1) 231 13 [(2, 427), (0, a1)] (psh q.1 []) q.2.1 q.2.2)) := by
  refine (sx_iload_n D231_0 rfl).trans ?_
  refine sx_i0_ge (pc' := 8) D231_1 (by decide) (by decide) ?_ ?_ rfl
  · refine (sx_iload_n D231_4 rfl).trans ?_
    refine (sx_goto (pc' := 13) D231_5 (by decide) (by decide)).trans ?_
    exact rfl
  · refine (sx_aload_n D231_8 rfl).trans ?_
    refine (sx_iload_n D231_9 rfl).trans ?_
    exact sx_virt (c := 11) (ag := [(2, 427), (0, a1)]) (r := []) (al' := [(2, 427), (0, a1), uU]) (np := 1) (nl := 3) (q := (1, 232, 1597)) D231_10 (by decide +kernel) (by decide) mP_232 mL_232 mC_232 (Nat.le_of_ble_eq_true rfl) rfl rfl (by simp [cat]) (by decide) (MA_o h0) rfl rfl
theorem E231_13 {d : Nat} {a1 s0 : Int} {S : SS} {I : II}  : ev d 231 13 [(2, 427), (0, a1)] [(0, s0)] S I = some ((0, s0), S, I) := by
  exact sx_ireturn D231_13 (by decide +kernel)
theorem E232_0 {d : Nat} {a1 : Int} {S : SS} {I : II} (h0 : MA S 427) : ev d 232 0 [(2, 427), (0, a1), uU] [] S I = if 8 < w ((I 427 22) + 1) then (ev d 232 21 [(2, 427), (0, a1), (0, 0)] [] S (up2 I 427 22 ((I 427 22) + 1))) else (ev d 232 60 [(2, 427), (0, a1), uU] [] S (up2 I 427 22 ((I 427 22) + 1))) := by
  refine (sx_aload_n D232_0 rfl).trans ?_
  refine (sx_dup D232_1 (by decide)).trans ?_
  refine (sx_gfI (q := (9, 22, 0, 1390)) (j := 22) D232_2 (by decide +kernel) (by decide +kernel) (by decide) (MA_o h0) rfl rfl).trans ?_
  refine (sx_iconst D232_5).trans ?_
  refine (sx_iadd D232_6).trans ?_
  refine (sx_pfI (q := (9, 22, 0, 1390)) (j := 22) D232_7 (by decide +kernel) (by decide) (by decide) (MA_o h0) rfl).trans ?_
  refine (sx_aload_n D232_10 rfl).trans ?_
  refine (sx_gfI (q := (9, 22, 0, 1390)) (j := 22) D232_11 (by decide +kernel) (by decide +kernel) (by decide) (MA_o h0) rfl (up2_same _ _ _ _)).trans ?_
  refine (sx_bipush D232_14 (by decide)).trans ?_
  refine sx_if_le (pc' := 60) D232_16 (by decide) (by decide) ?_ ?_ rfl (w_small (by decide) (by decide))
  · refine (sx_iconst D232_19).trans ?_
    refine (sx_istore_n (al' := [(2, 427), (0, a1), (0, 0)]) D232_20 (Nat.le_of_ble_eq_true rfl) rfl rfl).trans ?_
    exact rfl
  · exact rfl
theorem E232_21 {d : Nat} {a1 a2 : Int} {S : SS} {I : II} (h0 : MA S 427) : ev d 232 21 [(2, 427), (0, a1), (0, a2)] [] S I = if w a2 < 6752 then (gdR (0 ≤ w (a2 + 844) ∧ w (a2 + 844) < 7596) (gdR (0 ≤ w a2 ∧ w a2 < 7596) (ev d 232 21 [(2, 427), (0, a1), (0, a2 + 1)] [] S (up2 I 440 (w a2) (I 440 (w (a2 + 844))))))) else (ev d 232 60 [(2, 427), (0, a1), (0, a2)] [] S (up2 I 427 22 ((I 427 22) - 1))) := by
  refine (sx_iload_n D232_21 rfl).trans ?_
  refine (sx_sipush D232_22 (by decide)).trans ?_
  refine sx_if_ge (pc' := 50) D232_25 (by decide) (by decide) ?_ ?_ rfl (w_small (by decide) (by decide))
  · refine (sx_aload_n D232_28 rfl).trans ?_
    refine (sx_gfR (q := (9, 23, 0, 1391)) (b := 440) D232_29 (by decide +kernel) (by decide +kernel) (by decide) (MA_o h0) (MA_g23 h0)).trans ?_
    refine (sx_iload_n D232_32 rfl).trans ?_
    refine (sx_aload_n D232_33 rfl).trans ?_
    refine (sx_gfR (q := (9, 23, 0, 1391)) (b := 440) D232_34 (by decide +kernel) (by decide +kernel) (by decide) (MA_o h0) (MA_g23 h0)).trans ?_
    refine (sx_iload_n D232_37 rfl).trans ?_
    refine (sx_sipush D232_38 (by decide)).trans ?_
    refine (sx_iadd D232_41).trans ?_
    refine (sx_ia D232_42 (MA_k23 h0) rfl).trans (gdR_to fun g1 => ?_)
    refine (sx_is D232_43 (MA_k23 h0)).trans (gdR_to fun g2 => ?_)
    refine (sx_iinc (al' := [(2, 427), (0, a1), (0, a2 + 1)]) D232_44 rfl rfl).trans ?_
    refine (sx_goto (pc' := 21) D232_47 (by decide) (by decide)).trans ?_
    exact rfl
  · refine (sx_aload_n D232_50 rfl).trans ?_
    refine (sx_dup D232_51 (by decide)).trans ?_
    refine (sx_gfI (q := (9, 22, 0, 1390)) (j := 22) D232_52 (by decide +kernel) (by decide +kernel) (by decide) (MA_o h0) rfl rfl).trans ?_
    refine (sx_iconst D232_55).trans ?_
    refine (sx_isub D232_56).trans ?_
    refine (sx_pfI (q := (9, 22, 0, 1390)) (j := 22) D232_57 (by decide +kernel) (by decide) (by decide) (MA_o h0) rfl).trans ?_
    exact rfl
theorem E232_60 {d : Nat} {a1 : Int} {a2 : AV} {S : SS} {I : II}  : ev d 232 60 [(2, 427), (0, a1), a2] [] S I = some ((0, a1), S, I) := by
  refine (sx_iload_n D232_60 rfl).trans ?_
  exact sx_ireturn D232_61 (by decide +kernel)
theorem E233_0 {d : Nat} {a1 : Int} {S : SS} {I : II} (h0 : MA S 427) : ev (d + 1) 233 0 [(2, 427), (0, a1)] [] S I = (ev d 217 0 [(2, 427), uU] [] S (up2 I 427 0 0)).bind (fun q => ev (d + 1) 233 9 [(2, 427), (0, a1)] (psh q.1 []) q.2.1 q.2.2) := by
  refine (sx_aload_n D233_0 rfl).trans ?_
  refine (sx_iconst D233_1).trans ?_
  refine (sx_pfI (q := (9, 0, 0, 1368)) (j := 0) D233_2 (by decide +kernel) (by decide) (by decide) (MA_o h0) rfl).trans ?_
  refine (sx_aload_n D233_5 rfl).trans ?_
  exact sx_virt (c := 11) (ag := [(2, 427)]) (r := []) (al' := [(2, 427), uU]) (np := 0) (nl := 2) (q := (1, 217, 1546)) D233_6 (by decide +kernel) (by decide) mP_217 mL_217 mC_217 (Nat.le_of_ble_eq_true rfl) rfl rfl (by simp [cat]) (by decide) (MA_o h0) rfl rfl
theorem E233_9 {d : Nat} {a1 : Int} {S : SS} {I : II} (h0 : MA S 427) : ev (d + 1) 233 9 [(2, 427), (0, a1)] [] S I = (ev d 234 0 [(2, 427), (2, 438), (0, a1), uU, uU, uU] [] S I).bind (fun q => ev (d + 1) 233 19 [(2, 427), (0, a1)] (psh q.1 [(2, 427)]) q.2.1 q.2.2) := by
  refine (sx_aload_n D233_9 rfl).trans ?_
  refine (sx_aload_n D233_10 rfl).trans ?_
  refine (sx_aload_n D233_11 rfl).trans ?_
  refine (sx_gfR (q := (9, 20, 0, 1388)) (b := 438) D233_12 (by decide +kernel) (by decide +kernel) (by decide) (MA_o h0) (MA_g20 h0)).trans ?_
  refine (sx_iload_n D233_15 rfl).trans ?_
  exact sx_virt (c := 11) (ag := [(2, 427), (2, 438), (0, a1)]) (r := [(2, 427)]) (al' := [(2, 427), (2, 438), (0, a1), uU, uU, uU]) (np := 2) (nl := 6) (q := (1, 234, 1605)) D233_16 (by decide +kernel) (by decide) mP_234 mL_234 mC_234 (Nat.le_of_ble_eq_true rfl) rfl rfl (by simp [cat]) (by decide) (MA_o h0) rfl rfl
theorem E233_19 {d : Nat} {a1 s1 : Int} {S : SS} {I : II} (h0 : MA S 427) : ev (d + 1) 233 19 [(2, 427), (0, a1)] [(0, s1), (2, 427)] S I = (ev d 231 0 [(2, 427), (0, s1)] [] S I).bind (fun q => ev (d + 1) 233 22 [(2, 427), (0, a1)] (psh q.1 []) q.2.1 q.2.2) := by
  exact sx_virt (c := 11) (ag := [(2, 427), (0, s1)]) (r := []) (al' := [(2, 427), (0, s1)]) (np := 1) (nl := 2) (q := (1, 231, 1593)) D233_19 (by decide +kernel) (by decide) mP_231 mL_231 mC_231 (Nat.le_of_ble_eq_true rfl) rfl rfl (by simp [cat]) (by decide) (MA_o h0) rfl rfl
theorem E233_22 {d : Nat} {a1 s0 : Int} {S : SS} {I : II}  : ev d 233 22 [(2, 427), (0, a1)] [(0, s0)] S I = some ((0, s0), S, I) := by
  exact sx_ireturn D233_22 (by decide +kernel)
theorem E234_0 {d : Nat} {a1 a2 : Int} {S : SS} {I : II} (h0 : MA S 427) : ev (d + 1) 234 0 [(2, 427), (2, a1), (0, a2), uU, uU, uU] [] S I = (ev d 210 0 [(2, 427), (0, a2)] [] S I).bind (fun q => ev (d + 1) 234 5 [(2, 427), (2, a1), (0, a2), uU, uU, uU] (psh q.1 []) q.2.1 q.2.2) := by
  refine (sx_aload_n D234_0 rfl).trans ?_
  refine (sx_iload_n D234_1 rfl).trans ?_
  exact sx_virt (c := 11) (ag := [(2, 427), (0, a2)]) (r := []) (al' := [(2, 427), (0, a2)]) (np := 1) (nl := 2) (q := (1, 210, 1517)) D234_2 (by decide +kernel) (by decide) mP_210 mL_210 mC_210 (Nat.le_of_ble_eq_true rfl) rfl rfl (by simp [cat]) (by decide) (MA_o h0) rfl rfl
theorem E234_5 {d : Nat} {a1 a2 s0 : Int} {S : SS} {I : II}  : ev (d + 1) 234 5 [(2, 427), (2, a1), (0, a2), uU, uU, uU] [(0, s0)] S I = if w s0 = 0 then (some ((0, (-1)), S, I)) else ((ev d 212 0 [(2, a1), (0, a2), (0, 1)] [] S I).bind (fun q => ev (d + 1) 234 16 [(2, 427), (2, a1), (0, a2), uU, uU, uU] (psh q.1 []) q.2.1 q.2.2)) := by
  refine sx_i0_ne (pc' := 10) D234_5 (by decide) (by decide) ?_ ?_ rfl
  · refine (sx_iconst D234_8).trans ?_
    exact sx_ireturn D234_9 (by decide +kernel)
  · refine (sx_aload_n D234_10 rfl).trans ?_
    refine (sx_iload_n D234_11 rfl).trans ?_
    refine (sx_iconst D234_12).trans ?_
    exact sx_stat (ag := [(2, a1), (0, a2), (0, 1)]) (r := []) (al' := [(2, a1), (0, a2), (0, 1)]) (np := 3) (nl := 3) (q := (0, 212, 1526)) D234_13 (by decide +kernel) (by decide) mP_212 mL_212 (Nat.le_of_ble_eq_true rfl) rfl rfl (by simp [cat]) rfl rfl
theorem E234_16 {d : Nat} {a1 a2 s0 : Int} {S : SS} {I : II}  : ev (d + 1) 234 16 [(2, 427), (2, a1), (0, a2), uU, uU, uU] [(0, s0)] S I = (ev d 212 0 [(2, a1), (0, a2), (0, 0)] [] S I).bind (fun q => ev (d + 1) 234 23 [(2, 427), (2, a1), (0, a2), (0, s0), uU, uU] (psh q.1 []) q.2.1 q.2.2) := by
  refine (sx_istore_n (al' := [(2, 427), (2, a1), (0, a2), (0, s0), uU, uU]) D234_16 (Nat.le_of_ble_eq_true rfl) rfl rfl).trans ?_
  refine (sx_aload_n D234_17 rfl).trans ?_
  refine (sx_iload_n D234_18 rfl).trans ?_
  refine (sx_iconst D234_19).trans ?_
  exact sx_stat (ag := [(2, a1), (0, a2), (0, 0)]) (r := []) (al' := [(2, a1), (0, a2), (0, 0)]) (np := 3) (nl := 3) (q := (0, 212, 1526)) D234_20 (by decide +kernel) (by decide) mP_212 mL_212 (Nat.le_of_ble_eq_true rfl) rfl rfl (by simp [cat]) rfl rfl
theorem E234_23 {d : Nat} {a1 a2 a3 s0 : Int} {S : SS} {I : II}  : ev (d + 1) 234 23 [(2, 427), (2, a1), (0, a2), (0, a3), uU, uU] [(0, s0)] S I = if w a3 = w s0 then (some ((0, (-2)), S, I)) else ((ev d 230 0 [(2, a1), (0, a2), (0, 1), (0, s0)] [] S I).bind (fun q => ev (d + 1) 234 42 [(2, 427), (2, a1), (0, a2), (0, a3), (0, s0), uU] (psh q.1 []) q.2.1 q.2.2)) := by
  refine (sx_istore (al' := [(2, 427), (2, a1), (0, a2), (0, a3), (0, s0), uU]) D234_23 (Nat.le_of_ble_eq_true rfl) rfl rfl).trans ?_
  refine (sx_iload_n D234_25 rfl).trans ?_
  refine (sx_iload D234_26 rfl).trans ?_
  refine sx_if_ne (pc' := 34) D234_28 (by decide) (by decide) ?_ ?_ rfl rfl
  · refine (sx_bipush D234_31 (by decide)).trans ?_
    exact sx_ireturn D234_33 (by decide +kernel)
  · refine (sx_aload_n D234_34 rfl).trans ?_
    refine (sx_iload_n D234_35 rfl).trans ?_
    refine (sx_iconst D234_36).trans ?_
    refine (sx_iload D234_37 rfl).trans ?_
    exact sx_stat (ag := [(2, a1), (0, a2), (0, 1), (0, s0)]) (r := []) (al' := [(2, a1), (0, a2), (0, 1), (0, s0)]) (np := 4) (nl := 4) (q := (0, 230, 1590)) D234_39 (by decide +kernel) (by decide) mP_230 mL_230 (Nat.le_of_ble_eq_true rfl) rfl rfl (by simp [cat]) rfl rfl
theorem E234_42 {d : Nat} {a1 a2 a3 a4 : Int} {S : SS} {I : II} (h0 : MA S 427) : ev (d + 1) 234 42 [(2, 427), (2, a1), (0, a2), (0, a3), (0, a4), uU] [] S I = gdR (0 ≤ w a2 ∧ w a2 < 5) (if w (I 437 (w a2)) = 0 then (ev (d + 1) 234 72 [(2, 427), (2, a1), (0, a2), (0, a3), (0, a4), uU] [] S I) else ((ev d 212 0 [(2, a1), (0, a2), (0, 7)] [] S I).bind (fun q => ev (d + 1) 234 58 [(2, 427), (2, a1), (0, a2), (0, a3), (0, a4), uU] (psh q.1 []) q.2.1 q.2.2))) := by
  refine (sx_aload_n D234_42 rfl).trans ?_
  refine (sx_gfR (q := (9, 19, 0, 1387)) (b := 437) D234_43 (by decide +kernel) (by decide +kernel) (by decide) (MA_o h0) (MA_g19 h0)).trans ?_
  refine (sx_iload_n D234_46 rfl).trans ?_
  refine (sx_ia D234_47 (MA_k19 h0) rfl).trans (gdR_to fun g1 => ?_)
  refine sx_i0_eq (pc' := 72) D234_48 (by decide) (by decide) ?_ ?_ rfl
  · exact rfl
  · refine (sx_aload_n D234_51 rfl).trans ?_
    refine (sx_iload_n D234_52 rfl).trans ?_
    refine (sx_bipush D234_53 (by decide)).trans ?_
    exact sx_stat (ag := [(2, a1), (0, a2), (0, 7)]) (r := []) (al' := [(2, a1), (0, a2), (0, 7)]) (np := 3) (nl := 3) (q := (0, 212, 1526)) D234_55 (by decide +kernel) (by decide) mP_212 mL_212 (Nat.le_of_ble_eq_true rfl) rfl rfl (by simp [cat]) rfl rfl
theorem E234_58 {d : Nat} {a1 a2 a3 a4 s0 : Int} {S : SS} {I : II}  : ev (d + 1) 234 58 [(2, 427), (2, a1), (0, a2), (0, a3), (0, a4), uU] [(0, s0)] S I = (ev d 192 0 [(1, w s0), uU, (1, w a3), uU, (1, w (a4 - 1)), uU] [] S I).bind (fun q => ev (d + 1) 234 69 [(2, 427), (2, a1), (0, a2), (0, a3), (0, a4), uU] (psh q.1 []) q.2.1 q.2.2) := by
  refine (sx_i2l D234_58).trans ?_
  refine (sx_iload_n D234_59 rfl).trans ?_
  refine (sx_i2l D234_60).trans ?_
  refine (sx_iload D234_61 rfl).trans ?_
  refine (sx_iconst D234_63).trans ?_
  refine (sx_isub D234_64).trans ?_
  refine (sx_i2l D234_65).trans ?_
  exact sx_stat (ag := [(1, w s0), (1, w a3), (1, w (a4 - 1))]) (r := []) (al' := [(1, w s0), uU, (1, w a3), uU, (1, w (a4 - 1)), uU]) (np := 3) (nl := 6) (q := (0, 192, 1299)) D234_66 (by decide +kernel) (by decide) mP_192 mL_192 (Nat.le_of_ble_eq_true rfl) rfl rfl (by simp [cat]) rfl rfl
theorem E234_69 {d : Nat} {a1 a2 a3 a4 s0 : Int} {S : SS} {I : II}  : ev d 234 69 [(2, 427), (2, a1), (0, a2), (0, a3), (0, a4), uU] [(0, s0)] S I = if w s0 = 0 then (ev d 234 77 [(2, 427), (2, a1), (0, a2), (0, a3), (0, a4), uU] [(0, 0)] S I) else (ev d 234 72 [(2, 427), (2, a1), (0, a2), (0, a3), (0, a4), uU] [] S I) := by
  refine sx_i0_eq (pc' := 76) D234_69 (by decide) (by decide) ?_ ?_ rfl
  · refine (sx_iconst D234_76).trans ?_
    exact rfl
  · exact rfl
theorem E234_72 {d : Nat} {a1 a2 a3 a4 : Int} {S : SS} {I : II}  : ev d 234 72 [(2, 427), (2, a1), (0, a2), (0, a3), (0, a4), uU] [] S I = ev d 234 77 [(2, 427), (2, a1), (0, a2), (0, a3), (0, a4), uU] [(0, 1)] S I := by
  refine (sx_iconst D234_72).trans ?_
  refine (sx_goto (pc' := 77) D234_73 (by decide) (by decide)).trans ?_
  exact rfl
theorem E234_77 {d : Nat} {a1 a2 a3 a4 s0 : Int} {S : SS} {I : II}  : ev (d + 1) 234 77 [(2, 427), (2, a1), (0, a2), (0, a3), (0, a4), uU] [(0, s0)] S I = if w s0 = 0 then (ev (d + 1) 234 105 [(2, 427), (2, a1), (0, a2), (0, a3), (0, a4), (0, s0)] [] S I) else ((ev d 230 0 [(2, a1), (0, a2), (0, 2), (0, a4)] [] S I).bind (fun q => ev (d + 1) 234 92 [(2, 427), (2, a1), (0, a2), (0, a3), (0, a4), (0, s0)] (psh q.1 []) q.2.1 q.2.2)) := by
  refine (sx_istore (al' := [(2, 427), (2, a1), (0, a2), (0, a3), (0, a4), (0, s0)]) D234_77 (Nat.le_of_ble_eq_true rfl) rfl rfl).trans ?_
  refine (sx_iload D234_79 rfl).trans ?_
  refine sx_i0_eq (pc' := 105) D234_81 (by decide) (by decide) ?_ ?_ rfl
  · exact rfl
  · refine (sx_aload_n D234_84 rfl).trans ?_
    refine (sx_iload_n D234_85 rfl).trans ?_
    refine (sx_iconst D234_86).trans ?_
    refine (sx_iload D234_87 rfl).trans ?_
    exact sx_stat (ag := [(2, a1), (0, a2), (0, 2), (0, a4)]) (r := []) (al' := [(2, a1), (0, a2), (0, 2), (0, a4)]) (np := 4) (nl := 4) (q := (0, 230, 1590)) D234_89 (by decide +kernel) (by decide) mP_230 mL_230 (Nat.le_of_ble_eq_true rfl) rfl rfl (by simp [cat]) rfl rfl
theorem E234_92 {d : Nat} {a1 a2 a3 a4 a5 : Int} {S : SS} {I : II} (h0 : MA S 427) : ev (d + 1) 234 92 [(2, 427), (2, a1), (0, a2), (0, a3), (0, a4), (0, a5)] [] S I = gdR (0 ≤ w a2 ∧ w a2 < 5) ((ev d 230 0 [(2, a1), (0, a2), (0, 8), (0, I 437 (w a2))] [] S I).bind (fun q => ev (d + 1) 234 105 [(2, 427), (2, a1), (0, a2), (0, a3), (0, a4), (0, a5)] (psh q.1 []) q.2.1 q.2.2)) := by
  refine (sx_aload_n D234_92 rfl).trans ?_
  refine (sx_iload_n D234_93 rfl).trans ?_
  refine (sx_bipush D234_94 (by decide)).trans ?_
  refine (sx_aload_n D234_96 rfl).trans ?_
  refine (sx_gfR (q := (9, 19, 0, 1387)) (b := 437) D234_97 (by decide +kernel) (by decide +kernel) (by decide) (MA_o h0) (MA_g19 h0)).trans ?_
  refine (sx_iload_n D234_100 rfl).trans ?_
  refine (sx_ia D234_101 (MA_k19 h0) rfl).trans (gdR_to fun g1 => ?_)
  exact sx_stat (ag := [(2, a1), (0, a2), (0, 8), (0, I 437 (w a2))]) (r := []) (al' := [(2, a1), (0, a2), (0, 8), (0, I 437 (w a2))]) (np := 4) (nl := 4) (q := (0, 230, 1590)) D234_102 (by decide +kernel) (by decide) mP_230 mL_230 (Nat.le_of_ble_eq_true rfl) rfl rfl (by simp [cat]) rfl rfl
theorem E234_105 {d : Nat} {a1 a2 a3 a4 a5 : Int} {S : SS} {I : II}  : ev d 234 105 [(2, 427), (2, a1), (0, a2), (0, a3), (0, a4), (0, a5)] [] S I = if w a5 = 0 then (ev d 234 119 [(2, 427), (2, a1), (0, a2), (0, a3), (0, a4), (0, a5)] [(0, 1), (0, 838), (2, a1)] S I) else (ev d 234 119 [(2, 427), (2, a1), (0, a2), (0, a3), (0, a4), (0, a5)] [(0, 0), (0, 838), (2, a1)] S I) := by
  refine (sx_aload_n D234_105 rfl).trans ?_
  refine (sx_sipush D234_106 (by decide)).trans ?_
  refine (sx_iload D234_109 rfl).trans ?_
  refine sx_i0_ne (pc' := 118) D234_111 (by decide) (by decide) ?_ ?_ rfl
  · refine (sx_iconst D234_114).trans ?_
    refine (sx_goto (pc' := 119) D234_115 (by decide) (by decide)).trans ?_
    exact rfl
  · refine (sx_iconst D234_118).trans ?_
    exact rfl
theorem E234_119 {d : Nat} {a1 a2 a3 a4 a5 s0 s1 s2 : Int} {S : SS} {I : II}  : ev (d + 1) 234 119 [(2, 427), (2, a1), (0, a2), (0, a3), (0, a4), (0, a5)] [(0, s2), (0, s1), (2, s0)] S I = (ev d 199 0 [(0, s2)] [] S I).bind (fun q => ev (d + 1) 234 122 [(2, 427), (2, a1), (0, a2), (0, a3), (0, a4), (0, a5)] (psh q.1 [(0, s1), (2, s0)]) q.2.1 q.2.2) := by
  exact sx_stat (ag := [(0, s2)]) (r := [(0, s1), (2, s0)]) (al' := [(0, s2)]) (np := 1) (nl := 1) (q := (0, 199, 1328)) D234_119 (by decide +kernel) (by decide) mP_199 mL_199 (Nat.le_of_ble_eq_true rfl) rfl rfl (by simp [cat]) rfl rfl
theorem E234_122 {d : Nat} {a1 a2 a3 a4 a5 s0 s1 s2 ln0 : Int} {S : SS} {I : II} (h0 : KA S s0 20 ln0) : ev (d + 1) 234 122 [(2, 427), (2, a1), (0, a2), (0, a3), (0, a4), (0, a5)] [(0, s2), (0, s1), (2, s0)] S I = gdR (0 ≤ w (s1 + s2) ∧ w (s1 + s2) < ln0) (gdR (0 ≤ w (s1 + s2) ∧ w (s1 + s2) < ln0) ((ev d 199 0 [(0, a5)] [] S (up2 I s0 (w (s1 + s2)) ((I s0 (w (s1 + s2))) + 1))).bind (fun q => ev (d + 1) 234 133 [(2, 427), (2, a1), (0, a2), (0, a3), (0, a4), (0, a5)] (psh q.1 []) q.2.1 q.2.2))) := by
  refine (sx_iadd D234_122).trans ?_
  refine (sx_dup2 D234_123 (by decide) (by decide)).trans ?_
  refine (sx_ia D234_124 h0 rfl).trans (gdR_to fun g1 => ?_)
  refine (sx_iconst D234_125).trans ?_
  refine (sx_iadd D234_126).trans ?_
  refine (sx_is D234_127 h0).trans (gdR_to fun g2 => ?_)
  refine (sx_iload D234_128 rfl).trans ?_
  exact sx_stat (ag := [(0, a5)]) (r := []) (al' := [(0, a5)]) (np := 1) (nl := 1) (q := (0, 199, 1328)) D234_130 (by decide +kernel) (by decide) mP_199 mL_199 (Nat.le_of_ble_eq_true rfl) rfl rfl (by simp [cat]) rfl rfl
theorem E234_133 {d : Nat} {a1 a2 a3 a4 a5 s0 : Int} {S : SS} {I : II}  : ev d 234 133 [(2, 427), (2, a1), (0, a2), (0, a3), (0, a4), (0, a5)] [(0, s0)] S I = some ((0, s0), S, I) := by
  exact sx_ireturn D234_133 (by decide +kernel)
theorem E235_0 {d : Nat} {a1 : Int} {S : SS} {I : II} (h0 : MA S 427) : ev (d + 1) 235 0 [(2, 427), (0, a1)] [] S I = (ev d 192 0 [(1, w a1), uU, (1, 0), uU, (1, 60), uU] [] S (up2 I 427 0 0)).bind (fun q => ev (d + 1) 235 14 [(2, 427), (0, a1)] (psh q.1 []) q.2.1 q.2.2) := by
  refine (sx_aload_n D235_0 rfl).trans ?_
  refine (sx_iconst D235_1).trans ?_
  refine (sx_pfI (q := (9, 0, 0, 1368)) (j := 0) D235_2 (by decide +kernel) (by decide) (by decide) (MA_o h0) rfl).trans ?_
  refine (sx_iload_n D235_5 rfl).trans ?_
  refine (sx_i2l D235_6).trans ?_
  refine (sx_lconst D235_7).trans ?_
  refine (sx_ldc2_w (q := (60, 1613)) D235_8 (by decide +kernel)).trans ?_
  exact sx_stat (ag := [(1, w a1), (1, 0), (1, 60)]) (r := []) (al' := [(1, w a1), uU, (1, 0), uU, (1, 60), uU]) (np := 3) (nl := 6) (q := (0, 192, 1299)) D235_11 (by decide +kernel) (by decide) mP_192 mL_192 (Nat.le_of_ble_eq_true rfl) rfl rfl (by simp [cat]) rfl rfl
theorem E235_14 {d : Nat} {a1 s0 : Int} {S : SS} {I : II} (h0 : MA S 427) : ev (d + 1) 235 14 [(2, 427), (0, a1)] [(0, s0)] S I = if w s0 = 0 then (some ((0, (-1)), S, I)) else ((ev d 217 0 [(2, 427), uU] [] S I).bind (fun q => ev (d + 1) 235 23 [(2, 427), (0, a1)] (psh q.1 []) q.2.1 q.2.2)) := by
  refine sx_i0_ne (pc' := 19) D235_14 (by decide) (by decide) ?_ ?_ rfl
  · refine (sx_iconst D235_17).trans ?_
    exact sx_ireturn D235_18 (by decide +kernel)
  · refine (sx_aload_n D235_19 rfl).trans ?_
    exact sx_virt (c := 11) (ag := [(2, 427)]) (r := []) (al' := [(2, 427), uU]) (np := 0) (nl := 2) (q := (1, 217, 1546)) D235_20 (by decide +kernel) (by decide) mP_217 mL_217 mC_217 (Nat.le_of_ble_eq_true rfl) rfl rfl (by simp [cat]) (by decide) (MA_o h0) rfl rfl
theorem E235_23 {d : Nat} {a1 : Int} {S : SS} {I : II} (h0 : MA S 427) : ev (d + 1) 235 23 [(2, 427), (0, a1)] [] S I = (ev d 236 0 [(2, 427), (2, 438), (0, a1), uU] [] S I).bind (fun q => ev (d + 1) 235 32 [(2, 427), (0, a1)] (psh q.1 []) q.2.1 q.2.2) := by
  refine (sx_aload_n D235_23 rfl).trans ?_
  refine (sx_aload_n D235_24 rfl).trans ?_
  refine (sx_gfR (q := (9, 20, 0, 1388)) (b := 438) D235_25 (by decide +kernel) (by decide +kernel) (by decide) (MA_o h0) (MA_g20 h0)).trans ?_
  refine (sx_iload_n D235_28 rfl).trans ?_
  exact sx_virt (c := 11) (ag := [(2, 427), (2, 438), (0, a1)]) (r := []) (al' := [(2, 427), (2, 438), (0, a1), uU]) (np := 2) (nl := 4) (q := (1, 236, 1614)) D235_29 (by decide +kernel) (by decide) mP_236 mL_236 mC_236 (Nat.le_of_ble_eq_true rfl) rfl rfl (by simp [cat]) (by decide) (MA_o h0) rfl rfl
theorem E235_32 {d : Nat} {a1 : Int} {S : SS} {I : II} (h0 : MA S 427) : ev (d + 1) 235 32 [(2, 427), (0, a1)] [] S I = (ev d 255 0 [(2, 427), (1, w (I 427 25)), uU] [] S (up2 I 427 1 0)).bind (fun q => ev (d + 1) 235 46 [(2, 427), (0, a1)] (psh q.1 []) q.2.1 q.2.2) := by
  refine (sx_aload_n D235_32 rfl).trans ?_
  refine (sx_iconst D235_33).trans ?_
  refine (sx_pfI (q := (9, 1, 0, 1369)) (j := 1) D235_34 (by decide +kernel) (by decide) (by decide) (MA_o h0) rfl).trans ?_
  refine (sx_aload_n D235_37 rfl).trans ?_
  refine (sx_aload_n D235_38 rfl).trans ?_
  refine (sx_gfI (q := (9, 25, 0, 1393)) (j := 25) D235_39 (by decide +kernel) (by decide +kernel) (by decide) (MA_o h0) rfl (up2_slot (by decide))).trans ?_
  refine (sx_i2l D235_42).trans ?_
  exact sx_virt (c := 11) (ag := [(2, 427), (1, w (I 427 25))]) (r := []) (al' := [(2, 427), (1, w (I 427 25)), uU]) (np := 1) (nl := 3) (q := (1, 255, 1683)) D235_43 (by decide +kernel) (by decide) mP_255 mL_255 mC_255 (Nat.le_of_ble_eq_true rfl) rfl rfl (by simp [cat]) (by decide) (MA_o h0) rfl rfl
theorem E235_46 {d : Nat} {a1 : Int} {S : SS} {I : II} (h0 : MA S 427) : ev (d + 1) 235 46 [(2, 427), (0, a1)] [] S I = (ev d 255 0 [(2, 427), (1, w (I 427 26)), uU] [] S I).bind (fun q => ev (d + 1) 235 55 [(2, 427), (0, a1)] (psh q.1 []) q.2.1 q.2.2) := by
  refine (sx_aload_n D235_46 rfl).trans ?_
  refine (sx_aload_n D235_47 rfl).trans ?_
  refine (sx_gfI (q := (9, 26, 0, 1394)) (j := 26) D235_48 (by decide +kernel) (by decide +kernel) (by decide) (MA_o h0) rfl rfl).trans ?_
  refine (sx_i2l D235_51).trans ?_
  exact sx_virt (c := 11) (ag := [(2, 427), (1, w (I 427 26))]) (r := []) (al' := [(2, 427), (1, w (I 427 26)), uU]) (np := 1) (nl := 3) (q := (1, 255, 1683)) D235_52 (by decide +kernel) (by decide) mP_255 mL_255 mC_255 (Nat.le_of_ble_eq_true rfl) rfl rfl (by simp [cat]) (by decide) (MA_o h0) rfl rfl
theorem E235_55 {d : Nat} {a1 : Int} {S : SS} {I : II} (h0 : MA S 427) : ev (d + 1) 235 55 [(2, 427), (0, a1)] [] S I = (ev d 232 0 [(2, 427), (0, I 427 24), uU] [] S I).bind (fun q => ev (d + 1) 235 63 [(2, 427), (0, a1)] (psh q.1 []) q.2.1 q.2.2) := by
  refine (sx_aload_n D235_55 rfl).trans ?_
  refine (sx_aload_n D235_56 rfl).trans ?_
  refine (sx_gfI (q := (9, 24, 0, 1392)) (j := 24) D235_57 (by decide +kernel) (by decide +kernel) (by decide) (MA_o h0) rfl rfl).trans ?_
  exact sx_virt (c := 11) (ag := [(2, 427), (0, I 427 24)]) (r := []) (al' := [(2, 427), (0, I 427 24), uU]) (np := 1) (nl := 3) (q := (1, 232, 1597)) D235_60 (by decide +kernel) (by decide) mP_232 mL_232 mC_232 (Nat.le_of_ble_eq_true rfl) rfl rfl (by simp [cat]) (by decide) (MA_o h0) rfl rfl
theorem E235_63 {d : Nat} {a1 s0 : Int} {S : SS} {I : II}  : ev d 235 63 [(2, 427), (0, a1)] [(0, s0)] S I = some ((0, s0), S, I) := by
  exact sx_ireturn D235_63 (by decide +kernel)
theorem E236_0 {d : Nat} {a1 a2 : Int} {S : SS} {I : II} (h0 : MA S 427) : ev d 236 0 [(2, 427), (2, a1), (0, a2), uU] [] S I = ev d 236 17 [(2, 427), (2, a1), (0, a2), (0, 0)] [] S (up2 (up2 (up2 I 427 24 0) 427 25 0) 427 26 0) := by
  refine (sx_aload_n D236_0 rfl).trans ?_
  refine (sx_iconst D236_1).trans ?_
  refine (sx_pfI (q := (9, 24, 0, 1392)) (j := 24) D236_2 (by decide +kernel) (by decide) (by decide) (MA_o h0) rfl).trans ?_
  refine (sx_aload_n D236_5 rfl).trans ?_
  refine (sx_iconst D236_6).trans ?_
  refine (sx_pfI (q := (9, 25, 0, 1393)) (j := 25) D236_7 (by decide +kernel) (by decide) (by decide) (MA_o h0) rfl).trans ?_
  refine (sx_aload_n D236_10 rfl).trans ?_
  refine (sx_iconst D236_11).trans ?_
  refine (sx_pfI (q := (9, 26, 0, 1394)) (j := 26) D236_12 (by decide +kernel) (by decide) (by decide) (MA_o h0) rfl).trans ?_
  refine (sx_iconst D236_15).trans ?_
  refine (sx_istore_n (al' := [(2, 427), (2, a1), (0, a2), (0, 0)]) D236_16 (Nat.le_of_ble_eq_true rfl) rfl rfl).trans ?_
  exact rfl
theorem E236_17 {d : Nat} {a1 a2 a3 : Int} {S : SS} {I : II} (h0 : MA S 427) : ev (d + 1) 236 17 [(2, 427), (2, a1), (0, a2), (0, a3)] [] S I = if w a3 < w a2 then ((ev d 237 0 [(2, 427), (2, a1), uU, uU] [] S I).bind (fun q => ev (d + 1) 236 27 [(2, 427), (2, a1), (0, a2), (0, a3)] (psh q.1 []) q.2.1 q.2.2)) else (some (uU, S, I)) := by
  refine (sx_iload_n D236_17 rfl).trans ?_
  refine (sx_iload_n D236_18 rfl).trans ?_
  refine sx_if_ge (pc' := 58) D236_19 (by decide) (by decide) ?_ ?_ rfl rfl
  · refine (sx_aload_n D236_22 rfl).trans ?_
    refine (sx_aload_n D236_23 rfl).trans ?_
    exact sx_virt (c := 11) (ag := [(2, 427), (2, a1)]) (r := []) (al' := [(2, 427), (2, a1), uU, uU]) (np := 1) (nl := 4) (q := (1, 237, 1618)) D236_24 (by decide +kernel) (by decide) mP_237 mL_237 mC_237 (Nat.le_of_ble_eq_true rfl) rfl rfl (by simp [cat]) (by decide) (MA_o h0) rfl rfl
  · exact sx_return D236_58 (by decide +kernel)
theorem E236_27 {d : Nat} {a1 a2 a3 ln1 : Int} {S : SS} {I : II} (h0 : MA S 427) (h1 : KA S a1 20 ln1) : ev d 236 27 [(2, 427), (2, a1), (0, a2), (0, a3)] [] S I = gdR (0 ≤ w 493 ∧ w 493 < ln1) (if w (I a1 (w 493)) = 0 then (ev d 236 45 [(2, 427), (2, a1), (0, a2), (0, a3)] [(0, 1), (0, I 427 26), (2, 427)] S I) else (ev d 236 45 [(2, 427), (2, a1), (0, a2), (0, a3)] [(0, 0), (0, I 427 26), (2, 427)] S I)) := by
  refine (sx_aload_n D236_27 rfl).trans ?_
  refine (sx_dup D236_28 (by decide)).trans ?_
  refine (sx_gfI (q := (9, 26, 0, 1394)) (j := 26) D236_29 (by decide +kernel) (by decide +kernel) (by decide) (MA_o h0) rfl rfl).trans ?_
  refine (sx_aload_n D236_32 rfl).trans ?_
  refine (sx_sipush D236_33 (by decide)).trans ?_
  refine (sx_ia D236_36 h1 rfl).trans (gdR_to fun g1 => ?_)
  refine sx_i0_ne (pc' := 44) D236_37 (by decide) (by decide) ?_ ?_ rfl
  · refine (sx_iconst D236_40).trans ?_
    refine (sx_goto (pc' := 45) D236_41 (by decide) (by decide)).trans ?_
    exact rfl
  · refine (sx_iconst D236_44).trans ?_
    exact rfl
theorem E236_45 {d : Nat} {a1 a2 a3 s1 s2 : Int} {S : SS} {I : II}  : ev (d + 1) 236 45 [(2, 427), (2, a1), (0, a2), (0, a3)] [(0, s2), (0, s1), (2, 427)] S I = (ev d 199 0 [(0, s2)] [] S I).bind (fun q => ev (d + 1) 236 48 [(2, 427), (2, a1), (0, a2), (0, a3)] (psh q.1 [(0, s1), (2, 427)]) q.2.1 q.2.2) := by
  exact sx_stat (ag := [(0, s2)]) (r := [(0, s1), (2, 427)]) (al' := [(0, s2)]) (np := 1) (nl := 1) (q := (0, 199, 1328)) D236_45 (by decide +kernel) (by decide) mP_199 mL_199 (Nat.le_of_ble_eq_true rfl) rfl rfl (by simp [cat]) rfl rfl
theorem E236_48 {d : Nat} {a1 a2 a3 s1 s2 : Int} {S : SS} {I : II} (h0 : MA S 427) : ev d 236 48 [(2, 427), (2, a1), (0, a2), (0, a3)] [(0, s2), (0, s1), (2, 427)] S I = ev d 236 17 [(2, 427), (2, a1), (0, a2), (0, a3 + 1)] [] S (up2 I 427 26 (s1 + s2)) := by
  refine (sx_iadd D236_48).trans ?_
  refine (sx_pfI (q := (9, 26, 0, 1394)) (j := 26) D236_49 (by decide +kernel) (by decide) (by decide) (MA_o h0) rfl).trans ?_
  refine (sx_iinc (al' := [(2, 427), (2, a1), (0, a2), (0, a3 + 1)]) D236_52 rfl rfl).trans ?_
  refine (sx_goto (pc' := 17) D236_55 (by decide) (by decide)).trans ?_
  exact rfl
theorem E237_0 {d : Nat} {a1 : Int} {S : SS} {I : II}  : ev d 237 0 [(2, 427), (2, a1), uU, uU] [] S I = ev d 237 2 [(2, 427), (2, a1), (0, 0), uU] [] S I := by
  refine (sx_iconst D237_0).trans ?_
  refine (sx_istore_n (al' := [(2, 427), (2, a1), (0, 0), uU]) D237_1 (Nat.le_of_ble_eq_true rfl) rfl rfl).trans ?_
  exact rfl
theorem E237_2 {d : Nat} {a1 a2 ln0 : Int} {S : SS} {I : II} (h0 : KA S a1 20 ln0) : ev (d + 1) 237 2 [(2, 427), (2, a1), (0, a2), uU] [] S I = gdR (0 ≤ w 493 ∧ w 493 < ln0) (if w a2 < w (I a1 (w 493)) then ((ev d 224 0 [(0, a2)] [] S I).bind (fun q => ev (d + 1) 237 16 [(2, 427), (2, a1), (0, a2), uU] (psh q.1 [(2, a1)]) q.2.1 q.2.2)) else (ev (d + 1) 237 32 [(2, 427), (2, a1), (0, 0), uU] [] S I)) := by
  refine (sx_iload_n D237_2 rfl).trans ?_
  refine (sx_aload_n D237_3 rfl).trans ?_
  refine (sx_sipush D237_4 (by decide)).trans ?_
  refine (sx_ia D237_7 h0 rfl).trans (gdR_to fun g1 => ?_)
  refine sx_if_ge (pc' := 30) D237_8 (by decide) (by decide) ?_ ?_ rfl rfl
  · refine (sx_aload_n D237_11 rfl).trans ?_
    refine (sx_iload_n D237_12 rfl).trans ?_
    exact sx_stat (ag := [(0, a2)]) (r := [(2, a1)]) (al' := [(0, a2)]) (np := 1) (nl := 1) (q := (0, 224, 1572)) D237_13 (by decide +kernel) (by decide) mP_224 mL_224 (Nat.le_of_ble_eq_true rfl) rfl rfl (by simp [cat]) rfl rfl
  · refine (sx_iconst D237_30).trans ?_
    refine (sx_istore_n (al' := [(2, 427), (2, a1), (0, 0), uU]) D237_31 (Nat.le_of_ble_eq_true rfl) rfl rfl).trans ?_
    exact rfl
theorem E237_16 {d : Nat} {a1 a2 s0 s1 ln0 : Int} {S : SS} {I : II} (h0 : KA S s0 20 ln0) : ev d 237 16 [(2, 427), (2, a1), (0, a2), uU] [(0, s1), (2, s0)] S I = gdR (0 ≤ w (s1 + 11) ∧ w (s1 + 11) < ln0) (gdR (0 ≤ w (s1 + 11) ∧ w (s1 + 11) < ln0) (ev d 237 2 [(2, 427), (2, a1), (0, a2 + 1), uU] [] S (up2 I s0 (w (s1 + 11)) ((I s0 (w (s1 + 11))) - 1)))) := by
  refine (sx_bipush D237_16 (by decide)).trans ?_
  refine (sx_iadd D237_18).trans ?_
  refine (sx_dup2 D237_19 (by decide) (by decide)).trans ?_
  refine (sx_ia D237_20 h0 rfl).trans (gdR_to fun g1 => ?_)
  refine (sx_iconst D237_21).trans ?_
  refine (sx_isub D237_22).trans ?_
  refine (sx_is D237_23 h0).trans (gdR_to fun g2 => ?_)
  refine (sx_iinc (al' := [(2, 427), (2, a1), (0, a2 + 1), uU]) D237_24 rfl rfl).trans ?_
  refine (sx_goto (pc' := 2) D237_27 (by decide) (by decide)).trans ?_
  exact rfl
theorem E237_32 {d : Nat} {a1 a2 ln0 : Int} {S : SS} {I : II} (h0 : KA S a1 20 ln0) (h1 : MA S 427) : ev (d + 1) 237 32 [(2, 427), (2, a1), (0, a2), uU] [] S I = gdR (0 ≤ w 493 ∧ w 493 < ln0) (if w a2 < w (I a1 (w 493)) then ((ev d 224 0 [(0, a2)] [] S I).bind (fun q => ev (d + 1) 237 46 [(2, 427), (2, a1), (0, a2), uU] (psh q.1 [(2, a1)]) q.2.1 q.2.2)) else ((ev d 241 0 [(2, 427), (2, a1), uU, uU, uU, uU, uU] [] S I).bind (fun q => ev (d + 1) 237 73 [(2, 427), (2, a1), (0, a2), uU] (psh q.1 []) q.2.1 q.2.2))) := by
  refine (sx_iload_n D237_32 rfl).trans ?_
  refine (sx_aload_n D237_33 rfl).trans ?_
  refine (sx_sipush D237_34 (by decide)).trans ?_
  refine (sx_ia D237_37 h0 rfl).trans (gdR_to fun g1 => ?_)
  refine sx_if_ge (pc' := 68) D237_38 (by decide) (by decide) ?_ ?_ rfl rfl
  · refine (sx_aload_n D237_41 rfl).trans ?_
    refine (sx_iload_n D237_42 rfl).trans ?_
    exact sx_stat (ag := [(0, a2)]) (r := [(2, a1)]) (al' := [(0, a2)]) (np := 1) (nl := 1) (q := (0, 224, 1572)) D237_43 (by decide +kernel) (by decide) mP_224 mL_224 (Nat.le_of_ble_eq_true rfl) rfl rfl (by simp [cat]) rfl rfl
  · refine (sx_aload_n D237_68 rfl).trans ?_
    refine (sx_aload_n D237_69 rfl).trans ?_
    exact sx_virt (c := 11) (ag := [(2, 427), (2, a1)]) (r := []) (al' := [(2, 427), (2, a1), uU, uU, uU, uU, uU]) (np := 1) (nl := 7) (q := (1, 241, 1632)) D237_70 (by decide +kernel) (by decide) mP_241 mL_241 mC_241 (Nat.le_of_ble_eq_true rfl) rfl rfl (by simp [cat]) (by decide) (MA_o h1) rfl rfl
theorem E237_46 {d : Nat} {a1 a2 s0 s1 ln0 : Int} {S : SS} {I : II} (h0 : KA S s0 20 ln0) (h1 : MA S 427) : ev (d + 1) 237 46 [(2, 427), (2, a1), (0, a2), uU] [(0, s1), (2, s0)] S I = gdR (0 ≤ w (s1 + 11) ∧ w (s1 + 11) < ln0) (if w (I s0 (w (s1 + 11))) = 0 then ((ev d 238 0 [(2, 427), (2, a1), (0, a2), uU, uU, uU, uU, uU, uU, uU] [] S I).bind (fun q => ev (d + 1) 237 59 [(2, 427), (2, a1), (0, a2), uU] (psh q.1 []) q.2.1 q.2.2)) else (ev (d + 1) 237 32 [(2, 427), (2, a1), (0, a2 + 1), uU] [] S I)) := by
  refine (sx_bipush D237_46 (by decide)).trans ?_
  refine (sx_iadd D237_48).trans ?_
  refine (sx_ia D237_49 h0 rfl).trans (gdR_to fun g1 => ?_)
  refine sx_i0_ne (pc' := 62) D237_50 (by decide) (by decide) ?_ ?_ rfl
  · refine (sx_aload_n D237_53 rfl).trans ?_
    refine (sx_aload_n D237_54 rfl).trans ?_
    refine (sx_iload_n D237_55 rfl).trans ?_
    exact sx_virt (c := 11) (ag := [(2, 427), (2, a1), (0, a2)]) (r := []) (al' := [(2, 427), (2, a1), (0, a2), uU, uU, uU, uU, uU, uU, uU]) (np := 2) (nl := 10) (q := (1, 238, 1622)) D237_56 (by decide +kernel) (by decide) mP_238 mL_238 mC_238 (Nat.le_of_ble_eq_true rfl) rfl rfl (by simp [cat]) (by decide) (MA_o h1) rfl rfl
  · refine (sx_iinc (al' := [(2, 427), (2, a1), (0, a2 + 1), uU]) D237_62 rfl rfl).trans ?_
    refine (sx_goto (pc' := 32) D237_65 (by decide) (by decide)).trans ?_
    exact rfl
theorem E237_59 {d : Nat} {a1 a2 : Int} {S : SS} {I : II}  : ev d 237 59 [(2, 427), (2, a1), (0, a2), uU] [] S I = ev d 237 32 [(2, 427), (2, a1), (0, a2), uU] [] S I := by
  refine (sx_goto (pc' := 32) D237_59 (by decide) (by decide)).trans ?_
  exact rfl
theorem E237_73 {d : Nat} {a1 a2 : Int} {S : SS} {I : II}  : ev d 237 73 [(2, 427), (2, a1), (0, a2), uU] [] S I = ev d 237 75 [(2, 427), (2, a1), (0, a2), (0, 0)] [] S I := by
  refine (sx_iconst D237_73).trans ?_
  refine (sx_istore_n (al' := [(2, 427), (2, a1), (0, a2), (0, 0)]) D237_74 (Nat.le_of_ble_eq_true rfl) rfl rfl).trans ?_
  exact rfl
theorem E237_75 {d : Nat} {a1 a2 a3 : Int} {S : SS} {I : II} (h0 : MA S 427) : ev (d + 1) 237 75 [(2, 427), (2, a1), (0, a2), (0, a3)] [] S I = if w a3 < w (I 427 14) then (gdR (0 ≤ w a3 ∧ w a3 < 5) (if w (I 437 (w a3)) = 1 then ((ev d 212 0 [(2, a1), (0, a3), (0, 8)] [] S I).bind (fun q => ev (d + 1) 237 100 [(2, 427), (2, a1), (0, a2), (0, a3)] (psh q.1 []) q.2.1 q.2.2)) else (ev (d + 1) 237 152 [(2, 427), (2, a1), (0, a2), (0, a3)] [] S I))) else ((ev d 243 0 [(2, a1), uU, uU] [] S I).bind (fun q => ev (d + 1) 237 162 [(2, 427), (2, a1), (0, a2), (0, a3)] (psh q.1 []) q.2.1 q.2.2)) := by
  refine (sx_iload_n D237_75 rfl).trans ?_
  refine (sx_aload_n D237_76 rfl).trans ?_
  refine (sx_gfI (q := (9, 14, 0, 1382)) (j := 14) D237_77 (by decide +kernel) (by decide +kernel) (by decide) (MA_o h0) rfl rfl).trans ?_
  refine sx_if_ge (pc' := 158) D237_80 (by decide) (by decide) ?_ ?_ rfl rfl
  · refine (sx_aload_n D237_83 rfl).trans ?_
    refine (sx_gfR (q := (9, 19, 0, 1387)) (b := 437) D237_84 (by decide +kernel) (by decide +kernel) (by decide) (MA_o h0) (MA_g19 h0)).trans ?_
    refine (sx_iload_n D237_87 rfl).trans ?_
    refine (sx_ia D237_88 (MA_k19 h0) rfl).trans (gdR_to fun g1 => ?_)
    refine (sx_iconst D237_89).trans ?_
    refine sx_if_ne (pc' := 152) D237_90 (by decide) (by decide) ?_ ?_ rfl (w_small (by decide) (by decide))
    · refine (sx_aload_n D237_93 rfl).trans ?_
      refine (sx_iload_n D237_94 rfl).trans ?_
      refine (sx_bipush D237_95 (by decide)).trans ?_
      exact sx_stat (ag := [(2, a1), (0, a3), (0, 8)]) (r := []) (al' := [(2, a1), (0, a3), (0, 8)]) (np := 3) (nl := 3) (q := (0, 212, 1526)) D237_97 (by decide +kernel) (by decide) mP_212 mL_212 (Nat.le_of_ble_eq_true rfl) rfl rfl (by simp [cat]) rfl rfl
    · exact rfl
  · refine (sx_aload_n D237_158 rfl).trans ?_
    exact sx_stat (ag := [(2, a1)]) (r := []) (al' := [(2, a1), uU, uU]) (np := 1) (nl := 3) (q := (0, 243, 1639)) D237_159 (by decide +kernel) (by decide) mP_243 mL_243 (Nat.le_of_ble_eq_true rfl) rfl rfl (by simp [cat]) rfl rfl
theorem E237_100 {d : Nat} {a1 a2 a3 s0 : Int} {S : SS} {I : II}  : ev (d + 1) 237 100 [(2, 427), (2, a1), (0, a2), (0, a3)] [(0, s0)] S I = if w s0 = 1 then ((ev d 212 0 [(2, a1), (0, a3), (0, 1)] [] S I).bind (fun q => ev (d + 1) 237 113 [(2, 427), (2, a1), (0, a2), (0, a3)] (psh q.1 [(0, 2), (0, a3), (2, a1)]) q.2.1 q.2.2)) else (ev (d + 1) 237 152 [(2, 427), (2, a1), (0, a2), (0, a3)] [] S I) := by
  refine (sx_iconst D237_100).trans ?_
  refine sx_if_ne (pc' := 152) D237_101 (by decide) (by decide) ?_ ?_ rfl (w_small (by decide) (by decide))
  · refine (sx_aload_n D237_104 rfl).trans ?_
    refine (sx_iload_n D237_105 rfl).trans ?_
    refine (sx_iconst D237_106).trans ?_
    refine (sx_aload_n D237_107 rfl).trans ?_
    refine (sx_iload_n D237_108 rfl).trans ?_
    refine (sx_iconst D237_109).trans ?_
    exact sx_stat (ag := [(2, a1), (0, a3), (0, 1)]) (r := [(0, 2), (0, a3), (2, a1)]) (al' := [(2, a1), (0, a3), (0, 1)]) (np := 3) (nl := 3) (q := (0, 212, 1526)) D237_110 (by decide +kernel) (by decide) mP_212 mL_212 (Nat.le_of_ble_eq_true rfl) rfl rfl (by simp [cat]) rfl rfl
  · exact rfl
theorem E237_113 {d : Nat} {a1 a2 a3 s0 s1 s2 s3 : Int} {S : SS} {I : II}  : ev (d + 1) 237 113 [(2, 427), (2, a1), (0, a2), (0, a3)] [(0, s3), (0, s2), (0, s1), (2, s0)] S I = (ev d 230 0 [(2, s0), (0, s1), (0, s2), (0, s3)] [] S I).bind (fun q => ev (d + 1) 237 116 [(2, 427), (2, a1), (0, a2), (0, a3)] (psh q.1 []) q.2.1 q.2.2) := by
  exact sx_stat (ag := [(2, s0), (0, s1), (0, s2), (0, s3)]) (r := []) (al' := [(2, s0), (0, s1), (0, s2), (0, s3)]) (np := 4) (nl := 4) (q := (0, 230, 1590)) D237_113 (by decide +kernel) (by decide) mP_230 mL_230 (Nat.le_of_ble_eq_true rfl) rfl rfl (by simp [cat]) rfl rfl
theorem E237_116 {d : Nat} {a1 a2 a3 : Int} {S : SS} {I : II}  : ev (d + 1) 237 116 [(2, 427), (2, a1), (0, a2), (0, a3)] [] S I = (ev d 212 0 [(2, a1), (0, a3), (0, 2)] [] S I).bind (fun q => ev (d + 1) 237 122 [(2, 427), (2, a1), (0, a2), (0, a3)] (psh q.1 []) q.2.1 q.2.2) := by
  refine (sx_aload_n D237_116 rfl).trans ?_
  refine (sx_iload_n D237_117 rfl).trans ?_
  refine (sx_iconst D237_118).trans ?_
  exact sx_stat (ag := [(2, a1), (0, a3), (0, 2)]) (r := []) (al' := [(2, a1), (0, a3), (0, 2)]) (np := 3) (nl := 3) (q := (0, 212, 1526)) D237_119 (by decide +kernel) (by decide) mP_212 mL_212 (Nat.le_of_ble_eq_true rfl) rfl rfl (by simp [cat]) rfl rfl
theorem E237_122 {d : Nat} {a1 a2 a3 s0 : Int} {S : SS} {I : II}  : ev (d + 1) 237 122 [(2, 427), (2, a1), (0, a2), (0, a3)] [(0, s0)] S I = (ev d 212 0 [(2, a1), (0, a3), (0, 3)] [] S I).bind (fun q => ev (d + 1) 237 128 [(2, 427), (2, a1), (0, a2), (0, a3)] (psh q.1 [(0, s0)]) q.2.1 q.2.2) := by
  refine (sx_aload_n D237_122 rfl).trans ?_
  refine (sx_iload_n D237_123 rfl).trans ?_
  refine (sx_iconst D237_124).trans ?_
  exact sx_stat (ag := [(2, a1), (0, a3), (0, 3)]) (r := [(0, s0)]) (al' := [(2, a1), (0, a3), (0, 3)]) (np := 3) (nl := 3) (q := (0, 212, 1526)) D237_125 (by decide +kernel) (by decide) mP_212 mL_212 (Nat.le_of_ble_eq_true rfl) rfl rfl (by simp [cat]) rfl rfl
theorem E237_128 {d : Nat} {a1 a2 a3 s0 s1 : Int} {S : SS} {I : II}  : ev (d + 1) 237 128 [(2, 427), (2, a1), (0, a2), (0, a3)] [(0, s1), (0, s0)] S I = if w s0 = w s1 then ((ev d 212 0 [(2, a1), (0, a3), (0, 2)] [] S I).bind (fun q => ev (d + 1) 237 141 [(2, 427), (2, a1), (0, a2), (0, a3)] (psh q.1 [(0, 7), (0, a3), (2, a1)]) q.2.1 q.2.2)) else (ev (d + 1) 237 152 [(2, 427), (2, a1), (0, a2), (0, a3)] [] S I) := by
  refine sx_if_ne (pc' := 152) D237_128 (by decide) (by decide) ?_ ?_ rfl rfl
  · refine (sx_aload_n D237_131 rfl).trans ?_
    refine (sx_iload_n D237_132 rfl).trans ?_
    refine (sx_bipush D237_133 (by decide)).trans ?_
    refine (sx_aload_n D237_135 rfl).trans ?_
    refine (sx_iload_n D237_136 rfl).trans ?_
    refine (sx_iconst D237_137).trans ?_
    exact sx_stat (ag := [(2, a1), (0, a3), (0, 2)]) (r := [(0, 7), (0, a3), (2, a1)]) (al' := [(2, a1), (0, a3), (0, 2)]) (np := 3) (nl := 3) (q := (0, 212, 1526)) D237_138 (by decide +kernel) (by decide) mP_212 mL_212 (Nat.le_of_ble_eq_true rfl) rfl rfl (by simp [cat]) rfl rfl
  · exact rfl
theorem E237_141 {d : Nat} {a1 a2 a3 s0 s1 s2 s3 : Int} {S : SS} {I : II}  : ev (d + 1) 237 141 [(2, 427), (2, a1), (0, a2), (0, a3)] [(0, s3), (0, s2), (0, s1), (2, s0)] S I = (ev d 230 0 [(2, s0), (0, s1), (0, s2), (0, s3)] [] S I).bind (fun q => ev (d + 1) 237 144 [(2, 427), (2, a1), (0, a2), (0, a3)] (psh q.1 []) q.2.1 q.2.2) := by
  exact sx_stat (ag := [(2, s0), (0, s1), (0, s2), (0, s3)]) (r := []) (al' := [(2, s0), (0, s1), (0, s2), (0, s3)]) (np := 4) (nl := 4) (q := (0, 230, 1590)) D237_141 (by decide +kernel) (by decide) mP_230 mL_230 (Nat.le_of_ble_eq_true rfl) rfl rfl (by simp [cat]) rfl rfl
theorem E237_144 {d : Nat} {a1 a2 a3 : Int} {S : SS} {I : II}  : ev (d + 1) 237 144 [(2, 427), (2, a1), (0, a2), (0, a3)] [] S I = (ev d 230 0 [(2, a1), (0, a3), (0, 8), (0, 0)] [] S I).bind (fun q => ev (d + 1) 237 152 [(2, 427), (2, a1), (0, a2), (0, a3)] (psh q.1 []) q.2.1 q.2.2) := by
  refine (sx_aload_n D237_144 rfl).trans ?_
  refine (sx_iload_n D237_145 rfl).trans ?_
  refine (sx_bipush D237_146 (by decide)).trans ?_
  refine (sx_iconst D237_148).trans ?_
  exact sx_stat (ag := [(2, a1), (0, a3), (0, 8), (0, 0)]) (r := []) (al' := [(2, a1), (0, a3), (0, 8), (0, 0)]) (np := 4) (nl := 4) (q := (0, 230, 1590)) D237_149 (by decide +kernel) (by decide) mP_230 mL_230 (Nat.le_of_ble_eq_true rfl) rfl rfl (by simp [cat]) rfl rfl
theorem E237_152 {d : Nat} {a1 a2 a3 : Int} {S : SS} {I : II}  : ev d 237 152 [(2, 427), (2, a1), (0, a2), (0, a3)] [] S I = ev d 237 75 [(2, 427), (2, a1), (0, a2), (0, a3 + 1)] [] S I := by
  refine (sx_iinc (al' := [(2, 427), (2, a1), (0, a2), (0, a3 + 1)]) D237_152 rfl rfl).trans ?_
  refine (sx_goto (pc' := 75) D237_155 (by decide) (by decide)).trans ?_
  exact rfl
theorem E237_162 {d : Nat} {a1 a2 a3 s0 : Int} {S : SS} {I : II}  : ev d 237 162 [(2, 427), (2, a1), (0, a2), (0, a3)] [(0, s0)] S I = ev d 237 163 [(2, 427), (2, a1), (0, a2), (0, s0)] [] S I := by
  refine (sx_istore_n (al' := [(2, 427), (2, a1), (0, a2), (0, s0)]) D237_162 (Nat.le_of_ble_eq_true rfl) rfl rfl).trans ?_
  exact rfl
theorem E237_163 {d : Nat} {a1 a2 a3 ln0 : Int} {S : SS} {I : II} (h0 : KA S a1 20 ln0) (h1 : MA S 427) : ev (d + 1) 237 163 [(2, 427), (2, a1), (0, a2), (0, a3)] [] S I = gdR (0 ≤ w 493 ∧ w 493 < ln0) (gdR (0 ≤ w 826 ∧ w 826 < ln0) (if w (I a1 (w 493)) < w (I a1 (w 826)) then ((ev d 244 0 [(2, 427), (2, a1), uU, uU] [] S I).bind (fun q => ev (d + 1) 237 181 [(2, 427), (2, a1), (0, a2), (0, a3)] (psh q.1 []) q.2.1 q.2.2)) else (ev (d + 1) 237 192 [(2, 427), (2, a1), (0, a2), (0, a3)] [] S I))) := by
  refine (sx_aload_n D237_163 rfl).trans ?_
  refine (sx_sipush D237_164 (by decide)).trans ?_
  refine (sx_ia D237_167 h0 rfl).trans (gdR_to fun g1 => ?_)
  refine (sx_aload_n D237_168 rfl).trans ?_
  refine (sx_sipush D237_169 (by decide)).trans ?_
  refine (sx_ia D237_172 h0 rfl).trans (gdR_to fun g2 => ?_)
  refine sx_if_ge (pc' := 192) D237_173 (by decide) (by decide) ?_ ?_ rfl rfl
  · refine (sx_aload_n D237_176 rfl).trans ?_
    refine (sx_aload_n D237_177 rfl).trans ?_
    exact sx_virt (c := 11) (ag := [(2, 427), (2, a1)]) (r := []) (al' := [(2, 427), (2, a1), uU, uU]) (np := 1) (nl := 4) (q := (1, 244, 1642)) D237_178 (by decide +kernel) (by decide) mP_244 mL_244 mC_244 (Nat.le_of_ble_eq_true rfl) rfl rfl (by simp [cat]) (by decide) (MA_o h1) rfl rfl
  · exact rfl
theorem E237_181 {d : Nat} {a1 a2 a3 s0 : Int} {S : SS} {I : II} (h0 : MA S 427) : ev (d + 1) 237 181 [(2, 427), (2, a1), (0, a2), (0, a3)] [(0, s0)] S I = if w s0 = 0 then (ev (d + 1) 237 192 [(2, 427), (2, a1), (0, a2), (0, a3)] [] S I) else ((ev d 246 0 [(2, 427), (2, a1), uU, uU, uU, uU, uU, uU, uU, uU] [] S I).bind (fun q => ev (d + 1) 237 189 [(2, 427), (2, a1), (0, a2), (0, a3)] (psh q.1 []) q.2.1 q.2.2)) := by
  refine sx_i0_eq (pc' := 192) D237_181 (by decide) (by decide) ?_ ?_ rfl
  · exact rfl
  · refine (sx_aload_n D237_184 rfl).trans ?_
    refine (sx_aload_n D237_185 rfl).trans ?_
    exact sx_virt (c := 11) (ag := [(2, 427), (2, a1)]) (r := []) (al' := [(2, 427), (2, a1), uU, uU, uU, uU, uU, uU, uU, uU]) (np := 1) (nl := 10) (q := (1, 246, 1649)) D237_186 (by decide +kernel) (by decide) mP_246 mL_246 mC_246 (Nat.le_of_ble_eq_true rfl) rfl rfl (by simp [cat]) (by decide) (MA_o h0) rfl rfl
theorem E237_189 {d : Nat} {a1 a2 a3 : Int} {S : SS} {I : II}  : ev d 237 189 [(2, 427), (2, a1), (0, a2), (0, a3)] [] S I = ev d 237 163 [(2, 427), (2, a1), (0, a2), (0, a3)] [] S I := by
  refine (sx_goto (pc' := 163) D237_189 (by decide) (by decide)).trans ?_
  exact rfl
theorem E237_192 {d : Nat} {a1 a2 a3 : Int} {S : SS} {I : II} (h0 : MA S 427) : ev (d + 1) 237 192 [(2, 427), (2, a1), (0, a2), (0, a3)] [] S I = (ev d 243 0 [(2, a1), uU, uU] [] S I).bind (fun q => ev (d + 1) 237 201 [(2, 427), (2, a1), (0, a2), (0, a3)] (psh q.1 [(0, I 427 25), (2, 427)]) q.2.1 q.2.2) := by
  refine (sx_aload_n D237_192 rfl).trans ?_
  refine (sx_dup D237_193 (by decide)).trans ?_
  refine (sx_gfI (q := (9, 25, 0, 1393)) (j := 25) D237_194 (by decide +kernel) (by decide +kernel) (by decide) (MA_o h0) rfl rfl).trans ?_
  refine (sx_aload_n D237_197 rfl).trans ?_
  exact sx_stat (ag := [(2, a1)]) (r := [(0, I 427 25), (2, 427)]) (al' := [(2, a1), uU, uU]) (np := 1) (nl := 3) (q := (0, 243, 1639)) D237_198 (by decide +kernel) (by decide) mP_243 mL_243 (Nat.le_of_ble_eq_true rfl) rfl rfl (by simp [cat]) rfl rfl
theorem E237_201 {d : Nat} {a1 a2 a3 s1 s2 ln1 : Int} {S : SS} {I : II} (h0 : MA S 427) (h1 : KA S a1 20 ln1) (h2 : a1 = 438 ∨ a1 = 439) : ev d 237 201 [(2, 427), (2, a1), (0, a2), (0, a3)] [(0, s2), (0, s1), (2, 427)] S I = gdR (0 ≤ w 827 ∧ w 827 < ln1) (gdR (0 ≤ w 827 ∧ w 827 < ln1) (some (uU, S, (up2 (up2 I 427 25 (s1 + (s2 - a3))) a1 (w 827) ((I a1 (w 827)) + 1))))) := by
  refine (sx_iload_n D237_201 rfl).trans ?_
  refine (sx_isub D237_202).trans ?_
  refine (sx_iadd D237_203).trans ?_
  refine (sx_pfI (q := (9, 25, 0, 1393)) (j := 25) D237_204 (by decide +kernel) (by decide) (by decide) (MA_o h0) rfl).trans ?_
  refine (sx_aload_n D237_207 rfl).trans ?_
  refine (sx_sipush D237_208 (by decide)).trans ?_
  refine (sx_dup2 D237_211 (by decide) (by decide)).trans ?_
  refine (sx_ia D237_212 h1 (up2_cell (by omega))).trans (gdR_to fun g1 => ?_)
  refine (sx_iconst D237_213).trans ?_
  refine (sx_iadd D237_214).trans ?_
  refine (sx_is D237_215 h1).trans (gdR_to fun g2 => ?_)
  exact sx_return D237_216 (by decide +kernel)
theorem E238_0 {d : Nat} {a1 a2 : Int} {S : SS} {I : II}  : ev (d + 1) 238 0 [(2, 427), (2, a1), (0, a2), uU, uU, uU, uU, uU, uU, uU] [] S I = (ev d 224 0 [(0, a2)] [] S I).bind (fun q => ev (d + 1) 238 5 [(2, 427), (2, a1), (0, a2), uU, uU, uU, uU, uU, uU, uU] (psh q.1 [(2, a1)]) q.2.1 q.2.2) := by
  refine (sx_aload_n D238_0 rfl).trans ?_
  refine (sx_iload_n D238_1 rfl).trans ?_
  exact sx_stat (ag := [(0, a2)]) (r := [(2, a1)]) (al' := [(0, a2)]) (np := 1) (nl := 1) (q := (0, 224, 1572)) D238_2 (by decide +kernel) (by decide) mP_224 mL_224 (Nat.le_of_ble_eq_true rfl) rfl rfl (by simp [cat]) rfl rfl
theorem E238_5 {d : Nat} {a1 a2 s0 s1 ln0 : Int} {S : SS} {I : II} (h0 : KA S s0 20 ln0) : ev (d + 1) 238 5 [(2, 427), (2, a1), (0, a2), uU, uU, uU, uU, uU, uU, uU] [(0, s1), (2, s0)] S I = gdR (0 ≤ w (s1 + 0) ∧ w (s1 + 0) < ln0) ((ev d 224 0 [(0, a2)] [] S I).bind (fun q => ev (d + 1) 238 13 [(2, 427), (2, a1), (0, a2), (0, I s0 (w (s1 + 0))), uU, uU, uU, uU, uU, uU] (psh q.1 []) q.2.1 q.2.2)) := by
  refine (sx_iconst D238_5).trans ?_
  refine (sx_iadd D238_6).trans ?_
  refine (sx_ia D238_7 h0 rfl).trans (gdR_to fun g1 => ?_)
  refine (sx_istore_n (al' := [(2, 427), (2, a1), (0, a2), (0, I s0 (w (s1 + 0))), uU, uU, uU, uU, uU, uU]) D238_8 (Nat.le_of_ble_eq_true rfl) rfl rfl).trans ?_
  refine (sx_iload_n D238_9 rfl).trans ?_
  exact sx_stat (ag := [(0, a2)]) (r := []) (al' := [(0, a2)]) (np := 1) (nl := 1) (q := (0, 224, 1572)) D238_10 (by decide +kernel) (by decide) mP_224 mL_224 (Nat.le_of_ble_eq_true rfl) rfl rfl (by simp [cat]) rfl rfl
theorem E238_13 {d : Nat} {a1 a2 a3 s0 ln0 : Int} {S : SS} {I : II} (h0 : KA S a1 20 ln0) : ev (d + 1) 238 13 [(2, 427), (2, a1), (0, a2), (0, a3), uU, uU, uU, uU, uU, uU] [(0, s0)] S I = gdR (0 ≤ w ((s0 + 1) + 0) ∧ w ((s0 + 1) + 0) < ln0) (gdR (0 ≤ w ((s0 + 1) + 2) ∧ w ((s0 + 1) + 2) < ln0) (gdR (0 ≤ w ((s0 + 1) + 1) ∧ w ((s0 + 1) + 1) < ln0) (if w (I a1 (w ((s0 + 1) + 1))) = 0 then (gdR (0 ≤ w (828 + (I a1 (w ((s0 + 1) + 2)))) ∧ w (828 + (I a1 (w ((s0 + 1) + 2)))) < ln0) ((ev d 239 0 [(2, a1), (0, a3), (0, I a1 (w ((s0 + 1) + 0))), (0, 0), (0, I a1 (w (828 + (I a1 (w ((s0 + 1) + 2)))))), uU] [] S I).bind (fun q => ev (d + 1) 238 62 [(2, 427), (2, a1), (0, a2), (0, a3), (0, s0 + 1), (0, I a1 (w ((s0 + 1) + 0))), (0, 828 + (I a1 (w ((s0 + 1) + 2)))), (0, I a1 (w ((s0 + 1) + 1))), uU, uU] (psh q.1 []) q.2.1 q.2.2))) else (if w (I a1 (w ((s0 + 1) + 1))) = 1 then (gdR (0 ≤ w ((s0 + 1) + 3) ∧ w ((s0 + 1) + 3) < ln0) (gdR (0 ≤ w (828 + (I a1 (w ((s0 + 1) + 2)))) ∧ w (828 + (I a1 (w ((s0 + 1) + 2)))) < ln0) (gdR (0 ≤ w ((s0 + 1) + 3) ∧ w ((s0 + 1) + 3) < ln0) ((ev d 239 0 [(2, a1), (0, a3), (0, I a1 (w ((s0 + 1) + 0))), (0, 0), (0, (up2 I a1 (w (828 + (I a1 (w ((s0 + 1) + 2))))) (I a1 (w ((s0 + 1) + 3)))) a1 (w ((s0 + 1) + 3))), uU] [] S (up2 I a1 (w (828 + (I a1 (w ((s0 + 1) + 2))))) (I a1 (w ((s0 + 1) + 3))))).bind (fun q => ev (d + 1) 238 95 [(2, 427), (2, a1), (0, a2), (0, a3), (0, s0 + 1), (0, I a1 (w ((s0 + 1) + 0))), (0, 828 + (I a1 (w ((s0 + 1) + 2)))), (0, I a1 (w ((s0 + 1) + 1))), uU, uU] (psh q.1 []) q.2.1 q.2.2))))) else (if w (I a1 (w ((s0 + 1) + 1))) = 4 then ((ev d 239 0 [(2, a1), (0, a3), (0, I a1 (w ((s0 + 1) + 0))), (0, 0), (0, 0), uU] [] S I).bind (fun q => ev (d + 1) 238 113 [(2, 427), (2, a1), (0, a2), (0, a3), (0, s0 + 1), (0, I a1 (w ((s0 + 1) + 0))), (0, 828 + (I a1 (w ((s0 + 1) + 2)))), (0, I a1 (w ((s0 + 1) + 1))), uU, uU] (psh q.1 []) q.2.1 q.2.2)) else ((ev d 224 0 [(0, a2)] [] S I).bind (fun q => ev (d + 1) 238 120 [(2, 427), (2, a1), (0, a2), (0, a3), (0, s0 + 1), (0, I a1 (w ((s0 + 1) + 0))), (0, 828 + (I a1 (w ((s0 + 1) + 2)))), (0, I a1 (w ((s0 + 1) + 1))), uU, uU] (psh q.1 []) q.2.1 q.2.2))))))) := by
  refine (sx_iconst D238_13).trans ?_
  refine (sx_iadd D238_14).trans ?_
  refine (sx_istore (al' := [(2, 427), (2, a1), (0, a2), (0, a3), (0, s0 + 1), uU, uU, uU, uU, uU]) D238_15 (Nat.le_of_ble_eq_true rfl) rfl rfl).trans ?_
  refine (sx_aload_n D238_17 rfl).trans ?_
  refine (sx_iload D238_18 rfl).trans ?_
  refine (sx_iconst D238_20).trans ?_
  refine (sx_iadd D238_21).trans ?_
  refine (sx_ia D238_22 h0 rfl).trans (gdR_to fun g1 => ?_)
  refine (sx_istore (al' := [(2, 427), (2, a1), (0, a2), (0, a3), (0, s0 + 1), (0, I a1 (w ((s0 + 1) + 0))), uU, uU, uU, uU]) D238_23 (Nat.le_of_ble_eq_true rfl) rfl rfl).trans ?_
  refine (sx_sipush D238_25 (by decide)).trans ?_
  refine (sx_aload_n D238_28 rfl).trans ?_
  refine (sx_iload D238_29 rfl).trans ?_
  refine (sx_iconst D238_31).trans ?_
  refine (sx_iadd D238_32).trans ?_
  refine (sx_ia D238_33 h0 rfl).trans (gdR_to fun g2 => ?_)
  refine (sx_iadd D238_34).trans ?_
  refine (sx_istore (al' := [(2, 427), (2, a1), (0, a2), (0, a3), (0, s0 + 1), (0, I a1 (w ((s0 + 1) + 0))), (0, 828 + (I a1 (w ((s0 + 1) + 2)))), uU, uU, uU]) D238_35 (Nat.le_of_ble_eq_true rfl) rfl rfl).trans ?_
  refine (sx_aload_n D238_37 rfl).trans ?_
  refine (sx_iload D238_38 rfl).trans ?_
  refine (sx_iconst D238_40).trans ?_
  refine (sx_iadd D238_41).trans ?_
  refine (sx_ia D238_42 h0 rfl).trans (gdR_to fun g3 => ?_)
  refine (sx_istore (al' := [(2, 427), (2, a1), (0, a2), (0, a3), (0, s0 + 1), (0, I a1 (w ((s0 + 1) + 0))), (0, 828 + (I a1 (w ((s0 + 1) + 2)))), (0, I a1 (w ((s0 + 1) + 1))), uU, uU]) D238_43 (Nat.le_of_ble_eq_true rfl) rfl rfl).trans ?_
  refine (sx_iload D238_45 rfl).trans ?_
  refine sx_i0_ne (pc' := 65) D238_47 (by decide) (by decide) ?_ ?_ rfl
  · refine (sx_aload_n D238_50 rfl).trans ?_
    refine (sx_iload_n D238_51 rfl).trans ?_
    refine (sx_iload D238_52 rfl).trans ?_
    refine (sx_iconst D238_54).trans ?_
    refine (sx_aload_n D238_55 rfl).trans ?_
    refine (sx_iload D238_56 rfl).trans ?_
    refine (sx_ia D238_58 h0 rfl).trans (gdR_to fun g4 => ?_)
    exact sx_stat (ag := [(2, a1), (0, a3), (0, I a1 (w ((s0 + 1) + 0))), (0, 0), (0, I a1 (w (828 + (I a1 (w ((s0 + 1) + 2))))))]) (r := []) (al' := [(2, a1), (0, a3), (0, I a1 (w ((s0 + 1) + 0))), (0, 0), (0, I a1 (w (828 + (I a1 (w ((s0 + 1) + 2)))))), uU]) (np := 5) (nl := 6) (q := (0, 239, 1626)) D238_59 (by decide +kernel) (by decide) mP_239 mL_239 (Nat.le_of_ble_eq_true rfl) rfl rfl (by simp [cat]) rfl rfl
  · refine (sx_iload D238_65 rfl).trans ?_
    refine (sx_iconst D238_67).trans ?_
    refine sx_if_ne (pc' := 98) D238_68 (by decide) (by decide) ?_ ?_ rfl (w_small (by decide) (by decide))
    · refine (sx_aload_n D238_71 rfl).trans ?_
      refine (sx_iload D238_72 rfl).trans ?_
      refine (sx_aload_n D238_74 rfl).trans ?_
      refine (sx_iload D238_75 rfl).trans ?_
      refine (sx_iconst D238_77).trans ?_
      refine (sx_iadd D238_78).trans ?_
      refine (sx_ia D238_79 h0 rfl).trans (gdR_to fun g5 => ?_)
      refine (sx_is D238_80 h0).trans (gdR_to fun g6 => ?_)
      refine (sx_aload_n D238_81 rfl).trans ?_
      refine (sx_iload_n D238_82 rfl).trans ?_
      refine (sx_iload D238_83 rfl).trans ?_
      refine (sx_iconst D238_85).trans ?_
      refine (sx_aload_n D238_86 rfl).trans ?_
      refine (sx_iload D238_87 rfl).trans ?_
      refine (sx_iconst D238_89).trans ?_
      refine (sx_iadd D238_90).trans ?_
      refine (sx_ia D238_91 h0 rfl).trans (gdR_to fun g7 => ?_)
      exact sx_stat (ag := [(2, a1), (0, a3), (0, I a1 (w ((s0 + 1) + 0))), (0, 0), (0, (up2 I a1 (w (828 + (I a1 (w ((s0 + 1) + 2))))) (I a1 (w ((s0 + 1) + 3)))) a1 (w ((s0 + 1) + 3)))]) (r := []) (al' := [(2, a1), (0, a3), (0, I a1 (w ((s0 + 1) + 0))), (0, 0), (0, (up2 I a1 (w (828 + (I a1 (w ((s0 + 1) + 2))))) (I a1 (w ((s0 + 1) + 3)))) a1 (w ((s0 + 1) + 3))), uU]) (np := 5) (nl := 6) (q := (0, 239, 1626)) D238_92 (by decide +kernel) (by decide) mP_239 mL_239 (Nat.le_of_ble_eq_true rfl) rfl rfl (by simp [cat]) rfl rfl
    · refine (sx_iload D238_98 rfl).trans ?_
      refine (sx_iconst D238_100).trans ?_
      refine sx_if_ne (pc' := 116) D238_101 (by decide) (by decide) ?_ ?_ rfl (w_small (by decide) (by decide))
      · refine (sx_aload_n D238_104 rfl).trans ?_
        refine (sx_iload_n D238_105 rfl).trans ?_
        refine (sx_iload D238_106 rfl).trans ?_
        refine (sx_iconst D238_108).trans ?_
        refine (sx_iconst D238_109).trans ?_
        exact sx_stat (ag := [(2, a1), (0, a3), (0, I a1 (w ((s0 + 1) + 0))), (0, 0), (0, 0)]) (r := []) (al' := [(2, a1), (0, a3), (0, I a1 (w ((s0 + 1) + 0))), (0, 0), (0, 0), uU]) (np := 5) (nl := 6) (q := (0, 239, 1626)) D238_110 (by decide +kernel) (by decide) mP_239 mL_239 (Nat.le_of_ble_eq_true rfl) rfl rfl (by simp [cat]) rfl rfl
      · refine (sx_iload_n D238_116 rfl).trans ?_
        exact sx_stat (ag := [(0, a2)]) (r := []) (al' := [(0, a2)]) (np := 1) (nl := 1) (q := (0, 224, 1572)) D238_117 (by decide +kernel) (by decide) mP_224 mL_224 (Nat.le_of_ble_eq_true rfl) rfl rfl (by simp [cat]) rfl rfl
theorem E238_62 {d : Nat} {a1 a2 a3 a4 a5 a6 a7 : Int} {S : SS} {I : II}  : ev d 238 62 [(2, 427), (2, a1), (0, a2), (0, a3), (0, a4), (0, a5), (0, a6), (0, a7), uU, uU] [] S I = ev d 238 225 [(2, 427), (2, a1), (0, a2), (0, a3), (0, a4), (0, a5), (0, a6), (0, a7), uU, uU] [] S I := by
  refine (sx_goto (pc' := 225) D238_62 (by decide) (by decide)).trans ?_
  exact rfl
theorem E238_95 {d : Nat} {a1 a2 a3 a4 a5 a6 a7 : Int} {S : SS} {I : II}  : ev d 238 95 [(2, 427), (2, a1), (0, a2), (0, a3), (0, a4), (0, a5), (0, a6), (0, a7), uU, uU] [] S I = ev d 238 225 [(2, 427), (2, a1), (0, a2), (0, a3), (0, a4), (0, a5), (0, a6), (0, a7), uU, uU] [] S I := by
  refine (sx_goto (pc' := 225) D238_95 (by decide) (by decide)).trans ?_
  exact rfl
theorem E238_113 {d : Nat} {a1 a2 a3 a4 a5 a6 a7 : Int} {S : SS} {I : II}  : ev d 238 113 [(2, 427), (2, a1), (0, a2), (0, a3), (0, a4), (0, a5), (0, a6), (0, a7), uU, uU] [] S I = ev d 238 225 [(2, 427), (2, a1), (0, a2), (0, a3), (0, a4), (0, a5), (0, a6), (0, a7), uU, uU] [] S I := by
  refine (sx_goto (pc' := 225) D238_113 (by decide) (by decide)).trans ?_
  exact rfl
theorem E238_120 {d : Nat} {a1 a2 a3 a4 a5 a6 a7 s0 ln0 : Int} {S : SS} {I : II} (h0 : KA S a1 20 ln0) : ev d 238 120 [(2, 427), (2, a1), (0, a2), (0, a3), (0, a4), (0, a5), (0, a6), (0, a7), uU, uU] [(0, s0)] S I = gdR (0 ≤ w a6 ∧ w a6 < ln0) (gdR (0 ≤ w (a4 + 3) ∧ w (a4 + 3) < ln0) (if w (I a1 (w a6)) = w (I a1 (w (a4 + 3))) then (ev d 238 143 [(2, 427), (2, a1), (0, a2), (0, a3), (0, a4), (0, a5), (0, a6), (0, a7), (0, s0 + 6), uU] [(0, 1)] S I) else (ev d 238 143 [(2, 427), (2, a1), (0, a2), (0, a3), (0, a4), (0, a5), (0, a6), (0, a7), (0, s0 + 6), uU] [(0, 0)] S I))) := by
  refine (sx_bipush D238_120 (by decide)).trans ?_
  refine (sx_iadd D238_122).trans ?_
  refine (sx_istore (al' := [(2, 427), (2, a1), (0, a2), (0, a3), (0, a4), (0, a5), (0, a6), (0, a7), (0, s0 + 6), uU]) D238_123 (Nat.le_of_ble_eq_true rfl) rfl rfl).trans ?_
  refine (sx_aload_n D238_125 rfl).trans ?_
  refine (sx_iload D238_126 rfl).trans ?_
  refine (sx_ia D238_128 h0 rfl).trans (gdR_to fun g1 => ?_)
  refine (sx_aload_n D238_129 rfl).trans ?_
  refine (sx_iload D238_130 rfl).trans ?_
  refine (sx_iconst D238_132).trans ?_
  refine (sx_iadd D238_133).trans ?_
  refine (sx_ia D238_134 h0 rfl).trans (gdR_to fun g2 => ?_)
  refine sx_if_ne (pc' := 142) D238_135 (by decide) (by decide) ?_ ?_ rfl rfl
  · refine (sx_iconst D238_138).trans ?_
    refine (sx_goto (pc' := 143) D238_139 (by decide) (by decide)).trans ?_
    exact rfl
  · refine (sx_iconst D238_142).trans ?_
    exact rfl
theorem E238_143 {d : Nat} {a1 a2 a3 a4 a5 a6 a7 a8 s0 : Int} {S : SS} {I : II}  : ev d 238 143 [(2, 427), (2, a1), (0, a2), (0, a3), (0, a4), (0, a5), (0, a6), (0, a7), (0, a8), uU] [(0, s0)] S I = if w s0 = 0 then (ev d 238 159 [(2, 427), (2, a1), (0, a2), (0, a3), (0, a4), (0, a5), (0, a6), (0, a7), (0, a8), (0, s0)] [(0, 2), (0, a5), (0, a3), (2, a1)] S I) else (ev d 238 159 [(2, 427), (2, a1), (0, a2), (0, a3), (0, a4), (0, a5), (0, a6), (0, a7), (0, a8), (0, s0)] [(0, 0), (0, a5), (0, a3), (2, a1)] S I) := by
  refine (sx_istore (al' := [(2, 427), (2, a1), (0, a2), (0, a3), (0, a4), (0, a5), (0, a6), (0, a7), (0, a8), (0, s0)]) D238_143 (Nat.le_of_ble_eq_true rfl) rfl rfl).trans ?_
  refine (sx_aload_n D238_145 rfl).trans ?_
  refine (sx_iload_n D238_146 rfl).trans ?_
  refine (sx_iload D238_147 rfl).trans ?_
  refine (sx_iload D238_149 rfl).trans ?_
  refine sx_i0_eq (pc' := 158) D238_151 (by decide) (by decide) ?_ ?_ rfl
  · refine (sx_iconst D238_158).trans ?_
    exact rfl
  · refine (sx_iconst D238_154).trans ?_
    refine (sx_goto (pc' := 159) D238_155 (by decide) (by decide)).trans ?_
    exact rfl
theorem E238_159 {d : Nat} {a1 a2 a3 a4 a5 a6 a7 a8 a9 s0 s1 s2 s3 ln0 : Int} {S : SS} {I : II} (h0 : KA S a1 20 ln0) : ev (d + 1) 238 159 [(2, 427), (2, a1), (0, a2), (0, a3), (0, a4), (0, a5), (0, a6), (0, a7), (0, a8), (0, a9)] [(0, s3), (0, s2), (0, s1), (2, s0)] S I = gdR (0 ≤ w a6 ∧ w a6 < ln0) ((ev d 239 0 [(2, s0), (0, s1), (0, s2), (0, s3), (0, I a1 (w a6)), uU] [] S I).bind (fun q => ev (d + 1) 238 166 [(2, 427), (2, a1), (0, a2), (0, a3), (0, a4), (0, a5), (0, a6), (0, a7), (0, a8), (0, a9)] (psh q.1 []) q.2.1 q.2.2)) := by
  refine (sx_aload_n D238_159 rfl).trans ?_
  refine (sx_iload D238_160 rfl).trans ?_
  refine (sx_ia D238_162 h0 rfl).trans (gdR_to fun g1 => ?_)
  exact sx_stat (ag := [(2, s0), (0, s1), (0, s2), (0, s3), (0, I a1 (w a6))]) (r := []) (al' := [(2, s0), (0, s1), (0, s2), (0, s3), (0, I a1 (w a6)), uU]) (np := 5) (nl := 6) (q := (0, 239, 1626)) D238_163 (by decide +kernel) (by decide) mP_239 mL_239 (Nat.le_of_ble_eq_true rfl) rfl rfl (by simp [cat]) rfl rfl
theorem E238_166 {d : Nat} {a1 a2 a3 a4 a5 a6 a7 a8 a9 ln0 : Int} {S : SS} {I : II} (h0 : KA S a1 20 ln0) : ev d 238 166 [(2, 427), (2, a1), (0, a2), (0, a3), (0, a4), (0, a5), (0, a6), (0, a7), (0, a8), (0, a9)] [] S I = if w a9 = 0 then (ev d 238 189 [(2, 427), (2, a1), (0, a2), (0, a3), (0, a4), (0, a5), (0, a6), (0, a7), (0, a8), (0, a9)] [] S I) else (gdR (0 ≤ w (a8 + 2) ∧ w (a8 + 2) < ln0) (gdR (0 ≤ w (a8 + 3) ∧ w (a8 + 3) < ln0) (gdR (0 ≤ w (828 + (I a1 (w (a8 + 2)))) ∧ w (828 + (I a1 (w (a8 + 2)))) < ln0) (ev d 238 189 [(2, 427), (2, a1), (0, a2), (0, a3), (0, a4), (0, a5), (0, a6), (0, a7), (0, a8), (0, a9)] [] S (up2 I a1 (w (828 + (I a1 (w (a8 + 2))))) (I a1 (w (a8 + 3)))))))) := by
  refine (sx_iload D238_166 rfl).trans ?_
  refine sx_i0_eq (pc' := 189) D238_168 (by decide) (by decide) ?_ ?_ rfl
  · exact rfl
  · refine (sx_aload_n D238_171 rfl).trans ?_
    refine (sx_sipush D238_172 (by decide)).trans ?_
    refine (sx_aload_n D238_175 rfl).trans ?_
    refine (sx_iload D238_176 rfl).trans ?_
    refine (sx_iconst D238_178).trans ?_
    refine (sx_iadd D238_179).trans ?_
    refine (sx_ia D238_180 h0 rfl).trans (gdR_to fun g1 => ?_)
    refine (sx_iadd D238_181).trans ?_
    refine (sx_aload_n D238_182 rfl).trans ?_
    refine (sx_iload D238_183 rfl).trans ?_
    refine (sx_iconst D238_185).trans ?_
    refine (sx_iadd D238_186).trans ?_
    refine (sx_ia D238_187 h0 rfl).trans (gdR_to fun g2 => ?_)
    refine (sx_is D238_188 h0).trans (gdR_to fun g3 => ?_)
    exact rfl
theorem E238_189 {d : Nat} {a1 a2 a3 a4 a5 a6 a7 a8 a9 ln0 : Int} {S : SS} {I : II} (h0 : KA S a1 20 ln0) : ev d 238 189 [(2, 427), (2, a1), (0, a2), (0, a3), (0, a4), (0, a5), (0, a6), (0, a7), (0, a8), (0, a9)] [] S I = gdR (0 ≤ w (a8 + 0) ∧ w (a8 + 0) < ln0) (if w a9 = 0 then (ev d 238 207 [(2, 427), (2, a1), (0, a2), (0, a3), (0, a4), (0, a5), (0, a6), (0, a7), (0, a8), (0, a9)] [(0, 3), (0, I a1 (w (a8 + 0))), (0, a3), (2, a1)] S I) else (ev d 238 207 [(2, 427), (2, a1), (0, a2), (0, a3), (0, a4), (0, a5), (0, a6), (0, a7), (0, a8), (0, a9)] [(0, 0), (0, I a1 (w (a8 + 0))), (0, a3), (2, a1)] S I)) := by
  refine (sx_aload_n D238_189 rfl).trans ?_
  refine (sx_iload_n D238_190 rfl).trans ?_
  refine (sx_aload_n D238_191 rfl).trans ?_
  refine (sx_iload D238_192 rfl).trans ?_
  refine (sx_iconst D238_194).trans ?_
  refine (sx_iadd D238_195).trans ?_
  refine (sx_ia D238_196 h0 rfl).trans (gdR_to fun g1 => ?_)
  refine (sx_iload D238_197 rfl).trans ?_
  refine sx_i0_eq (pc' := 206) D238_199 (by decide) (by decide) ?_ ?_ rfl
  · refine (sx_iconst D238_206).trans ?_
    exact rfl
  · refine (sx_iconst D238_202).trans ?_
    refine (sx_goto (pc' := 207) D238_203 (by decide) (by decide)).trans ?_
    exact rfl
theorem E238_207 {d : Nat} {a1 a2 a3 a4 a5 a6 a7 a8 a9 s0 s1 s2 s3 ln0 : Int} {S : SS} {I : II} (h0 : KA S a1 20 ln0) : ev d 238 207 [(2, 427), (2, a1), (0, a2), (0, a3), (0, a4), (0, a5), (0, a6), (0, a7), (0, a8), (0, a9)] [(0, s3), (0, s2), (0, s1), (2, s0)] S I = if w a9 = 0 then (ev d 238 222 [(2, 427), (2, a1), (0, a2), (0, a3), (0, a4), (0, a5), (0, a6), (0, a7), (0, a8), (0, a9)] [(0, 0), (0, s3), (0, s2), (0, s1), (2, s0)] S I) else (gdR (0 ≤ w (a8 + 3) ∧ w (a8 + 3) < ln0) (ev d 238 222 [(2, 427), (2, a1), (0, a2), (0, a3), (0, a4), (0, a5), (0, a6), (0, a7), (0, a8), (0, a9)] [(0, I a1 (w (a8 + 3))), (0, s3), (0, s2), (0, s1), (2, s0)] S I)) := by
  refine (sx_iload D238_207 rfl).trans ?_
  refine sx_i0_eq (pc' := 221) D238_209 (by decide) (by decide) ?_ ?_ rfl
  · refine (sx_iconst D238_221).trans ?_
    exact rfl
  · refine (sx_aload_n D238_212 rfl).trans ?_
    refine (sx_iload D238_213 rfl).trans ?_
    refine (sx_iconst D238_215).trans ?_
    refine (sx_iadd D238_216).trans ?_
    refine (sx_ia D238_217 h0 rfl).trans (gdR_to fun g1 => ?_)
    refine (sx_goto (pc' := 222) D238_218 (by decide) (by decide)).trans ?_
    exact rfl
theorem E238_222 {d : Nat} {a1 a2 a3 a4 a5 a6 a7 a8 a9 s0 s1 s2 s3 s4 : Int} {S : SS} {I : II}  : ev (d + 1) 238 222 [(2, 427), (2, a1), (0, a2), (0, a3), (0, a4), (0, a5), (0, a6), (0, a7), (0, a8), (0, a9)] [(0, s4), (0, s3), (0, s2), (0, s1), (2, s0)] S I = (ev d 239 0 [(2, s0), (0, s1), (0, s2), (0, s3), (0, s4), uU] [] S I).bind (fun q => ev (d + 1) 238 225 [(2, 427), (2, a1), (0, a2), (0, a3), (0, a4), (0, a5), (0, a6), (0, a7), (0, a8), (0, a9)] (psh q.1 []) q.2.1 q.2.2) := by
  exact sx_stat (ag := [(2, s0), (0, s1), (0, s2), (0, s3), (0, s4)]) (r := []) (al' := [(2, s0), (0, s1), (0, s2), (0, s3), (0, s4), uU]) (np := 5) (nl := 6) (q := (0, 239, 1626)) D238_222 (by decide +kernel) (by decide) mP_239 mL_239 (Nat.le_of_ble_eq_true rfl) rfl rfl (by simp [cat]) rfl rfl
theorem E238_225 {d : Nat} {a1 a2 a3 a4 a5 a6 a7 : Int} {a8 a9 : AV} {S : SS} {I : II}  : ev (d + 1) 238 225 [(2, 427), (2, a1), (0, a2), (0, a3), (0, a4), (0, a5), (0, a6), (0, a7), a8, a9] [] S I = (ev d 240 0 [(2, a1), (0, a2), uU] [] S I).bind (fun q => ev (d + 1) 238 230 [(2, 427), (2, a1), (0, a2), (0, a3), (0, a4), (0, a5), (0, a6), (0, a7), a8, a9] (psh q.1 []) q.2.1 q.2.2) := by
  refine (sx_aload_n D238_225 rfl).trans ?_
  refine (sx_iload_n D238_226 rfl).trans ?_
  exact sx_stat (ag := [(2, a1), (0, a2)]) (r := []) (al' := [(2, a1), (0, a2), uU]) (np := 2) (nl := 3) (q := (0, 240, 1629)) D238_227 (by decide +kernel) (by decide) mP_240 mL_240 (Nat.le_of_ble_eq_true rfl) rfl rfl (by simp [cat]) rfl rfl
theorem E238_230 {d : Nat} {a1 a2 a3 a4 a5 a6 a7 : Int} {a8 a9 : AV} {S : SS} {I : II}  : ev d 238 230 [(2, 427), (2, a1), (0, a2), (0, a3), (0, a4), (0, a5), (0, a6), (0, a7), a8, a9] [] S I = some (uU, S, I) := by
  exact sx_return D238_230 (by decide +kernel)
theorem E239_0 {d : Nat} {a0 a1 a2 a3 a4 ln0 : Int} {S : SS} {I : II} (h0 : KA S a0 20 ln0) : ev (d + 1) 239 0 [(2, a0), (0, a1), (0, a2), (0, a3), (0, a4), uU] [] S I = gdR (0 ≤ w 814 ∧ w 814 < ln0) ((ev d 227 0 [(0, I a0 (w 814))] [] S I).bind (fun q => ev (d + 1) 239 8 [(2, a0), (0, a1), (0, a2), (0, a3), (0, a4), uU] (psh q.1 []) q.2.1 q.2.2)) := by
  refine (sx_aload_n D239_0 rfl).trans ?_
  refine (sx_sipush D239_1 (by decide)).trans ?_
  refine (sx_ia D239_4 h0 rfl).trans (gdR_to fun g1 => ?_)
  exact sx_stat (ag := [(0, I a0 (w 814))]) (r := []) (al' := [(0, I a0 (w 814))]) (np := 1) (nl := 1) (q := (0, 227, 1581)) D239_5 (by decide +kernel) (by decide) mP_227 mL_227 (Nat.le_of_ble_eq_true rfl) rfl rfl (by simp [cat]) rfl rfl
theorem E239_8 {d : Nat} {a0 a1 a2 a3 a4 s0 ln0 : Int} {S : SS} {I : II} (h0 : KA S a0 20 ln0) : ev d 239 8 [(2, a0), (0, a1), (0, a2), (0, a3), (0, a4), uU] [(0, s0)] S I = gdR (0 ≤ w (s0 + 0) ∧ w (s0 + 0) < ln0) (gdR (0 ≤ w (s0 + 1) ∧ w (s0 + 1) < ln0) (gdR (0 ≤ w (s0 + 2) ∧ w (s0 + 2) < ln0) (gdR (0 ≤ w (s0 + 3) ∧ w (s0 + 3) < ln0) (gdR (0 ≤ w 814 ∧ w 814 < ln0) (gdR (0 ≤ w 814 ∧ w 814 < ln0) (some (uU, S, (up2 (up2 (up2 (up2 (up2 I a0 (w (s0 + 0)) a1) a0 (w (s0 + 1)) a2) a0 (w (s0 + 2)) a3) a0 (w (s0 + 3)) a4) a0 (w 814) (((up2 (up2 (up2 (up2 I a0 (w (s0 + 0)) a1) a0 (w (s0 + 1)) a2) a0 (w (s0 + 2)) a3) a0 (w (s0 + 3)) a4) a0 (w 814)) + 1))))))))) := by
  refine (sx_istore (al' := [(2, a0), (0, a1), (0, a2), (0, a3), (0, a4), (0, s0)]) D239_8 (Nat.le_of_ble_eq_true rfl) rfl rfl).trans ?_
  refine (sx_aload_n D239_10 rfl).trans ?_
  refine (sx_iload D239_11 rfl).trans ?_
  refine (sx_iconst D239_13).trans ?_
  refine (sx_iadd D239_14).trans ?_
  refine (sx_iload_n D239_15 rfl).trans ?_
  refine (sx_is D239_16 h0).trans (gdR_to fun g1 => ?_)
  refine (sx_aload_n D239_17 rfl).trans ?_
  refine (sx_iload D239_18 rfl).trans ?_
  refine (sx_iconst D239_20).trans ?_
  refine (sx_iadd D239_21).trans ?_
  refine (sx_iload_n D239_22 rfl).trans ?_
  refine (sx_is D239_23 h0).trans (gdR_to fun g2 => ?_)
  refine (sx_aload_n D239_24 rfl).trans ?_
  refine (sx_iload D239_25 rfl).trans ?_
  refine (sx_iconst D239_27).trans ?_
  refine (sx_iadd D239_28).trans ?_
  refine (sx_iload_n D239_29 rfl).trans ?_
  refine (sx_is D239_30 h0).trans (gdR_to fun g3 => ?_)
  refine (sx_aload_n D239_31 rfl).trans ?_
  refine (sx_iload D239_32 rfl).trans ?_
  refine (sx_iconst D239_34).trans ?_
  refine (sx_iadd D239_35).trans ?_
  refine (sx_iload D239_36 rfl).trans ?_
  refine (sx_is D239_38 h0).trans (gdR_to fun g4 => ?_)
  refine (sx_aload_n D239_39 rfl).trans ?_
  refine (sx_sipush D239_40 (by decide)).trans ?_
  refine (sx_dup2 D239_43 (by decide) (by decide)).trans ?_
  refine (sx_ia D239_44 h0 rfl).trans (gdR_to fun g5 => ?_)
  refine (sx_iconst D239_45).trans ?_
  refine (sx_iadd D239_46).trans ?_
  refine (sx_is D239_47 h0).trans (gdR_to fun g6 => ?_)
  exact sx_return D239_48 (by decide +kernel)
theorem E240_0 {d : Nat} {a0 a1 ln0 : Int} {S : SS} {I : II} (h0 : KA S a0 20 ln0) : ev (d + 1) 240 0 [(2, a0), (0, a1), uU] [] S I = gdR (0 ≤ w 493 ∧ w 493 < ln0) (gdR (0 ≤ w 493 ∧ w 493 < ln0) ((ev d 224 0 [(0, a1)] [] S (up2 I a0 (w 493) ((I a0 (w 493)) - 1))).bind (fun q => ev (d + 1) 240 13 [(2, a0), (0, a1), uU] (psh q.1 []) q.2.1 q.2.2))) := by
  refine (sx_aload_n D240_0 rfl).trans ?_
  refine (sx_sipush D240_1 (by decide)).trans ?_
  refine (sx_dup2 D240_4 (by decide) (by decide)).trans ?_
  refine (sx_ia D240_5 h0 rfl).trans (gdR_to fun g1 => ?_)
  refine (sx_iconst D240_6).trans ?_
  refine (sx_isub D240_7).trans ?_
  refine (sx_is D240_8 h0).trans (gdR_to fun g2 => ?_)
  refine (sx_iload_n D240_9 rfl).trans ?_
  exact sx_stat (ag := [(0, a1)]) (r := []) (al' := [(0, a1)]) (np := 1) (nl := 1) (q := (0, 224, 1572)) D240_10 (by decide +kernel) (by decide) mP_224 mL_224 (Nat.le_of_ble_eq_true rfl) rfl rfl (by simp [cat]) rfl rfl
theorem E240_13 {d : Nat} {a0 a1 s0 : Int} {S : SS} {I : II}  : ev d 240 13 [(2, a0), (0, a1), uU] [(0, s0)] S I = ev d 240 14 [(2, a0), (0, a1), (0, s0)] [] S I := by
  refine (sx_istore_n (al' := [(2, a0), (0, a1), (0, s0)]) D240_13 (Nat.le_of_ble_eq_true rfl) rfl rfl).trans ?_
  exact rfl
theorem E240_14 {d : Nat} {a0 a1 a2 ln0 : Int} {S : SS} {I : II} (h0 : KA S a0 20 ln0) : ev (d + 1) 240 14 [(2, a0), (0, a1), (0, a2)] [] S I = gdR (0 ≤ w 493 ∧ w 493 < ln0) ((ev d 224 0 [(0, I a0 (w 493))] [] S I).bind (fun q => ev (d + 1) 240 23 [(2, a0), (0, a1), (0, a2)] (psh q.1 [(0, a2)]) q.2.1 q.2.2)) := by
  refine (sx_iload_n D240_14 rfl).trans ?_
  refine (sx_aload_n D240_15 rfl).trans ?_
  refine (sx_sipush D240_16 (by decide)).trans ?_
  refine (sx_ia D240_19 h0 rfl).trans (gdR_to fun g1 => ?_)
  exact sx_stat (ag := [(0, I a0 (w 493))]) (r := [(0, a2)]) (al' := [(0, I a0 (w 493))]) (np := 1) (nl := 1) (q := (0, 224, 1572)) D240_20 (by decide +kernel) (by decide) mP_224 mL_224 (Nat.le_of_ble_eq_true rfl) rfl rfl (by simp [cat]) rfl rfl
theorem E240_23 {d : Nat} {a0 a1 a2 s0 s1 ln0 : Int} {S : SS} {I : II} (h0 : KA S a0 20 ln0) : ev d 240 23 [(2, a0), (0, a1), (0, a2)] [(0, s1), (0, s0)] S I = if w s0 < w s1 then (gdR (0 ≤ w (a2 + 12) ∧ w (a2 + 12) < ln0) (gdR (0 ≤ w a2 ∧ w a2 < ln0) (ev d 240 14 [(2, a0), (0, a1), (0, a2 + 1)] [] S (up2 I a0 (w a2) (I a0 (w (a2 + 12))))))) else (some (uU, S, I)) := by
  refine sx_if_ge (pc' := 41) D240_23 (by decide) (by decide) ?_ ?_ rfl rfl
  · refine (sx_aload_n D240_26 rfl).trans ?_
    refine (sx_iload_n D240_27 rfl).trans ?_
    refine (sx_aload_n D240_28 rfl).trans ?_
    refine (sx_iload_n D240_29 rfl).trans ?_
    refine (sx_bipush D240_30 (by decide)).trans ?_
    refine (sx_iadd D240_32).trans ?_
    refine (sx_ia D240_33 h0 rfl).trans (gdR_to fun g1 => ?_)
    refine (sx_is D240_34 h0).trans (gdR_to fun g2 => ?_)
    refine (sx_iinc (al' := [(2, a0), (0, a1), (0, a2 + 1)]) D240_35 rfl rfl).trans ?_
    refine (sx_goto (pc' := 14) D240_38 (by decide) (by decide)).trans ?_
    exact rfl
  · exact sx_return D240_41 (by decide +kernel)
theorem E241_0 {d : Nat} {a1 : Int} {S : SS} {I : II}  : ev d 241 0 [(2, 427), (2, a1), uU, uU, uU, uU, uU] [] S I = ev d 241 2 [(2, 427), (2, a1), (0, 0), uU, uU, uU, uU] [] S I := by
  refine (sx_iconst D241_0).trans ?_
  refine (sx_istore_n (al' := [(2, 427), (2, a1), (0, 0), uU, uU, uU, uU]) D241_1 (Nat.le_of_ble_eq_true rfl) rfl rfl).trans ?_
  exact rfl
theorem E241_2 {d : Nat} {a1 a2 ln0 : Int} {a3 a4 a5 a6 : AV} {S : SS} {I : II} (h0 : KA S a1 20 ln0) : ev (d + 1) 241 2 [(2, 427), (2, a1), (0, a2), a3, a4, a5, a6] [] S I = gdR (0 ≤ w 814 ∧ w 814 < ln0) (if w a2 < w (I a1 (w 814)) then ((ev d 227 0 [(0, a2)] [] S I).bind (fun q => ev (d + 1) 241 15 [(2, 427), (2, a1), (0, a2), a3, a4, a5, a6] (psh q.1 []) q.2.1 q.2.2)) else (some (uU, S, I))) := by
  refine (sx_iload_n D241_2 rfl).trans ?_
  refine (sx_aload_n D241_3 rfl).trans ?_
  refine (sx_sipush D241_4 (by decide)).trans ?_
  refine (sx_ia D241_7 h0 rfl).trans (gdR_to fun g1 => ?_)
  refine sx_if_ge (pc' := 174) D241_8 (by decide) (by decide) ?_ ?_ rfl rfl
  · refine (sx_iload_n D241_11 rfl).trans ?_
    exact sx_stat (ag := [(0, a2)]) (r := []) (al' := [(0, a2)]) (np := 1) (nl := 1) (q := (0, 227, 1581)) D241_12 (by decide +kernel) (by decide) mP_227 mL_227 (Nat.le_of_ble_eq_true rfl) rfl rfl (by simp [cat]) rfl rfl
  · exact sx_return D241_174 (by decide +kernel)
theorem E241_15 {d : Nat} {a1 a2 s0 ln0 : Int} {a3 a4 a5 a6 : AV} {S : SS} {I : II} (h0 : KA S a1 20 ln0) : ev (d + 1) 241 15 [(2, 427), (2, a1), (0, a2), a3, a4, a5, a6] [(0, s0)] S I = gdR (0 ≤ w (s0 + 0) ∧ w (s0 + 0) < ln0) ((ev d 212 0 [(2, a1), (0, I a1 (w (s0 + 0))), (0, 5)] [] S I).bind (fun q => ev (d + 1) 241 30 [(2, 427), (2, a1), (0, a2), (0, s0), (0, I a1 (w (s0 + 0))), a5, a6] (psh q.1 []) q.2.1 q.2.2)) := by
  refine (sx_istore_n (al' := [(2, 427), (2, a1), (0, a2), (0, s0), a4, a5, a6]) D241_15 (Nat.le_of_ble_eq_true rfl) rfl rfl).trans ?_
  refine (sx_aload_n D241_16 rfl).trans ?_
  refine (sx_iload_n D241_17 rfl).trans ?_
  refine (sx_iconst D241_18).trans ?_
  refine (sx_iadd D241_19).trans ?_
  refine (sx_ia D241_20 h0 rfl).trans (gdR_to fun g1 => ?_)
  refine (sx_istore (al' := [(2, 427), (2, a1), (0, a2), (0, s0), (0, I a1 (w (s0 + 0))), a5, a6]) D241_21 (Nat.le_of_ble_eq_true rfl) rfl rfl).trans ?_
  refine (sx_aload_n D241_23 rfl).trans ?_
  refine (sx_iload D241_24 rfl).trans ?_
  refine (sx_iconst D241_26).trans ?_
  exact sx_stat (ag := [(2, a1), (0, I a1 (w (s0 + 0))), (0, 5)]) (r := []) (al' := [(2, a1), (0, I a1 (w (s0 + 0))), (0, 5)]) (np := 3) (nl := 3) (q := (0, 212, 1526)) D241_27 (by decide +kernel) (by decide) mP_212 mL_212 (Nat.le_of_ble_eq_true rfl) rfl rfl (by simp [cat]) rfl rfl
theorem E241_30 {d : Nat} {a1 a2 a3 a4 s0 : Int} {a5 a6 : AV} {S : SS} {I : II}  : ev (d + 1) 241 30 [(2, 427), (2, a1), (0, a2), (0, a3), (0, a4), a5, a6] [(0, s0)] S I = (ev d 212 0 [(2, a1), (0, a4), (0, 6)] [] S I).bind (fun q => ev (d + 1) 241 42 [(2, 427), (2, a1), (0, a2), (0, a3), (0, a4), (0, s0), a6] (psh q.1 [(0, s0)]) q.2.1 q.2.2) := by
  refine (sx_istore (al' := [(2, 427), (2, a1), (0, a2), (0, a3), (0, a4), (0, s0), a6]) D241_30 (Nat.le_of_ble_eq_true rfl) rfl rfl).trans ?_
  refine (sx_iload D241_32 rfl).trans ?_
  refine (sx_aload_n D241_34 rfl).trans ?_
  refine (sx_iload D241_35 rfl).trans ?_
  refine (sx_bipush D241_37 (by decide)).trans ?_
  exact sx_stat (ag := [(2, a1), (0, a4), (0, 6)]) (r := [(0, s0)]) (al' := [(2, a1), (0, a4), (0, 6)]) (np := 3) (nl := 3) (q := (0, 212, 1526)) D241_39 (by decide +kernel) (by decide) mP_212 mL_212 (Nat.le_of_ble_eq_true rfl) rfl rfl (by simp [cat]) rfl rfl
theorem E241_42 {d : Nat} {a1 a2 a3 a4 a5 s0 s1 : Int} {a6 : AV} {S : SS} {I : II} (h0 : MA S 427) : ev (d + 1) 241 42 [(2, 427), (2, a1), (0, a2), (0, a3), (0, a4), (0, a5), a6] [(0, s1), (0, s0)] S I = gdR (0 ≤ w a4 ∧ w a4 < 5) (if w (s0 - s1) < w ((I 435 (w a4)) - 1) then ((ev d 229 0 [(0, a4), (0, a5)] [] S I).bind (fun q => ev (d + 1) 241 62 [(2, 427), (2, a1), (0, a2), (0, a3), (0, a4), (0, a5), a6] (psh q.1 []) q.2.1 q.2.2)) else (ev (d + 1) 241 171 [(2, 427), (2, a1), (0, a2 + 1), (0, a3), (0, a4), (0, a5), a6] [] S I)) := by
  refine (sx_isub D241_42).trans ?_
  refine (sx_aload_n D241_43 rfl).trans ?_
  refine (sx_gfR (q := (9, 17, 0, 1385)) (b := 435) D241_44 (by decide +kernel) (by decide +kernel) (by decide) (MA_o h0) (MA_g17 h0)).trans ?_
  refine (sx_iload D241_47 rfl).trans ?_
  refine (sx_ia D241_49 (MA_k17 h0) rfl).trans (gdR_to fun g1 => ?_)
  refine (sx_iconst D241_50).trans ?_
  refine (sx_isub D241_51).trans ?_
  refine sx_if_ge (pc' := 168) D241_52 (by decide) (by decide) ?_ ?_ rfl rfl
  · refine (sx_iload D241_55 rfl).trans ?_
    refine (sx_iload D241_57 rfl).trans ?_
    exact sx_stat (ag := [(0, a4), (0, a5)]) (r := []) (al' := [(0, a4), (0, a5)]) (np := 2) (nl := 2) (q := (0, 229, 1587)) D241_59 (by decide +kernel) (by decide) mP_229 mL_229 (Nat.le_of_ble_eq_true rfl) rfl rfl (by simp [cat]) rfl rfl
  · refine (sx_iinc (al' := [(2, 427), (2, a1), (0, a2 + 1), (0, a3), (0, a4), (0, a5), a6]) D241_168 rfl rfl).trans ?_
    exact rfl
theorem E241_62 {d : Nat} {a1 a2 a3 a4 a5 s0 ln0 : Int} {a6 : AV} {S : SS} {I : II} (h0 : KA S a1 20 ln0) : ev (d + 1) 241 62 [(2, 427), (2, a1), (0, a2), (0, a3), (0, a4), (0, a5), a6] [(0, s0)] S I = gdR (0 ≤ w (a3 + 1) ∧ w (a3 + 1) < ln0) (gdR (0 ≤ w (s0 + 0) ∧ w (s0 + 0) < ln0) (gdR (0 ≤ w (a3 + 2) ∧ w (a3 + 2) < ln0) (gdR (0 ≤ w (s0 + 1) ∧ w (s0 + 1) < ln0) (gdR (0 ≤ w (a3 + 3) ∧ w (a3 + 3) < ln0) (gdR (0 ≤ w (s0 + 2) ∧ w (s0 + 2) < ln0) ((ev d 212 0 [(2, a1), (0, a4), (0, 3)] [] S (up2 (up2 (up2 I a1 (w (s0 + 0)) (I a1 (w (a3 + 1)))) a1 (w (s0 + 1)) ((up2 I a1 (w (s0 + 0)) (I a1 (w (a3 + 1)))) a1 (w (a3 + 2)))) a1 (w (s0 + 2)) ((up2 (up2 I a1 (w (s0 + 0)) (I a1 (w (a3 + 1)))) a1 (w (s0 + 1)) ((up2 I a1 (w (s0 + 0)) (I a1 (w (a3 + 1)))) a1 (w (a3 + 2)))) a1 (w (a3 + 3))))).bind (fun q => ev (d + 1) 241 109 [(2, 427), (2, a1), (0, a2), (0, a3), (0, a4), (0, a5), (0, s0)] (psh q.1 [(0, s0 + 3), (2, a1)]) q.2.1 q.2.2))))))) := by
  refine (sx_istore (al' := [(2, 427), (2, a1), (0, a2), (0, a3), (0, a4), (0, a5), (0, s0)]) D241_62 (Nat.le_of_ble_eq_true rfl) rfl rfl).trans ?_
  refine (sx_aload_n D241_64 rfl).trans ?_
  refine (sx_iload D241_65 rfl).trans ?_
  refine (sx_iconst D241_67).trans ?_
  refine (sx_iadd D241_68).trans ?_
  refine (sx_aload_n D241_69 rfl).trans ?_
  refine (sx_iload_n D241_70 rfl).trans ?_
  refine (sx_iconst D241_71).trans ?_
  refine (sx_iadd D241_72).trans ?_
  refine (sx_ia D241_73 h0 rfl).trans (gdR_to fun g1 => ?_)
  refine (sx_is D241_74 h0).trans (gdR_to fun g2 => ?_)
  refine (sx_aload_n D241_75 rfl).trans ?_
  refine (sx_iload D241_76 rfl).trans ?_
  refine (sx_iconst D241_78).trans ?_
  refine (sx_iadd D241_79).trans ?_
  refine (sx_aload_n D241_80 rfl).trans ?_
  refine (sx_iload_n D241_81 rfl).trans ?_
  refine (sx_iconst D241_82).trans ?_
  refine (sx_iadd D241_83).trans ?_
  refine (sx_ia D241_84 h0 rfl).trans (gdR_to fun g3 => ?_)
  refine (sx_is D241_85 h0).trans (gdR_to fun g4 => ?_)
  refine (sx_aload_n D241_86 rfl).trans ?_
  refine (sx_iload D241_87 rfl).trans ?_
  refine (sx_iconst D241_89).trans ?_
  refine (sx_iadd D241_90).trans ?_
  refine (sx_aload_n D241_91 rfl).trans ?_
  refine (sx_iload_n D241_92 rfl).trans ?_
  refine (sx_iconst D241_93).trans ?_
  refine (sx_iadd D241_94).trans ?_
  refine (sx_ia D241_95 h0 rfl).trans (gdR_to fun g5 => ?_)
  refine (sx_is D241_96 h0).trans (gdR_to fun g6 => ?_)
  refine (sx_aload_n D241_97 rfl).trans ?_
  refine (sx_iload D241_98 rfl).trans ?_
  refine (sx_iconst D241_100).trans ?_
  refine (sx_iadd D241_101).trans ?_
  refine (sx_aload_n D241_102 rfl).trans ?_
  refine (sx_iload D241_103 rfl).trans ?_
  refine (sx_iconst D241_105).trans ?_
  exact sx_stat (ag := [(2, a1), (0, a4), (0, 3)]) (r := [(0, s0 + 3), (2, a1)]) (al' := [(2, a1), (0, a4), (0, 3)]) (np := 3) (nl := 3) (q := (0, 212, 1526)) D241_106 (by decide +kernel) (by decide) mP_212 mL_212 (Nat.le_of_ble_eq_true rfl) rfl rfl (by simp [cat]) rfl rfl
theorem E241_109 {d : Nat} {a1 a2 a3 a4 a5 a6 s0 s1 s2 ln0 : Int} {S : SS} {I : II} (h0 : KA S s0 20 ln0) (h1 : MA S 427) (h2 : s0 = 438 ∨ s0 = 439) : ev d 241 109 [(2, 427), (2, a1), (0, a2), (0, a3), (0, a4), (0, a5), (0, a6)] [(0, s2), (0, s1), (2, s0)] S I = gdR (0 ≤ w s1 ∧ w s1 < ln0) (gdR (0 ≤ w a4 ∧ w a4 < 5) (gdR (w (I 435 (w a4)) ≠ 0) (if iRem (iDiv a5 (I 435 (w a4))) 2 = 0 then (ev d 241 135 [(2, 427), (2, a1), (0, a2), (0, a3), (0, a4), (0, a5), (0, a6)] [(0, 1), (0, a6 + 4), (2, a1)] S (up2 I s0 (w s1) s2)) else (ev d 241 135 [(2, 427), (2, a1), (0, a2), (0, a3), (0, a4), (0, a5), (0, a6)] [(0, 0), (0, a6 + 4), (2, a1)] S (up2 I s0 (w s1) s2))))) := by
  refine (sx_is D241_109 h0).trans (gdR_to fun g1 => ?_)
  refine (sx_aload_n D241_110 rfl).trans ?_
  refine (sx_iload D241_111 rfl).trans ?_
  refine (sx_iconst D241_113).trans ?_
  refine (sx_iadd D241_114).trans ?_
  refine (sx_iload D241_115 rfl).trans ?_
  refine (sx_aload_n D241_117 rfl).trans ?_
  refine (sx_gfR (q := (9, 17, 0, 1385)) (b := 435) D241_118 (by decide +kernel) (by decide +kernel) (by decide) (MA_o h1) (MA_g17 h1)).trans ?_
  refine (sx_iload D241_121 rfl).trans ?_
  refine (sx_ia D241_123 (MA_k17 h1) (up2_cell (by omega))).trans (gdR_to fun g2 => ?_)
  refine (sx_idiv D241_124).trans (gdR_to fun g3 => ?_)
  refine (sx_iconst D241_125).trans ?_
  refine ((sx_irem D241_126).trans (gdR_pos (by decide))).trans ?_
  refine sx_i0_ne (pc' := 134) D241_127 (by decide) (by decide) ?_ ?_ (w_toInt _)
  · refine (sx_iconst D241_130).trans ?_
    refine (sx_goto (pc' := 135) D241_131 (by decide) (by decide)).trans ?_
    exact rfl
  · refine (sx_iconst D241_134).trans ?_
    exact rfl
theorem E241_135 {d : Nat} {a1 a2 a3 a4 a5 a6 s0 s1 s2 : Int} {S : SS} {I : II}  : ev (d + 1) 241 135 [(2, 427), (2, a1), (0, a2), (0, a3), (0, a4), (0, a5), (0, a6)] [(0, s2), (0, s1), (2, s0)] S I = (ev d 199 0 [(0, s2)] [] S I).bind (fun q => ev (d + 1) 241 138 [(2, 427), (2, a1), (0, a2), (0, a3), (0, a4), (0, a5), (0, a6)] (psh q.1 [(0, s1), (2, s0)]) q.2.1 q.2.2) := by
  exact sx_stat (ag := [(0, s2)]) (r := [(0, s1), (2, s0)]) (al' := [(0, s2)]) (np := 1) (nl := 1) (q := (0, 199, 1328)) D241_135 (by decide +kernel) (by decide) mP_199 mL_199 (Nat.le_of_ble_eq_true rfl) rfl rfl (by simp [cat]) rfl rfl
theorem E241_138 {d : Nat} {a1 a2 a3 a4 a5 a6 s0 s1 s2 ln0 : Int} {S : SS} {I : II} (h0 : KA S s0 20 ln0) : ev (d + 1) 241 138 [(2, 427), (2, a1), (0, a2), (0, a3), (0, a4), (0, a5), (0, a6)] [(0, s2), (0, s1), (2, s0)] S I = gdR (0 ≤ w s1 ∧ w s1 < ln0) ((ev d 230 0 [(2, a1), (0, a4), (0, 5), (0, a5 + 1)] [] S (up2 I s0 (w s1) s2)).bind (fun q => ev (d + 1) 241 150 [(2, 427), (2, a1), (0, a2), (0, a3), (0, a4), (0, a5), (0, a6)] (psh q.1 []) q.2.1 q.2.2)) := by
  refine (sx_is D241_138 h0).trans (gdR_to fun g1 => ?_)
  refine (sx_aload_n D241_139 rfl).trans ?_
  refine (sx_iload D241_140 rfl).trans ?_
  refine (sx_iconst D241_142).trans ?_
  refine (sx_iload D241_143 rfl).trans ?_
  refine (sx_iconst D241_145).trans ?_
  refine (sx_iadd D241_146).trans ?_
  exact sx_stat (ag := [(2, a1), (0, a4), (0, 5), (0, a5 + 1)]) (r := []) (al' := [(2, a1), (0, a4), (0, 5), (0, a5 + 1)]) (np := 4) (nl := 4) (q := (0, 230, 1590)) D241_147 (by decide +kernel) (by decide) mP_230 mL_230 (Nat.le_of_ble_eq_true rfl) rfl rfl (by simp [cat]) rfl rfl
theorem E241_150 {d : Nat} {a1 a2 a3 a4 a5 a6 : Int} {S : SS} {I : II}  : ev (d + 1) 241 150 [(2, 427), (2, a1), (0, a2), (0, a3), (0, a4), (0, a5), (0, a6)] [] S I = (ev d 242 0 [(2, a1), (0, a2), uU] [] S I).bind (fun q => ev (d + 1) 241 155 [(2, 427), (2, a1), (0, a2), (0, a3), (0, a4), (0, a5), (0, a6)] (psh q.1 []) q.2.1 q.2.2) := by
  refine (sx_aload_n D241_150 rfl).trans ?_
  refine (sx_iload_n D241_151 rfl).trans ?_
  exact sx_stat (ag := [(2, a1), (0, a2)]) (r := []) (al' := [(2, a1), (0, a2), uU]) (np := 2) (nl := 3) (q := (0, 242, 1636)) D241_152 (by decide +kernel) (by decide) mP_242 mL_242 (Nat.le_of_ble_eq_true rfl) rfl rfl (by simp [cat]) rfl rfl
theorem E241_155 {d : Nat} {a1 a2 a3 a4 a5 a6 : Int} {S : SS} {I : II} (h0 : MA S 427) : ev d 241 155 [(2, 427), (2, a1), (0, a2), (0, a3), (0, a4), (0, a5), (0, a6)] [] S I = ev d 241 171 [(2, 427), (2, a1), (0, a2), (0, a3), (0, a4), (0, a5), (0, a6)] [] S (up2 I 427 24 ((I 427 24) + 1)) := by
  refine (sx_aload_n D241_155 rfl).trans ?_
  refine (sx_dup D241_156 (by decide)).trans ?_
  refine (sx_gfI (q := (9, 24, 0, 1392)) (j := 24) D241_157 (by decide +kernel) (by decide +kernel) (by decide) (MA_o h0) rfl rfl).trans ?_
  refine (sx_iconst D241_160).trans ?_
  refine (sx_iadd D241_161).trans ?_
  refine (sx_pfI (q := (9, 24, 0, 1392)) (j := 24) D241_162 (by decide +kernel) (by decide) (by decide) (MA_o h0) rfl).trans ?_
  refine (sx_goto (pc' := 171) D241_165 (by decide) (by decide)).trans ?_
  exact rfl
theorem E241_171 {d : Nat} {a1 a2 a3 a4 a5 : Int} {a6 : AV} {S : SS} {I : II}  : ev d 241 171 [(2, 427), (2, a1), (0, a2), (0, a3), (0, a4), (0, a5), a6] [] S I = ev d 241 2 [(2, 427), (2, a1), (0, a2), (0, a3), (0, a4), (0, a5), a6] [] S I := by
  refine (sx_goto (pc' := 2) D241_171 (by decide) (by decide)).trans ?_
  exact rfl
theorem E242_0 {d : Nat} {a0 a1 ln0 : Int} {S : SS} {I : II} (h0 : KA S a0 20 ln0) : ev (d + 1) 242 0 [(2, a0), (0, a1), uU] [] S I = gdR (0 ≤ w 814 ∧ w 814 < ln0) (gdR (0 ≤ w 814 ∧ w 814 < ln0) ((ev d 227 0 [(0, a1)] [] S (up2 I a0 (w 814) ((I a0 (w 814)) - 1))).bind (fun q => ev (d + 1) 242 13 [(2, a0), (0, a1), uU] (psh q.1 []) q.2.1 q.2.2))) := by
  refine (sx_aload_n D242_0 rfl).trans ?_
  refine (sx_sipush D242_1 (by decide)).trans ?_
  refine (sx_dup2 D242_4 (by decide) (by decide)).trans ?_
  refine (sx_ia D242_5 h0 rfl).trans (gdR_to fun g1 => ?_)
  refine (sx_iconst D242_6).trans ?_
  refine (sx_isub D242_7).trans ?_
  refine (sx_is D242_8 h0).trans (gdR_to fun g2 => ?_)
  refine (sx_iload_n D242_9 rfl).trans ?_
  exact sx_stat (ag := [(0, a1)]) (r := []) (al' := [(0, a1)]) (np := 1) (nl := 1) (q := (0, 227, 1581)) D242_10 (by decide +kernel) (by decide) mP_227 mL_227 (Nat.le_of_ble_eq_true rfl) rfl rfl (by simp [cat]) rfl rfl
theorem E242_13 {d : Nat} {a0 a1 s0 : Int} {S : SS} {I : II}  : ev d 242 13 [(2, a0), (0, a1), uU] [(0, s0)] S I = ev d 242 14 [(2, a0), (0, a1), (0, s0)] [] S I := by
  refine (sx_istore_n (al' := [(2, a0), (0, a1), (0, s0)]) D242_13 (Nat.le_of_ble_eq_true rfl) rfl rfl).trans ?_
  exact rfl
theorem E242_14 {d : Nat} {a0 a1 a2 ln0 : Int} {S : SS} {I : II} (h0 : KA S a0 20 ln0) : ev (d + 1) 242 14 [(2, a0), (0, a1), (0, a2)] [] S I = gdR (0 ≤ w 814 ∧ w 814 < ln0) ((ev d 227 0 [(0, I a0 (w 814))] [] S I).bind (fun q => ev (d + 1) 242 23 [(2, a0), (0, a1), (0, a2)] (psh q.1 [(0, a2)]) q.2.1 q.2.2)) := by
  refine (sx_iload_n D242_14 rfl).trans ?_
  refine (sx_aload_n D242_15 rfl).trans ?_
  refine (sx_sipush D242_16 (by decide)).trans ?_
  refine (sx_ia D242_19 h0 rfl).trans (gdR_to fun g1 => ?_)
  exact sx_stat (ag := [(0, I a0 (w 814))]) (r := [(0, a2)]) (al' := [(0, I a0 (w 814))]) (np := 1) (nl := 1) (q := (0, 227, 1581)) D242_20 (by decide +kernel) (by decide) mP_227 mL_227 (Nat.le_of_ble_eq_true rfl) rfl rfl (by simp [cat]) rfl rfl
theorem E242_23 {d : Nat} {a0 a1 a2 s0 s1 ln0 : Int} {S : SS} {I : II} (h0 : KA S a0 20 ln0) : ev d 242 23 [(2, a0), (0, a1), (0, a2)] [(0, s1), (0, s0)] S I = if w s0 < w s1 then (gdR (0 ≤ w (a2 + 4) ∧ w (a2 + 4) < ln0) (gdR (0 ≤ w a2 ∧ w a2 < ln0) (ev d 242 14 [(2, a0), (0, a1), (0, a2 + 1)] [] S (up2 I a0 (w a2) (I a0 (w (a2 + 4))))))) else (some (uU, S, I)) := by
  refine sx_if_ge (pc' := 40) D242_23 (by decide) (by decide) ?_ ?_ rfl rfl
  · refine (sx_aload_n D242_26 rfl).trans ?_
    refine (sx_iload_n D242_27 rfl).trans ?_
    refine (sx_aload_n D242_28 rfl).trans ?_
    refine (sx_iload_n D242_29 rfl).trans ?_
    refine (sx_iconst D242_30).trans ?_
    refine (sx_iadd D242_31).trans ?_
    refine (sx_ia D242_32 h0 rfl).trans (gdR_to fun g1 => ?_)
    refine (sx_is D242_33 h0).trans (gdR_to fun g2 => ?_)
    refine (sx_iinc (al' := [(2, a0), (0, a1), (0, a2 + 1)]) D242_34 rfl rfl).trans ?_
    refine (sx_goto (pc' := 14) D242_37 (by decide) (by decide)).trans ?_
    exact rfl
  · exact sx_return D242_40 (by decide +kernel)
theorem E243_0 {d : Nat} {a0 : Int} {S : SS} {I : II}  : ev d 243 0 [(2, a0), uU, uU] [] S I = ev d 243 4 [(2, a0), (0, 0), (0, 0)] [] S I := by
  refine (sx_iconst D243_0).trans ?_
  refine (sx_istore_n (al' := [(2, a0), (0, 0), uU]) D243_1 (Nat.le_of_ble_eq_true rfl) rfl rfl).trans ?_
  refine (sx_iconst D243_2).trans ?_
  refine (sx_istore_n (al' := [(2, a0), (0, 0), (0, 0)]) D243_3 (Nat.le_of_ble_eq_true rfl) rfl rfl).trans ?_
  exact rfl
theorem E243_4 {d : Nat} {a0 a1 a2 ln0 : Int} {S : SS} {I : II} (h0 : KA S a0 20 ln0) : ev d 243 4 [(2, a0), (0, a1), (0, a2)] [] S I = if w a2 < 4 then (gdR (0 ≤ w (840 + a2) ∧ w (840 + a2) < ln0) (ev d 243 4 [(2, a0), (0, a1 + (I a0 (w (840 + a2)))), (0, a2 + 1)] [] S I)) else (some ((0, a1), S, I)) := by
  refine (sx_iload_n D243_4 rfl).trans ?_
  refine (sx_iconst D243_5).trans ?_
  refine sx_if_ge (pc' := 25) D243_6 (by decide) (by decide) ?_ ?_ rfl (w_small (by decide) (by decide))
  · refine (sx_iload_n D243_9 rfl).trans ?_
    refine (sx_aload_n D243_10 rfl).trans ?_
    refine (sx_sipush D243_11 (by decide)).trans ?_
    refine (sx_iload_n D243_14 rfl).trans ?_
    refine (sx_iadd D243_15).trans ?_
    refine (sx_ia D243_16 h0 rfl).trans (gdR_to fun g1 => ?_)
    refine (sx_iadd D243_17).trans ?_
    refine (sx_istore_n (al' := [(2, a0), (0, a1 + (I a0 (w (840 + a2)))), (0, a2)]) D243_18 (Nat.le_of_ble_eq_true rfl) rfl rfl).trans ?_
    refine (sx_iinc (al' := [(2, a0), (0, a1 + (I a0 (w (840 + a2)))), (0, a2 + 1)]) D243_19 rfl rfl).trans ?_
    refine (sx_goto (pc' := 4) D243_22 (by decide) (by decide)).trans ?_
    exact rfl
  · refine (sx_iload_n D243_25 rfl).trans ?_
    exact sx_ireturn D243_26 (by decide +kernel)
theorem E244_0 {d : Nat} {a1 : Int} {S : SS} {I : II}  : ev d 244 0 [(2, 427), (2, a1), uU, uU] [] S I = ev d 244 4 [(2, 427), (2, a1), (0, 0), (0, 0)] [] S I := by
  refine (sx_iconst D244_0).trans ?_
  refine (sx_istore_n (al' := [(2, 427), (2, a1), (0, 0), uU]) D244_1 (Nat.le_of_ble_eq_true rfl) rfl rfl).trans ?_
  refine (sx_iconst D244_2).trans ?_
  refine (sx_istore_n (al' := [(2, 427), (2, a1), (0, 0), (0, 0)]) D244_3 (Nat.le_of_ble_eq_true rfl) rfl rfl).trans ?_
  exact rfl
theorem E244_4 {d : Nat} {a1 a2 a3 : Int} {S : SS} {I : II} (h0 : MA S 427) (h1 : a2 = 0 ∨ a2 = 1) : ev (d + 1) 244 4 [(2, 427), (2, a1), (0, a2), (0, a3)] [] S I = if w a3 < w (I 427 14) then (if w a2 = 0 then ((ev d 245 0 [(2, a1), (0, a3)] [] S I).bind (fun q => ev (d + 1) 244 21 [(2, 427), (2, a1), (0, a2), (0, a3)] (psh q.1 []) q.2.1 q.2.2)) else (ev (d + 1) 244 24 [(2, 427), (2, a1), (0, a2), (0, a3)] [] S I)) else (some ((0, a2), S, I)) := by
  refine (sx_iload_n D244_4 rfl).trans ?_
  refine (sx_aload_n D244_5 rfl).trans ?_
  refine (sx_gfI (q := (9, 14, 0, 1382)) (j := 14) D244_6 (by decide +kernel) (by decide +kernel) (by decide) (MA_o h0) rfl rfl).trans ?_
  refine sx_if_ge (pc' := 36) D244_9 (by decide) (by decide) ?_ ?_ rfl rfl
  · refine (sx_iload_n D244_12 rfl).trans ?_
    refine sx_i0_ne (pc' := 24) D244_13 (by decide) (by decide) ?_ ?_ rfl
    · refine (sx_aload_n D244_16 rfl).trans ?_
      refine (sx_iload_n D244_17 rfl).trans ?_
      exact sx_stat (ag := [(2, a1), (0, a3)]) (r := []) (al' := [(2, a1), (0, a3)]) (np := 2) (nl := 2) (q := (0, 245, 1646)) D244_18 (by decide +kernel) (by decide) mP_245 mL_245 (Nat.le_of_ble_eq_true rfl) rfl rfl (by simp [cat]) rfl rfl
    · exact rfl
  · refine (sx_iload_n D244_36 rfl).trans ?_
    exact sx_zreturn D244_37 (by decide +kernel) h1
theorem E244_21 {d : Nat} {a1 a2 a3 s0 : Int} {S : SS} {I : II}  : ev d 244 21 [(2, 427), (2, a1), (0, a2), (0, a3)] [(0, s0)] S I = if w s0 = 0 then (ev d 244 29 [(2, 427), (2, a1), (0, a2), (0, a3)] [(0, 0)] S I) else (ev d 244 24 [(2, 427), (2, a1), (0, a2), (0, a3)] [] S I) := by
  refine sx_i0_eq (pc' := 28) D244_21 (by decide) (by decide) ?_ ?_ rfl
  · refine (sx_iconst D244_28).trans ?_
    exact rfl
  · exact rfl
theorem E244_24 {d : Nat} {a1 a2 a3 : Int} {S : SS} {I : II}  : ev d 244 24 [(2, 427), (2, a1), (0, a2), (0, a3)] [] S I = ev d 244 29 [(2, 427), (2, a1), (0, a2), (0, a3)] [(0, 1)] S I := by
  refine (sx_iconst D244_24).trans ?_
  refine (sx_goto (pc' := 29) D244_25 (by decide) (by decide)).trans ?_
  exact rfl
theorem E244_29 {d : Nat} {a1 a2 a3 s0 : Int} {S : SS} {I : II}  : ev d 244 29 [(2, 427), (2, a1), (0, a2), (0, a3)] [(0, s0)] S I = ev d 244 4 [(2, 427), (2, a1), (0, s0), (0, a3 + 1)] [] S I := by
  refine (sx_istore_n (al' := [(2, 427), (2, a1), (0, s0), (0, a3)]) D244_29 (Nat.le_of_ble_eq_true rfl) rfl rfl).trans ?_
  refine (sx_iinc (al' := [(2, 427), (2, a1), (0, s0), (0, a3 + 1)]) D244_30 rfl rfl).trans ?_
  refine (sx_goto (pc' := 4) D244_33 (by decide) (by decide)).trans ?_
  exact rfl
theorem E245_0 {d : Nat} {a0 a1 : Int} {S : SS} {I : II}  : ev (d + 1) 245 0 [(2, a0), (0, a1)] [] S I = (ev d 212 0 [(2, a0), (0, a1), (0, 2)] [] S I).bind (fun q => ev (d + 1) 245 6 [(2, a0), (0, a1)] (psh q.1 []) q.2.1 q.2.2) := by
  refine (sx_aload_n D245_0 rfl).trans ?_
  refine (sx_iload_n D245_1 rfl).trans ?_
  refine (sx_iconst D245_2).trans ?_
  exact sx_stat (ag := [(2, a0), (0, a1), (0, 2)]) (r := []) (al' := [(2, a0), (0, a1), (0, 2)]) (np := 3) (nl := 3) (q := (0, 212, 1526)) D245_3 (by decide +kernel) (by decide) mP_212 mL_212 (Nat.le_of_ble_eq_true rfl) rfl rfl (by simp [cat]) rfl rfl
theorem E245_6 {d : Nat} {a0 a1 s0 : Int} {S : SS} {I : II}  : ev (d + 1) 245 6 [(2, a0), (0, a1)] [(0, s0)] S I = (ev d 212 0 [(2, a0), (0, a1), (0, 3)] [] S I).bind (fun q => ev (d + 1) 245 12 [(2, a0), (0, a1)] (psh q.1 [(0, s0)]) q.2.1 q.2.2) := by
  refine (sx_aload_n D245_6 rfl).trans ?_
  refine (sx_iload_n D245_7 rfl).trans ?_
  refine (sx_iconst D245_8).trans ?_
  exact sx_stat (ag := [(2, a0), (0, a1), (0, 3)]) (r := [(0, s0)]) (al' := [(2, a0), (0, a1), (0, 3)]) (np := 3) (nl := 3) (q := (0, 212, 1526)) D245_9 (by decide +kernel) (by decide) mP_212 mL_212 (Nat.le_of_ble_eq_true rfl) rfl rfl (by simp [cat]) rfl rfl
theorem E245_12 {d : Nat} {a0 a1 s0 s1 : Int} {S : SS} {I : II}  : ev d 245 12 [(2, a0), (0, a1)] [(0, s1), (0, s0)] S I = if w s1 < w s0 then (ev d 245 20 [(2, a0), (0, a1)] [(0, 1)] S I) else (ev d 245 20 [(2, a0), (0, a1)] [(0, 0)] S I) := by
  refine sx_if_le (pc' := 19) D245_12 (by decide) (by decide) ?_ ?_ rfl rfl
  · refine (sx_iconst D245_15).trans ?_
    refine (sx_goto (pc' := 20) D245_16 (by decide) (by decide)).trans ?_
    exact rfl
  · refine (sx_iconst D245_19).trans ?_
    exact rfl
theorem E245_20 {d : Nat} {a0 a1 s0 : Int} {S : SS} {I : II} (h0 : s0 = 0 ∨ s0 = 1) : ev d 245 20 [(2, a0), (0, a1)] [(0, s0)] S I = some ((0, s0), S, I) := by
  exact sx_zreturn D245_20 (by decide +kernel) h0
theorem E246_0 {d : Nat} {a1 : Int} {S : SS} {I : II} (h0 : MA S 427) : ev (d + 1) 246 0 [(2, 427), (2, a1), uU, uU, uU, uU, uU, uU, uU, uU] [] S I = (ev d 247 0 [(2, 427), (2, a1), uU, uU, uU] [] S I).bind (fun q => ev (d + 1) 246 5 [(2, 427), (2, a1), uU, uU, uU, uU, uU, uU, uU, uU] (psh q.1 []) q.2.1 q.2.2) := by
  refine (sx_aload_n D246_0 rfl).trans ?_
  refine (sx_aload_n D246_1 rfl).trans ?_
  exact sx_virt (c := 11) (ag := [(2, 427), (2, a1)]) (r := []) (al' := [(2, 427), (2, a1), uU, uU, uU]) (np := 1) (nl := 5) (q := (1, 247, 1653)) D246_2 (by decide +kernel) (by decide) mP_247 mL_247 mC_247 (Nat.le_of_ble_eq_true rfl) rfl rfl (by simp [cat]) (by decide) (MA_o h0) rfl rfl
theorem E246_5 {d : Nat} {a1 s0 : Int} {S : SS} {I : II} (h0 : MA S 427) : ev (d + 1) 246 5 [(2, 427), (2, a1), uU, uU, uU, uU, uU, uU, uU, uU] [(0, s0)] S I = (ev d 250 0 [(2, 427), (2, a1), (0, s0), uU] [] S I).bind (fun q => ev (d + 1) 246 12 [(2, 427), (2, a1), (0, s0), uU, uU, uU, uU, uU, uU, uU] (psh q.1 []) q.2.1 q.2.2) := by
  refine (sx_istore_n (al' := [(2, 427), (2, a1), (0, s0), uU, uU, uU, uU, uU, uU, uU]) D246_5 (Nat.le_of_ble_eq_true rfl) rfl rfl).trans ?_
  refine (sx_aload_n D246_6 rfl).trans ?_
  refine (sx_aload_n D246_7 rfl).trans ?_
  refine (sx_iload_n D246_8 rfl).trans ?_
  exact sx_virt (c := 11) (ag := [(2, 427), (2, a1), (0, s0)]) (r := []) (al' := [(2, 427), (2, a1), (0, s0), uU]) (np := 2) (nl := 4) (q := (1, 250, 1665)) D246_9 (by decide +kernel) (by decide) mP_250 mL_250 mC_250 (Nat.le_of_ble_eq_true rfl) rfl rfl (by simp [cat]) (by decide) (MA_o h0) rfl rfl
theorem E246_12 {d : Nat} {a1 a2 s0 ln0 : Int} {S : SS} {I : II} (h0 : KA S a1 20 ln0) : ev (d + 1) 246 12 [(2, 427), (2, a1), (0, a2), uU, uU, uU, uU, uU, uU, uU] [(0, s0)] S I = gdR (0 ≤ w (s0 + 0) ∧ w (s0 + 0) < ln0) (gdR (0 ≤ w (s0 + 1) ∧ w (s0 + 1) < ln0) (gdR (0 ≤ w (s0 + 4) ∧ w (s0 + 4) < ln0) (if w (I a1 (w (s0 + 4))) = 1 then ((ev d 239 0 [(2, a1), (0, a2), (0, I a1 (w (s0 + 0))), (0, 1), (0, 0), uU] [] S I).bind (fun q => ev (d + 1) 246 45 [(2, 427), (2, a1), (0, a2), (0, s0), (0, I a1 (w (s0 + 0))), (0, I a1 (w (s0 + 1))), uU, uU, uU, uU] (psh q.1 []) q.2.1 q.2.2)) else ((ev d 212 0 [(2, a1), (0, a2), (0, 3)] [] S I).bind (fun q => ev (d + 1) 246 53 [(2, 427), (2, a1), (0, a2), (0, s0), (0, I a1 (w (s0 + 0))), (0, I a1 (w (s0 + 1))), uU, uU, uU, uU] (psh q.1 [(0, a2)]) q.2.1 q.2.2))))) := by
  refine (sx_istore_n (al' := [(2, 427), (2, a1), (0, a2), (0, s0), uU, uU, uU, uU, uU, uU]) D246_12 (Nat.le_of_ble_eq_true rfl) rfl rfl).trans ?_
  refine (sx_aload_n D246_13 rfl).trans ?_
  refine (sx_iload_n D246_14 rfl).trans ?_
  refine (sx_iconst D246_15).trans ?_
  refine (sx_iadd D246_16).trans ?_
  refine (sx_ia D246_17 h0 rfl).trans (gdR_to fun g1 => ?_)
  refine (sx_istore (al' := [(2, 427), (2, a1), (0, a2), (0, s0), (0, I a1 (w (s0 + 0))), uU, uU, uU, uU, uU]) D246_18 (Nat.le_of_ble_eq_true rfl) rfl rfl).trans ?_
  refine (sx_aload_n D246_20 rfl).trans ?_
  refine (sx_iload_n D246_21 rfl).trans ?_
  refine (sx_iconst D246_22).trans ?_
  refine (sx_iadd D246_23).trans ?_
  refine (sx_ia D246_24 h0 rfl).trans (gdR_to fun g2 => ?_)
  refine (sx_istore (al' := [(2, 427), (2, a1), (0, a2), (0, s0), (0, I a1 (w (s0 + 0))), (0, I a1 (w (s0 + 1))), uU, uU, uU, uU]) D246_25 (Nat.le_of_ble_eq_true rfl) rfl rfl).trans ?_
  refine (sx_aload_n D246_27 rfl).trans ?_
  refine (sx_iload_n D246_28 rfl).trans ?_
  refine (sx_iconst D246_29).trans ?_
  refine (sx_iadd D246_30).trans ?_
  refine (sx_ia D246_31 h0 rfl).trans (gdR_to fun g3 => ?_)
  refine (sx_iconst D246_32).trans ?_
  refine sx_if_ne (pc' := 46) D246_33 (by decide) (by decide) ?_ ?_ rfl (w_small (by decide) (by decide))
  · refine (sx_aload_n D246_36 rfl).trans ?_
    refine (sx_iload_n D246_37 rfl).trans ?_
    refine (sx_iload D246_38 rfl).trans ?_
    refine (sx_iconst D246_40).trans ?_
    refine (sx_iconst D246_41).trans ?_
    exact sx_stat (ag := [(2, a1), (0, a2), (0, I a1 (w (s0 + 0))), (0, 1), (0, 0)]) (r := []) (al' := [(2, a1), (0, a2), (0, I a1 (w (s0 + 0))), (0, 1), (0, 0), uU]) (np := 5) (nl := 6) (q := (0, 239, 1626)) D246_42 (by decide +kernel) (by decide) mP_239 mL_239 (Nat.le_of_ble_eq_true rfl) rfl rfl (by simp [cat]) rfl rfl
  · refine (sx_iload_n D246_46 rfl).trans ?_
    refine (sx_aload_n D246_47 rfl).trans ?_
    refine (sx_iload_n D246_48 rfl).trans ?_
    refine (sx_iconst D246_49).trans ?_
    exact sx_stat (ag := [(2, a1), (0, a2), (0, 3)]) (r := [(0, a2)]) (al' := [(2, a1), (0, a2), (0, 3)]) (np := 3) (nl := 3) (q := (0, 212, 1526)) D246_50 (by decide +kernel) (by decide) mP_212 mL_212 (Nat.le_of_ble_eq_true rfl) rfl rfl (by simp [cat]) rfl rfl
theorem E246_45 {d : Nat} {a1 a2 a3 a4 a5 : Int} {S : SS} {I : II}  : ev d 246 45 [(2, 427), (2, a1), (0, a2), (0, a3), (0, a4), (0, a5), uU, uU, uU, uU] [] S I = some (uU, S, I) := by
  exact sx_return D246_45 (by decide +kernel)
theorem E246_53 {d : Nat} {a1 a2 a3 a4 a5 s0 s1 : Int} {S : SS} {I : II}  : ev (d + 1) 246 53 [(2, 427), (2, a1), (0, a2), (0, a3), (0, a4), (0, a5), uU, uU, uU, uU] [(0, s1), (0, s0)] S I = (ev d 222 0 [(0, s0), (0, s1)] [] S I).bind (fun q => ev (d + 1) 246 56 [(2, 427), (2, a1), (0, a2), (0, a3), (0, a4), (0, a5), uU, uU, uU, uU] (psh q.1 []) q.2.1 q.2.2) := by
  exact sx_stat (ag := [(0, s0), (0, s1)]) (r := []) (al' := [(0, s0), (0, s1)]) (np := 2) (nl := 2) (q := (0, 222, 1566)) D246_53 (by decide +kernel) (by decide) mP_222 mL_222 (Nat.le_of_ble_eq_true rfl) rfl rfl (by simp [cat]) rfl rfl
theorem E246_56 {d : Nat} {a1 a2 a3 a4 a5 s0 : Int} {S : SS} {I : II}  : ev (d + 1) 246 56 [(2, 427), (2, a1), (0, a2), (0, a3), (0, a4), (0, a5), uU, uU, uU, uU] [(0, s0)] S I = if w a5 = 2 then ((ev d 245 0 [(2, a1), (0, a2)] [] S I).bind (fun q => ev (d + 1) 246 69 [(2, 427), (2, a1), (0, a2), (0, a3), (0, a4), (0, a5), (0, s0), uU, uU, uU] (psh q.1 []) q.2.1 q.2.2)) else (ev (d + 1) 246 95 [(2, 427), (2, a1), (0, a2), (0, a3), (0, a4), (0, a5), (0, s0), uU, uU, uU] [] S I) := by
  refine (sx_istore (al' := [(2, 427), (2, a1), (0, a2), (0, a3), (0, a4), (0, a5), (0, s0), uU, uU, uU]) D246_56 (Nat.le_of_ble_eq_true rfl) rfl rfl).trans ?_
  refine (sx_iload D246_58 rfl).trans ?_
  refine (sx_iconst D246_60).trans ?_
  refine sx_if_ne (pc' := 95) D246_61 (by decide) (by decide) ?_ ?_ rfl (w_small (by decide) (by decide))
  · refine (sx_aload_n D246_64 rfl).trans ?_
    refine (sx_iload_n D246_65 rfl).trans ?_
    exact sx_stat (ag := [(2, a1), (0, a2)]) (r := []) (al' := [(2, a1), (0, a2)]) (np := 2) (nl := 2) (q := (0, 245, 1646)) D246_66 (by decide +kernel) (by decide) mP_245 mL_245 (Nat.le_of_ble_eq_true rfl) rfl rfl (by simp [cat]) rfl rfl
  · exact rfl
theorem E246_69 {d : Nat} {a1 a2 a3 a4 a5 a6 s0 ln0 : Int} {S : SS} {I : II} (h0 : KA S a1 20 ln0) : ev d 246 69 [(2, 427), (2, a1), (0, a2), (0, a3), (0, a4), (0, a5), (0, a6), uU, uU, uU] [(0, s0)] S I = if w s0 = 0 then (ev d 246 95 [(2, 427), (2, a1), (0, a2), (0, a3), (0, a4), (0, a5), (0, a6), uU, uU, uU] [] S I) else (gdR (0 ≤ w (a6 + 1) ∧ w (a6 + 1) < ln0) (if w (I a1 (w (a6 + 1))) = 3 then (gdR (0 ≤ w (a6 + 4) ∧ w (a6 + 4) < ln0) (if w (I a1 (w (a6 + 4))) = 0 then (ev d 246 96 [(2, 427), (2, a1), (0, a2), (0, a3), (0, a4), (0, a5), (0, a6), uU, uU, uU] [(0, 1)] S I) else (ev d 246 95 [(2, 427), (2, a1), (0, a2), (0, a3), (0, a4), (0, a5), (0, a6), uU, uU, uU] [] S I))) else (ev d 246 95 [(2, 427), (2, a1), (0, a2), (0, a3), (0, a4), (0, a5), (0, a6), uU, uU, uU] [] S I))) := by
  refine sx_i0_eq (pc' := 95) D246_69 (by decide) (by decide) ?_ ?_ rfl
  · exact rfl
  · refine (sx_aload_n D246_72 rfl).trans ?_
    refine (sx_iload D246_73 rfl).trans ?_
    refine (sx_iconst D246_75).trans ?_
    refine (sx_iadd D246_76).trans ?_
    refine (sx_ia D246_77 h0 rfl).trans (gdR_to fun g1 => ?_)
    refine (sx_iconst D246_78).trans ?_
    refine sx_if_ne (pc' := 95) D246_79 (by decide) (by decide) ?_ ?_ rfl (w_small (by decide) (by decide))
    · refine (sx_aload_n D246_82 rfl).trans ?_
      refine (sx_iload D246_83 rfl).trans ?_
      refine (sx_iconst D246_85).trans ?_
      refine (sx_iadd D246_86).trans ?_
      refine (sx_ia D246_87 h0 rfl).trans (gdR_to fun g2 => ?_)
      refine sx_i0_ne (pc' := 95) D246_88 (by decide) (by decide) ?_ ?_ rfl
      · refine (sx_iconst D246_91).trans ?_
        refine (sx_goto (pc' := 96) D246_92 (by decide) (by decide)).trans ?_
        exact rfl
      · exact rfl
    · exact rfl
theorem E246_95 {d : Nat} {a1 a2 a3 a4 a5 a6 : Int} {S : SS} {I : II}  : ev d 246 95 [(2, 427), (2, a1), (0, a2), (0, a3), (0, a4), (0, a5), (0, a6), uU, uU, uU] [] S I = ev d 246 96 [(2, 427), (2, a1), (0, a2), (0, a3), (0, a4), (0, a5), (0, a6), uU, uU, uU] [(0, 0)] S I := by
  refine (sx_iconst D246_95).trans ?_
  exact rfl
theorem E246_96 {d : Nat} {a1 a2 a3 a4 a5 a6 s0 : Int} {S : SS} {I : II}  : ev d 246 96 [(2, 427), (2, a1), (0, a2), (0, a3), (0, a4), (0, a5), (0, a6), uU, uU, uU] [(0, s0)] S I = if w a5 = 2 then (if w s0 = 0 then (ev d 246 115 [(2, 427), (2, a1), (0, a2), (0, a3), (0, a4), (0, a5), (0, a6), (0, s0), uU, uU] [] S I) else (ev d 246 109 [(2, 427), (2, a1), (0, a2), (0, a3), (0, a4), (0, a5), (0, a6), (0, s0), uU, uU] [] S I)) else (ev d 246 109 [(2, 427), (2, a1), (0, a2), (0, a3), (0, a4), (0, a5), (0, a6), (0, s0), uU, uU] [] S I) := by
  refine (sx_istore (al' := [(2, 427), (2, a1), (0, a2), (0, a3), (0, a4), (0, a5), (0, a6), (0, s0), uU, uU]) D246_96 (Nat.le_of_ble_eq_true rfl) rfl rfl).trans ?_
  refine (sx_iload D246_98 rfl).trans ?_
  refine (sx_iconst D246_100).trans ?_
  refine sx_if_ne (pc' := 109) D246_101 (by decide) (by decide) ?_ ?_ rfl (w_small (by decide) (by decide))
  · refine (sx_iload D246_104 rfl).trans ?_
    refine sx_i0_eq (pc' := 115) D246_106 (by decide) (by decide) ?_ ?_ rfl
    · exact rfl
    · exact rfl
  · exact rfl
theorem E246_109 {d : Nat} {a1 a2 a3 a4 a5 a6 a7 : Int} {S : SS} {I : II} (h0 : MA S 427) : ev (d + 1) 246 109 [(2, 427), (2, a1), (0, a2), (0, a3), (0, a4), (0, a5), (0, a6), (0, a7), uU, uU] [] S I = if w a5 = 3 then (ev (d + 1) 246 115 [(2, 427), (2, a1), (0, a2), (0, a3), (0, a4), (0, a5), (0, a6), (0, a7), uU, uU] [] S I) else ((ev d 251 0 [(2, 427), (2, a1), (0, a2), (0, a3)] [] S I).bind (fun q => ev (d + 1) 246 132 [(2, 427), (2, a1), (0, a2), (0, a3), (0, a4), (0, a5), (0, a6), (0, a7), uU, uU] (psh q.1 []) q.2.1 q.2.2)) := by
  refine (sx_iload D246_109 rfl).trans ?_
  refine (sx_iconst D246_111).trans ?_
  refine sx_if_ne (pc' := 125) D246_112 (by decide) (by decide) ?_ ?_ rfl (w_small (by decide) (by decide))
  · exact rfl
  · refine (sx_aload_n D246_125 rfl).trans ?_
    refine (sx_aload_n D246_126 rfl).trans ?_
    refine (sx_iload_n D246_127 rfl).trans ?_
    refine (sx_iload_n D246_128 rfl).trans ?_
    exact sx_virt (c := 11) (ag := [(2, 427), (2, a1), (0, a2), (0, a3)]) (r := []) (al' := [(2, 427), (2, a1), (0, a2), (0, a3)]) (np := 3) (nl := 4) (q := (1, 251, 1669)) D246_129 (by decide +kernel) (by decide) mP_251 mL_251 mC_251 (Nat.le_of_ble_eq_true rfl) rfl rfl (by simp [cat]) (by decide) (MA_o h0) rfl rfl
theorem E246_115 {d : Nat} {a1 a2 a3 a4 a5 a6 a7 : Int} {S : SS} {I : II}  : ev (d + 1) 246 115 [(2, 427), (2, a1), (0, a2), (0, a3), (0, a4), (0, a5), (0, a6), (0, a7), uU, uU] [] S I = (ev d 239 0 [(2, a1), (0, a2), (0, a4), (0, 4), (0, 0), uU] [] S I).bind (fun q => ev (d + 1) 246 124 [(2, 427), (2, a1), (0, a2), (0, a3), (0, a4), (0, a5), (0, a6), (0, a7), uU, uU] (psh q.1 []) q.2.1 q.2.2) := by
  refine (sx_aload_n D246_115 rfl).trans ?_
  refine (sx_iload_n D246_116 rfl).trans ?_
  refine (sx_iload D246_117 rfl).trans ?_
  refine (sx_iconst D246_119).trans ?_
  refine (sx_iconst D246_120).trans ?_
  exact sx_stat (ag := [(2, a1), (0, a2), (0, a4), (0, 4), (0, 0)]) (r := []) (al' := [(2, a1), (0, a2), (0, a4), (0, 4), (0, 0), uU]) (np := 5) (nl := 6) (q := (0, 239, 1626)) D246_121 (by decide +kernel) (by decide) mP_239 mL_239 (Nat.le_of_ble_eq_true rfl) rfl rfl (by simp [cat]) rfl rfl
theorem E246_124 {d : Nat} {a1 a2 a3 a4 a5 a6 a7 : Int} {S : SS} {I : II}  : ev d 246 124 [(2, 427), (2, a1), (0, a2), (0, a3), (0, a4), (0, a5), (0, a6), (0, a7), uU, uU] [] S I = some (uU, S, I) := by
  exact sx_return D246_124 (by decide +kernel)
theorem E246_132 {d : Nat} {a1 a2 a3 a4 a5 a6 a7 s0 ln0 : Int} {S : SS} {I : II} (h0 : KA S a1 20 ln0) : ev (d + 1) 246 132 [(2, 427), (2, a1), (0, a2), (0, a3), (0, a4), (0, a5), (0, a6), (0, a7), uU, uU] [(0, s0)] S I = gdR (0 ≤ w 493 ∧ w 493 < ln0) ((ev d 224 0 [(0, I a1 (w 493))] [] S I).bind (fun q => ev (d + 1) 246 142 [(2, 427), (2, a1), (0, a2), (0, a3), (0, a4), (0, a5), (0, a6), (0, a7), (0, s0), uU] (psh q.1 []) q.2.1 q.2.2)) := by
  refine (sx_istore (al' := [(2, 427), (2, a1), (0, a2), (0, a3), (0, a4), (0, a5), (0, a6), (0, a7), (0, s0), uU]) D246_132 (Nat.le_of_ble_eq_true rfl) rfl rfl).trans ?_
  refine (sx_aload_n D246_134 rfl).trans ?_
  refine (sx_sipush D246_135 (by decide)).trans ?_
  refine (sx_ia D246_138 h0 rfl).trans (gdR_to fun g1 => ?_)
  exact sx_stat (ag := [(0, I a1 (w 493))]) (r := []) (al' := [(0, I a1 (w 493))]) (np := 1) (nl := 1) (q := (0, 224, 1572)) D246_139 (by decide +kernel) (by decide) mP_224 mL_224 (Nat.le_of_ble_eq_true rfl) rfl rfl (by simp [cat]) rfl rfl
theorem E246_142 {d : Nat} {a1 a2 a3 a4 a5 a6 a7 a8 s0 ln0 : Int} {S : SS} {I : II} (h0 : KA S a1 20 ln0) : ev (d + 1) 246 142 [(2, 427), (2, a1), (0, a2), (0, a3), (0, a4), (0, a5), (0, a6), (0, a7), (0, a8), uU] [(0, s0)] S I = gdR (0 ≤ w (s0 + 0) ∧ w (s0 + 0) < ln0) ((ev d 254 0 [(2, a1), (0, s0 + 1), (0, a3), uU] [] S (up2 I a1 (w (s0 + 0)) a2)).bind (fun q => ev (d + 1) 246 160 [(2, 427), (2, a1), (0, a2), (0, a3), (0, a4), (0, a5), (0, a6), (0, a7), (0, a8), (0, s0)] (psh q.1 []) q.2.1 q.2.2)) := by
  refine (sx_istore (al' := [(2, 427), (2, a1), (0, a2), (0, a3), (0, a4), (0, a5), (0, a6), (0, a7), (0, a8), (0, s0)]) D246_142 (Nat.le_of_ble_eq_true rfl) rfl rfl).trans ?_
  refine (sx_aload_n D246_144 rfl).trans ?_
  refine (sx_iload D246_145 rfl).trans ?_
  refine (sx_iconst D246_147).trans ?_
  refine (sx_iadd D246_148).trans ?_
  refine (sx_iload_n D246_149 rfl).trans ?_
  refine (sx_is D246_150 h0).trans (gdR_to fun g1 => ?_)
  refine (sx_aload_n D246_151 rfl).trans ?_
  refine (sx_iload D246_152 rfl).trans ?_
  refine (sx_iconst D246_154).trans ?_
  refine (sx_iadd D246_155).trans ?_
  refine (sx_iload_n D246_156 rfl).trans ?_
  exact sx_stat (ag := [(2, a1), (0, s0 + 1), (0, a3)]) (r := []) (al' := [(2, a1), (0, s0 + 1), (0, a3), uU]) (np := 3) (nl := 4) (q := (0, 254, 1680)) D246_157 (by decide +kernel) (by decide) mP_254 mL_254 (Nat.le_of_ble_eq_true rfl) rfl rfl (by simp [cat]) rfl rfl
theorem E246_160 {d : Nat} {a1 a2 a3 a4 a5 a6 a7 a8 a9 ln0 : Int} {S : SS} {I : II} (h0 : KA S a1 20 ln0) (h1 : MA S 427) : ev (d + 1) 246 160 [(2, 427), (2, a1), (0, a2), (0, a3), (0, a4), (0, a5), (0, a6), (0, a7), (0, a8), (0, a9)] [] S I = gdR (0 ≤ w ((a9 + 6) + 1) ∧ w ((a9 + 6) + 1) < ln0) (if w a7 = 0 then (ev (d + 1) 246 190 [(2, 427), (2, a1), (0, a2), (0, a3), (0, a4), (0, a5), (0, a6), (0, a7), (0, a8), (0, a9)] [] S (up2 I a1 (w ((a9 + 6) + 1)) (-1))) else ((ev d 250 0 [(2, 427), (2, a1), (0, a2), uU] [] S (up2 I a1 (w ((a9 + 6) + 1)) (-1))).bind (fun q => ev (d + 1) 246 187 [(2, 427), (2, a1), (0, a2), (0, a3), (0, a4), (0, a5), (0, a6), (0, a7), (0, a8), (0, a9)] (psh q.1 [(0, a9 + 6), (2, a1)]) q.2.1 q.2.2))) := by
  refine (sx_aload_n D246_160 rfl).trans ?_
  refine (sx_iload D246_161 rfl).trans ?_
  refine (sx_bipush D246_163 (by decide)).trans ?_
  refine (sx_iadd D246_165).trans ?_
  refine (sx_iconst D246_166).trans ?_
  refine (sx_iadd D246_167).trans ?_
  refine (sx_iconst D246_168).trans ?_
  refine (sx_is D246_169 h0).trans (gdR_to fun g1 => ?_)
  refine (sx_iload D246_170 rfl).trans ?_
  refine sx_i0_eq (pc' := 190) D246_172 (by decide) (by decide) ?_ ?_ rfl
  · exact rfl
  · refine (sx_aload_n D246_175 rfl).trans ?_
    refine (sx_iload D246_176 rfl).trans ?_
    refine (sx_bipush D246_178 (by decide)).trans ?_
    refine (sx_iadd D246_180).trans ?_
    refine (sx_aload_n D246_181 rfl).trans ?_
    refine (sx_aload_n D246_182 rfl).trans ?_
    refine (sx_iload_n D246_183 rfl).trans ?_
    exact sx_virt (c := 11) (ag := [(2, 427), (2, a1), (0, a2)]) (r := [(0, a9 + 6), (2, a1)]) (al' := [(2, 427), (2, a1), (0, a2), uU]) (np := 2) (nl := 4) (q := (1, 250, 1665)) D246_184 (by decide +kernel) (by decide) mP_250 mL_250 mC_250 (Nat.le_of_ble_eq_true rfl) rfl rfl (by simp [cat]) (by decide) (MA_o h1) rfl rfl
theorem E246_187 {d : Nat} {a1 a2 a3 a4 a5 a6 a7 a8 a9 s0 s1 s2 : Int} {S : SS} {I : II}  : ev (d + 1) 246 187 [(2, 427), (2, a1), (0, a2), (0, a3), (0, a4), (0, a5), (0, a6), (0, a7), (0, a8), (0, a9)] [(0, s2), (0, s1), (2, s0)] S I = (ev d 254 0 [(2, s0), (0, s1), (0, s2), uU] [] S I).bind (fun q => ev (d + 1) 246 190 [(2, 427), (2, a1), (0, a2), (0, a3), (0, a4), (0, a5), (0, a6), (0, a7), (0, a8), (0, a9)] (psh q.1 []) q.2.1 q.2.2) := by
  exact sx_stat (ag := [(2, s0), (0, s1), (0, s2)]) (r := []) (al' := [(2, s0), (0, s1), (0, s2), uU]) (np := 3) (nl := 4) (q := (0, 254, 1680)) D246_187 (by decide +kernel) (by decide) mP_254 mL_254 (Nat.le_of_ble_eq_true rfl) rfl rfl (by simp [cat]) rfl rfl
theorem E246_190 {d : Nat} {a1 a2 a3 a4 a5 a6 a7 a8 a9 ln0 : Int} {S : SS} {I : II} (h0 : KA S a1 20 ln0) : ev d 246 190 [(2, 427), (2, a1), (0, a2), (0, a3), (0, a4), (0, a5), (0, a6), (0, a7), (0, a8), (0, a9)] [] S I = gdR (0 ≤ w (a9 + 11) ∧ w (a9 + 11) < ln0) (gdR (0 ≤ w 493 ∧ w 493 < ln0) (gdR (0 ≤ w 493 ∧ w 493 < ln0) (some (uU, S, (up2 (up2 I a1 (w (a9 + 11)) a8) a1 (w 493) (((up2 I a1 (w (a9 + 11)) a8) a1 (w 493)) + 1)))))) := by
  refine (sx_aload_n D246_190 rfl).trans ?_
  refine (sx_iload D246_191 rfl).trans ?_
  refine (sx_bipush D246_193 (by decide)).trans ?_
  refine (sx_iadd D246_195).trans ?_
  refine (sx_iload D246_196 rfl).trans ?_
  refine (sx_is D246_198 h0).trans (gdR_to fun g1 => ?_)
  refine (sx_aload_n D246_199 rfl).trans ?_
  refine (sx_sipush D246_200 (by decide)).trans ?_
  refine (sx_dup2 D246_203 (by decide) (by decide)).trans ?_
  refine (sx_ia D246_204 h0 rfl).trans (gdR_to fun g2 => ?_)
  refine (sx_iconst D246_205).trans ?_
  refine (sx_iadd D246_206).trans ?_
  refine (sx_is D246_207 h0).trans (gdR_to fun g3 => ?_)
  exact sx_return D246_208 (by decide +kernel)
theorem E247_0 {d : Nat} {a1 : Int} {S : SS} {I : II} (h0 : MA S 427) : ev (d + 1) 247 0 [(2, 427), (2, a1), uU, uU, uU] [] S I = (ev d 248 0 [(2, 427), (2, a1), (0, 0), uU, uU] [] S I).bind (fun q => ev (d + 1) 247 6 [(2, 427), (2, a1), uU, uU, uU] (psh q.1 []) q.2.1 q.2.2) := by
  refine (sx_aload_n D247_0 rfl).trans ?_
  refine (sx_aload_n D247_1 rfl).trans ?_
  refine (sx_iconst D247_2).trans ?_
  exact sx_virt (c := 11) (ag := [(2, 427), (2, a1), (0, 0)]) (r := []) (al' := [(2, 427), (2, a1), (0, 0), uU, uU]) (np := 2) (nl := 5) (q := (1, 248, 1657)) D247_3 (by decide +kernel) (by decide) mP_248 mL_248 mC_248 (Nat.le_of_ble_eq_true rfl) rfl rfl (by simp [cat]) (by decide) (MA_o h0) rfl rfl
theorem E247_6 {d : Nat} {a1 s0 : Int} {S : SS} {I : II} (h0 : MA S 427) : ev (d + 1) 247 6 [(2, 427), (2, a1), uU, uU, uU] [(0, s0)] S I = if w s0 < 0 then ((ev d 249 0 [(2, 427), (2, a1), uU] [] S I).bind (fun q => ev (d + 1) 247 18 [(2, 427), (2, a1), (0, s0), (0, 0), uU] (psh q.1 []) q.2.1 q.2.2)) else (ev (d + 1) 247 76 [(2, 427), (2, a1), (0, s0), (0, 0), uU] [] S I) := by
  refine (sx_istore_n (al' := [(2, 427), (2, a1), (0, s0), uU, uU]) D247_6 (Nat.le_of_ble_eq_true rfl) rfl rfl).trans ?_
  refine (sx_iconst D247_7).trans ?_
  refine (sx_istore_n (al' := [(2, 427), (2, a1), (0, s0), (0, 0), uU]) D247_8 (Nat.le_of_ble_eq_true rfl) rfl rfl).trans ?_
  refine (sx_iload_n D247_9 rfl).trans ?_
  refine sx_i0_ge (pc' := 76) D247_10 (by decide) (by decide) ?_ ?_ rfl
  · refine (sx_aload_n D247_13 rfl).trans ?_
    refine (sx_aload_n D247_14 rfl).trans ?_
    exact sx_virt (c := 11) (ag := [(2, 427), (2, a1)]) (r := []) (al' := [(2, 427), (2, a1), uU]) (np := 1) (nl := 3) (q := (1, 249, 1661)) D247_15 (by decide +kernel) (by decide) mP_249 mL_249 mC_249 (Nat.le_of_ble_eq_true rfl) rfl rfl (by simp [cat]) (by decide) (MA_o h0) rfl rfl
  · exact rfl
theorem E247_18 {d : Nat} {a1 a2 a3 s0 : Int} {S : SS} {I : II}  : ev d 247 18 [(2, 427), (2, a1), (0, a2), (0, a3), uU] [(0, s0)] S I = if w s0 < 0 then (ev d 247 24 [(2, 427), (2, a1), (0, a2), (0, a3), (0, 1)] [] S I) else (ev d 247 52 [(2, 427), (2, a1), (0, a2), (0, a3), uU] [] S I) := by
  refine sx_i0_ge (pc' := 52) D247_18 (by decide) (by decide) ?_ ?_ rfl
  · refine (sx_iconst D247_21).trans ?_
    refine (sx_istore (al' := [(2, 427), (2, a1), (0, a2), (0, a3), (0, 1)]) D247_22 (Nat.le_of_ble_eq_true rfl) rfl rfl).trans ?_
    exact rfl
  · exact rfl
theorem E247_24 {d : Nat} {a1 a2 a3 a4 ln0 : Int} {S : SS} {I : II} (h0 : KA S a1 20 ln0) : ev d 247 24 [(2, 427), (2, a1), (0, a2), (0, a3), (0, a4)] [] S I = if w a4 < 4 then (gdR (0 ≤ w (814 + a4) ∧ w (814 + a4) < ln0) (gdR (0 ≤ w (818 + a4) ∧ w (818 + a4) < ln0) (ev d 247 24 [(2, 427), (2, a1), (0, a2), (0, a3), (0, a4 + 1)] [] S (up2 I a1 (w (818 + a4)) (I a1 (w (814 + a4))))))) else (ev d 247 52 [(2, 427), (2, a1), (0, a2), (0, a3), (0, a4)] [] S I) := by
  refine (sx_iload D247_24 rfl).trans ?_
  refine (sx_iconst D247_26).trans ?_
  refine sx_if_ge (pc' := 52) D247_27 (by decide) (by decide) ?_ ?_ rfl (w_small (by decide) (by decide))
  · refine (sx_aload_n D247_30 rfl).trans ?_
    refine (sx_sipush D247_31 (by decide)).trans ?_
    refine (sx_iload D247_34 rfl).trans ?_
    refine (sx_iadd D247_36).trans ?_
    refine (sx_aload_n D247_37 rfl).trans ?_
    refine (sx_sipush D247_38 (by decide)).trans ?_
    refine (sx_iload D247_41 rfl).trans ?_
    refine (sx_iadd D247_43).trans ?_
    refine (sx_ia D247_44 h0 rfl).trans (gdR_to fun g1 => ?_)
    refine (sx_is D247_45 h0).trans (gdR_to fun g2 => ?_)
    refine (sx_iinc (al' := [(2, 427), (2, a1), (0, a2), (0, a3), (0, a4 + 1)]) D247_46 rfl rfl).trans ?_
    refine (sx_goto (pc' := 24) D247_49 (by decide) (by decide)).trans ?_
    exact rfl
  · exact rfl
theorem E247_52 {d : Nat} {a1 a2 a3 : Int} {a4 : AV} {S : SS} {I : II} (h0 : MA S 427) : ev (d + 1) 247 52 [(2, 427), (2, a1), (0, a2), (0, a3), a4] [] S I = (ev d 249 0 [(2, 427), (2, a1), uU] [] S I).bind (fun q => ev (d + 1) 247 57 [(2, 427), (2, a1), (0, a2), (0, a3), a4] (psh q.1 []) q.2.1 q.2.2) := by
  refine (sx_aload_n D247_52 rfl).trans ?_
  refine (sx_aload_n D247_53 rfl).trans ?_
  exact sx_virt (c := 11) (ag := [(2, 427), (2, a1)]) (r := []) (al' := [(2, 427), (2, a1), uU]) (np := 1) (nl := 3) (q := (1, 249, 1661)) D247_54 (by decide +kernel) (by decide) mP_249 mL_249 mC_249 (Nat.le_of_ble_eq_true rfl) rfl rfl (by simp [cat]) (by decide) (MA_o h0) rfl rfl
theorem E247_57 {d : Nat} {a1 a2 a3 s0 : Int} {a4 : AV} {S : SS} {I : II} (h0 : MA S 427) : ev (d + 1) 247 57 [(2, 427), (2, a1), (0, a2), (0, a3), a4] [(0, s0)] S I = (ev d 248 0 [(2, 427), (2, a1), (0, s0), uU, uU] [] S I).bind (fun q => ev (d + 1) 247 64 [(2, 427), (2, a1), (0, a2), (0, s0), a4] (psh q.1 []) q.2.1 q.2.2) := by
  refine (sx_istore_n (al' := [(2, 427), (2, a1), (0, a2), (0, s0), a4]) D247_57 (Nat.le_of_ble_eq_true rfl) rfl rfl).trans ?_
  refine (sx_aload_n D247_58 rfl).trans ?_
  refine (sx_aload_n D247_59 rfl).trans ?_
  refine (sx_iload_n D247_60 rfl).trans ?_
  exact sx_virt (c := 11) (ag := [(2, 427), (2, a1), (0, s0)]) (r := []) (al' := [(2, 427), (2, a1), (0, s0), uU, uU]) (np := 2) (nl := 5) (q := (1, 248, 1657)) D247_61 (by decide +kernel) (by decide) mP_248 mL_248 mC_248 (Nat.le_of_ble_eq_true rfl) rfl rfl (by simp [cat]) (by decide) (MA_o h0) rfl rfl
theorem E247_64 {d : Nat} {a1 a2 a3 s0 ln0 : Int} {a4 : AV} {S : SS} {I : II} (h0 : KA S a1 20 ln0) : ev d 247 64 [(2, 427), (2, a1), (0, a2), (0, a3), a4] [(0, s0)] S I = gdR (0 ≤ w (818 + a3) ∧ w (818 + a3) < ln0) (gdR (0 ≤ w (818 + a3) ∧ w (818 + a3) < ln0) (ev d 247 76 [(2, 427), (2, a1), (0, s0), (0, a3), a4] [] S (up2 I a1 (w (818 + a3)) ((I a1 (w (818 + a3))) - 1)))) := by
  refine (sx_istore_n (al' := [(2, 427), (2, a1), (0, s0), (0, a3), a4]) D247_64 (Nat.le_of_ble_eq_true rfl) rfl rfl).trans ?_
  refine (sx_aload_n D247_65 rfl).trans ?_
  refine (sx_sipush D247_66 (by decide)).trans ?_
  refine (sx_iload_n D247_69 rfl).trans ?_
  refine (sx_iadd D247_70).trans ?_
  refine (sx_dup2 D247_71 (by decide) (by decide)).trans ?_
  refine (sx_ia D247_72 h0 rfl).trans (gdR_to fun g1 => ?_)
  refine (sx_iconst D247_73).trans ?_
  refine (sx_isub D247_74).trans ?_
  refine (sx_is D247_75 h0).trans (gdR_to fun g2 => ?_)
  exact rfl
theorem E247_76 {d : Nat} {a1 a2 a3 ln0 : Int} {a4 : AV} {S : SS} {I : II} (h0 : KA S a1 20 ln0) : ev d 247 76 [(2, 427), (2, a1), (0, a2), (0, a3), a4] [] S I = gdR (0 ≤ w (822 + a3) ∧ w (822 + a3) < ln0) (some ((0, a2), S, (up2 I a1 (w (822 + a3)) a2))) := by
  refine (sx_aload_n D247_76 rfl).trans ?_
  refine (sx_sipush D247_77 (by decide)).trans ?_
  refine (sx_iload_n D247_80 rfl).trans ?_
  refine (sx_iadd D247_81).trans ?_
  refine (sx_iload_n D247_82 rfl).trans ?_
  refine (sx_is D247_83 h0).trans (gdR_to fun g1 => ?_)
  refine (sx_iload_n D247_84 rfl).trans ?_
  exact sx_ireturn D247_85 (by decide +kernel)
theorem E248_0 {d : Nat} {a1 a2 : Int} {S : SS} {I : II}  : ev d 248 0 [(2, 427), (2, a1), (0, a2), uU, uU] [] S I = ev d 248 2 [(2, 427), (2, a1), (0, a2), (0, 1), uU] [] S I := by
  refine (sx_iconst D248_0).trans ?_
  refine (sx_istore_n (al' := [(2, 427), (2, a1), (0, a2), (0, 1), uU]) D248_1 (Nat.le_of_ble_eq_true rfl) rfl rfl).trans ?_
  exact rfl
theorem E248_2 {d : Nat} {a1 a2 a3 ln0 : Int} {a4 : AV} {S : SS} {I : II} (h0 : KA S a1 20 ln0) (h1 : MA S 427) : ev (d + 1) 248 2 [(2, 427), (2, a1), (0, a2), (0, a3), a4] [] S I = if 5 < w a3 then (some ((0, (-1)), S, I)) else (gdR (0 ≤ w (822 + a2) ∧ w (822 + a2) < ln0) ((ev d 210 0 [(2, 427), (0, iRem ((I a1 (w (822 + a2))) + a3) 5)] [] S I).bind (fun q => ev (d + 1) 248 26 [(2, 427), (2, a1), (0, a2), (0, a3), (0, iRem ((I a1 (w (822 + a2))) + a3) 5)] (psh q.1 []) q.2.1 q.2.2))) := by
  refine (sx_iload_n D248_2 rfl).trans ?_
  refine (sx_iconst D248_3).trans ?_
  refine sx_if_gt (pc' := 58) D248_4 (by decide) (by decide) ?_ ?_ rfl (w_small (by decide) (by decide))
  · refine (sx_iconst D248_58).trans ?_
    exact sx_ireturn D248_59 (by decide +kernel)
  · refine (sx_aload_n D248_7 rfl).trans ?_
    refine (sx_sipush D248_8 (by decide)).trans ?_
    refine (sx_iload_n D248_11 rfl).trans ?_
    refine (sx_iadd D248_12).trans ?_
    refine (sx_ia D248_13 h0 rfl).trans (gdR_to fun g1 => ?_)
    refine (sx_iload_n D248_14 rfl).trans ?_
    refine (sx_iadd D248_15).trans ?_
    refine (sx_iconst D248_16).trans ?_
    refine ((sx_irem D248_17).trans (gdR_pos (by decide))).trans ?_
    refine (sx_istore (al' := [(2, 427), (2, a1), (0, a2), (0, a3), (0, iRem ((I a1 (w (822 + a2))) + a3) 5)]) D248_18 (Nat.le_of_ble_eq_true rfl) rfl rfl).trans ?_
    refine (sx_aload_n D248_20 rfl).trans ?_
    refine (sx_iload D248_21 rfl).trans ?_
    exact sx_virt (c := 11) (ag := [(2, 427), (0, iRem ((I a1 (w (822 + a2))) + a3) 5)]) (r := []) (al' := [(2, 427), (0, iRem ((I a1 (w (822 + a2))) + a3) 5)]) (np := 1) (nl := 2) (q := (1, 210, 1517)) D248_23 (by decide +kernel) (by decide) mP_210 mL_210 mC_210 (Nat.le_of_ble_eq_true rfl) rfl rfl (by simp [cat]) (by decide) (MA_o h1) rfl rfl
theorem E248_26 {d : Nat} {a1 a2 a3 a4 s0 : Int} {S : SS} {I : II} (h0 : MA S 427) : ev (d + 1) 248 26 [(2, 427), (2, a1), (0, a2), (0, a3), (0, a4)] [(0, s0)] S I = if w s0 = 0 then (ev (d + 1) 248 52 [(2, 427), (2, a1), (0, a2), (0, a3), (0, a4)] [] S I) else (gdR (0 ≤ w a4 ∧ w a4 < 5) (if w (I 436 (w a4)) = w a2 then ((ev d 245 0 [(2, a1), (0, a4)] [] S I).bind (fun q => ev (d + 1) 248 46 [(2, 427), (2, a1), (0, a2), (0, a3), (0, a4)] (psh q.1 []) q.2.1 q.2.2)) else (ev (d + 1) 248 52 [(2, 427), (2, a1), (0, a2), (0, a3), (0, a4)] [] S I))) := by
  refine sx_i0_eq (pc' := 52) D248_26 (by decide) (by decide) ?_ ?_ rfl
  · exact rfl
  · refine (sx_aload_n D248_29 rfl).trans ?_
    refine (sx_gfR (q := (9, 18, 0, 1386)) (b := 436) D248_30 (by decide +kernel) (by decide +kernel) (by decide) (MA_o h0) (MA_g18 h0)).trans ?_
    refine (sx_iload D248_33 rfl).trans ?_
    refine (sx_ia D248_35 (MA_k18 h0) rfl).trans (gdR_to fun g1 => ?_)
    refine (sx_iload_n D248_36 rfl).trans ?_
    refine sx_if_ne (pc' := 52) D248_37 (by decide) (by decide) ?_ ?_ rfl rfl
    · refine (sx_aload_n D248_40 rfl).trans ?_
      refine (sx_iload D248_41 rfl).trans ?_
      exact sx_stat (ag := [(2, a1), (0, a4)]) (r := []) (al' := [(2, a1), (0, a4)]) (np := 2) (nl := 2) (q := (0, 245, 1646)) D248_43 (by decide +kernel) (by decide) mP_245 mL_245 (Nat.le_of_ble_eq_true rfl) rfl rfl (by simp [cat]) rfl rfl
    · exact rfl
theorem E248_46 {d : Nat} {a1 a2 a3 a4 s0 : Int} {S : SS} {I : II}  : ev d 248 46 [(2, 427), (2, a1), (0, a2), (0, a3), (0, a4)] [(0, s0)] S I = if w s0 = 0 then (ev d 248 52 [(2, 427), (2, a1), (0, a2), (0, a3), (0, a4)] [] S I) else (some ((0, a4), S, I)) := by
  refine sx_i0_eq (pc' := 52) D248_46 (by decide) (by decide) ?_ ?_ rfl
  · exact rfl
  · refine (sx_iload D248_49 rfl).trans ?_
    exact sx_ireturn D248_51 (by decide +kernel)
theorem E248_52 {d : Nat} {a1 a2 a3 a4 : Int} {S : SS} {I : II}  : ev d 248 52 [(2, 427), (2, a1), (0, a2), (0, a3), (0, a4)] [] S I = ev d 248 2 [(2, 427), (2, a1), (0, a2), (0, a3 + 1), (0, a4)] [] S I := by
  refine (sx_iinc (al' := [(2, 427), (2, a1), (0, a2), (0, a3 + 1), (0, a4)]) D248_52 rfl rfl).trans ?_
  refine (sx_goto (pc' := 2) D248_55 (by decide) (by decide)).trans ?_
  exact rfl
theorem E249_0 {d : Nat} {a1 : Int} {S : SS} {I : II}  : ev d 249 0 [(2, 427), (2, a1), uU] [] S I = ev d 249 2 [(2, 427), (2, a1), (0, 1)] [] S I := by
  refine (sx_iconst D249_0).trans ?_
  refine (sx_istore_n (al' := [(2, 427), (2, a1), (0, 1)]) D249_1 (Nat.le_of_ble_eq_true rfl) rfl rfl).trans ?_
  exact rfl
theorem E249_2 {d : Nat} {a1 a2 ln0 : Int} {S : SS} {I : II} (h0 : KA S a1 20 ln0) (h1 : MA S 427) : ev (d + 1) 249 2 [(2, 427), (2, a1), (0, a2)] [] S I = if w a2 < 4 then (gdR (0 ≤ w (818 + a2) ∧ w (818 + a2) < ln0) (if 0 < w (I a1 (w (818 + a2))) then ((ev d 248 0 [(2, 427), (2, a1), (0, a2), uU, uU] [] S I).bind (fun q => ev (d + 1) 249 23 [(2, 427), (2, a1), (0, a2)] (psh q.1 []) q.2.1 q.2.2)) else (ev (d + 1) 249 28 [(2, 427), (2, a1), (0, a2)] [] S I))) else (some ((0, (-1)), S, I)) := by
  refine (sx_iload_n D249_2 rfl).trans ?_
  refine (sx_iconst D249_3).trans ?_
  refine sx_if_ge (pc' := 34) D249_4 (by decide) (by decide) ?_ ?_ rfl (w_small (by decide) (by decide))
  · refine (sx_aload_n D249_7 rfl).trans ?_
    refine (sx_sipush D249_8 (by decide)).trans ?_
    refine (sx_iload_n D249_11 rfl).trans ?_
    refine (sx_iadd D249_12).trans ?_
    refine (sx_ia D249_13 h0 rfl).trans (gdR_to fun g1 => ?_)
    refine sx_i0_le (pc' := 28) D249_14 (by decide) (by decide) ?_ ?_ rfl
    · refine (sx_aload_n D249_17 rfl).trans ?_
      refine (sx_aload_n D249_18 rfl).trans ?_
      refine (sx_iload_n D249_19 rfl).trans ?_
      exact sx_virt (c := 11) (ag := [(2, 427), (2, a1), (0, a2)]) (r := []) (al' := [(2, 427), (2, a1), (0, a2), uU, uU]) (np := 2) (nl := 5) (q := (1, 248, 1657)) D249_20 (by decide +kernel) (by decide) mP_248 mL_248 mC_248 (Nat.le_of_ble_eq_true rfl) rfl rfl (by simp [cat]) (by decide) (MA_o h1) rfl rfl
    · exact rfl
  · refine (sx_iconst D249_34).trans ?_
    exact sx_ireturn D249_35 (by decide +kernel)
theorem E249_23 {d : Nat} {a1 a2 s0 : Int} {S : SS} {I : II}  : ev d 249 23 [(2, 427), (2, a1), (0, a2)] [(0, s0)] S I = if w s0 < 0 then (ev d 249 28 [(2, 427), (2, a1), (0, a2)] [] S I) else (some ((0, a2), S, I)) := by
  refine sx_i0_lt (pc' := 28) D249_23 (by decide) (by decide) ?_ ?_ rfl
  · exact rfl
  · refine (sx_iload_n D249_26 rfl).trans ?_
    exact sx_ireturn D249_27 (by decide +kernel)
theorem E249_28 {d : Nat} {a1 a2 : Int} {S : SS} {I : II}  : ev d 249 28 [(2, 427), (2, a1), (0, a2)] [] S I = ev d 249 2 [(2, 427), (2, a1), (0, a2 + 1)] [] S I := by
  refine (sx_iinc (al' := [(2, 427), (2, a1), (0, a2 + 1)]) D249_28 rfl rfl).trans ?_
  refine (sx_goto (pc' := 2) D249_31 (by decide) (by decide)).trans ?_
  exact rfl
