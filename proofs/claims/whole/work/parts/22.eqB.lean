/-! equations, by places where ways meet: methods 65 to 138 (written by wip/whole/genE.py) -/
theorem D65_0 : decode (mB 65) 0 = .ok (.aload_n 0, 1) := by decide +kernel
theorem D65_1 : decode (mB 65) 1 = .ok (.invokespecial 3, 3) := by decide +kernel
theorem D65_4 : decode (mB 65) 4 = .ok (.aload_n 0, 1) := by decide +kernel
theorem D65_5 : decode (mB 65) 5 = .ok (.bipush 12, 2) := by decide +kernel
theorem D65_7 : decode (mB 65) 7 = .ok (.newarray .int, 2) := by decide +kernel
theorem D65_9 : decode (mB 65) 9 = .ok (.putfield 11, 3) := by decide +kernel
theorem D65_12 : decode (mB 65) 12 = .ok (.aload_n 0, 1) := by decide +kernel
theorem D65_13 : decode (mB 65) 13 = .ok (.bipush 12, 2) := by decide +kernel
theorem D65_15 : decode (mB 65) 15 = .ok (.newarray .int, 2) := by decide +kernel
theorem D65_17 : decode (mB 65) 17 = .ok (.putfield 15, 3) := by decide +kernel
theorem D65_20 : decode (mB 65) 20 = .ok (.return_, 1) := by decide +kernel
theorem D66_0 : decode (mB 66) 0 = .ok (.iload_n 2, 1) := by decide +kernel
theorem D66_1 : decode (mB 66) 1 = .ok (.ifCond .lt 27, 3) := by decide +kernel
theorem D66_4 : decode (mB 66) 4 = .ok (.iload_n 2, 1) := by decide +kernel
theorem D66_5 : decode (mB 66) 5 = .ok (.iload_n 1, 1) := by decide +kernel
theorem D66_6 : decode (mB 66) 6 = .ok (.invokestatic 18, 3) := by decide +kernel
theorem D66_9 : decode (mB 66) 9 = .ok (.if_icmp .ge 19, 3) := by decide +kernel
theorem D66_12 : decode (mB 66) 12 = .ok (.aload_n 0, 1) := by decide +kernel
theorem D66_13 : decode (mB 66) 13 = .ok (.getfield 22, 3) := by decide +kernel
theorem D66_16 : decode (mB 66) 16 = .ok (.ifCond .lt 12, 3) := by decide +kernel
theorem D66_19 : decode (mB 66) 19 = .ok (.aload_n 0, 1) := by decide +kernel
theorem D66_20 : decode (mB 66) 20 = .ok (.getfield 22, 3) := by decide +kernel
theorem D66_23 : decode (mB 66) 23 = .ok (.bipush 12, 2) := by decide +kernel
theorem D66_25 : decode (mB 66) 25 = .ok (.if_icmp .lt 5, 3) := by decide +kernel
theorem D66_28 : decode (mB 66) 28 = .ok (.iconst (-1), 1) := by decide +kernel
theorem D66_29 : decode (mB 66) 29 = .ok (.ireturn, 1) := by decide +kernel
theorem D66_30 : decode (mB 66) 30 = .ok (.aload_n 0, 1) := by decide +kernel
theorem D66_31 : decode (mB 66) 31 = .ok (.getfield 11, 3) := by decide +kernel
theorem D66_34 : decode (mB 66) 34 = .ok (.aload_n 0, 1) := by decide +kernel
theorem D66_35 : decode (mB 66) 35 = .ok (.getfield 22, 3) := by decide +kernel
theorem D66_38 : decode (mB 66) 38 = .ok (.iload_n 1, 1) := by decide +kernel
theorem D66_39 : decode (mB 66) 39 = .ok (.iastore, 1) := by decide +kernel
theorem D66_40 : decode (mB 66) 40 = .ok (.aload_n 0, 1) := by decide +kernel
theorem D66_41 : decode (mB 66) 41 = .ok (.getfield 15, 3) := by decide +kernel
theorem D66_44 : decode (mB 66) 44 = .ok (.aload_n 0, 1) := by decide +kernel
theorem D66_45 : decode (mB 66) 45 = .ok (.getfield 22, 3) := by decide +kernel
theorem D66_48 : decode (mB 66) 48 = .ok (.iload_n 2, 1) := by decide +kernel
theorem D66_49 : decode (mB 66) 49 = .ok (.iastore, 1) := by decide +kernel
theorem D66_50 : decode (mB 66) 50 = .ok (.aload_n 0, 1) := by decide +kernel
theorem D66_51 : decode (mB 66) 51 = .ok (.dup, 1) := by decide +kernel
theorem D66_52 : decode (mB 66) 52 = .ok (.getfield 22, 3) := by decide +kernel
theorem D66_55 : decode (mB 66) 55 = .ok (.iconst 1, 1) := by decide +kernel
theorem D66_56 : decode (mB 66) 56 = .ok (.iadd, 1) := by decide +kernel
theorem D66_57 : decode (mB 66) 57 = .ok (.putfield 22, 3) := by decide +kernel
theorem D66_60 : decode (mB 66) 60 = .ok (.aload_n 0, 1) := by decide +kernel
theorem D66_61 : decode (mB 66) 61 = .ok (.getfield 22, 3) := by decide +kernel
theorem D66_64 : decode (mB 66) 64 = .ok (.ireturn, 1) := by decide +kernel
theorem D67_0 : decode (mB 67) 0 = .ok (.iload_n 0, 1) := by decide +kernel
theorem D67_1 : decode (mB 67) 1 = .ok (.tableswitch 40 0 3 #[31, 33, 35, 38], 31) := by decide +kernel
theorem D67_32 : decode (mB 67) 32 = .ok (.iconst 5, 1) := by decide +kernel
theorem D67_33 : decode (mB 67) 33 = .ok (.ireturn, 1) := by decide +kernel
theorem D67_34 : decode (mB 67) 34 = .ok (.iconst 5, 1) := by decide +kernel
theorem D67_35 : decode (mB 67) 35 = .ok (.ireturn, 1) := by decide +kernel
theorem D67_36 : decode (mB 67) 36 = .ok (.bipush 10, 2) := by decide +kernel
theorem D67_38 : decode (mB 67) 38 = .ok (.ireturn, 1) := by decide +kernel
theorem D67_39 : decode (mB 67) 39 = .ok (.iconst 2, 1) := by decide +kernel
theorem D67_40 : decode (mB 67) 40 = .ok (.ireturn, 1) := by decide +kernel
theorem D67_41 : decode (mB 67) 41 = .ok (.iconst 0, 1) := by decide +kernel
theorem D67_42 : decode (mB 67) 42 = .ok (.ireturn, 1) := by decide +kernel
theorem D68_0 : decode (mB 68) 0 = .ok (.aload_n 0, 1) := by decide +kernel
theorem D68_1 : decode (mB 68) 1 = .ok (.getfield 22, 3) := by decide +kernel
theorem D68_4 : decode (mB 68) 4 = .ok (.istore_n 1, 1) := by decide +kernel
theorem D68_5 : decode (mB 68) 5 = .ok (.aload_n 0, 1) := by decide +kernel
theorem D68_6 : decode (mB 68) 6 = .ok (.iconst 0, 1) := by decide +kernel
theorem D68_7 : decode (mB 68) 7 = .ok (.putfield 22, 3) := by decide +kernel
theorem D68_10 : decode (mB 68) 10 = .ok (.iload_n 1, 1) := by decide +kernel
theorem D68_11 : decode (mB 68) 11 = .ok (.ireturn, 1) := by decide +kernel
theorem D69_0 : decode (mB 69) 0 = .ok (.iconst 0, 1) := by decide +kernel
theorem D69_1 : decode (mB 69) 1 = .ok (.istore_n 3, 1) := by decide +kernel
theorem D69_2 : decode (mB 69) 2 = .ok (.aload_n 2, 1) := by decide +kernel
theorem D69_3 : decode (mB 69) 3 = .ok (.invokevirtual 48, 3) := by decide +kernel
theorem D69_6 : decode (mB 69) 6 = .ok (.iconst 0, 1) := by decide +kernel
theorem D69_7 : decode (mB 69) 7 = .ok (.istore 4, 2) := by decide +kernel
theorem D69_9 : decode (mB 69) 9 = .ok (.iload 4, 2) := by decide +kernel
theorem D69_11 : decode (mB 69) 11 = .ok (.iconst 5, 1) := by decide +kernel
theorem D69_12 : decode (mB 69) 12 = .ok (.if_icmp .ge 55, 3) := by decide +kernel
theorem D69_15 : decode (mB 69) 15 = .ok (.iconst 0, 1) := by decide +kernel
theorem D69_16 : decode (mB 69) 16 = .ok (.istore 5, 2) := by decide +kernel
theorem D69_18 : decode (mB 69) 18 = .ok (.iload 5, 2) := by decide +kernel
theorem D69_20 : decode (mB 69) 20 = .ok (.bipush 16, 2) := by decide +kernel
theorem D69_22 : decode (mB 69) 22 = .ok (.if_icmp .ge 39, 3) := by decide +kernel
theorem D69_25 : decode (mB 69) 25 = .ok (.aload_n 0, 1) := by decide +kernel
theorem D69_26 : decode (mB 69) 26 = .ok (.aload_n 1, 1) := by decide +kernel
theorem D69_27 : decode (mB 69) 27 = .ok (.iload 4, 2) := by decide +kernel
theorem D69_29 : decode (mB 69) 29 = .ok (.iload 5, 2) := by decide +kernel
theorem D69_31 : decode (mB 69) 31 = .ok (.invokevirtual 53, 3) := by decide +kernel
theorem D69_34 : decode (mB 69) 34 = .ok (.ifCond .eq 21, 3) := by decide +kernel
theorem D69_37 : decode (mB 69) 37 = .ok (.iinc 3 1, 3) := by decide +kernel
theorem D69_40 : decode (mB 69) 40 = .ok (.iload_n 3, 1) := by decide +kernel
theorem D69_41 : decode (mB 69) 41 = .ok (.iconst 1, 1) := by decide +kernel
theorem D69_42 : decode (mB 69) 42 = .ok (.if_icmp .ne 13, 3) := by decide +kernel
theorem D69_45 : decode (mB 69) 45 = .ok (.aload_n 2, 1) := by decide +kernel
theorem D69_46 : decode (mB 69) 46 = .ok (.iload 4, 2) := by decide +kernel
theorem D69_48 : decode (mB 69) 48 = .ok (.i2l, 1) := by decide +kernel
theorem D69_49 : decode (mB 69) 49 = .ok (.iload 5, 2) := by decide +kernel
theorem D69_51 : decode (mB 69) 51 = .ok (.i2l, 1) := by decide +kernel
theorem D69_52 : decode (mB 69) 52 = .ok (.invokevirtual 57, 3) := by decide +kernel
theorem D69_55 : decode (mB 69) 55 = .ok (.iinc 5 1, 3) := by decide +kernel
theorem D69_58 : decode (mB 69) 58 = .ok (.goto (-40), 3) := by decide +kernel
theorem D69_61 : decode (mB 69) 61 = .ok (.iinc 4 1, 3) := by decide +kernel
theorem D69_64 : decode (mB 69) 64 = .ok (.goto (-55), 3) := by decide +kernel
theorem D69_67 : decode (mB 69) 67 = .ok (.iload_n 3, 1) := by decide +kernel
theorem D69_68 : decode (mB 69) 68 = .ok (.ireturn, 1) := by decide +kernel
theorem D70_0 : decode (mB 70) 0 = .ok (.aload_n 1, 1) := by decide +kernel
theorem D70_1 : decode (mB 70) 1 = .ok (.iload_n 2, 1) := by decide +kernel
theorem D70_2 : decode (mB 70) 2 = .ok (.iload_n 3, 1) := by decide +kernel
theorem D70_3 : decode (mB 70) 3 = .ok (.invokevirtual 26, 3) := by decide +kernel
theorem D70_6 : decode (mB 70) 6 = .ok (.iconst (-1), 1) := by decide +kernel
theorem D70_7 : decode (mB 70) 7 = .ok (.if_icmp .ne 5, 3) := by decide +kernel
theorem D70_10 : decode (mB 70) 10 = .ok (.iconst 0, 1) := by decide +kernel
theorem D70_11 : decode (mB 70) 11 = .ok (.ireturn, 1) := by decide +kernel
theorem D70_12 : decode (mB 70) 12 = .ok (.iconst 0, 1) := by decide +kernel
theorem D70_13 : decode (mB 70) 13 = .ok (.istore 4, 2) := by decide +kernel
theorem D70_15 : decode (mB 70) 15 = .ok (.iload 4, 2) := by decide +kernel
theorem D70_17 : decode (mB 70) 17 = .ok (.aload_n 0, 1) := by decide +kernel
theorem D70_18 : decode (mB 70) 18 = .ok (.getfield 22, 3) := by decide +kernel
theorem D70_21 : decode (mB 70) 21 = .ok (.if_icmp .ge 41, 3) := by decide +kernel
theorem D70_24 : decode (mB 70) 24 = .ok (.iload 4, 2) := by decide +kernel
theorem D70_26 : decode (mB 70) 26 = .ok (.bipush 12, 2) := by decide +kernel
theorem D70_28 : decode (mB 70) 28 = .ok (.if_icmp .ge 34, 3) := by decide +kernel
theorem D70_31 : decode (mB 70) 31 = .ok (.aload_n 1, 1) := by decide +kernel
theorem D70_32 : decode (mB 70) 32 = .ok (.iload_n 2, 1) := by decide +kernel
theorem D70_33 : decode (mB 70) 33 = .ok (.iload_n 3, 1) := by decide +kernel
theorem D70_34 : decode (mB 70) 34 = .ok (.aload_n 0, 1) := by decide +kernel
theorem D70_35 : decode (mB 70) 35 = .ok (.getfield 11, 3) := by decide +kernel
theorem D70_38 : decode (mB 70) 38 = .ok (.iload 4, 2) := by decide +kernel
theorem D70_40 : decode (mB 70) 40 = .ok (.iaload, 1) := by decide +kernel
theorem D70_41 : decode (mB 70) 41 = .ok (.invokestatic 44, 3) := by decide +kernel
theorem D70_44 : decode (mB 70) 44 = .ok (.aload_n 0, 1) := by decide +kernel
theorem D70_45 : decode (mB 70) 45 = .ok (.getfield 15, 3) := by decide +kernel
theorem D70_48 : decode (mB 70) 48 = .ok (.iload 4, 2) := by decide +kernel
theorem D70_50 : decode (mB 70) 50 = .ok (.iaload, 1) := by decide +kernel
theorem D70_51 : decode (mB 70) 51 = .ok (.if_icmp .eq 5, 3) := by decide +kernel
theorem D70_54 : decode (mB 70) 54 = .ok (.iconst 0, 1) := by decide +kernel
theorem D70_55 : decode (mB 70) 55 = .ok (.ireturn, 1) := by decide +kernel
theorem D70_56 : decode (mB 70) 56 = .ok (.iinc 4 1, 3) := by decide +kernel
theorem D70_59 : decode (mB 70) 59 = .ok (.goto (-44), 3) := by decide +kernel
theorem D70_62 : decode (mB 70) 62 = .ok (.iconst 1, 1) := by decide +kernel
theorem D70_63 : decode (mB 70) 63 = .ok (.ireturn, 1) := by decide +kernel
theorem D71_0 : decode (mB 71) 0 = .ok (.iload_n 3, 1) := by decide +kernel
theorem D71_1 : decode (mB 71) 1 = .ok (.tableswitch 49 0 2 #[27, 29, 39], 27) := by decide +kernel
theorem D71_28 : decode (mB 71) 28 = .ok (.iload_n 1, 1) := by decide +kernel
theorem D71_29 : decode (mB 71) 29 = .ok (.ireturn, 1) := by decide +kernel
theorem D71_30 : decode (mB 71) 30 = .ok (.aload_n 0, 1) := by decide +kernel
theorem D71_31 : decode (mB 71) 31 = .ok (.iload_n 1, 1) := by decide +kernel
theorem D71_32 : decode (mB 71) 32 = .ok (.iload_n 2, 1) := by decide +kernel
theorem D71_33 : decode (mB 71) 33 = .ok (.invokevirtual 26, 3) := by decide +kernel
theorem D71_36 : decode (mB 71) 36 = .ok (.invokestatic 32, 3) := by decide +kernel
theorem D71_39 : decode (mB 71) 39 = .ok (.ireturn, 1) := by decide +kernel
theorem D71_40 : decode (mB 71) 40 = .ok (.aload_n 0, 1) := by decide +kernel
theorem D71_41 : decode (mB 71) 41 = .ok (.iload_n 1, 1) := by decide +kernel
theorem D71_42 : decode (mB 71) 42 = .ok (.iload_n 2, 1) := by decide +kernel
theorem D71_43 : decode (mB 71) 43 = .ok (.invokevirtual 26, 3) := by decide +kernel
theorem D71_46 : decode (mB 71) 46 = .ok (.invokestatic 37, 3) := by decide +kernel
theorem D71_49 : decode (mB 71) 49 = .ok (.ireturn, 1) := by decide +kernel
theorem D71_50 : decode (mB 71) 50 = .ok (.aload_n 0, 1) := by decide +kernel
theorem D71_51 : decode (mB 71) 51 = .ok (.iload_n 1, 1) := by decide +kernel
theorem D71_52 : decode (mB 71) 52 = .ok (.iload_n 2, 1) := by decide +kernel
theorem D71_53 : decode (mB 71) 53 = .ok (.invokevirtual 40, 3) := by decide +kernel
theorem D71_56 : decode (mB 71) 56 = .ok (.ifCond .eq 7, 3) := by decide +kernel
theorem D71_59 : decode (mB 71) 59 = .ok (.iconst 1, 1) := by decide +kernel
theorem D71_60 : decode (mB 71) 60 = .ok (.goto 4, 3) := by decide +kernel
theorem D71_63 : decode (mB 71) 63 = .ok (.iconst 0, 1) := by decide +kernel
theorem D71_64 : decode (mB 71) 64 = .ok (.ireturn, 1) := by decide +kernel
theorem D72_0 : decode (mB 72) 0 = .ok (.iconst (-1), 1) := by decide +kernel
theorem D72_1 : decode (mB 72) 1 = .ok (.istore_n 3, 1) := by decide +kernel
theorem D72_2 : decode (mB 72) 2 = .ok (.bipush 81, 2) := by decide +kernel
theorem D72_4 : decode (mB 72) 4 = .ok (.istore 4, 2) := by decide +kernel
theorem D72_6 : decode (mB 72) 6 = .ok (.iconst 0, 1) := by decide +kernel
theorem D72_7 : decode (mB 72) 7 = .ok (.istore 5, 2) := by decide +kernel
theorem D72_9 : decode (mB 72) 9 = .ok (.iload 5, 2) := by decide +kernel
theorem D72_11 : decode (mB 72) 11 = .ok (.iconst 4, 1) := by decide +kernel
theorem D72_12 : decode (mB 72) 12 = .ok (.if_icmp .ge 119, 3) := by decide +kernel
theorem D72_15 : decode (mB 72) 15 = .ok (.aload_n 0, 1) := by decide +kernel
theorem D72_16 : decode (mB 72) 16 = .ok (.aload_n 1, 1) := by decide +kernel
theorem D72_17 : decode (mB 72) 17 = .ok (.iload 5, 2) := by decide +kernel
theorem D72_19 : decode (mB 72) 19 = .ok (.invokevirtual 61, 3) := by decide +kernel
theorem D72_22 : decode (mB 72) 22 = .ok (.astore 6, 2) := by decide +kernel
theorem D72_24 : decode (mB 72) 24 = .ok (.iconst 0, 1) := by decide +kernel
theorem D72_25 : decode (mB 72) 25 = .ok (.istore 7, 2) := by decide +kernel
theorem D72_27 : decode (mB 72) 27 = .ok (.iconst 0, 1) := by decide +kernel
theorem D72_28 : decode (mB 72) 28 = .ok (.istore 8, 2) := by decide +kernel
theorem D72_30 : decode (mB 72) 30 = .ok (.iload 8, 2) := by decide +kernel
theorem D72_32 : decode (mB 72) 32 = .ok (.bipush 10, 2) := by decide +kernel
theorem D72_34 : decode (mB 72) 34 = .ok (.if_icmp .ge 19, 3) := by decide +kernel
theorem D72_37 : decode (mB 72) 37 = .ok (.iload 7, 2) := by decide +kernel
theorem D72_39 : decode (mB 72) 39 = .ok (.aload 6, 2) := by decide +kernel
theorem D72_41 : decode (mB 72) 41 = .ok (.iload 8, 2) := by decide +kernel
theorem D72_43 : decode (mB 72) 43 = .ok (.iaload, 1) := by decide +kernel
theorem D72_44 : decode (mB 72) 44 = .ok (.iadd, 1) := by decide +kernel
theorem D72_45 : decode (mB 72) 45 = .ok (.istore 7, 2) := by decide +kernel
theorem D72_47 : decode (mB 72) 47 = .ok (.iinc 8 1, 3) := by decide +kernel
theorem D72_50 : decode (mB 72) 50 = .ok (.goto (-20), 3) := by decide +kernel
theorem D72_53 : decode (mB 72) 53 = .ok (.iload 7, 2) := by decide +kernel
theorem D72_55 : decode (mB 72) 55 = .ok (.ifCond .ne 6, 3) := by decide +kernel
theorem D72_58 : decode (mB 72) 58 = .ok (.bipush (-2), 2) := by decide +kernel
theorem D72_60 : decode (mB 72) 60 = .ok (.ireturn, 1) := by decide +kernel
theorem D72_61 : decode (mB 72) 61 = .ok (.iconst 0, 1) := by decide +kernel
theorem D72_62 : decode (mB 72) 62 = .ok (.istore 8, 2) := by decide +kernel
theorem D72_64 : decode (mB 72) 64 = .ok (.iload 8, 2) := by decide +kernel
theorem D72_66 : decode (mB 72) 66 = .ok (.iload 5, 2) := by decide +kernel
theorem D72_68 : decode (mB 72) 68 = .ok (.invokestatic 18, 3) := by decide +kernel
theorem D72_71 : decode (mB 72) 71 = .ok (.if_icmp .ge 54, 3) := by decide +kernel
theorem D72_74 : decode (mB 72) 74 = .ok (.iload 8, 2) := by decide +kernel
theorem D72_76 : decode (mB 72) 76 = .ok (.bipush 10, 2) := by decide +kernel
theorem D72_78 : decode (mB 72) 78 = .ok (.if_icmp .ge 47, 3) := by decide +kernel
theorem D72_81 : decode (mB 72) 81 = .ok (.aload 6, 2) := by decide +kernel
theorem D72_83 : decode (mB 72) 83 = .ok (.iload 8, 2) := by decide +kernel
theorem D72_85 : decode (mB 72) 85 = .ok (.iaload, 1) := by decide +kernel
theorem D72_86 : decode (mB 72) 86 = .ok (.iload 7, 2) := by decide +kernel
theorem D72_88 : decode (mB 72) 88 = .ok (.aload 6, 2) := by decide +kernel
theorem D72_90 : decode (mB 72) 90 = .ok (.iload 8, 2) := by decide +kernel
theorem D72_92 : decode (mB 72) 92 = .ok (.iaload, 1) := by decide +kernel
theorem D72_93 : decode (mB 72) 93 = .ok (.isub, 1) := by decide +kernel
theorem D72_94 : decode (mB 72) 94 = .ok (.invokestatic 65, 3) := by decide +kernel
theorem D72_97 : decode (mB 72) 97 = .ok (.istore 9, 2) := by decide +kernel
theorem D72_99 : decode (mB 72) 99 = .ok (.iload 9, 2) := by decide +kernel
theorem D72_101 : decode (mB 72) 101 = .ok (.iload 4, 2) := by decide +kernel
theorem D72_103 : decode (mB 72) 103 = .ok (.if_icmp .ge 16, 3) := by decide +kernel
theorem D72_106 : decode (mB 72) 106 = .ok (.iload 9, 2) := by decide +kernel
theorem D72_108 : decode (mB 72) 108 = .ok (.istore 4, 2) := by decide +kernel
theorem D72_110 : decode (mB 72) 110 = .ok (.bipush 10, 2) := by decide +kernel
theorem D72_112 : decode (mB 72) 112 = .ok (.iload 5, 2) := by decide +kernel
theorem D72_114 : decode (mB 72) 114 = .ok (.imul, 1) := by decide +kernel
theorem D72_115 : decode (mB 72) 115 = .ok (.iload 8, 2) := by decide +kernel
theorem D72_117 : decode (mB 72) 117 = .ok (.iadd, 1) := by decide +kernel
theorem D72_118 : decode (mB 72) 118 = .ok (.istore_n 3, 1) := by decide +kernel
theorem D72_119 : decode (mB 72) 119 = .ok (.iinc 8 1, 3) := by decide +kernel
theorem D72_122 : decode (mB 72) 122 = .ok (.goto (-58), 3) := by decide +kernel
theorem D72_125 : decode (mB 72) 125 = .ok (.iinc 5 1, 3) := by decide +kernel
theorem D72_128 : decode (mB 72) 128 = .ok (.goto (-119), 3) := by decide +kernel
theorem D72_131 : decode (mB 72) 131 = .ok (.aload_n 2, 1) := by decide +kernel
theorem D72_132 : decode (mB 72) 132 = .ok (.iload 4, 2) := by decide +kernel
theorem D72_134 : decode (mB 72) 134 = .ok (.i2l, 1) := by decide +kernel
theorem D72_135 : decode (mB 72) 135 = .ok (.invokevirtual 70, 3) := by decide +kernel
theorem D72_138 : decode (mB 72) 138 = .ok (.iload_n 3, 1) := by decide +kernel
theorem D72_139 : decode (mB 72) 139 = .ok (.ireturn, 1) := by decide +kernel
theorem D73_0 : decode (mB 73) 0 = .ok (.bipush 10, 2) := by decide +kernel
theorem D73_2 : decode (mB 73) 2 = .ok (.newarray .int, 2) := by decide +kernel
theorem D73_4 : decode (mB 73) 4 = .ok (.astore_n 3, 1) := by decide +kernel
theorem D73_5 : decode (mB 73) 5 = .ok (.iconst 0, 1) := by decide +kernel
theorem D73_6 : decode (mB 73) 6 = .ok (.istore 4, 2) := by decide +kernel
theorem D73_8 : decode (mB 73) 8 = .ok (.iload 4, 2) := by decide +kernel
theorem D73_10 : decode (mB 73) 10 = .ok (.iconst 5, 1) := by decide +kernel
theorem D73_11 : decode (mB 73) 11 = .ok (.if_icmp .ge 68, 3) := by decide +kernel
theorem D73_14 : decode (mB 73) 14 = .ok (.iconst 0, 1) := by decide +kernel
theorem D73_15 : decode (mB 73) 15 = .ok (.istore 5, 2) := by decide +kernel
theorem D73_17 : decode (mB 73) 17 = .ok (.iload 5, 2) := by decide +kernel
theorem D73_19 : decode (mB 73) 19 = .ok (.bipush 16, 2) := by decide +kernel
theorem D73_21 : decode (mB 73) 21 = .ok (.if_icmp .ge 52, 3) := by decide +kernel
theorem D73_24 : decode (mB 73) 24 = .ok (.aload_n 0, 1) := by decide +kernel
theorem D73_25 : decode (mB 73) 25 = .ok (.aload_n 1, 1) := by decide +kernel
theorem D73_26 : decode (mB 73) 26 = .ok (.iload 4, 2) := by decide +kernel
theorem D73_28 : decode (mB 73) 28 = .ok (.iload 5, 2) := by decide +kernel
theorem D73_30 : decode (mB 73) 30 = .ok (.invokevirtual 53, 3) := by decide +kernel
theorem D73_33 : decode (mB 73) 33 = .ok (.ifCond .eq 34, 3) := by decide +kernel
theorem D73_36 : decode (mB 73) 36 = .ok (.aload_n 1, 1) := by decide +kernel
theorem D73_37 : decode (mB 73) 37 = .ok (.iload 4, 2) := by decide +kernel
theorem D73_39 : decode (mB 73) 39 = .ok (.iload 5, 2) := by decide +kernel
theorem D73_41 : decode (mB 73) 41 = .ok (.iload_n 2, 1) := by decide +kernel
theorem D73_42 : decode (mB 73) 42 = .ok (.invokestatic 44, 3) := by decide +kernel
theorem D73_45 : decode (mB 73) 45 = .ok (.istore 6, 2) := by decide +kernel
theorem D73_47 : decode (mB 73) 47 = .ok (.iload 6, 2) := by decide +kernel
theorem D73_49 : decode (mB 73) 49 = .ok (.ifCond .lt 18, 3) := by decide +kernel
theorem D73_52 : decode (mB 73) 52 = .ok (.iload 6, 2) := by decide +kernel
theorem D73_54 : decode (mB 73) 54 = .ok (.bipush 10, 2) := by decide +kernel
theorem D73_56 : decode (mB 73) 56 = .ok (.if_icmp .ge 11, 3) := by decide +kernel
theorem D73_59 : decode (mB 73) 59 = .ok (.aload_n 3, 1) := by decide +kernel
theorem D73_60 : decode (mB 73) 60 = .ok (.iload 6, 2) := by decide +kernel
theorem D73_62 : decode (mB 73) 62 = .ok (.dup2, 1) := by decide +kernel
theorem D73_63 : decode (mB 73) 63 = .ok (.iaload, 1) := by decide +kernel
theorem D73_64 : decode (mB 73) 64 = .ok (.iconst 1, 1) := by decide +kernel
theorem D73_65 : decode (mB 73) 65 = .ok (.iadd, 1) := by decide +kernel
theorem D73_66 : decode (mB 73) 66 = .ok (.iastore, 1) := by decide +kernel
theorem D73_67 : decode (mB 73) 67 = .ok (.iinc 5 1, 3) := by decide +kernel
theorem D73_70 : decode (mB 73) 70 = .ok (.goto (-53), 3) := by decide +kernel
theorem D73_73 : decode (mB 73) 73 = .ok (.iinc 4 1, 3) := by decide +kernel
theorem D73_76 : decode (mB 73) 76 = .ok (.goto (-68), 3) := by decide +kernel
theorem D73_79 : decode (mB 73) 79 = .ok (.aload_n 3, 1) := by decide +kernel
theorem D73_80 : decode (mB 73) 80 = .ok (.areturn, 1) := by decide +kernel
theorem D74_0 : decode (mB 74) 0 = .ok (.aload_n 0, 1) := by decide +kernel
theorem D74_1 : decode (mB 74) 1 = .ok (.invokespecial 3, 3) := by decide +kernel
theorem D74_4 : decode (mB 74) 4 = .ok (.aload_n 0, 1) := by decide +kernel
theorem D74_5 : decode (mB 74) 5 = .ok (.bipush 8, 2) := by decide +kernel
theorem D74_7 : decode (mB 74) 7 = .ok (.newarray .int, 2) := by decide +kernel
theorem D74_9 : decode (mB 74) 9 = .ok (.putfield 11, 3) := by decide +kernel
theorem D74_12 : decode (mB 74) 12 = .ok (.aload_n 0, 1) := by decide +kernel
theorem D74_13 : decode (mB 74) 13 = .ok (.bipush 8, 2) := by decide +kernel
theorem D74_15 : decode (mB 74) 15 = .ok (.newarray .int, 2) := by decide +kernel
theorem D74_17 : decode (mB 74) 17 = .ok (.putfield 15, 3) := by decide +kernel
theorem D74_20 : decode (mB 74) 20 = .ok (.aload_n 0, 1) := by decide +kernel
theorem D74_21 : decode (mB 74) 21 = .ok (.bipush 8, 2) := by decide +kernel
theorem D74_23 : decode (mB 74) 23 = .ok (.newarray .int, 2) := by decide +kernel
theorem D74_25 : decode (mB 74) 25 = .ok (.putfield 18, 3) := by decide +kernel
theorem D74_28 : decode (mB 74) 28 = .ok (.return_, 1) := by decide +kernel
theorem D75_0 : decode (mB 75) 0 = .ok (.aload_n 0, 1) := by decide +kernel
theorem D75_1 : decode (mB 75) 1 = .ok (.aload_n 1, 1) := by decide +kernel
theorem D75_2 : decode (mB 75) 2 = .ok (.getfield 21, 3) := by decide +kernel
theorem D75_5 : decode (mB 75) 5 = .ok (.putfield 21, 3) := by decide +kernel
theorem D75_8 : decode (mB 75) 8 = .ok (.aload_n 0, 1) := by decide +kernel
theorem D75_9 : decode (mB 75) 9 = .ok (.aload_n 1, 1) := by decide +kernel
theorem D75_10 : decode (mB 75) 10 = .ok (.getfield 25, 3) := by decide +kernel
theorem D75_13 : decode (mB 75) 13 = .ok (.putfield 25, 3) := by decide +kernel
theorem D75_16 : decode (mB 75) 16 = .ok (.aload_n 0, 1) := by decide +kernel
theorem D75_17 : decode (mB 75) 17 = .ok (.aload_n 1, 1) := by decide +kernel
theorem D75_18 : decode (mB 75) 18 = .ok (.getfield 28, 3) := by decide +kernel
theorem D75_21 : decode (mB 75) 21 = .ok (.putfield 28, 3) := by decide +kernel
theorem D75_24 : decode (mB 75) 24 = .ok (.aload_n 0, 1) := by decide +kernel
theorem D75_25 : decode (mB 75) 25 = .ok (.aload_n 1, 1) := by decide +kernel
theorem D75_26 : decode (mB 75) 26 = .ok (.getfield 31, 3) := by decide +kernel
theorem D75_29 : decode (mB 75) 29 = .ok (.putfield 31, 3) := by decide +kernel
theorem D75_32 : decode (mB 75) 32 = .ok (.aload_n 0, 1) := by decide +kernel
theorem D75_33 : decode (mB 75) 33 = .ok (.aload_n 1, 1) := by decide +kernel
theorem D75_34 : decode (mB 75) 34 = .ok (.getfield 35, 3) := by decide +kernel
theorem D75_37 : decode (mB 75) 37 = .ok (.putfield 35, 3) := by decide +kernel
theorem D75_40 : decode (mB 75) 40 = .ok (.aload_n 0, 1) := by decide +kernel
theorem D75_41 : decode (mB 75) 41 = .ok (.aload_n 1, 1) := by decide +kernel
theorem D75_42 : decode (mB 75) 42 = .ok (.getfield 38, 3) := by decide +kernel
theorem D75_45 : decode (mB 75) 45 = .ok (.putfield 38, 3) := by decide +kernel
theorem D75_48 : decode (mB 75) 48 = .ok (.aload_n 0, 1) := by decide +kernel
theorem D75_49 : decode (mB 75) 49 = .ok (.aload_n 1, 1) := by decide +kernel
theorem D75_50 : decode (mB 75) 50 = .ok (.getfield 41, 3) := by decide +kernel
theorem D75_53 : decode (mB 75) 53 = .ok (.putfield 41, 3) := by decide +kernel
theorem D75_56 : decode (mB 75) 56 = .ok (.aload_n 0, 1) := by decide +kernel
theorem D75_57 : decode (mB 75) 57 = .ok (.aload_n 1, 1) := by decide +kernel
theorem D75_58 : decode (mB 75) 58 = .ok (.getfield 44, 3) := by decide +kernel
theorem D75_61 : decode (mB 75) 61 = .ok (.putfield 44, 3) := by decide +kernel
theorem D75_64 : decode (mB 75) 64 = .ok (.aload_n 0, 1) := by decide +kernel
theorem D75_65 : decode (mB 75) 65 = .ok (.aload_n 1, 1) := by decide +kernel
theorem D75_66 : decode (mB 75) 66 = .ok (.getfield 47, 3) := by decide +kernel
theorem D75_69 : decode (mB 75) 69 = .ok (.putfield 47, 3) := by decide +kernel
theorem D75_72 : decode (mB 75) 72 = .ok (.aload_n 0, 1) := by decide +kernel
theorem D75_73 : decode (mB 75) 73 = .ok (.aload_n 1, 1) := by decide +kernel
theorem D75_74 : decode (mB 75) 74 = .ok (.getfield 50, 3) := by decide +kernel
theorem D75_77 : decode (mB 75) 77 = .ok (.putfield 50, 3) := by decide +kernel
theorem D75_80 : decode (mB 75) 80 = .ok (.aload_n 0, 1) := by decide +kernel
theorem D75_81 : decode (mB 75) 81 = .ok (.aload_n 1, 1) := by decide +kernel
theorem D75_82 : decode (mB 75) 82 = .ok (.getfield 53, 3) := by decide +kernel
theorem D75_85 : decode (mB 75) 85 = .ok (.putfield 53, 3) := by decide +kernel
theorem D75_88 : decode (mB 75) 88 = .ok (.aload_n 0, 1) := by decide +kernel
theorem D75_89 : decode (mB 75) 89 = .ok (.aload_n 1, 1) := by decide +kernel
theorem D75_90 : decode (mB 75) 90 = .ok (.getfield 56, 3) := by decide +kernel
theorem D75_93 : decode (mB 75) 93 = .ok (.putfield 56, 3) := by decide +kernel
theorem D75_96 : decode (mB 75) 96 = .ok (.aload_n 0, 1) := by decide +kernel
theorem D75_97 : decode (mB 75) 97 = .ok (.aload_n 1, 1) := by decide +kernel
theorem D75_98 : decode (mB 75) 98 = .ok (.getfield 59, 3) := by decide +kernel
theorem D75_101 : decode (mB 75) 101 = .ok (.putfield 59, 3) := by decide +kernel
theorem D75_104 : decode (mB 75) 104 = .ok (.aload_n 0, 1) := by decide +kernel
theorem D75_105 : decode (mB 75) 105 = .ok (.aload_n 1, 1) := by decide +kernel
theorem D75_106 : decode (mB 75) 106 = .ok (.getfield 62, 3) := by decide +kernel
theorem D75_109 : decode (mB 75) 109 = .ok (.putfield 62, 3) := by decide +kernel
theorem D75_112 : decode (mB 75) 112 = .ok (.aload_n 1, 1) := by decide +kernel
theorem D75_113 : decode (mB 75) 113 = .ok (.getfield 11, 3) := by decide +kernel
theorem D75_116 : decode (mB 75) 116 = .ok (.iconst 0, 1) := by decide +kernel
theorem D75_117 : decode (mB 75) 117 = .ok (.aload_n 0, 1) := by decide +kernel
theorem D75_118 : decode (mB 75) 118 = .ok (.getfield 11, 3) := by decide +kernel
theorem D75_121 : decode (mB 75) 121 = .ok (.iconst 0, 1) := by decide +kernel
theorem D75_122 : decode (mB 75) 122 = .ok (.bipush 8, 2) := by decide +kernel
theorem D75_124 : decode (mB 75) 124 = .ok (.invokestatic 65, 3) := by decide +kernel
theorem D75_127 : decode (mB 75) 127 = .ok (.aload_n 1, 1) := by decide +kernel
theorem D75_128 : decode (mB 75) 128 = .ok (.getfield 15, 3) := by decide +kernel
theorem D75_131 : decode (mB 75) 131 = .ok (.iconst 0, 1) := by decide +kernel
theorem D75_132 : decode (mB 75) 132 = .ok (.aload_n 0, 1) := by decide +kernel
theorem D75_133 : decode (mB 75) 133 = .ok (.getfield 15, 3) := by decide +kernel
theorem D75_136 : decode (mB 75) 136 = .ok (.iconst 0, 1) := by decide +kernel
theorem D75_137 : decode (mB 75) 137 = .ok (.bipush 8, 2) := by decide +kernel
theorem D75_139 : decode (mB 75) 139 = .ok (.invokestatic 65, 3) := by decide +kernel
theorem D75_142 : decode (mB 75) 142 = .ok (.aload_n 1, 1) := by decide +kernel
theorem D75_143 : decode (mB 75) 143 = .ok (.getfield 18, 3) := by decide +kernel
theorem D75_146 : decode (mB 75) 146 = .ok (.iconst 0, 1) := by decide +kernel
theorem D75_147 : decode (mB 75) 147 = .ok (.aload_n 0, 1) := by decide +kernel
theorem D75_148 : decode (mB 75) 148 = .ok (.getfield 18, 3) := by decide +kernel
theorem D75_151 : decode (mB 75) 151 = .ok (.iconst 0, 1) := by decide +kernel
theorem D75_152 : decode (mB 75) 152 = .ok (.bipush 8, 2) := by decide +kernel
theorem D75_154 : decode (mB 75) 154 = .ok (.invokestatic 65, 3) := by decide +kernel
theorem D75_157 : decode (mB 75) 157 = .ok (.return_, 1) := by decide +kernel
theorem D76_0 : decode (mB 76) 0 = .ok (.aload_n 0, 1) := by decide +kernel
theorem D76_1 : decode (mB 76) 1 = .ok (.invokevirtual 85, 3) := by decide +kernel
theorem D76_4 : decode (mB 76) 4 = .ok (.ifCond .gt 6, 3) := by decide +kernel
theorem D76_7 : decode (mB 76) 7 = .ok (.bipush (-2), 2) := by decide +kernel
theorem D76_9 : decode (mB 76) 9 = .ok (.ireturn, 1) := by decide +kernel
theorem D76_10 : decode (mB 76) 10 = .ok (.aload_n 0, 1) := by decide +kernel
theorem D76_11 : decode (mB 76) 11 = .ok (.invokevirtual 88, 3) := by decide +kernel
theorem D76_14 : decode (mB 76) 14 = .ok (.istore 4, 2) := by decide +kernel
theorem D76_16 : decode (mB 76) 16 = .ok (.iload 4, 2) := by decide +kernel
theorem D76_18 : decode (mB 76) 18 = .ok (.iconst (-1), 1) := by decide +kernel
theorem D76_19 : decode (mB 76) 19 = .ok (.if_icmp .ne 6, 3) := by decide +kernel
theorem D76_22 : decode (mB 76) 22 = .ok (.bipush (-3), 2) := by decide +kernel
theorem D76_24 : decode (mB 76) 24 = .ok (.ireturn, 1) := by decide +kernel
theorem D76_25 : decode (mB 76) 25 = .ok (.aload_n 0, 1) := by decide +kernel
theorem D76_26 : decode (mB 76) 26 = .ok (.dup, 1) := by decide +kernel
theorem D76_27 : decode (mB 76) 27 = .ok (.getfield 62, 3) := by decide +kernel
theorem D76_30 : decode (mB 76) 30 = .ok (.iconst 1, 1) := by decide +kernel
theorem D76_31 : decode (mB 76) 31 = .ok (.iload 4, 2) := by decide +kernel
theorem D76_33 : decode (mB 76) 33 = .ok (.ishl, 1) := by decide +kernel
theorem D76_34 : decode (mB 76) 34 = .ok (.ior, 1) := by decide +kernel
theorem D76_35 : decode (mB 76) 35 = .ok (.putfield 62, 3) := by decide +kernel
theorem D76_38 : decode (mB 76) 38 = .ok (.aload_n 0, 1) := by decide +kernel
theorem D76_39 : decode (mB 76) 39 = .ok (.getfield 11, 3) := by decide +kernel
theorem D76_42 : decode (mB 76) 42 = .ok (.aload_n 0, 1) := by decide +kernel
theorem D76_43 : decode (mB 76) 43 = .ok (.getfield 35, 3) := by decide +kernel
theorem D76_46 : decode (mB 76) 46 = .ok (.bipush 7, 2) := by decide +kernel
theorem D76_48 : decode (mB 76) 48 = .ok (.iand, 1) := by decide +kernel
theorem D76_49 : decode (mB 76) 49 = .ok (.iload 4, 2) := by decide +kernel
theorem D76_51 : decode (mB 76) 51 = .ok (.iload_n 1, 1) := by decide +kernel
theorem D76_52 : decode (mB 76) 52 = .ok (.iload_n 2, 1) := by decide +kernel
theorem D76_53 : decode (mB 76) 53 = .ok (.iload_n 3, 1) := by decide +kernel
theorem D76_54 : decode (mB 76) 54 = .ok (.invokestatic 91, 3) := by decide +kernel
theorem D76_57 : decode (mB 76) 57 = .ok (.iastore, 1) := by decide +kernel
theorem D76_58 : decode (mB 76) 58 = .ok (.aload_n 0, 1) := by decide +kernel
theorem D76_59 : decode (mB 76) 59 = .ok (.dup, 1) := by decide +kernel
theorem D76_60 : decode (mB 76) 60 = .ok (.getfield 35, 3) := by decide +kernel
theorem D76_63 : decode (mB 76) 63 = .ok (.iconst 1, 1) := by decide +kernel
theorem D76_64 : decode (mB 76) 64 = .ok (.iadd, 1) := by decide +kernel
theorem D76_65 : decode (mB 76) 65 = .ok (.putfield 35, 3) := by decide +kernel
theorem D76_68 : decode (mB 76) 68 = .ok (.iload 4, 2) := by decide +kernel
theorem D76_70 : decode (mB 76) 70 = .ok (.ireturn, 1) := by decide +kernel
theorem D77_0 : decode (mB 77) 0 = .ok (.aload_n 0, 1) := by decide +kernel
theorem D77_1 : decode (mB 77) 1 = .ok (.getfield 21, 3) := by decide +kernel
theorem D77_4 : decode (mB 77) 4 = .ok (.iconst 1, 1) := by decide +kernel
theorem D77_5 : decode (mB 77) 5 = .ok (.isub, 1) := by decide +kernel
theorem D77_6 : decode (mB 77) 6 = .ok (.aload_n 0, 1) := by decide +kernel
theorem D77_7 : decode (mB 77) 7 = .ok (.getfield 35, 3) := by decide +kernel
theorem D77_10 : decode (mB 77) 10 = .ok (.aload_n 0, 1) := by decide +kernel
theorem D77_11 : decode (mB 77) 11 = .ok (.getfield 47, 3) := by decide +kernel
theorem D77_14 : decode (mB 77) 14 = .ok (.isub, 1) := by decide +kernel
theorem D77_15 : decode (mB 77) 15 = .ok (.isub, 1) := by decide +kernel
theorem D77_16 : decode (mB 77) 16 = .ok (.ireturn, 1) := by decide +kernel
theorem D78_0 : decode (mB 78) 0 = .ok (.iconst 0, 1) := by decide +kernel
theorem D78_1 : decode (mB 78) 1 = .ok (.istore_n 1, 1) := by decide +kernel
theorem D78_2 : decode (mB 78) 2 = .ok (.iload_n 1, 1) := by decide +kernel
theorem D78_3 : decode (mB 78) 3 = .ok (.bipush 16, 2) := by decide +kernel
theorem D78_5 : decode (mB 78) 5 = .ok (.if_icmp .ge 19, 3) := by decide +kernel
theorem D78_8 : decode (mB 78) 8 = .ok (.aload_n 0, 1) := by decide +kernel
theorem D78_9 : decode (mB 78) 9 = .ok (.iload_n 1, 1) := by decide +kernel
theorem D78_10 : decode (mB 78) 10 = .ok (.invokevirtual 81, 3) := by decide +kernel
theorem D78_13 : decode (mB 78) 13 = .ok (.ifCond .ne 5, 3) := by decide +kernel
theorem D78_16 : decode (mB 78) 16 = .ok (.iload_n 1, 1) := by decide +kernel
theorem D78_17 : decode (mB 78) 17 = .ok (.ireturn, 1) := by decide +kernel
theorem D78_18 : decode (mB 78) 18 = .ok (.iinc 1 1, 3) := by decide +kernel
theorem D78_21 : decode (mB 78) 21 = .ok (.goto (-19), 3) := by decide +kernel
theorem D78_24 : decode (mB 78) 24 = .ok (.iconst (-1), 1) := by decide +kernel
theorem D78_25 : decode (mB 78) 25 = .ok (.ireturn, 1) := by decide +kernel
theorem D79_0 : decode (mB 79) 0 = .ok (.aload_n 0, 1) := by decide +kernel
theorem D79_1 : decode (mB 79) 1 = .ok (.getfield 62, 3) := by decide +kernel
theorem D79_4 : decode (mB 79) 4 = .ok (.iload_n 1, 1) := by decide +kernel
theorem D79_5 : decode (mB 79) 5 = .ok (.ishr, 1) := by decide +kernel
theorem D79_6 : decode (mB 79) 6 = .ok (.iconst 1, 1) := by decide +kernel
theorem D79_7 : decode (mB 79) 7 = .ok (.iand, 1) := by decide +kernel
theorem D79_8 : decode (mB 79) 8 = .ok (.iconst 1, 1) := by decide +kernel
theorem D79_9 : decode (mB 79) 9 = .ok (.if_icmp .ne 7, 3) := by decide +kernel
theorem D79_12 : decode (mB 79) 12 = .ok (.iconst 1, 1) := by decide +kernel
theorem D79_13 : decode (mB 79) 13 = .ok (.goto 4, 3) := by decide +kernel
theorem D79_16 : decode (mB 79) 16 = .ok (.iconst 0, 1) := by decide +kernel
theorem D79_17 : decode (mB 79) 17 = .ok (.ireturn, 1) := by decide +kernel
theorem D80_0 : decode (mB 80) 0 = .ok (.aload_n 0, 1) := by decide +kernel
theorem D80_1 : decode (mB 80) 1 = .ok (.getfield 38, 3) := by decide +kernel
theorem D80_4 : decode (mB 80) 4 = .ok (.aload_n 0, 1) := by decide +kernel
theorem D80_5 : decode (mB 80) 5 = .ok (.getfield 35, 3) := by decide +kernel
theorem D80_8 : decode (mB 80) 8 = .ok (.if_icmp .ne 6, 3) := by decide +kernel
theorem D80_11 : decode (mB 80) 11 = .ok (.bipush (-2), 2) := by decide +kernel
theorem D80_13 : decode (mB 80) 13 = .ok (.ireturn, 1) := by decide +kernel
theorem D80_14 : decode (mB 80) 14 = .ok (.aload_n 0, 1) := by decide +kernel
theorem D80_15 : decode (mB 80) 15 = .ok (.getfield 38, 3) := by decide +kernel
theorem D80_18 : decode (mB 80) 18 = .ok (.istore_n 1, 1) := by decide +kernel
theorem D80_19 : decode (mB 80) 19 = .ok (.aload_n 0, 1) := by decide +kernel
theorem D80_20 : decode (mB 80) 20 = .ok (.aload_n 0, 1) := by decide +kernel
theorem D80_21 : decode (mB 80) 21 = .ok (.getfield 35, 3) := by decide +kernel
theorem D80_24 : decode (mB 80) 24 = .ok (.putfield 38, 3) := by decide +kernel
theorem D80_27 : decode (mB 80) 27 = .ok (.aload_n 0, 1) := by decide +kernel
theorem D80_28 : decode (mB 80) 28 = .ok (.getfield 31, 3) := by decide +kernel
theorem D80_31 : decode (mB 80) 31 = .ok (.ifCond .eq 24, 3) := by decide +kernel
theorem D80_34 : decode (mB 80) 34 = .ok (.aload_n 0, 1) := by decide +kernel
theorem D80_35 : decode (mB 80) 35 = .ok (.getfield 56, 3) := by decide +kernel
theorem D80_38 : decode (mB 80) 38 = .ok (.iload_n 1, 1) := by decide +kernel
theorem D80_39 : decode (mB 80) 39 = .ok (.if_icmp .lt 14, 3) := by decide +kernel
theorem D80_42 : decode (mB 80) 42 = .ok (.aload_n 0, 1) := by decide +kernel
theorem D80_43 : decode (mB 80) 43 = .ok (.getfield 56, 3) := by decide +kernel
theorem D80_46 : decode (mB 80) 46 = .ok (.aload_n 0, 1) := by decide +kernel
theorem D80_47 : decode (mB 80) 47 = .ok (.getfield 38, 3) := by decide +kernel
theorem D80_50 : decode (mB 80) 50 = .ok (.if_icmp .lt 5, 3) := by decide +kernel
theorem D80_53 : decode (mB 80) 53 = .ok (.iconst 0, 1) := by decide +kernel
theorem D80_54 : decode (mB 80) 54 = .ok (.ireturn, 1) := by decide +kernel
theorem D80_55 : decode (mB 80) 55 = .ok (.aload_n 0, 1) := by decide +kernel
theorem D80_56 : decode (mB 80) 56 = .ok (.aload_n 0, 1) := by decide +kernel
theorem D80_57 : decode (mB 80) 57 = .ok (.getfield 38, 3) := by decide +kernel
theorem D80_60 : decode (mB 80) 60 = .ok (.putfield 41, 3) := by decide +kernel
theorem D80_63 : decode (mB 80) 63 = .ok (.aload_n 0, 1) := by decide +kernel
theorem D80_64 : decode (mB 80) 64 = .ok (.aload_n 0, 1) := by decide +kernel
theorem D80_65 : decode (mB 80) 65 = .ok (.getfield 31, 3) := by decide +kernel
theorem D80_68 : decode (mB 80) 68 = .ok (.putfield 59, 3) := by decide +kernel
theorem D80_71 : decode (mB 80) 71 = .ok (.iconst 1, 1) := by decide +kernel
theorem D80_72 : decode (mB 80) 72 = .ok (.ireturn, 1) := by decide +kernel
theorem D81_0 : decode (mB 81) 0 = .ok (.iload_n 1, 1) := by decide +kernel
theorem D81_1 : decode (mB 81) 1 = .ok (.tableswitch 131 0 11 #[63, 68, 73, 78, 91, 96, 101, 106, 111, 116, 121, 126], 63) := by decide +kernel
theorem D81_64 : decode (mB 81) 64 = .ok (.aload_n 0, 1) := by decide +kernel
theorem D81_65 : decode (mB 81) 65 = .ok (.getfield 21, 3) := by decide +kernel
theorem D81_68 : decode (mB 81) 68 = .ok (.ireturn, 1) := by decide +kernel
theorem D81_69 : decode (mB 81) 69 = .ok (.aload_n 0, 1) := by decide +kernel
theorem D81_70 : decode (mB 81) 70 = .ok (.getfield 25, 3) := by decide +kernel
theorem D81_73 : decode (mB 81) 73 = .ok (.ireturn, 1) := by decide +kernel
theorem D81_74 : decode (mB 81) 74 = .ok (.aload_n 0, 1) := by decide +kernel
theorem D81_75 : decode (mB 81) 75 = .ok (.getfield 28, 3) := by decide +kernel
theorem D81_78 : decode (mB 81) 78 = .ok (.ireturn, 1) := by decide +kernel
theorem D81_79 : decode (mB 81) 79 = .ok (.aload_n 0, 1) := by decide +kernel
theorem D81_80 : decode (mB 81) 80 = .ok (.getfield 31, 3) := by decide +kernel
theorem D81_83 : decode (mB 81) 83 = .ok (.ifCond .eq 7, 3) := by decide +kernel
theorem D81_86 : decode (mB 81) 86 = .ok (.iconst 1, 1) := by decide +kernel
theorem D81_87 : decode (mB 81) 87 = .ok (.goto 4, 3) := by decide +kernel
theorem D81_90 : decode (mB 81) 90 = .ok (.iconst 0, 1) := by decide +kernel
theorem D81_91 : decode (mB 81) 91 = .ok (.ireturn, 1) := by decide +kernel
theorem D81_92 : decode (mB 81) 92 = .ok (.aload_n 0, 1) := by decide +kernel
theorem D81_93 : decode (mB 81) 93 = .ok (.getfield 35, 3) := by decide +kernel
theorem D81_96 : decode (mB 81) 96 = .ok (.ireturn, 1) := by decide +kernel
theorem D81_97 : decode (mB 81) 97 = .ok (.aload_n 0, 1) := by decide +kernel
theorem D81_98 : decode (mB 81) 98 = .ok (.getfield 38, 3) := by decide +kernel
theorem D81_101 : decode (mB 81) 101 = .ok (.ireturn, 1) := by decide +kernel
theorem D81_102 : decode (mB 81) 102 = .ok (.aload_n 0, 1) := by decide +kernel
theorem D81_103 : decode (mB 81) 103 = .ok (.getfield 41, 3) := by decide +kernel
theorem D81_106 : decode (mB 81) 106 = .ok (.ireturn, 1) := by decide +kernel
theorem D81_107 : decode (mB 81) 107 = .ok (.aload_n 0, 1) := by decide +kernel
theorem D81_108 : decode (mB 81) 108 = .ok (.getfield 44, 3) := by decide +kernel
theorem D81_111 : decode (mB 81) 111 = .ok (.ireturn, 1) := by decide +kernel
theorem D81_112 : decode (mB 81) 112 = .ok (.aload_n 0, 1) := by decide +kernel
theorem D81_113 : decode (mB 81) 113 = .ok (.getfield 47, 3) := by decide +kernel
theorem D81_116 : decode (mB 81) 116 = .ok (.ireturn, 1) := by decide +kernel
theorem D81_117 : decode (mB 81) 117 = .ok (.aload_n 0, 1) := by decide +kernel
theorem D81_118 : decode (mB 81) 118 = .ok (.getfield 50, 3) := by decide +kernel
theorem D81_121 : decode (mB 81) 121 = .ok (.ireturn, 1) := by decide +kernel
theorem D81_122 : decode (mB 81) 122 = .ok (.aload_n 0, 1) := by decide +kernel
theorem D81_123 : decode (mB 81) 123 = .ok (.getfield 53, 3) := by decide +kernel
theorem D81_126 : decode (mB 81) 126 = .ok (.ireturn, 1) := by decide +kernel
theorem D81_127 : decode (mB 81) 127 = .ok (.aload_n 0, 1) := by decide +kernel
theorem D81_128 : decode (mB 81) 128 = .ok (.getfield 56, 3) := by decide +kernel
theorem D81_131 : decode (mB 81) 131 = .ok (.ireturn, 1) := by decide +kernel
theorem D81_132 : decode (mB 81) 132 = .ok (.aload_n 0, 1) := by decide +kernel
theorem D81_133 : decode (mB 81) 133 = .ok (.getfield 59, 3) := by decide +kernel
theorem D81_136 : decode (mB 81) 136 = .ok (.ifCond .eq 7, 3) := by decide +kernel
theorem D81_139 : decode (mB 81) 139 = .ok (.iconst 1, 1) := by decide +kernel
theorem D81_140 : decode (mB 81) 140 = .ok (.goto 4, 3) := by decide +kernel
theorem D81_143 : decode (mB 81) 143 = .ok (.iconst 0, 1) := by decide +kernel
theorem D81_144 : decode (mB 81) 144 = .ok (.ireturn, 1) := by decide +kernel
theorem D82_0 : decode (mB 82) 0 = .ok (.aload_n 0, 1) := by decide +kernel
theorem D82_1 : decode (mB 82) 1 = .ok (.getfield 50, 3) := by decide +kernel
theorem D82_4 : decode (mB 82) 4 = .ok (.aload_n 0, 1) := by decide +kernel
theorem D82_5 : decode (mB 82) 5 = .ok (.getfield 53, 3) := by decide +kernel
theorem D82_8 : decode (mB 82) 8 = .ok (.isub, 1) := by decide +kernel
theorem D82_9 : decode (mB 82) 9 = .ok (.aload_n 0, 1) := by decide +kernel
theorem D82_10 : decode (mB 82) 10 = .ok (.getfield 25, 3) := by decide +kernel
theorem D82_13 : decode (mB 82) 13 = .ok (.iconst 1, 1) := by decide +kernel
theorem D82_14 : decode (mB 82) 14 = .ok (.isub, 1) := by decide +kernel
theorem D82_15 : decode (mB 82) 15 = .ok (.if_icmp .lt 5, 3) := by decide +kernel
theorem D82_18 : decode (mB 82) 18 = .ok (.iconst 0, 1) := by decide +kernel
theorem D82_19 : decode (mB 82) 19 = .ok (.ireturn, 1) := by decide +kernel
theorem D82_20 : decode (mB 82) 20 = .ok (.aload_n 0, 1) := by decide +kernel
theorem D82_21 : decode (mB 82) 21 = .ok (.getfield 15, 3) := by decide +kernel
theorem D82_24 : decode (mB 82) 24 = .ok (.aload_n 0, 1) := by decide +kernel
theorem D82_25 : decode (mB 82) 25 = .ok (.getfield 50, 3) := by decide +kernel
theorem D82_28 : decode (mB 82) 28 = .ok (.bipush 7, 2) := by decide +kernel
theorem D82_30 : decode (mB 82) 30 = .ok (.iand, 1) := by decide +kernel
theorem D82_31 : decode (mB 82) 31 = .ok (.iload_n 1, 1) := by decide +kernel
theorem D82_32 : decode (mB 82) 32 = .ok (.iastore, 1) := by decide +kernel
theorem D82_33 : decode (mB 82) 33 = .ok (.aload_n 0, 1) := by decide +kernel
theorem D82_34 : decode (mB 82) 34 = .ok (.getfield 18, 3) := by decide +kernel
theorem D82_37 : decode (mB 82) 37 = .ok (.aload_n 0, 1) := by decide +kernel
theorem D82_38 : decode (mB 82) 38 = .ok (.getfield 50, 3) := by decide +kernel
theorem D82_41 : decode (mB 82) 41 = .ok (.bipush 7, 2) := by decide +kernel
theorem D82_43 : decode (mB 82) 43 = .ok (.iand, 1) := by decide +kernel
theorem D82_44 : decode (mB 82) 44 = .ok (.aload_n 0, 1) := by decide +kernel
theorem D82_45 : decode (mB 82) 45 = .ok (.getfield 44, 3) := by decide +kernel
theorem D82_48 : decode (mB 82) 48 = .ok (.iastore, 1) := by decide +kernel
theorem D82_49 : decode (mB 82) 49 = .ok (.aload_n 0, 1) := by decide +kernel
theorem D82_50 : decode (mB 82) 50 = .ok (.dup, 1) := by decide +kernel
theorem D82_51 : decode (mB 82) 51 = .ok (.getfield 50, 3) := by decide +kernel
theorem D82_54 : decode (mB 82) 54 = .ok (.iconst 1, 1) := by decide +kernel
theorem D82_55 : decode (mB 82) 55 = .ok (.iadd, 1) := by decide +kernel
theorem D82_56 : decode (mB 82) 56 = .ok (.putfield 50, 3) := by decide +kernel
theorem D82_59 : decode (mB 82) 59 = .ok (.iconst 1, 1) := by decide +kernel
theorem D82_60 : decode (mB 82) 60 = .ok (.ireturn, 1) := by decide +kernel
theorem D83_0 : decode (mB 83) 0 = .ok (.aload_n 0, 1) := by decide +kernel
theorem D83_1 : decode (mB 83) 1 = .ok (.getfield 31, 3) := by decide +kernel
theorem D83_4 : decode (mB 83) 4 = .ok (.ifCond .eq 10, 3) := by decide +kernel
theorem D83_7 : decode (mB 83) 7 = .ok (.aload_n 0, 1) := by decide +kernel
theorem D83_8 : decode (mB 83) 8 = .ok (.getfield 59, 3) := by decide +kernel
theorem D83_11 : decode (mB 83) 11 = .ok (.ifCond .ne 4, 3) := by decide +kernel
theorem D83_14 : decode (mB 83) 14 = .ok (.return_, 1) := by decide +kernel
theorem D83_15 : decode (mB 83) 15 = .ok (.aload_n 0, 1) := by decide +kernel
theorem D83_16 : decode (mB 83) 16 = .ok (.aload_n 0, 1) := by decide +kernel
theorem D83_17 : decode (mB 83) 17 = .ok (.getfield 38, 3) := by decide +kernel
theorem D83_20 : decode (mB 83) 20 = .ok (.putfield 41, 3) := by decide +kernel
theorem D83_23 : decode (mB 83) 23 = .ok (.aload_n 0, 1) := by decide +kernel
theorem D83_24 : decode (mB 83) 24 = .ok (.getfield 41, 3) := by decide +kernel
theorem D83_27 : decode (mB 83) 27 = .ok (.aload_n 0, 1) := by decide +kernel
theorem D83_28 : decode (mB 83) 28 = .ok (.getfield 44, 3) := by decide +kernel
theorem D83_31 : decode (mB 83) 31 = .ok (.if_icmp .ne 16, 3) := by decide +kernel
theorem D83_34 : decode (mB 83) 34 = .ok (.aload_n 0, 1) := by decide +kernel
theorem D83_35 : decode (mB 83) 35 = .ok (.aload_n 0, 1) := by decide +kernel
theorem D83_36 : decode (mB 83) 36 = .ok (.getfield 41, 3) := by decide +kernel
theorem D83_39 : decode (mB 83) 39 = .ok (.putfield 56, 3) := by decide +kernel
theorem D83_42 : decode (mB 83) 42 = .ok (.aload_n 0, 1) := by decide +kernel
theorem D83_43 : decode (mB 83) 43 = .ok (.iconst 0, 1) := by decide +kernel
theorem D83_44 : decode (mB 83) 44 = .ok (.putfield 59, 3) := by decide +kernel
theorem D83_47 : decode (mB 83) 47 = .ok (.return_, 1) := by decide +kernel
theorem D84_0 : decode (mB 84) 0 = .ok (.aload_n 0, 1) := by decide +kernel
theorem D84_1 : decode (mB 84) 1 = .ok (.getfield 41, 3) := by decide +kernel
theorem D84_4 : decode (mB 84) 4 = .ok (.aload_n 0, 1) := by decide +kernel
theorem D84_5 : decode (mB 84) 5 = .ok (.getfield 44, 3) := by decide +kernel
theorem D84_8 : decode (mB 84) 8 = .ok (.if_icmp .le 7, 3) := by decide +kernel
theorem D84_11 : decode (mB 84) 11 = .ok (.iconst 1, 1) := by decide +kernel
theorem D84_12 : decode (mB 84) 12 = .ok (.goto 4, 3) := by decide +kernel
theorem D84_15 : decode (mB 84) 15 = .ok (.iconst 0, 1) := by decide +kernel
theorem D84_16 : decode (mB 84) 16 = .ok (.ireturn, 1) := by decide +kernel
theorem D85_0 : decode (mB 85) 0 = .ok (.aload_n 0, 1) := by decide +kernel
theorem D85_1 : decode (mB 85) 1 = .ok (.iconst 0, 1) := by decide +kernel
theorem D85_2 : decode (mB 85) 2 = .ok (.invokevirtual 100, 3) := by decide +kernel
theorem D85_5 : decode (mB 85) 5 = .ok (.istore_n 1, 1) := by decide +kernel
theorem D85_6 : decode (mB 85) 6 = .ok (.aload_n 0, 1) := by decide +kernel
theorem D85_7 : decode (mB 85) 7 = .ok (.dup, 1) := by decide +kernel
theorem D85_8 : decode (mB 85) 8 = .ok (.getfield 44, 3) := by decide +kernel
theorem D85_11 : decode (mB 85) 11 = .ok (.iconst 1, 1) := by decide +kernel
theorem D85_12 : decode (mB 85) 12 = .ok (.iadd, 1) := by decide +kernel
theorem D85_13 : decode (mB 85) 13 = .ok (.putfield 44, 3) := by decide +kernel
theorem D85_16 : decode (mB 85) 16 = .ok (.iload_n 1, 1) := by decide +kernel
theorem D85_17 : decode (mB 85) 17 = .ok (.ireturn, 1) := by decide +kernel
theorem D86_0 : decode (mB 86) 0 = .ok (.aload_n 0, 1) := by decide +kernel
theorem D86_1 : decode (mB 86) 1 = .ok (.getfield 11, 3) := by decide +kernel
theorem D86_4 : decode (mB 86) 4 = .ok (.aload_n 0, 1) := by decide +kernel
theorem D86_5 : decode (mB 86) 5 = .ok (.getfield 44, 3) := by decide +kernel
theorem D86_8 : decode (mB 86) 8 = .ok (.iload_n 1, 1) := by decide +kernel
theorem D86_9 : decode (mB 86) 9 = .ok (.iadd, 1) := by decide +kernel
theorem D86_10 : decode (mB 86) 10 = .ok (.bipush 7, 2) := by decide +kernel
theorem D86_12 : decode (mB 86) 12 = .ok (.iand, 1) := by decide +kernel
theorem D86_13 : decode (mB 86) 13 = .ok (.iaload, 1) := by decide +kernel
theorem D86_14 : decode (mB 86) 14 = .ok (.ireturn, 1) := by decide +kernel
theorem D87_0 : decode (mB 87) 0 = .ok (.aload_n 0, 1) := by decide +kernel
theorem D87_1 : decode (mB 87) 1 = .ok (.iconst 0, 1) := by decide +kernel
theorem D87_2 : decode (mB 87) 2 = .ok (.invokevirtual 100, 3) := by decide +kernel
theorem D87_5 : decode (mB 87) 5 = .ok (.istore_n 1, 1) := by decide +kernel
theorem D87_6 : decode (mB 87) 6 = .ok (.aload_n 0, 1) := by decide +kernel
theorem D87_7 : decode (mB 87) 7 = .ok (.invokevirtual 107, 3) := by decide +kernel
theorem D87_10 : decode (mB 87) 10 = .ok (.ifCond .eq 22, 3) := by decide +kernel
theorem D87_13 : decode (mB 87) 13 = .ok (.iload_n 1, 1) := by decide +kernel
theorem D87_14 : decode (mB 87) 14 = .ok (.invokestatic 111, 3) := by decide +kernel
theorem D87_17 : decode (mB 87) 17 = .ok (.iconst 3, 1) := by decide +kernel
theorem D87_18 : decode (mB 87) 18 = .ok (.if_icmp .ne 14, 3) := by decide +kernel
theorem D87_21 : decode (mB 87) 21 = .ok (.iload_n 1, 1) := by decide +kernel
theorem D87_22 : decode (mB 87) 22 = .ok (.invokestatic 114, 3) := by decide +kernel
theorem D87_25 : decode (mB 87) 25 = .ok (.ifCond .ne 7, 3) := by decide +kernel
theorem D87_28 : decode (mB 87) 28 = .ok (.iconst 1, 1) := by decide +kernel
theorem D87_29 : decode (mB 87) 29 = .ok (.goto 4, 3) := by decide +kernel
theorem D87_32 : decode (mB 87) 32 = .ok (.iconst 0, 1) := by decide +kernel
theorem D87_33 : decode (mB 87) 33 = .ok (.ireturn, 1) := by decide +kernel
theorem D88_0 : decode (mB 88) 0 = .ok (.aload_n 0, 1) := by decide +kernel
theorem D88_1 : decode (mB 88) 1 = .ok (.getfield 15, 3) := by decide +kernel
theorem D88_4 : decode (mB 88) 4 = .ok (.iload_n 1, 1) := by decide +kernel
theorem D88_5 : decode (mB 88) 5 = .ok (.bipush 7, 2) := by decide +kernel
theorem D88_7 : decode (mB 88) 7 = .ok (.iand, 1) := by decide +kernel
theorem D88_8 : decode (mB 88) 8 = .ok (.iaload, 1) := by decide +kernel
theorem D88_9 : decode (mB 88) 9 = .ok (.ireturn, 1) := by decide +kernel
theorem D89_0 : decode (mB 89) 0 = .ok (.aload_n 0, 1) := by decide +kernel
theorem D89_1 : decode (mB 89) 1 = .ok (.getfield 18, 3) := by decide +kernel
theorem D89_4 : decode (mB 89) 4 = .ok (.iload_n 1, 1) := by decide +kernel
theorem D89_5 : decode (mB 89) 5 = .ok (.bipush 7, 2) := by decide +kernel
theorem D89_7 : decode (mB 89) 7 = .ok (.iand, 1) := by decide +kernel
theorem D89_8 : decode (mB 89) 8 = .ok (.iaload, 1) := by decide +kernel
theorem D89_9 : decode (mB 89) 9 = .ok (.ireturn, 1) := by decide +kernel
theorem D90_0 : decode (mB 90) 0 = .ok (.aload_n 0, 1) := by decide +kernel
theorem D90_1 : decode (mB 90) 1 = .ok (.getfield 25, 3) := by decide +kernel
theorem D90_4 : decode (mB 90) 4 = .ok (.ifCond .le 18, 3) := by decide +kernel
theorem D90_7 : decode (mB 90) 7 = .ok (.iload_n 1, 1) := by decide +kernel
theorem D90_8 : decode (mB 90) 8 = .ok (.aload_n 0, 1) := by decide +kernel
theorem D90_9 : decode (mB 90) 9 = .ok (.getfield 25, 3) := by decide +kernel
theorem D90_12 : decode (mB 90) 12 = .ok (.idiv, 1) := by decide +kernel
theorem D90_13 : decode (mB 90) 13 = .ok (.iconst 2, 1) := by decide +kernel
theorem D90_14 : decode (mB 90) 14 = .ok (.irem, 1) := by decide +kernel
theorem D90_15 : decode (mB 90) 15 = .ok (.ifCond .ne 7, 3) := by decide +kernel
theorem D90_18 : decode (mB 90) 18 = .ok (.iconst 1, 1) := by decide +kernel
theorem D90_19 : decode (mB 90) 19 = .ok (.goto 4, 3) := by decide +kernel
theorem D90_22 : decode (mB 90) 22 = .ok (.iconst 0, 1) := by decide +kernel
theorem D90_23 : decode (mB 90) 23 = .ok (.ireturn, 1) := by decide +kernel
theorem D91_0 : decode (mB 91) 0 = .ok (.aload_n 0, 1) := by decide +kernel
theorem D91_1 : decode (mB 91) 1 = .ok (.aload_n 0, 1) := by decide +kernel
theorem D91_2 : decode (mB 91) 2 = .ok (.aload_n 0, 1) := by decide +kernel
theorem D91_3 : decode (mB 91) 3 = .ok (.getfield 53, 3) := by decide +kernel
theorem D91_6 : decode (mB 91) 6 = .ok (.invokevirtual 120, 3) := by decide +kernel
theorem D91_9 : decode (mB 91) 9 = .ok (.putfield 47, 3) := by decide +kernel
theorem D91_12 : decode (mB 91) 12 = .ok (.aload_n 0, 1) := by decide +kernel
theorem D91_13 : decode (mB 91) 13 = .ok (.dup, 1) := by decide +kernel
theorem D91_14 : decode (mB 91) 14 = .ok (.getfield 62, 3) := by decide +kernel
theorem D91_17 : decode (mB 91) 17 = .ok (.iconst 1, 1) := by decide +kernel
theorem D91_18 : decode (mB 91) 18 = .ok (.aload_n 0, 1) := by decide +kernel
theorem D91_19 : decode (mB 91) 19 = .ok (.aload_n 0, 1) := by decide +kernel
theorem D91_20 : decode (mB 91) 20 = .ok (.getfield 53, 3) := by decide +kernel
theorem D91_23 : decode (mB 91) 23 = .ok (.invokevirtual 123, 3) := by decide +kernel
theorem D91_26 : decode (mB 91) 26 = .ok (.invokestatic 117, 3) := by decide +kernel
theorem D91_29 : decode (mB 91) 29 = .ok (.ishl, 1) := by decide +kernel
theorem D91_30 : decode (mB 91) 30 = .ok (.iconst (-1), 1) := by decide +kernel
theorem D91_31 : decode (mB 91) 31 = .ok (.ixor, 1) := by decide +kernel
theorem D91_32 : decode (mB 91) 32 = .ok (.iand, 1) := by decide +kernel
theorem D91_33 : decode (mB 91) 33 = .ok (.putfield 62, 3) := by decide +kernel
theorem D91_36 : decode (mB 91) 36 = .ok (.aload_n 0, 1) := by decide +kernel
theorem D91_37 : decode (mB 91) 37 = .ok (.dup, 1) := by decide +kernel
theorem D91_38 : decode (mB 91) 38 = .ok (.getfield 53, 3) := by decide +kernel
theorem D91_41 : decode (mB 91) 41 = .ok (.iconst 1, 1) := by decide +kernel
theorem D91_42 : decode (mB 91) 42 = .ok (.iadd, 1) := by decide +kernel
theorem D91_43 : decode (mB 91) 43 = .ok (.putfield 53, 3) := by decide +kernel
theorem D91_46 : decode (mB 91) 46 = .ok (.return_, 1) := by decide +kernel
theorem D92_0 : decode (mB 92) 0 = .ok (.iconst 0, 1) := by decide +kernel
theorem D92_1 : decode (mB 92) 1 = .ok (.istore_n 2, 1) := by decide +kernel
theorem D92_2 : decode (mB 92) 2 = .ok (.iload_n 2, 1) := by decide +kernel
theorem D92_3 : decode (mB 92) 3 = .ok (.aload_n 0, 1) := by decide +kernel
theorem D92_4 : decode (mB 92) 4 = .ok (.invokevirtual 97, 3) := by decide +kernel
theorem D92_7 : decode (mB 92) 7 = .ok (.if_icmp .ge 23, 3) := by decide +kernel
theorem D92_10 : decode (mB 92) 10 = .ok (.aload_n 0, 1) := by decide +kernel
theorem D92_11 : decode (mB 92) 11 = .ok (.iload_n 2, 1) := by decide +kernel
theorem D92_12 : decode (mB 92) 12 = .ok (.invokevirtual 100, 3) := by decide +kernel
theorem D92_15 : decode (mB 92) 15 = .ok (.invokestatic 103, 3) := by decide +kernel
theorem D92_18 : decode (mB 92) 18 = .ok (.iload_n 1, 1) := by decide +kernel
theorem D92_19 : decode (mB 92) 19 = .ok (.if_icmp .ne 5, 3) := by decide +kernel
theorem D92_22 : decode (mB 92) 22 = .ok (.iload_n 2, 1) := by decide +kernel
theorem D92_23 : decode (mB 92) 23 = .ok (.ireturn, 1) := by decide +kernel
theorem D92_24 : decode (mB 92) 24 = .ok (.iinc 2 1, 3) := by decide +kernel
theorem D92_27 : decode (mB 92) 27 = .ok (.goto (-25), 3) := by decide +kernel
theorem D92_30 : decode (mB 92) 30 = .ok (.iconst (-1), 1) := by decide +kernel
theorem D92_31 : decode (mB 92) 31 = .ok (.ireturn, 1) := by decide +kernel
theorem D93_0 : decode (mB 93) 0 = .ok (.aload_n 0, 1) := by decide +kernel
theorem D93_1 : decode (mB 93) 1 = .ok (.getfield 35, 3) := by decide +kernel
theorem D93_4 : decode (mB 93) 4 = .ok (.aload_n 0, 1) := by decide +kernel
theorem D93_5 : decode (mB 93) 5 = .ok (.getfield 44, 3) := by decide +kernel
theorem D93_8 : decode (mB 93) 8 = .ok (.isub, 1) := by decide +kernel
theorem D93_9 : decode (mB 93) 9 = .ok (.ireturn, 1) := by decide +kernel
theorem D94_0 : decode (mB 94) 0 = .ok (.aload_n 0, 1) := by decide +kernel
theorem D94_1 : decode (mB 94) 1 = .ok (.getfield 11, 3) := by decide +kernel
theorem D94_4 : decode (mB 94) 4 = .ok (.aload_n 0, 1) := by decide +kernel
theorem D94_5 : decode (mB 94) 5 = .ok (.getfield 44, 3) := by decide +kernel
theorem D94_8 : decode (mB 94) 8 = .ok (.iload_n 1, 1) := by decide +kernel
theorem D94_9 : decode (mB 94) 9 = .ok (.iadd, 1) := by decide +kernel
theorem D94_10 : decode (mB 94) 10 = .ok (.bipush 7, 2) := by decide +kernel
theorem D94_12 : decode (mB 94) 12 = .ok (.iand, 1) := by decide +kernel
theorem D94_13 : decode (mB 94) 13 = .ok (.dup2, 1) := by decide +kernel
theorem D94_14 : decode (mB 94) 14 = .ok (.iaload, 1) := by decide +kernel
theorem D94_15 : decode (mB 94) 15 = .ok (.ldc 106, 2) := by decide +kernel
theorem D94_17 : decode (mB 94) 17 = .ok (.ior, 1) := by decide +kernel
theorem D94_18 : decode (mB 94) 18 = .ok (.iastore, 1) := by decide +kernel
theorem D94_19 : decode (mB 94) 19 = .ok (.return_, 1) := by decide +kernel
theorem D95_0 : decode (mB 95) 0 = .ok (.aload_n 0, 1) := by decide +kernel
theorem D95_1 : decode (mB 95) 1 = .ok (.getfield 62, 3) := by decide +kernel
theorem D95_4 : decode (mB 95) 4 = .ok (.invokestatic 75, 3) := by decide +kernel
theorem D95_7 : decode (mB 95) 7 = .ok (.ireturn, 1) := by decide +kernel
theorem D96_0 : decode (mB 96) 0 = .ok (.aload_n 0, 1) := by decide +kernel
theorem D96_1 : decode (mB 96) 1 = .ok (.iconst 0, 1) := by decide +kernel
theorem D96_2 : decode (mB 96) 2 = .ok (.putfield 35, 3) := by decide +kernel
theorem D96_5 : decode (mB 96) 5 = .ok (.aload_n 0, 1) := by decide +kernel
theorem D96_6 : decode (mB 96) 6 = .ok (.iconst 0, 1) := by decide +kernel
theorem D96_7 : decode (mB 96) 7 = .ok (.putfield 38, 3) := by decide +kernel
theorem D96_10 : decode (mB 96) 10 = .ok (.aload_n 0, 1) := by decide +kernel
theorem D96_11 : decode (mB 96) 11 = .ok (.iconst 0, 1) := by decide +kernel
theorem D96_12 : decode (mB 96) 12 = .ok (.putfield 41, 3) := by decide +kernel
theorem D96_15 : decode (mB 96) 15 = .ok (.aload_n 0, 1) := by decide +kernel
theorem D96_16 : decode (mB 96) 16 = .ok (.iconst 0, 1) := by decide +kernel
theorem D96_17 : decode (mB 96) 17 = .ok (.putfield 44, 3) := by decide +kernel
theorem D96_20 : decode (mB 96) 20 = .ok (.aload_n 0, 1) := by decide +kernel
theorem D96_21 : decode (mB 96) 21 = .ok (.iconst 0, 1) := by decide +kernel
theorem D96_22 : decode (mB 96) 22 = .ok (.putfield 47, 3) := by decide +kernel
theorem D96_25 : decode (mB 96) 25 = .ok (.aload_n 0, 1) := by decide +kernel
theorem D96_26 : decode (mB 96) 26 = .ok (.iconst 0, 1) := by decide +kernel
theorem D96_27 : decode (mB 96) 27 = .ok (.putfield 50, 3) := by decide +kernel
theorem D96_30 : decode (mB 96) 30 = .ok (.aload_n 0, 1) := by decide +kernel
theorem D96_31 : decode (mB 96) 31 = .ok (.iconst 0, 1) := by decide +kernel
theorem D96_32 : decode (mB 96) 32 = .ok (.putfield 53, 3) := by decide +kernel
theorem D96_35 : decode (mB 96) 35 = .ok (.aload_n 0, 1) := by decide +kernel
theorem D96_36 : decode (mB 96) 36 = .ok (.iconst 0, 1) := by decide +kernel
theorem D96_37 : decode (mB 96) 37 = .ok (.putfield 56, 3) := by decide +kernel
theorem D96_40 : decode (mB 96) 40 = .ok (.aload_n 0, 1) := by decide +kernel
theorem D96_41 : decode (mB 96) 41 = .ok (.iconst 0, 1) := by decide +kernel
theorem D96_42 : decode (mB 96) 42 = .ok (.putfield 59, 3) := by decide +kernel
theorem D96_45 : decode (mB 96) 45 = .ok (.aload_n 0, 1) := by decide +kernel
theorem D96_46 : decode (mB 96) 46 = .ok (.iconst 0, 1) := by decide +kernel
theorem D96_47 : decode (mB 96) 47 = .ok (.putfield 62, 3) := by decide +kernel
theorem D96_50 : decode (mB 96) 50 = .ok (.return_, 1) := by decide +kernel
theorem D97_0 : decode (mB 97) 0 = .ok (.iconst 0, 1) := by decide +kernel
theorem D97_1 : decode (mB 97) 1 = .ok (.istore_n 1, 1) := by decide +kernel
theorem D97_2 : decode (mB 97) 2 = .ok (.iconst 0, 1) := by decide +kernel
theorem D97_3 : decode (mB 97) 3 = .ok (.aload_n 0, 1) := by decide +kernel
theorem D97_4 : decode (mB 97) 4 = .ok (.getfield 50, 3) := by decide +kernel
theorem D97_7 : decode (mB 97) 7 = .ok (.aload_n 0, 1) := by decide +kernel
theorem D97_8 : decode (mB 97) 8 = .ok (.getfield 25, 3) := by decide +kernel
theorem D97_11 : decode (mB 97) 11 = .ok (.isub, 1) := by decide +kernel
theorem D97_12 : decode (mB 97) 12 = .ok (.invokestatic 129, 3) := by decide +kernel
theorem D97_15 : decode (mB 97) 15 = .ok (.istore_n 2, 1) := by decide +kernel
theorem D97_16 : decode (mB 97) 16 = .ok (.iload_n 2, 1) := by decide +kernel
theorem D97_17 : decode (mB 97) 17 = .ok (.aload_n 0, 1) := by decide +kernel
theorem D97_18 : decode (mB 97) 18 = .ok (.getfield 50, 3) := by decide +kernel
theorem D97_21 : decode (mB 97) 21 = .ok (.if_icmp .ge 36, 3) := by decide +kernel
theorem D97_24 : decode (mB 97) 24 = .ok (.aload_n 0, 1) := by decide +kernel
theorem D97_25 : decode (mB 97) 25 = .ok (.getfield 25, 3) := by decide +kernel
theorem D97_28 : decode (mB 97) 28 = .ok (.ifCond .le 23, 3) := by decide +kernel
theorem D97_31 : decode (mB 97) 31 = .ok (.aload_n 0, 1) := by decide +kernel
theorem D97_32 : decode (mB 97) 32 = .ok (.iload_n 2, 1) := by decide +kernel
theorem D97_33 : decode (mB 97) 33 = .ok (.invokevirtual 135, 3) := by decide +kernel
theorem D97_36 : decode (mB 97) 36 = .ok (.iconst 1, 1) := by decide +kernel
theorem D97_37 : decode (mB 97) 37 = .ok (.if_icmp .ne 14, 3) := by decide +kernel
theorem D97_40 : decode (mB 97) 40 = .ok (.iload_n 1, 1) := by decide +kernel
theorem D97_41 : decode (mB 97) 41 = .ok (.iconst 1, 1) := by decide +kernel
theorem D97_42 : decode (mB 97) 42 = .ok (.iload_n 2, 1) := by decide +kernel
theorem D97_43 : decode (mB 97) 43 = .ok (.aload_n 0, 1) := by decide +kernel
theorem D97_44 : decode (mB 97) 44 = .ok (.getfield 25, 3) := by decide +kernel
theorem D97_47 : decode (mB 97) 47 = .ok (.irem, 1) := by decide +kernel
theorem D97_48 : decode (mB 97) 48 = .ok (.ishl, 1) := by decide +kernel
theorem D97_49 : decode (mB 97) 49 = .ok (.ior, 1) := by decide +kernel
theorem D97_50 : decode (mB 97) 50 = .ok (.istore_n 1, 1) := by decide +kernel
theorem D97_51 : decode (mB 97) 51 = .ok (.iinc 2 1, 3) := by decide +kernel
theorem D97_54 : decode (mB 97) 54 = .ok (.goto (-38), 3) := by decide +kernel
theorem D97_57 : decode (mB 97) 57 = .ok (.iload_n 1, 1) := by decide +kernel
theorem D97_58 : decode (mB 97) 58 = .ok (.ireturn, 1) := by decide +kernel
theorem D98_0 : decode (mB 98) 0 = .ok (.bipush 16, 2) := by decide +kernel
theorem D98_2 : decode (mB 98) 2 = .ok (.aload_n 0, 1) := by decide +kernel
theorem D98_3 : decode (mB 98) 3 = .ok (.invokevirtual 71, 3) := by decide +kernel
theorem D98_6 : decode (mB 98) 6 = .ok (.isub, 1) := by decide +kernel
theorem D98_7 : decode (mB 98) 7 = .ok (.ireturn, 1) := by decide +kernel
theorem D99_0 : decode (mB 99) 0 = .ok (.aload_n 0, 1) := by decide +kernel
theorem D99_1 : decode (mB 99) 1 = .ok (.getfield 53, 3) := by decide +kernel
theorem D99_4 : decode (mB 99) 4 = .ok (.istore_n 2, 1) := by decide +kernel
theorem D99_5 : decode (mB 99) 5 = .ok (.iload_n 2, 1) := by decide +kernel
theorem D99_6 : decode (mB 99) 6 = .ok (.aload_n 0, 1) := by decide +kernel
theorem D99_7 : decode (mB 99) 7 = .ok (.getfield 50, 3) := by decide +kernel
theorem D99_10 : decode (mB 99) 10 = .ok (.if_icmp .ge 27, 3) := by decide +kernel
theorem D99_13 : decode (mB 99) 13 = .ok (.aload_n 0, 1) := by decide +kernel
theorem D99_14 : decode (mB 99) 14 = .ok (.getfield 15, 3) := by decide +kernel
theorem D99_17 : decode (mB 99) 17 = .ok (.iload_n 2, 1) := by decide +kernel
theorem D99_18 : decode (mB 99) 18 = .ok (.bipush 7, 2) := by decide +kernel
theorem D99_20 : decode (mB 99) 20 = .ok (.iand, 1) := by decide +kernel
theorem D99_21 : decode (mB 99) 21 = .ok (.iaload, 1) := by decide +kernel
theorem D99_22 : decode (mB 99) 22 = .ok (.invokestatic 117, 3) := by decide +kernel
theorem D99_25 : decode (mB 99) 25 = .ok (.iload_n 1, 1) := by decide +kernel
theorem D99_26 : decode (mB 99) 26 = .ok (.if_icmp .ne 5, 3) := by decide +kernel
theorem D99_29 : decode (mB 99) 29 = .ok (.iload_n 2, 1) := by decide +kernel
theorem D99_30 : decode (mB 99) 30 = .ok (.ireturn, 1) := by decide +kernel
theorem D99_31 : decode (mB 99) 31 = .ok (.iinc 2 1, 3) := by decide +kernel
theorem D99_34 : decode (mB 99) 34 = .ok (.goto (-29), 3) := by decide +kernel
theorem D99_37 : decode (mB 99) 37 = .ok (.iconst (-1), 1) := by decide +kernel
theorem D99_38 : decode (mB 99) 38 = .ok (.ireturn, 1) := by decide +kernel
theorem D100_0 : decode (mB 100) 0 = .ok (.aload_n 0, 1) := by decide +kernel
theorem D100_1 : decode (mB 100) 1 = .ok (.getfield 50, 3) := by decide +kernel
theorem D100_4 : decode (mB 100) 4 = .ok (.aload_n 0, 1) := by decide +kernel
theorem D100_5 : decode (mB 100) 5 = .ok (.getfield 53, 3) := by decide +kernel
theorem D100_8 : decode (mB 100) 8 = .ok (.isub, 1) := by decide +kernel
theorem D100_9 : decode (mB 100) 9 = .ok (.istore_n 1, 1) := by decide +kernel
theorem D100_10 : decode (mB 100) 10 = .ok (.iconst 0, 1) := by decide +kernel
theorem D100_11 : decode (mB 100) 11 = .ok (.istore_n 2, 1) := by decide +kernel
theorem D100_12 : decode (mB 100) 12 = .ok (.iload_n 2, 1) := by decide +kernel
theorem D100_13 : decode (mB 100) 13 = .ok (.iload_n 1, 1) := by decide +kernel
theorem D100_14 : decode (mB 100) 14 = .ok (.if_icmp .ge 13, 3) := by decide +kernel
theorem D100_17 : decode (mB 100) 17 = .ok (.aload_n 0, 1) := by decide +kernel
theorem D100_18 : decode (mB 100) 18 = .ok (.invokevirtual 126, 3) := by decide +kernel
theorem D100_21 : decode (mB 100) 21 = .ok (.iinc 2 1, 3) := by decide +kernel
theorem D100_24 : decode (mB 100) 24 = .ok (.goto (-12), 3) := by decide +kernel
theorem D100_27 : decode (mB 100) 27 = .ok (.return_, 1) := by decide +kernel
theorem D101_0 : decode (mB 101) 0 = .ok (.aload_n 0, 1) := by decide +kernel
theorem D101_1 : decode (mB 101) 1 = .ok (.invokespecial 3, 3) := by decide +kernel
theorem D101_4 : decode (mB 101) 4 = .ok (.aload_n 0, 1) := by decide +kernel
theorem D101_5 : decode (mB 101) 5 = .ok (.bipush 9, 2) := by decide +kernel
theorem D101_7 : decode (mB 101) 7 = .ok (.anewarray 11, 3) := by decide +kernel
theorem D101_10 : decode (mB 101) 10 = .ok (.putfield 13, 3) := by decide +kernel
theorem D101_13 : decode (mB 101) 13 = .ok (.aload_n 0, 1) := by decide +kernel
theorem D101_14 : decode (mB 101) 14 = .ok (.iconst 2, 1) := by decide +kernel
theorem D101_15 : decode (mB 101) 15 = .ok (.anewarray 11, 3) := by decide +kernel
theorem D101_18 : decode (mB 101) 18 = .ok (.putfield 17, 3) := by decide +kernel
theorem D101_21 : decode (mB 101) 21 = .ok (.aload_n 0, 1) := by decide +kernel
theorem D101_22 : decode (mB 101) 22 = .ok (.iconst 2, 1) := by decide +kernel
theorem D101_23 : decode (mB 101) 23 = .ok (.newarray .boolean, 2) := by decide +kernel
theorem D101_25 : decode (mB 101) 25 = .ok (.putfield 20, 3) := by decide +kernel
theorem D101_28 : decode (mB 101) 28 = .ok (.iconst 0, 1) := by decide +kernel
theorem D101_29 : decode (mB 101) 29 = .ok (.istore_n 1, 1) := by decide +kernel
theorem D101_30 : decode (mB 101) 30 = .ok (.iload_n 1, 1) := by decide +kernel
theorem D101_31 : decode (mB 101) 31 = .ok (.bipush 8, 2) := by decide +kernel
theorem D101_33 : decode (mB 101) 33 = .ok (.if_icmp .gt 22, 3) := by decide +kernel
theorem D101_36 : decode (mB 101) 36 = .ok (.aload_n 0, 1) := by decide +kernel
theorem D101_37 : decode (mB 101) 37 = .ok (.getfield 13, 3) := by decide +kernel
theorem D101_40 : decode (mB 101) 40 = .ok (.iload_n 1, 1) := by decide +kernel
theorem D101_41 : decode (mB 101) 41 = .ok (.new 11, 3) := by decide +kernel
theorem D101_44 : decode (mB 101) 44 = .ok (.dup, 1) := by decide +kernel
theorem D101_45 : decode (mB 101) 45 = .ok (.invokespecial 24, 3) := by decide +kernel
theorem D101_48 : decode (mB 101) 48 = .ok (.aastore, 1) := by decide +kernel
theorem D101_49 : decode (mB 101) 49 = .ok (.iinc 1 1, 3) := by decide +kernel
theorem D101_52 : decode (mB 101) 52 = .ok (.goto (-22), 3) := by decide +kernel
theorem D101_55 : decode (mB 101) 55 = .ok (.iconst 0, 1) := by decide +kernel
theorem D101_56 : decode (mB 101) 56 = .ok (.istore_n 1, 1) := by decide +kernel
theorem D101_57 : decode (mB 101) 57 = .ok (.iload_n 1, 1) := by decide +kernel
theorem D101_58 : decode (mB 101) 58 = .ok (.iconst 2, 1) := by decide +kernel
theorem D101_59 : decode (mB 101) 59 = .ok (.if_icmp .ge 22, 3) := by decide +kernel
theorem D101_62 : decode (mB 101) 62 = .ok (.aload_n 0, 1) := by decide +kernel
theorem D101_63 : decode (mB 101) 63 = .ok (.getfield 17, 3) := by decide +kernel
theorem D101_66 : decode (mB 101) 66 = .ok (.iload_n 1, 1) := by decide +kernel
theorem D101_67 : decode (mB 101) 67 = .ok (.new 11, 3) := by decide +kernel
theorem D101_70 : decode (mB 101) 70 = .ok (.dup, 1) := by decide +kernel
theorem D101_71 : decode (mB 101) 71 = .ok (.invokespecial 24, 3) := by decide +kernel
theorem D101_74 : decode (mB 101) 74 = .ok (.aastore, 1) := by decide +kernel
theorem D101_75 : decode (mB 101) 75 = .ok (.iinc 1 1, 3) := by decide +kernel
theorem D101_78 : decode (mB 101) 78 = .ok (.goto (-21), 3) := by decide +kernel
theorem D101_81 : decode (mB 101) 81 = .ok (.return_, 1) := by decide +kernel
theorem D102_0 : decode (mB 102) 0 = .ok (.aload_n 0, 1) := by decide +kernel
theorem D102_1 : decode (mB 102) 1 = .ok (.iconst 0, 1) := by decide +kernel
theorem D102_2 : decode (mB 102) 2 = .ok (.putfield 33, 3) := by decide +kernel
theorem D102_5 : decode (mB 102) 5 = .ok (.return_, 1) := by decide +kernel
theorem D103_0 : decode (mB 103) 0 = .ok (.aload_n 0, 1) := by decide +kernel
theorem D103_1 : decode (mB 103) 1 = .ok (.getfield 25, 3) := by decide +kernel
theorem D103_4 : decode (mB 103) 4 = .ok (.ifCond .lt 25, 3) := by decide +kernel
theorem D103_7 : decode (mB 103) 7 = .ok (.aload_n 0, 1) := by decide +kernel
theorem D103_8 : decode (mB 103) 8 = .ok (.getfield 25, 3) := by decide +kernel
theorem D103_11 : decode (mB 103) 11 = .ok (.bipush 8, 2) := by decide +kernel
theorem D103_13 : decode (mB 103) 13 = .ok (.if_icmp .gt 16, 3) := by decide +kernel
theorem D103_16 : decode (mB 103) 16 = .ok (.aload_n 0, 1) := by decide +kernel
theorem D103_17 : decode (mB 103) 17 = .ok (.getfield 13, 3) := by decide +kernel
theorem D103_20 : decode (mB 103) 20 = .ok (.aload_n 0, 1) := by decide +kernel
theorem D103_21 : decode (mB 103) 21 = .ok (.getfield 25, 3) := by decide +kernel
theorem D103_24 : decode (mB 103) 24 = .ok (.aaload, 1) := by decide +kernel
theorem D103_25 : decode (mB 103) 25 = .ok (.aload_n 1, 1) := by decide +kernel
theorem D103_26 : decode (mB 103) 26 = .ok (.invokevirtual 29, 3) := by decide +kernel
theorem D103_29 : decode (mB 103) 29 = .ok (.return_, 1) := by decide +kernel
theorem D104_0 : decode (mB 104) 0 = .ok (.iload_n 1, 1) := by decide +kernel
theorem D104_1 : decode (mB 104) 1 = .ok (.ifCond .lt 31, 3) := by decide +kernel
theorem D104_4 : decode (mB 104) 4 = .ok (.aload_n 0, 1) := by decide +kernel
theorem D104_5 : decode (mB 104) 5 = .ok (.aload_n 0, 1) := by decide +kernel
theorem D104_6 : decode (mB 104) 6 = .ok (.getfield 25, 3) := by decide +kernel
theorem D104_9 : decode (mB 104) 9 = .ok (.iconst 1, 1) := by decide +kernel
theorem D104_10 : decode (mB 104) 10 = .ok (.iadd, 1) := by decide +kernel
theorem D104_11 : decode (mB 104) 11 = .ok (.bipush 9, 2) := by decide +kernel
theorem D104_13 : decode (mB 104) 13 = .ok (.irem, 1) := by decide +kernel
theorem D104_14 : decode (mB 104) 14 = .ok (.putfield 25, 3) := by decide +kernel
theorem D104_17 : decode (mB 104) 17 = .ok (.aload_n 0, 1) := by decide +kernel
theorem D104_18 : decode (mB 104) 18 = .ok (.bipush 8, 2) := by decide +kernel
theorem D104_20 : decode (mB 104) 20 = .ok (.aload_n 0, 1) := by decide +kernel
theorem D104_21 : decode (mB 104) 21 = .ok (.getfield 33, 3) := by decide +kernel
theorem D104_24 : decode (mB 104) 24 = .ok (.iconst 1, 1) := by decide +kernel
theorem D104_25 : decode (mB 104) 25 = .ok (.iadd, 1) := by decide +kernel
theorem D104_26 : decode (mB 104) 26 = .ok (.invokestatic 36, 3) := by decide +kernel
theorem D104_29 : decode (mB 104) 29 = .ok (.putfield 33, 3) := by decide +kernel
theorem D104_32 : decode (mB 104) 32 = .ok (.iload_n 1, 1) := by decide +kernel
theorem D104_33 : decode (mB 104) 33 = .ok (.ireturn, 1) := by decide +kernel
theorem D105_0 : decode (mB 105) 0 = .ok (.aload_n 0, 1) := by decide +kernel
theorem D105_1 : decode (mB 105) 1 = .ok (.getfield 33, 3) := by decide +kernel
theorem D105_4 : decode (mB 105) 4 = .ok (.iconst 1, 1) := by decide +kernel
theorem D105_5 : decode (mB 105) 5 = .ok (.if_icmp .ge 5, 3) := by decide +kernel
theorem D105_8 : decode (mB 105) 8 = .ok (.iconst (-1), 1) := by decide +kernel
theorem D105_9 : decode (mB 105) 9 = .ok (.ireturn, 1) := by decide +kernel
theorem D105_10 : decode (mB 105) 10 = .ok (.aload_n 0, 1) := by decide +kernel
theorem D105_11 : decode (mB 105) 11 = .ok (.aload_n 0, 1) := by decide +kernel
theorem D105_12 : decode (mB 105) 12 = .ok (.getfield 25, 3) := by decide +kernel
theorem D105_15 : decode (mB 105) 15 = .ok (.ifCond .le 21, 3) := by decide +kernel
theorem D105_18 : decode (mB 105) 18 = .ok (.aload_n 0, 1) := by decide +kernel
theorem D105_19 : decode (mB 105) 19 = .ok (.getfield 25, 3) := by decide +kernel
theorem D105_22 : decode (mB 105) 22 = .ok (.bipush 8, 2) := by decide +kernel
theorem D105_24 : decode (mB 105) 24 = .ok (.if_icmp .gt 12, 3) := by decide +kernel
theorem D105_27 : decode (mB 105) 27 = .ok (.aload_n 0, 1) := by decide +kernel
theorem D105_28 : decode (mB 105) 28 = .ok (.getfield 25, 3) := by decide +kernel
theorem D105_31 : decode (mB 105) 31 = .ok (.iconst 1, 1) := by decide +kernel
theorem D105_32 : decode (mB 105) 32 = .ok (.isub, 1) := by decide +kernel
theorem D105_33 : decode (mB 105) 33 = .ok (.goto 5, 3) := by decide +kernel
theorem D105_36 : decode (mB 105) 36 = .ok (.bipush 8, 2) := by decide +kernel
theorem D105_38 : decode (mB 105) 38 = .ok (.putfield 25, 3) := by decide +kernel
theorem D105_41 : decode (mB 105) 41 = .ok (.aload_n 0, 1) := by decide +kernel
theorem D105_42 : decode (mB 105) 42 = .ok (.dup, 1) := by decide +kernel
theorem D105_43 : decode (mB 105) 43 = .ok (.getfield 33, 3) := by decide +kernel
theorem D105_46 : decode (mB 105) 46 = .ok (.iconst 1, 1) := by decide +kernel
theorem D105_47 : decode (mB 105) 47 = .ok (.isub, 1) := by decide +kernel
theorem D105_48 : decode (mB 105) 48 = .ok (.putfield 33, 3) := by decide +kernel
theorem D105_51 : decode (mB 105) 51 = .ok (.aload_n 1, 1) := by decide +kernel
theorem D105_52 : decode (mB 105) 52 = .ok (.aload_n 0, 1) := by decide +kernel
theorem D105_53 : decode (mB 105) 53 = .ok (.getfield 13, 3) := by decide +kernel
theorem D105_56 : decode (mB 105) 56 = .ok (.aload_n 0, 1) := by decide +kernel
theorem D105_57 : decode (mB 105) 57 = .ok (.getfield 25, 3) := by decide +kernel
theorem D105_60 : decode (mB 105) 60 = .ok (.aaload, 1) := by decide +kernel
theorem D105_61 : decode (mB 105) 61 = .ok (.invokevirtual 29, 3) := by decide +kernel
theorem D105_64 : decode (mB 105) 64 = .ok (.aload_n 0, 1) := by decide +kernel
theorem D105_65 : decode (mB 105) 65 = .ok (.getfield 33, 3) := by decide +kernel
theorem D105_68 : decode (mB 105) 68 = .ok (.ireturn, 1) := by decide +kernel
theorem D106_0 : decode (mB 106) 0 = .ok (.iload_n 1, 1) := by decide +kernel
theorem D106_1 : decode (mB 106) 1 = .ok (.ifCond .lt 8, 3) := by decide +kernel
theorem D106_4 : decode (mB 106) 4 = .ok (.iload_n 1, 1) := by decide +kernel
theorem D106_5 : decode (mB 106) 5 = .ok (.iconst 2, 1) := by decide +kernel
theorem D106_6 : decode (mB 106) 6 = .ok (.if_icmp .lt 5, 3) := by decide +kernel
theorem D106_9 : decode (mB 106) 9 = .ok (.iconst 0, 1) := by decide +kernel
theorem D106_10 : decode (mB 106) 10 = .ok (.ireturn, 1) := by decide +kernel
theorem D106_11 : decode (mB 106) 11 = .ok (.aload_n 0, 1) := by decide +kernel
theorem D106_12 : decode (mB 106) 12 = .ok (.getfield 17, 3) := by decide +kernel
theorem D106_15 : decode (mB 106) 15 = .ok (.iload_n 1, 1) := by decide +kernel
theorem D106_16 : decode (mB 106) 16 = .ok (.aaload, 1) := by decide +kernel
theorem D106_17 : decode (mB 106) 17 = .ok (.aload_n 2, 1) := by decide +kernel
theorem D106_18 : decode (mB 106) 18 = .ok (.invokevirtual 29, 3) := by decide +kernel
theorem D106_21 : decode (mB 106) 21 = .ok (.aload_n 0, 1) := by decide +kernel
theorem D106_22 : decode (mB 106) 22 = .ok (.getfield 20, 3) := by decide +kernel
theorem D106_25 : decode (mB 106) 25 = .ok (.iload_n 1, 1) := by decide +kernel
theorem D106_26 : decode (mB 106) 26 = .ok (.iconst 1, 1) := by decide +kernel
theorem D106_27 : decode (mB 106) 27 = .ok (.bastore, 1) := by decide +kernel
theorem D106_28 : decode (mB 106) 28 = .ok (.iconst 1, 1) := by decide +kernel
theorem D106_29 : decode (mB 106) 29 = .ok (.ireturn, 1) := by decide +kernel
theorem D107_0 : decode (mB 107) 0 = .ok (.iload_n 1, 1) := by decide +kernel
theorem D107_1 : decode (mB 107) 1 = .ok (.ifCond .lt 33, 3) := by decide +kernel
theorem D107_4 : decode (mB 107) 4 = .ok (.iload_n 1, 1) := by decide +kernel
theorem D107_5 : decode (mB 107) 5 = .ok (.iconst 2, 1) := by decide +kernel
theorem D107_6 : decode (mB 107) 6 = .ok (.if_icmp .ge 28, 3) := by decide +kernel
theorem D107_9 : decode (mB 107) 9 = .ok (.aload_n 0, 1) := by decide +kernel
theorem D107_10 : decode (mB 107) 10 = .ok (.getfield 20, 3) := by decide +kernel
theorem D107_13 : decode (mB 107) 13 = .ok (.iload_n 1, 1) := by decide +kernel
theorem D107_14 : decode (mB 107) 14 = .ok (.baload, 1) := by decide +kernel
theorem D107_15 : decode (mB 107) 15 = .ok (.ifCond .eq 19, 3) := by decide +kernel
theorem D107_18 : decode (mB 107) 18 = .ok (.aload_n 0, 1) := by decide +kernel
theorem D107_19 : decode (mB 107) 19 = .ok (.getfield 17, 3) := by decide +kernel
theorem D107_22 : decode (mB 107) 22 = .ok (.iload_n 1, 1) := by decide +kernel
theorem D107_23 : decode (mB 107) 23 = .ok (.aaload, 1) := by decide +kernel
theorem D107_24 : decode (mB 107) 24 = .ok (.getfield 42, 3) := by decide +kernel
theorem D107_27 : decode (mB 107) 27 = .ok (.aload_n 2, 1) := by decide +kernel
theorem D107_28 : decode (mB 107) 28 = .ok (.getfield 42, 3) := by decide +kernel
theorem D107_31 : decode (mB 107) 31 = .ok (.if_icmp .eq 5, 3) := by decide +kernel
theorem D107_34 : decode (mB 107) 34 = .ok (.iconst 0, 1) := by decide +kernel
theorem D107_35 : decode (mB 107) 35 = .ok (.ireturn, 1) := by decide +kernel
theorem D107_36 : decode (mB 107) 36 = .ok (.aload_n 2, 1) := by decide +kernel
theorem D107_37 : decode (mB 107) 37 = .ok (.aload_n 0, 1) := by decide +kernel
theorem D107_38 : decode (mB 107) 38 = .ok (.getfield 17, 3) := by decide +kernel
theorem D107_41 : decode (mB 107) 41 = .ok (.iload_n 1, 1) := by decide +kernel
theorem D107_42 : decode (mB 107) 42 = .ok (.aaload, 1) := by decide +kernel
theorem D107_43 : decode (mB 107) 43 = .ok (.invokevirtual 29, 3) := by decide +kernel
theorem D107_46 : decode (mB 107) 46 = .ok (.aload_n 0, 1) := by decide +kernel
theorem D107_47 : decode (mB 107) 47 = .ok (.invokevirtual 45, 3) := by decide +kernel
theorem D107_50 : decode (mB 107) 50 = .ok (.iconst 1, 1) := by decide +kernel
theorem D107_51 : decode (mB 107) 51 = .ok (.ireturn, 1) := by decide +kernel
theorem D108_0 : decode (mB 108) 0 = .ok (.aload_n 0, 1) := by decide +kernel
theorem D108_1 : decode (mB 108) 1 = .ok (.invokespecial 1, 3) := by decide +kernel
theorem D108_4 : decode (mB 108) 4 = .ok (.aload_n 0, 1) := by decide +kernel
theorem D108_5 : decode (mB 108) 5 = .ok (.bipush 12, 2) := by decide +kernel
theorem D108_7 : decode (mB 108) 7 = .ok (.newarray .long, 2) := by decide +kernel
theorem D108_9 : decode (mB 108) 9 = .ok (.putfield 9, 3) := by decide +kernel
theorem D108_12 : decode (mB 108) 12 = .ok (.return_, 1) := by decide +kernel
theorem D109_0 : decode (mB 109) 0 = .ok (.aload_n 0, 1) := by decide +kernel
theorem D109_1 : decode (mB 109) 1 = .ok (.lload_n 1, 1) := by decide +kernel
theorem D109_2 : decode (mB 109) 2 = .ok (.invokevirtual 24, 3) := by decide +kernel
theorem D109_5 : decode (mB 109) 5 = .ok (.aload_n 0, 1) := by decide +kernel
theorem D109_6 : decode (mB 109) 6 = .ok (.lload_n 3, 1) := by decide +kernel
theorem D109_7 : decode (mB 109) 7 = .ok (.invokevirtual 20, 3) := by decide +kernel
theorem D109_10 : decode (mB 109) 10 = .ok (.return_, 1) := by decide +kernel
theorem D110_0 : decode (mB 110) 0 = .ok (.aload_n 0, 1) := by decide +kernel
theorem D110_1 : decode (mB 110) 1 = .ok (.invokevirtual 17, 3) := by decide +kernel
theorem D110_4 : decode (mB 110) 4 = .ok (.aload_n 0, 1) := by decide +kernel
theorem D110_5 : decode (mB 110) 5 = .ok (.lload_n 1, 1) := by decide +kernel
theorem D110_6 : decode (mB 110) 6 = .ok (.invokevirtual 20, 3) := by decide +kernel
theorem D110_9 : decode (mB 110) 9 = .ok (.return_, 1) := by decide +kernel
theorem D111_0 : decode (mB 111) 0 = .ok (.aload_n 0, 1) := by decide +kernel
theorem D111_1 : decode (mB 111) 1 = .ok (.iconst 0, 1) := by decide +kernel
theorem D111_2 : decode (mB 111) 2 = .ok (.putfield 13, 3) := by decide +kernel
theorem D111_5 : decode (mB 111) 5 = .ok (.return_, 1) := by decide +kernel
theorem D112_0 : decode (mB 112) 0 = .ok (.aload_n 0, 1) := by decide +kernel
theorem D112_1 : decode (mB 112) 1 = .ok (.getfield 13, 3) := by decide +kernel
theorem D112_4 : decode (mB 112) 4 = .ok (.bipush 12, 2) := by decide +kernel
theorem D112_6 : decode (mB 112) 6 = .ok (.if_icmp .ge 23, 3) := by decide +kernel
theorem D112_9 : decode (mB 112) 9 = .ok (.aload_n 0, 1) := by decide +kernel
theorem D112_10 : decode (mB 112) 10 = .ok (.getfield 9, 3) := by decide +kernel
theorem D112_13 : decode (mB 112) 13 = .ok (.aload_n 0, 1) := by decide +kernel
theorem D112_14 : decode (mB 112) 14 = .ok (.getfield 13, 3) := by decide +kernel
theorem D112_17 : decode (mB 112) 17 = .ok (.lload_n 1, 1) := by decide +kernel
theorem D112_18 : decode (mB 112) 18 = .ok (.lastore, 1) := by decide +kernel
theorem D112_19 : decode (mB 112) 19 = .ok (.aload_n 0, 1) := by decide +kernel
theorem D112_20 : decode (mB 112) 20 = .ok (.dup, 1) := by decide +kernel
theorem D112_21 : decode (mB 112) 21 = .ok (.getfield 13, 3) := by decide +kernel
theorem D112_24 : decode (mB 112) 24 = .ok (.iconst 1, 1) := by decide +kernel
theorem D112_25 : decode (mB 112) 25 = .ok (.iadd, 1) := by decide +kernel
theorem D112_26 : decode (mB 112) 26 = .ok (.putfield 13, 3) := by decide +kernel
theorem D112_29 : decode (mB 112) 29 = .ok (.return_, 1) := by decide +kernel
theorem D113_0 : decode (mB 113) 0 = .ok (.aload_n 0, 1) := by decide +kernel
theorem D113_1 : decode (mB 113) 1 = .ok (.lload_n 1, 1) := by decide +kernel
theorem D113_2 : decode (mB 113) 2 = .ok (.lload_n 3, 1) := by decide +kernel
theorem D113_3 : decode (mB 113) 3 = .ok (.invokevirtual 27, 3) := by decide +kernel
theorem D113_6 : decode (mB 113) 6 = .ok (.aload_n 0, 1) := by decide +kernel
theorem D113_7 : decode (mB 113) 7 = .ok (.lload 5, 2) := by decide +kernel
theorem D113_9 : decode (mB 113) 9 = .ok (.invokevirtual 20, 3) := by decide +kernel
theorem D113_12 : decode (mB 113) 12 = .ok (.return_, 1) := by decide +kernel
theorem D114_0 : decode (mB 114) 0 = .ok (.iload_n 1, 1) := by decide +kernel
theorem D114_1 : decode (mB 114) 1 = .ok (.ifCond .lt 20, 3) := by decide +kernel
theorem D114_4 : decode (mB 114) 4 = .ok (.iload_n 1, 1) := by decide +kernel
theorem D114_5 : decode (mB 114) 5 = .ok (.aload_n 0, 1) := by decide +kernel
theorem D114_6 : decode (mB 114) 6 = .ok (.getfield 13, 3) := by decide +kernel
theorem D114_9 : decode (mB 114) 9 = .ok (.if_icmp .ge 12, 3) := by decide +kernel
theorem D114_12 : decode (mB 114) 12 = .ok (.aload_n 0, 1) := by decide +kernel
theorem D114_13 : decode (mB 114) 13 = .ok (.getfield 9, 3) := by decide +kernel
theorem D114_16 : decode (mB 114) 16 = .ok (.iload_n 1, 1) := by decide +kernel
theorem D114_17 : decode (mB 114) 17 = .ok (.laload, 1) := by decide +kernel
theorem D114_18 : decode (mB 114) 18 = .ok (.goto 4, 3) := by decide +kernel
theorem D114_21 : decode (mB 114) 21 = .ok (.lconst 0, 1) := by decide +kernel
theorem D114_22 : decode (mB 114) 22 = .ok (.lreturn, 1) := by decide +kernel
theorem D115_0 : decode (mB 115) 0 = .ok (.aload_n 0, 1) := by decide +kernel
theorem D115_1 : decode (mB 115) 1 = .ok (.invokespecial 3, 3) := by decide +kernel
theorem D115_4 : decode (mB 115) 4 = .ok (.aload_n 0, 1) := by decide +kernel
theorem D115_5 : decode (mB 115) 5 = .ok (.bipush 40, 2) := by decide +kernel
theorem D115_7 : decode (mB 115) 7 = .ok (.newarray .int, 2) := by decide +kernel
theorem D115_9 : decode (mB 115) 9 = .ok (.putfield 11, 3) := by decide +kernel
theorem D115_12 : decode (mB 115) 12 = .ok (.aload_n 0, 1) := by decide +kernel
theorem D115_13 : decode (mB 115) 13 = .ok (.bipush 40, 2) := by decide +kernel
theorem D115_15 : decode (mB 115) 15 = .ok (.newarray .int, 2) := by decide +kernel
theorem D115_17 : decode (mB 115) 17 = .ok (.putfield 15, 3) := by decide +kernel
theorem D115_20 : decode (mB 115) 20 = .ok (.aload_n 0, 1) := by decide +kernel
theorem D115_21 : decode (mB 115) 21 = .ok (.iconst 5, 1) := by decide +kernel
theorem D115_22 : decode (mB 115) 22 = .ok (.newarray .boolean, 2) := by decide +kernel
theorem D115_24 : decode (mB 115) 24 = .ok (.putfield 18, 3) := by decide +kernel
theorem D115_27 : decode (mB 115) 27 = .ok (.aload_n 0, 1) := by decide +kernel
theorem D115_28 : decode (mB 115) 28 = .ok (.bipush 7, 2) := by decide +kernel
theorem D115_30 : decode (mB 115) 30 = .ok (.newarray .int, 2) := by decide +kernel
theorem D115_32 : decode (mB 115) 32 = .ok (.putfield 22, 3) := by decide +kernel
theorem D115_35 : decode (mB 115) 35 = .ok (.aload_n 0, 1) := by decide +kernel
theorem D115_36 : decode (mB 115) 36 = .ok (.bipush 40, 2) := by decide +kernel
theorem D115_38 : decode (mB 115) 38 = .ok (.newarray .int, 2) := by decide +kernel
theorem D115_40 : decode (mB 115) 40 = .ok (.putfield 25, 3) := by decide +kernel
theorem D115_43 : decode (mB 115) 43 = .ok (.return_, 1) := by decide +kernel
theorem D116_0 : decode (mB 116) 0 = .ok (.aload_n 0, 1) := by decide +kernel
theorem D116_1 : decode (mB 116) 1 = .ok (.iconst 0, 1) := by decide +kernel
theorem D116_2 : decode (mB 116) 2 = .ok (.putfield 34, 3) := by decide +kernel
theorem D116_5 : decode (mB 116) 5 = .ok (.aload_n 0, 1) := by decide +kernel
theorem D116_6 : decode (mB 116) 6 = .ok (.iconst 0, 1) := by decide +kernel
theorem D116_7 : decode (mB 116) 7 = .ok (.putfield 38, 3) := by decide +kernel
theorem D116_10 : decode (mB 116) 10 = .ok (.aload_n 0, 1) := by decide +kernel
theorem D116_11 : decode (mB 116) 11 = .ok (.iconst 0, 1) := by decide +kernel
theorem D116_12 : decode (mB 116) 12 = .ok (.putfield 41, 3) := by decide +kernel
theorem D116_15 : decode (mB 116) 15 = .ok (.aload_n 0, 1) := by decide +kernel
theorem D116_16 : decode (mB 116) 16 = .ok (.iconst 0, 1) := by decide +kernel
theorem D116_17 : decode (mB 116) 17 = .ok (.putfield 44, 3) := by decide +kernel
theorem D116_20 : decode (mB 116) 20 = .ok (.aload_n 0, 1) := by decide +kernel
theorem D116_21 : decode (mB 116) 21 = .ok (.getfield 18, 3) := by decide +kernel
theorem D116_24 : decode (mB 116) 24 = .ok (.iconst 0, 1) := by decide +kernel
theorem D116_25 : decode (mB 116) 25 = .ok (.iconst 0, 1) := by decide +kernel
theorem D116_26 : decode (mB 116) 26 = .ok (.bastore, 1) := by decide +kernel
theorem D116_27 : decode (mB 116) 27 = .ok (.aload_n 0, 1) := by decide +kernel
theorem D116_28 : decode (mB 116) 28 = .ok (.iconst 1, 1) := by decide +kernel
theorem D116_29 : decode (mB 116) 29 = .ok (.putfield 47, 3) := by decide +kernel
theorem D116_32 : decode (mB 116) 32 = .ok (.aload_n 1, 1) := by decide +kernel
theorem D116_33 : decode (mB 116) 33 = .ok (.getfield 51, 3) := by decide +kernel
theorem D116_36 : decode (mB 116) 36 = .ok (.bipush 40, 2) := by decide +kernel
theorem D116_38 : decode (mB 116) 38 = .ok (.invokestatic 54, 3) := by decide +kernel
theorem D116_41 : decode (mB 116) 41 = .ok (.istore_n 2, 1) := by decide +kernel
theorem D116_42 : decode (mB 116) 42 = .ok (.iconst 0, 1) := by decide +kernel
theorem D116_43 : decode (mB 116) 43 = .ok (.istore_n 3, 1) := by decide +kernel
theorem D116_44 : decode (mB 116) 44 = .ok (.iload_n 3, 1) := by decide +kernel
theorem D116_45 : decode (mB 116) 45 = .ok (.iload_n 2, 1) := by decide +kernel
theorem D116_46 : decode (mB 116) 46 = .ok (.if_icmp .ge 25, 3) := by decide +kernel
theorem D116_49 : decode (mB 116) 49 = .ok (.aload_n 0, 1) := by decide +kernel
theorem D116_50 : decode (mB 116) 50 = .ok (.aload_n 1, 1) := by decide +kernel
theorem D116_51 : decode (mB 116) 51 = .ok (.iload_n 3, 1) := by decide +kernel
theorem D116_52 : decode (mB 116) 52 = .ok (.invokevirtual 60, 3) := by decide +kernel
theorem D116_55 : decode (mB 116) 55 = .ok (.invokevirtual 64, 3) := by decide +kernel
theorem D116_58 : decode (mB 116) 58 = .ok (.ifCond .ne 7, 3) := by decide +kernel
theorem D116_61 : decode (mB 116) 61 = .ok (.iconst (-1), 1) := by decide +kernel
theorem D116_62 : decode (mB 116) 62 = .ok (.iload_n 3, 1) := by decide +kernel
theorem D116_63 : decode (mB 116) 63 = .ok (.isub, 1) := by decide +kernel
theorem D116_64 : decode (mB 116) 64 = .ok (.ireturn, 1) := by decide +kernel
theorem D116_65 : decode (mB 116) 65 = .ok (.iinc 3 1, 3) := by decide +kernel
theorem D116_68 : decode (mB 116) 68 = .ok (.goto (-24), 3) := by decide +kernel
theorem D116_71 : decode (mB 116) 71 = .ok (.aload_n 1, 1) := by decide +kernel
theorem D116_72 : decode (mB 116) 72 = .ok (.getfield 51, 3) := by decide +kernel
theorem D116_75 : decode (mB 116) 75 = .ok (.bipush 40, 2) := by decide +kernel
theorem D116_77 : decode (mB 116) 77 = .ok (.if_icmp .le 6, 3) := by decide +kernel
theorem D116_80 : decode (mB 116) 80 = .ok (.bipush (-41), 2) := by decide +kernel
theorem D116_82 : decode (mB 116) 82 = .ok (.ireturn, 1) := by decide +kernel
theorem D116_83 : decode (mB 116) 83 = .ok (.iload_n 2, 1) := by decide +kernel
theorem D116_84 : decode (mB 116) 84 = .ok (.ifCond .le 21, 3) := by decide +kernel
theorem D116_87 : decode (mB 116) 87 = .ok (.aload_n 0, 1) := by decide +kernel
theorem D116_88 : decode (mB 116) 88 = .ok (.getfield 47, 3) := by decide +kernel
theorem D116_91 : decode (mB 116) 91 = .ok (.ifCond .ne 10, 3) := by decide +kernel
theorem D116_94 : decode (mB 116) 94 = .ok (.aload_n 0, 1) := by decide +kernel
theorem D116_95 : decode (mB 116) 95 = .ok (.getfield 41, 3) := by decide +kernel
theorem D116_98 : decode (mB 116) 98 = .ok (.ifCond .le 7, 3) := by decide +kernel
theorem D116_101 : decode (mB 116) 101 = .ok (.iconst (-1), 1) := by decide +kernel
theorem D116_102 : decode (mB 116) 102 = .ok (.iload_n 2, 1) := by decide +kernel
theorem D116_103 : decode (mB 116) 103 = .ok (.isub, 1) := by decide +kernel
theorem D116_104 : decode (mB 116) 104 = .ok (.ireturn, 1) := by decide +kernel
theorem D116_105 : decode (mB 116) 105 = .ok (.aload_n 0, 1) := by decide +kernel
theorem D116_106 : decode (mB 116) 106 = .ok (.iconst 1, 1) := by decide +kernel
theorem D116_107 : decode (mB 116) 107 = .ok (.invokevirtual 68, 3) := by decide +kernel
theorem D116_110 : decode (mB 116) 110 = .ok (.iconst 0, 1) := by decide +kernel
theorem D116_111 : decode (mB 116) 111 = .ok (.ireturn, 1) := by decide +kernel
theorem D117_0 : decode (mB 117) 0 = .ok (.iload_n 1, 1) := by decide +kernel
theorem D117_1 : decode (mB 117) 1 = .ok (.bipush 48, 2) := by decide +kernel
theorem D117_3 : decode (mB 117) 3 = .ok (.if_icmp .lt 18, 3) := by decide +kernel
theorem D117_6 : decode (mB 117) 6 = .ok (.iload_n 1, 1) := by decide +kernel
theorem D117_7 : decode (mB 117) 7 = .ok (.bipush 57, 2) := by decide +kernel
theorem D117_9 : decode (mB 117) 9 = .ok (.if_icmp .gt 12, 3) := by decide +kernel
theorem D117_12 : decode (mB 117) 12 = .ok (.aload_n 0, 1) := by decide +kernel
theorem D117_13 : decode (mB 117) 13 = .ok (.iload_n 1, 1) := by decide +kernel
theorem D117_14 : decode (mB 117) 14 = .ok (.bipush 48, 2) := by decide +kernel
theorem D117_16 : decode (mB 117) 16 = .ok (.isub, 1) := by decide +kernel
theorem D117_17 : decode (mB 117) 17 = .ok (.invokevirtual 72, 3) := by decide +kernel
theorem D117_20 : decode (mB 117) 20 = .ok (.ireturn, 1) := by decide +kernel
theorem D117_21 : decode (mB 117) 21 = .ok (.aload_n 0, 1) := by decide +kernel
theorem D117_22 : decode (mB 117) 22 = .ok (.getfield 47, 3) := by decide +kernel
theorem D117_25 : decode (mB 117) 25 = .ok (.ifCond .eq 11, 3) := by decide +kernel
theorem D117_28 : decode (mB 117) 28 = .ok (.aload_n 0, 1) := by decide +kernel
theorem D117_29 : decode (mB 117) 29 = .ok (.iload_n 1, 1) := by decide +kernel
theorem D117_30 : decode (mB 117) 30 = .ok (.invokevirtual 75, 3) := by decide +kernel
theorem D117_33 : decode (mB 117) 33 = .ok (.goto 8, 3) := by decide +kernel
theorem D117_36 : decode (mB 117) 36 = .ok (.aload_n 0, 1) := by decide +kernel
theorem D117_37 : decode (mB 117) 37 = .ok (.iload_n 1, 1) := by decide +kernel
theorem D117_38 : decode (mB 117) 38 = .ok (.invokevirtual 78, 3) := by decide +kernel
theorem D117_41 : decode (mB 117) 41 = .ok (.ireturn, 1) := by decide +kernel
theorem D118_0 : decode (mB 118) 0 = .ok (.aload_n 0, 1) := by decide +kernel
theorem D118_1 : decode (mB 118) 1 = .ok (.getfield 47, 3) := by decide +kernel
theorem D118_4 : decode (mB 118) 4 = .ok (.ifCond .eq 20, 3) := by decide +kernel
theorem D118_7 : decode (mB 118) 7 = .ok (.aload_n 0, 1) := by decide +kernel
theorem D118_8 : decode (mB 118) 8 = .ok (.iload_n 1, 1) := by decide +kernel
theorem D118_9 : decode (mB 118) 9 = .ok (.invokevirtual 81, 3) := by decide +kernel
theorem D118_12 : decode (mB 118) 12 = .ok (.aload_n 0, 1) := by decide +kernel
theorem D118_13 : decode (mB 118) 13 = .ok (.iconst 1, 1) := by decide +kernel
theorem D118_14 : decode (mB 118) 14 = .ok (.putfield 44, 3) := by decide +kernel
theorem D118_17 : decode (mB 118) 17 = .ok (.aload_n 0, 1) := by decide +kernel
theorem D118_18 : decode (mB 118) 18 = .ok (.iconst 0, 1) := by decide +kernel
theorem D118_19 : decode (mB 118) 19 = .ok (.putfield 47, 3) := by decide +kernel
theorem D118_22 : decode (mB 118) 22 = .ok (.iconst 1, 1) := by decide +kernel
theorem D118_23 : decode (mB 118) 23 = .ok (.ireturn, 1) := by decide +kernel
theorem D118_24 : decode (mB 118) 24 = .ok (.aload_n 0, 1) := by decide +kernel
theorem D118_25 : decode (mB 118) 25 = .ok (.getfield 44, 3) := by decide +kernel
theorem D118_28 : decode (mB 118) 28 = .ok (.iconst 1, 1) := by decide +kernel
theorem D118_29 : decode (mB 118) 29 = .ok (.if_icmp .lt 28, 3) := by decide +kernel
theorem D118_32 : decode (mB 118) 32 = .ok (.aload_n 0, 1) := by decide +kernel
theorem D118_33 : decode (mB 118) 33 = .ok (.getfield 44, 3) := by decide +kernel
theorem D118_36 : decode (mB 118) 36 = .ok (.iconst 2, 1) := by decide +kernel
theorem D118_37 : decode (mB 118) 37 = .ok (.if_icmp .gt 20, 3) := by decide +kernel
theorem D118_40 : decode (mB 118) 40 = .ok (.aload_n 0, 1) := by decide +kernel
theorem D118_41 : decode (mB 118) 41 = .ok (.getfield 34, 3) := by decide +kernel
theorem D118_44 : decode (mB 118) 44 = .ok (.iconst 1, 1) := by decide +kernel
theorem D118_45 : decode (mB 118) 45 = .ok (.if_icmp .lt 12, 3) := by decide +kernel
theorem D118_48 : decode (mB 118) 48 = .ok (.aload_n 0, 1) := by decide +kernel
theorem D118_49 : decode (mB 118) 49 = .ok (.getfield 34, 3) := by decide +kernel
theorem D118_52 : decode (mB 118) 52 = .ok (.bipush 40, 2) := by decide +kernel
theorem D118_54 : decode (mB 118) 54 = .ok (.if_icmp .le 5, 3) := by decide +kernel
theorem D118_57 : decode (mB 118) 57 = .ok (.iconst 0, 1) := by decide +kernel
theorem D118_58 : decode (mB 118) 58 = .ok (.ireturn, 1) := by decide +kernel
theorem D118_59 : decode (mB 118) 59 = .ok (.aload_n 0, 1) := by decide +kernel
theorem D118_60 : decode (mB 118) 60 = .ok (.getfield 11, 3) := by decide +kernel
theorem D118_63 : decode (mB 118) 63 = .ok (.aload_n 0, 1) := by decide +kernel
theorem D118_64 : decode (mB 118) 64 = .ok (.getfield 34, 3) := by decide +kernel
theorem D118_67 : decode (mB 118) 67 = .ok (.iconst 1, 1) := by decide +kernel
theorem D118_68 : decode (mB 118) 68 = .ok (.isub, 1) := by decide +kernel
theorem D118_69 : decode (mB 118) 69 = .ok (.bipush 10, 2) := by decide +kernel
theorem D118_71 : decode (mB 118) 71 = .ok (.aload_n 0, 1) := by decide +kernel
theorem D118_72 : decode (mB 118) 72 = .ok (.getfield 11, 3) := by decide +kernel
theorem D118_75 : decode (mB 118) 75 = .ok (.aload_n 0, 1) := by decide +kernel
theorem D118_76 : decode (mB 118) 76 = .ok (.getfield 34, 3) := by decide +kernel
theorem D118_79 : decode (mB 118) 79 = .ok (.iconst 1, 1) := by decide +kernel
theorem D118_80 : decode (mB 118) 80 = .ok (.isub, 1) := by decide +kernel
theorem D118_81 : decode (mB 118) 81 = .ok (.iaload, 1) := by decide +kernel
theorem D118_82 : decode (mB 118) 82 = .ok (.imul, 1) := by decide +kernel
theorem D118_83 : decode (mB 118) 83 = .ok (.iload_n 1, 1) := by decide +kernel
theorem D118_84 : decode (mB 118) 84 = .ok (.iadd, 1) := by decide +kernel
theorem D118_85 : decode (mB 118) 85 = .ok (.iastore, 1) := by decide +kernel
theorem D118_86 : decode (mB 118) 86 = .ok (.aload_n 0, 1) := by decide +kernel
theorem D118_87 : decode (mB 118) 87 = .ok (.dup, 1) := by decide +kernel
theorem D118_88 : decode (mB 118) 88 = .ok (.getfield 44, 3) := by decide +kernel
theorem D118_91 : decode (mB 118) 91 = .ok (.iconst 1, 1) := by decide +kernel
theorem D118_92 : decode (mB 118) 92 = .ok (.iadd, 1) := by decide +kernel
theorem D118_93 : decode (mB 118) 93 = .ok (.putfield 44, 3) := by decide +kernel
theorem D118_96 : decode (mB 118) 96 = .ok (.iconst 1, 1) := by decide +kernel
theorem D118_97 : decode (mB 118) 97 = .ok (.ireturn, 1) := by decide +kernel
theorem D119_0 : decode (mB 119) 0 = .ok (.aload_n 0, 1) := by decide +kernel
theorem D119_1 : decode (mB 119) 1 = .ok (.getfield 34, 3) := by decide +kernel
theorem D119_4 : decode (mB 119) 4 = .ok (.ifCond .lt 32, 3) := by decide +kernel
theorem D119_7 : decode (mB 119) 7 = .ok (.aload_n 0, 1) := by decide +kernel
theorem D119_8 : decode (mB 119) 8 = .ok (.getfield 34, 3) := by decide +kernel
theorem D119_11 : decode (mB 119) 11 = .ok (.bipush 40, 2) := by decide +kernel
theorem D119_13 : decode (mB 119) 13 = .ok (.if_icmp .ge 23, 3) := by decide +kernel
theorem D119_16 : decode (mB 119) 16 = .ok (.aload_n 0, 1) := by decide +kernel
theorem D119_17 : decode (mB 119) 17 = .ok (.getfield 11, 3) := by decide +kernel
theorem D119_20 : decode (mB 119) 20 = .ok (.aload_n 0, 1) := by decide +kernel
theorem D119_21 : decode (mB 119) 21 = .ok (.getfield 34, 3) := by decide +kernel
theorem D119_24 : decode (mB 119) 24 = .ok (.iload_n 1, 1) := by decide +kernel
theorem D119_25 : decode (mB 119) 25 = .ok (.iastore, 1) := by decide +kernel
theorem D119_26 : decode (mB 119) 26 = .ok (.aload_n 0, 1) := by decide +kernel
theorem D119_27 : decode (mB 119) 27 = .ok (.dup, 1) := by decide +kernel
theorem D119_28 : decode (mB 119) 28 = .ok (.getfield 34, 3) := by decide +kernel
theorem D119_31 : decode (mB 119) 31 = .ok (.iconst 1, 1) := by decide +kernel
theorem D119_32 : decode (mB 119) 32 = .ok (.iadd, 1) := by decide +kernel
theorem D119_33 : decode (mB 119) 33 = .ok (.putfield 34, 3) := by decide +kernel
theorem D119_36 : decode (mB 119) 36 = .ok (.return_, 1) := by decide +kernel
theorem D120_0 : decode (mB 120) 0 = .ok (.aload_n 0, 1) := by decide +kernel
theorem D120_1 : decode (mB 120) 1 = .ok (.iconst 0, 1) := by decide +kernel
theorem D120_2 : decode (mB 120) 2 = .ok (.putfield 44, 3) := by decide +kernel
theorem D120_5 : decode (mB 120) 5 = .ok (.iload_n 1, 1) := by decide +kernel
theorem D120_6 : decode (mB 120) 6 = .ok (.bipush 45, 2) := by decide +kernel
theorem D120_8 : decode (mB 120) 8 = .ok (.if_icmp .ne 12, 3) := by decide +kernel
theorem D120_11 : decode (mB 120) 11 = .ok (.aload_n 0, 1) := by decide +kernel
theorem D120_12 : decode (mB 120) 12 = .ok (.sipush 256, 3) := by decide +kernel
theorem D120_15 : decode (mB 120) 15 = .ok (.invokevirtual 84, 3) := by decide +kernel
theorem D120_18 : decode (mB 120) 18 = .ok (.iconst 1, 1) := by decide +kernel
theorem D120_19 : decode (mB 120) 19 = .ok (.ireturn, 1) := by decide +kernel
theorem D120_20 : decode (mB 120) 20 = .ok (.iload_n 1, 1) := by decide +kernel
theorem D120_21 : decode (mB 120) 21 = .ok (.bipush 40, 2) := by decide +kernel
theorem D120_23 : decode (mB 120) 23 = .ok (.if_icmp .ne 8, 3) := by decide +kernel
theorem D120_26 : decode (mB 120) 26 = .ok (.aload_n 0, 1) := by decide +kernel
theorem D120_27 : decode (mB 120) 27 = .ok (.invokevirtual 87, 3) := by decide +kernel
theorem D120_30 : decode (mB 120) 30 = .ok (.ireturn, 1) := by decide +kernel
theorem D120_31 : decode (mB 120) 31 = .ok (.iload_n 1, 1) := by decide +kernel
theorem D120_32 : decode (mB 120) 32 = .ok (.ifCond .ge 7, 3) := by decide +kernel
theorem D120_35 : decode (mB 120) 35 = .ok (.iconst (-1), 1) := by decide +kernel
theorem D120_36 : decode (mB 120) 36 = .ok (.goto 10, 3) := by decide +kernel
theorem D120_39 : decode (mB 120) 39 = .ok (.ldc 91, 2) := by decide +kernel
theorem D120_41 : decode (mB 120) 41 = .ok (.iload_n 1, 1) := by decide +kernel
theorem D120_42 : decode (mB 120) 42 = .ok (.i2c, 1) := by decide +kernel
theorem D120_43 : decode (mB 120) 43 = .ok (.invokevirtual 93, 3) := by decide +kernel
theorem D120_46 : decode (mB 120) 46 = .ok (.istore_n 2, 1) := by decide +kernel
theorem D120_47 : decode (mB 120) 47 = .ok (.iload_n 2, 1) := by decide +kernel
theorem D120_48 : decode (mB 120) 48 = .ok (.ifCond .ge 5, 3) := by decide +kernel
theorem D120_51 : decode (mB 120) 51 = .ok (.iconst 0, 1) := by decide +kernel
theorem D120_52 : decode (mB 120) 52 = .ok (.ireturn, 1) := by decide +kernel
theorem D120_53 : decode (mB 120) 53 = .ok (.aload_n 0, 1) := by decide +kernel
theorem D120_54 : decode (mB 120) 54 = .ok (.sipush 1000, 3) := by decide +kernel
theorem D120_57 : decode (mB 120) 57 = .ok (.iload_n 2, 1) := by decide +kernel
theorem D120_58 : decode (mB 120) 58 = .ok (.iadd, 1) := by decide +kernel
theorem D120_59 : decode (mB 120) 59 = .ok (.invokevirtual 81, 3) := by decide +kernel
theorem D120_62 : decode (mB 120) 62 = .ok (.aload_n 0, 1) := by decide +kernel
theorem D120_63 : decode (mB 120) 63 = .ok (.iconst 0, 1) := by decide +kernel
theorem D120_64 : decode (mB 120) 64 = .ok (.putfield 47, 3) := by decide +kernel
theorem D120_67 : decode (mB 120) 67 = .ok (.iconst 1, 1) := by decide +kernel
theorem D120_68 : decode (mB 120) 68 = .ok (.ireturn, 1) := by decide +kernel
theorem D121_0 : decode (mB 121) 0 = .ok (.aload_n 0, 1) := by decide +kernel
theorem D121_1 : decode (mB 121) 1 = .ok (.getfield 38, 3) := by decide +kernel
theorem D121_4 : decode (mB 121) 4 = .ok (.ifCond .lt 32, 3) := by decide +kernel
theorem D121_7 : decode (mB 121) 7 = .ok (.aload_n 0, 1) := by decide +kernel
theorem D121_8 : decode (mB 121) 8 = .ok (.getfield 38, 3) := by decide +kernel
theorem D121_11 : decode (mB 121) 11 = .ok (.bipush 40, 2) := by decide +kernel
theorem D121_13 : decode (mB 121) 13 = .ok (.if_icmp .ge 23, 3) := by decide +kernel
theorem D121_16 : decode (mB 121) 16 = .ok (.aload_n 0, 1) := by decide +kernel
theorem D121_17 : decode (mB 121) 17 = .ok (.getfield 15, 3) := by decide +kernel
theorem D121_20 : decode (mB 121) 20 = .ok (.aload_n 0, 1) := by decide +kernel
theorem D121_21 : decode (mB 121) 21 = .ok (.getfield 38, 3) := by decide +kernel
theorem D121_24 : decode (mB 121) 24 = .ok (.iload_n 1, 1) := by decide +kernel
theorem D121_25 : decode (mB 121) 25 = .ok (.iastore, 1) := by decide +kernel
theorem D121_26 : decode (mB 121) 26 = .ok (.aload_n 0, 1) := by decide +kernel
theorem D121_27 : decode (mB 121) 27 = .ok (.dup, 1) := by decide +kernel
theorem D121_28 : decode (mB 121) 28 = .ok (.getfield 38, 3) := by decide +kernel
theorem D121_31 : decode (mB 121) 31 = .ok (.iconst 1, 1) := by decide +kernel
theorem D121_32 : decode (mB 121) 32 = .ok (.iadd, 1) := by decide +kernel
theorem D121_33 : decode (mB 121) 33 = .ok (.putfield 38, 3) := by decide +kernel
theorem D121_36 : decode (mB 121) 36 = .ok (.return_, 1) := by decide +kernel
theorem D122_0 : decode (mB 122) 0 = .ok (.aload_n 0, 1) := by decide +kernel
theorem D122_1 : decode (mB 122) 1 = .ok (.getfield 41, 3) := by decide +kernel
theorem D122_4 : decode (mB 122) 4 = .ok (.iconst 4, 1) := by decide +kernel
theorem D122_5 : decode (mB 122) 5 = .ok (.if_icmp .lt 5, 3) := by decide +kernel
theorem D122_8 : decode (mB 122) 8 = .ok (.iconst 0, 1) := by decide +kernel
theorem D122_9 : decode (mB 122) 9 = .ok (.ireturn, 1) := by decide +kernel
theorem D122_10 : decode (mB 122) 10 = .ok (.aload_n 0, 1) := by decide +kernel
theorem D122_11 : decode (mB 122) 11 = .ok (.dup, 1) := by decide +kernel
theorem D122_12 : decode (mB 122) 12 = .ok (.getfield 41, 3) := by decide +kernel
theorem D122_15 : decode (mB 122) 15 = .ok (.iconst 1, 1) := by decide +kernel
theorem D122_16 : decode (mB 122) 16 = .ok (.iadd, 1) := by decide +kernel
theorem D122_17 : decode (mB 122) 17 = .ok (.putfield 41, 3) := by decide +kernel
theorem D122_20 : decode (mB 122) 20 = .ok (.aload_n 0, 1) := by decide +kernel
theorem D122_21 : decode (mB 122) 21 = .ok (.getfield 18, 3) := by decide +kernel
theorem D122_24 : decode (mB 122) 24 = .ok (.aload_n 0, 1) := by decide +kernel
theorem D122_25 : decode (mB 122) 25 = .ok (.getfield 41, 3) := by decide +kernel
theorem D122_28 : decode (mB 122) 28 = .ok (.iconst 0, 1) := by decide +kernel
theorem D122_29 : decode (mB 122) 29 = .ok (.bastore, 1) := by decide +kernel
theorem D122_30 : decode (mB 122) 30 = .ok (.aload_n 0, 1) := by decide +kernel
theorem D122_31 : decode (mB 122) 31 = .ok (.bipush 40, 2) := by decide +kernel
theorem D122_33 : decode (mB 122) 33 = .ok (.invokevirtual 84, 3) := by decide +kernel
theorem D122_36 : decode (mB 122) 36 = .ok (.iconst 1, 1) := by decide +kernel
theorem D122_37 : decode (mB 122) 37 = .ok (.ireturn, 1) := by decide +kernel
theorem D123_0 : decode (mB 123) 0 = .ok (.aload_n 0, 1) := by decide +kernel
theorem D123_1 : decode (mB 123) 1 = .ok (.iconst 0, 1) := by decide +kernel
theorem D123_2 : decode (mB 123) 2 = .ok (.putfield 44, 3) := by decide +kernel
theorem D123_5 : decode (mB 123) 5 = .ok (.iload_n 1, 1) := by decide +kernel
theorem D123_6 : decode (mB 123) 6 = .ok (.invokestatic 98, 3) := by decide +kernel
theorem D123_9 : decode (mB 123) 9 = .ok (.istore_n 2, 1) := by decide +kernel
theorem D123_10 : decode (mB 123) 10 = .ok (.iload_n 1, 1) := by decide +kernel
theorem D123_11 : decode (mB 123) 11 = .ok (.bipush 41, 2) := by decide +kernel
theorem D123_13 : decode (mB 123) 13 = .ok (.if_icmp .ne 8, 3) := by decide +kernel
theorem D123_16 : decode (mB 123) 16 = .ok (.aload_n 0, 1) := by decide +kernel
theorem D123_17 : decode (mB 123) 17 = .ok (.invokevirtual 101, 3) := by decide +kernel
theorem D123_20 : decode (mB 123) 20 = .ok (.ireturn, 1) := by decide +kernel
theorem D123_21 : decode (mB 123) 21 = .ok (.iload_n 2, 1) := by decide +kernel
theorem D123_22 : decode (mB 123) 22 = .ok (.iconst 1, 1) := by decide +kernel
theorem D123_23 : decode (mB 123) 23 = .ok (.if_icmp .lt 18, 3) := by decide +kernel
theorem D123_26 : decode (mB 123) 26 = .ok (.aload_n 0, 1) := by decide +kernel
theorem D123_27 : decode (mB 123) 27 = .ok (.getfield 41, 3) := by decide +kernel
theorem D123_30 : decode (mB 123) 30 = .ok (.ifCond .lt 11, 3) := by decide +kernel
theorem D123_33 : decode (mB 123) 33 = .ok (.aload_n 0, 1) := by decide +kernel
theorem D123_34 : decode (mB 123) 34 = .ok (.getfield 41, 3) := by decide +kernel
theorem D123_37 : decode (mB 123) 37 = .ok (.iconst 4, 1) := by decide +kernel
theorem D123_38 : decode (mB 123) 38 = .ok (.if_icmp .le 5, 3) := by decide +kernel
theorem D123_41 : decode (mB 123) 41 = .ok (.iconst 0, 1) := by decide +kernel
theorem D123_42 : decode (mB 123) 42 = .ok (.ireturn, 1) := by decide +kernel
theorem D123_43 : decode (mB 123) 43 = .ok (.iload_n 2, 1) := by decide +kernel
theorem D123_44 : decode (mB 123) 44 = .ok (.iconst 1, 1) := by decide +kernel
theorem D123_45 : decode (mB 123) 45 = .ok (.if_icmp .ne 27, 3) := by decide +kernel
theorem D123_48 : decode (mB 123) 48 = .ok (.aload_n 0, 1) := by decide +kernel
theorem D123_49 : decode (mB 123) 49 = .ok (.getfield 18, 3) := by decide +kernel
theorem D123_52 : decode (mB 123) 52 = .ok (.aload_n 0, 1) := by decide +kernel
theorem D123_53 : decode (mB 123) 53 = .ok (.getfield 41, 3) := by decide +kernel
theorem D123_56 : decode (mB 123) 56 = .ok (.baload, 1) := by decide +kernel
theorem D123_57 : decode (mB 123) 57 = .ok (.ifCond .eq 5, 3) := by decide +kernel
theorem D123_60 : decode (mB 123) 60 = .ok (.iconst 0, 1) := by decide +kernel
theorem D123_61 : decode (mB 123) 61 = .ok (.ireturn, 1) := by decide +kernel
theorem D123_62 : decode (mB 123) 62 = .ok (.aload_n 0, 1) := by decide +kernel
theorem D123_63 : decode (mB 123) 63 = .ok (.getfield 18, 3) := by decide +kernel
theorem D123_66 : decode (mB 123) 66 = .ok (.aload_n 0, 1) := by decide +kernel
theorem D123_67 : decode (mB 123) 67 = .ok (.getfield 41, 3) := by decide +kernel
theorem D123_70 : decode (mB 123) 70 = .ok (.iconst 1, 1) := by decide +kernel
theorem D123_71 : decode (mB 123) 71 = .ok (.bastore, 1) := by decide +kernel
theorem D123_72 : decode (mB 123) 72 = .ok (.aload_n 0, 1) := by decide +kernel
theorem D123_73 : decode (mB 123) 73 = .ok (.iload_n 2, 1) := by decide +kernel
theorem D123_74 : decode (mB 123) 74 = .ok (.invokevirtual 68, 3) := by decide +kernel
theorem D123_77 : decode (mB 123) 77 = .ok (.aload_n 0, 1) := by decide +kernel
theorem D123_78 : decode (mB 123) 78 = .ok (.iload_n 1, 1) := by decide +kernel
theorem D123_79 : decode (mB 123) 79 = .ok (.invokevirtual 84, 3) := by decide +kernel
theorem D123_82 : decode (mB 123) 82 = .ok (.aload_n 0, 1) := by decide +kernel
theorem D123_83 : decode (mB 123) 83 = .ok (.iconst 1, 1) := by decide +kernel
theorem D123_84 : decode (mB 123) 84 = .ok (.putfield 47, 3) := by decide +kernel
theorem D123_87 : decode (mB 123) 87 = .ok (.iconst 1, 1) := by decide +kernel
theorem D123_88 : decode (mB 123) 88 = .ok (.ireturn, 1) := by decide +kernel
theorem D124_0 : decode (mB 124) 0 = .ok (.iload_n 0, 1) := by decide +kernel
theorem D124_1 : decode (mB 124) 1 = .ok (.lookupswitch 91 #[(42, 85), (43, 81), (45, 83), (47, 87), (60, 75), (61, 79), (62, 77), (256, 89)], 75) := by decide +kernel
theorem D124_76 : decode (mB 124) 76 = .ok (.iconst 1, 1) := by decide +kernel
theorem D124_77 : decode (mB 124) 77 = .ok (.ireturn, 1) := by decide +kernel
theorem D124_78 : decode (mB 124) 78 = .ok (.iconst 1, 1) := by decide +kernel
theorem D124_79 : decode (mB 124) 79 = .ok (.ireturn, 1) := by decide +kernel
theorem D124_80 : decode (mB 124) 80 = .ok (.iconst 1, 1) := by decide +kernel
theorem D124_81 : decode (mB 124) 81 = .ok (.ireturn, 1) := by decide +kernel
theorem D124_82 : decode (mB 124) 82 = .ok (.iconst 2, 1) := by decide +kernel
theorem D124_83 : decode (mB 124) 83 = .ok (.ireturn, 1) := by decide +kernel
theorem D124_84 : decode (mB 124) 84 = .ok (.iconst 2, 1) := by decide +kernel
theorem D124_85 : decode (mB 124) 85 = .ok (.ireturn, 1) := by decide +kernel
theorem D124_86 : decode (mB 124) 86 = .ok (.iconst 3, 1) := by decide +kernel
theorem D124_87 : decode (mB 124) 87 = .ok (.ireturn, 1) := by decide +kernel
theorem D124_88 : decode (mB 124) 88 = .ok (.iconst 3, 1) := by decide +kernel
theorem D124_89 : decode (mB 124) 89 = .ok (.ireturn, 1) := by decide +kernel
theorem D124_90 : decode (mB 124) 90 = .ok (.iconst 4, 1) := by decide +kernel
theorem D124_91 : decode (mB 124) 91 = .ok (.ireturn, 1) := by decide +kernel
theorem D124_92 : decode (mB 124) 92 = .ok (.iconst 0, 1) := by decide +kernel
theorem D124_93 : decode (mB 124) 93 = .ok (.ireturn, 1) := by decide +kernel
theorem D125_0 : decode (mB 125) 0 = .ok (.aload_n 0, 1) := by decide +kernel
theorem D125_1 : decode (mB 125) 1 = .ok (.getfield 41, 3) := by decide +kernel
theorem D125_4 : decode (mB 125) 4 = .ok (.iconst 1, 1) := by decide +kernel
theorem D125_5 : decode (mB 125) 5 = .ok (.if_icmp .ge 5, 3) := by decide +kernel
theorem D125_8 : decode (mB 125) 8 = .ok (.iconst 0, 1) := by decide +kernel
theorem D125_9 : decode (mB 125) 9 = .ok (.ireturn, 1) := by decide +kernel
theorem D125_10 : decode (mB 125) 10 = .ok (.aload_n 0, 1) := by decide +kernel
theorem D125_11 : decode (mB 125) 11 = .ok (.iconst 1, 1) := by decide +kernel
theorem D125_12 : decode (mB 125) 12 = .ok (.invokevirtual 68, 3) := by decide +kernel
theorem D125_15 : decode (mB 125) 15 = .ok (.aload_n 0, 1) := by decide +kernel
theorem D125_16 : decode (mB 125) 16 = .ok (.dup, 1) := by decide +kernel
theorem D125_17 : decode (mB 125) 17 = .ok (.getfield 38, 3) := by decide +kernel
theorem D125_20 : decode (mB 125) 20 = .ok (.iconst 1, 1) := by decide +kernel
theorem D125_21 : decode (mB 125) 21 = .ok (.isub, 1) := by decide +kernel
theorem D125_22 : decode (mB 125) 22 = .ok (.putfield 38, 3) := by decide +kernel
theorem D125_25 : decode (mB 125) 25 = .ok (.aload_n 0, 1) := by decide +kernel
theorem D125_26 : decode (mB 125) 26 = .ok (.dup, 1) := by decide +kernel
theorem D125_27 : decode (mB 125) 27 = .ok (.getfield 41, 3) := by decide +kernel
theorem D125_30 : decode (mB 125) 30 = .ok (.iconst 1, 1) := by decide +kernel
theorem D125_31 : decode (mB 125) 31 = .ok (.isub, 1) := by decide +kernel
theorem D125_32 : decode (mB 125) 32 = .ok (.putfield 41, 3) := by decide +kernel
theorem D125_35 : decode (mB 125) 35 = .ok (.iconst 1, 1) := by decide +kernel
theorem D125_36 : decode (mB 125) 36 = .ok (.ireturn, 1) := by decide +kernel
theorem D126_0 : decode (mB 126) 0 = .ok (.aload_n 0, 1) := by decide +kernel
theorem D126_1 : decode (mB 126) 1 = .ok (.getfield 38, 3) := by decide +kernel
theorem D126_4 : decode (mB 126) 4 = .ok (.ifCond .le 60, 3) := by decide +kernel
theorem D126_7 : decode (mB 126) 7 = .ok (.aload_n 0, 1) := by decide +kernel
theorem D126_8 : decode (mB 126) 8 = .ok (.getfield 38, 3) := by decide +kernel
theorem D126_11 : decode (mB 126) 11 = .ok (.bipush 40, 2) := by decide +kernel
theorem D126_13 : decode (mB 126) 13 = .ok (.if_icmp .gt 51, 3) := by decide +kernel
theorem D126_16 : decode (mB 126) 16 = .ok (.aload_n 0, 1) := by decide +kernel
theorem D126_17 : decode (mB 126) 17 = .ok (.getfield 15, 3) := by decide +kernel
theorem D126_20 : decode (mB 126) 20 = .ok (.aload_n 0, 1) := by decide +kernel
theorem D126_21 : decode (mB 126) 21 = .ok (.getfield 38, 3) := by decide +kernel
theorem D126_24 : decode (mB 126) 24 = .ok (.iconst 1, 1) := by decide +kernel
theorem D126_25 : decode (mB 126) 25 = .ok (.isub, 1) := by decide +kernel
theorem D126_26 : decode (mB 126) 26 = .ok (.iaload, 1) := by decide +kernel
theorem D126_27 : decode (mB 126) 27 = .ok (.invokestatic 98, 3) := by decide +kernel
theorem D126_30 : decode (mB 126) 30 = .ok (.iload_n 1, 1) := by decide +kernel
theorem D126_31 : decode (mB 126) 31 = .ok (.if_icmp .lt 33, 3) := by decide +kernel
theorem D126_34 : decode (mB 126) 34 = .ok (.aload_n 0, 1) := by decide +kernel
theorem D126_35 : decode (mB 126) 35 = .ok (.dup, 1) := by decide +kernel
theorem D126_36 : decode (mB 126) 36 = .ok (.getfield 38, 3) := by decide +kernel
theorem D126_39 : decode (mB 126) 39 = .ok (.iconst 1, 1) := by decide +kernel
theorem D126_40 : decode (mB 126) 40 = .ok (.isub, 1) := by decide +kernel
theorem D126_41 : decode (mB 126) 41 = .ok (.putfield 38, 3) := by decide +kernel
theorem D126_44 : decode (mB 126) 44 = .ok (.aload_n 0, 1) := by decide +kernel
theorem D126_45 : decode (mB 126) 45 = .ok (.sipush 2000, 3) := by decide +kernel
theorem D126_48 : decode (mB 126) 48 = .ok (.aload_n 0, 1) := by decide +kernel
theorem D126_49 : decode (mB 126) 49 = .ok (.getfield 15, 3) := by decide +kernel
theorem D126_52 : decode (mB 126) 52 = .ok (.aload_n 0, 1) := by decide +kernel
theorem D126_53 : decode (mB 126) 53 = .ok (.getfield 38, 3) := by decide +kernel
theorem D126_56 : decode (mB 126) 56 = .ok (.iaload, 1) := by decide +kernel
theorem D126_57 : decode (mB 126) 57 = .ok (.iadd, 1) := by decide +kernel
theorem D126_58 : decode (mB 126) 58 = .ok (.invokevirtual 81, 3) := by decide +kernel
theorem D126_61 : decode (mB 126) 61 = .ok (.goto (-61), 3) := by decide +kernel
theorem D126_64 : decode (mB 126) 64 = .ok (.return_, 1) := by decide +kernel
theorem D127_0 : decode (mB 127) 0 = .ok (.aload_n 1, 1) := by decide +kernel
theorem D127_1 : decode (mB 127) 1 = .ok (.getfield 11, 3) := by decide +kernel
theorem D127_4 : decode (mB 127) 4 = .ok (.iconst 0, 1) := by decide +kernel
theorem D127_5 : decode (mB 127) 5 = .ok (.aload_n 0, 1) := by decide +kernel
theorem D127_6 : decode (mB 127) 6 = .ok (.getfield 11, 3) := by decide +kernel
theorem D127_9 : decode (mB 127) 9 = .ok (.iconst 0, 1) := by decide +kernel
theorem D127_10 : decode (mB 127) 10 = .ok (.bipush 40, 2) := by decide +kernel
theorem D127_12 : decode (mB 127) 12 = .ok (.invokestatic 28, 3) := by decide +kernel
theorem D127_15 : decode (mB 127) 15 = .ok (.aload_n 0, 1) := by decide +kernel
theorem D127_16 : decode (mB 127) 16 = .ok (.aload_n 1, 1) := by decide +kernel
theorem D127_17 : decode (mB 127) 17 = .ok (.getfield 34, 3) := by decide +kernel
theorem D127_20 : decode (mB 127) 20 = .ok (.putfield 34, 3) := by decide +kernel
theorem D127_23 : decode (mB 127) 23 = .ok (.return_, 1) := by decide +kernel
theorem D128_0 : decode (mB 128) 0 = .ok (.aload_n 0, 1) := by decide +kernel
theorem D128_1 : decode (mB 128) 1 = .ok (.getfield 34, 3) := by decide +kernel
theorem D128_4 : decode (mB 128) 4 = .ok (.ifCond .ne 16, 3) := by decide +kernel
theorem D128_7 : decode (mB 128) 7 = .ok (.iload_n 1, 1) := by decide +kernel
theorem D128_8 : decode (mB 128) 8 = .ok (.invokestatic 104, 3) := by decide +kernel
theorem D128_11 : decode (mB 128) 11 = .ok (.ifCond .le 7, 3) := by decide +kernel
theorem D128_14 : decode (mB 128) 14 = .ok (.iconst 2, 1) := by decide +kernel
theorem D128_15 : decode (mB 128) 15 = .ok (.goto 4, 3) := by decide +kernel
theorem D128_18 : decode (mB 128) 18 = .ok (.iconst 1, 1) := by decide +kernel
theorem D128_19 : decode (mB 128) 19 = .ok (.ireturn, 1) := by decide +kernel
theorem D128_20 : decode (mB 128) 20 = .ok (.aload_n 0, 1) := by decide +kernel
theorem D128_21 : decode (mB 128) 21 = .ok (.getfield 22, 3) := by decide +kernel
theorem D128_24 : decode (mB 128) 24 = .ok (.iconst 0, 1) := by decide +kernel
theorem D128_25 : decode (mB 128) 25 = .ok (.iload_n 1, 1) := by decide +kernel
theorem D128_26 : decode (mB 128) 26 = .ok (.invokestatic 104, 3) := by decide +kernel
theorem D128_29 : decode (mB 128) 29 = .ok (.iastore, 1) := by decide +kernel
theorem D128_30 : decode (mB 128) 30 = .ok (.aload_n 0, 1) := by decide +kernel
theorem D128_31 : decode (mB 128) 31 = .ok (.getfield 22, 3) := by decide +kernel
theorem D128_34 : decode (mB 128) 34 = .ok (.iconst 1, 1) := by decide +kernel
theorem D128_35 : decode (mB 128) 35 = .ok (.iload_n 1, 1) := by decide +kernel
theorem D128_36 : decode (mB 128) 36 = .ok (.invokestatic 109, 3) := by decide +kernel
theorem D128_39 : decode (mB 128) 39 = .ok (.iastore, 1) := by decide +kernel
theorem D128_40 : decode (mB 128) 40 = .ok (.aload_n 0, 1) := by decide +kernel
theorem D128_41 : decode (mB 128) 41 = .ok (.getfield 22, 3) := by decide +kernel
theorem D128_44 : decode (mB 128) 44 = .ok (.iconst 2, 1) := by decide +kernel
theorem D128_45 : decode (mB 128) 45 = .ok (.iload_n 1, 1) := by decide +kernel
theorem D128_46 : decode (mB 128) 46 = .ok (.invokestatic 112, 3) := by decide +kernel
theorem D128_49 : decode (mB 128) 49 = .ok (.iastore, 1) := by decide +kernel
theorem D128_50 : decode (mB 128) 50 = .ok (.aload_n 0, 1) := by decide +kernel
theorem D128_51 : decode (mB 128) 51 = .ok (.getfield 22, 3) := by decide +kernel
theorem D128_54 : decode (mB 128) 54 = .ok (.iconst 3, 1) := by decide +kernel
theorem D128_55 : decode (mB 128) 55 = .ok (.iload_n 2, 1) := by decide +kernel
theorem D128_56 : decode (mB 128) 56 = .ok (.iastore, 1) := by decide +kernel
theorem D128_57 : decode (mB 128) 57 = .ok (.aload_n 0, 1) := by decide +kernel
theorem D128_58 : decode (mB 128) 58 = .ok (.getfield 22, 3) := by decide +kernel
theorem D128_61 : decode (mB 128) 61 = .ok (.iconst 4, 1) := by decide +kernel
theorem D128_62 : decode (mB 128) 62 = .ok (.iload_n 3, 1) := by decide +kernel
theorem D128_63 : decode (mB 128) 63 = .ok (.iastore, 1) := by decide +kernel
theorem D128_64 : decode (mB 128) 64 = .ok (.aload_n 0, 1) := by decide +kernel
theorem D128_65 : decode (mB 128) 65 = .ok (.getfield 22, 3) := by decide +kernel
theorem D128_68 : decode (mB 128) 68 = .ok (.iconst 5, 1) := by decide +kernel
theorem D128_69 : decode (mB 128) 69 = .ok (.iload 4, 2) := by decide +kernel
theorem D128_71 : decode (mB 128) 71 = .ok (.iastore, 1) := by decide +kernel
theorem D128_72 : decode (mB 128) 72 = .ok (.aload_n 0, 1) := by decide +kernel
theorem D128_73 : decode (mB 128) 73 = .ok (.getfield 22, 3) := by decide +kernel
theorem D128_76 : decode (mB 128) 76 = .ok (.bipush 6, 2) := by decide +kernel
theorem D128_78 : decode (mB 128) 78 = .ok (.iload 5, 2) := by decide +kernel
theorem D128_80 : decode (mB 128) 80 = .ok (.bipush 7, 2) := by decide +kernel
theorem D128_82 : decode (mB 128) 82 = .ok (.irem, 1) := by decide +kernel
theorem D128_83 : decode (mB 128) 83 = .ok (.iastore, 1) := by decide +kernel
theorem D128_84 : decode (mB 128) 84 = .ok (.bipush 9, 2) := by decide +kernel
theorem D128_86 : decode (mB 128) 86 = .ok (.iconst 1, 1) := by decide +kernel
theorem D128_87 : decode (mB 128) 87 = .ok (.aload_n 0, 1) := by decide +kernel
theorem D128_88 : decode (mB 128) 88 = .ok (.invokevirtual 115, 3) := by decide +kernel
theorem D128_91 : decode (mB 128) 91 = .ok (.invokestatic 119, 3) := by decide +kernel
theorem D128_94 : decode (mB 128) 94 = .ok (.invokestatic 54, 3) := by decide +kernel
theorem D128_97 : decode (mB 128) 97 = .ok (.ireturn, 1) := by decide +kernel
theorem D129_0 : decode (mB 129) 0 = .ok (.iconst 0, 1) := by decide +kernel
theorem D129_1 : decode (mB 129) 1 = .ok (.istore_n 1, 1) := by decide +kernel
theorem D129_2 : decode (mB 129) 2 = .ok (.iconst 0, 1) := by decide +kernel
theorem D129_3 : decode (mB 129) 3 = .ok (.istore_n 2, 1) := by decide +kernel
theorem D129_4 : decode (mB 129) 4 = .ok (.iload_n 2, 1) := by decide +kernel
theorem D129_5 : decode (mB 129) 5 = .ok (.aload_n 0, 1) := by decide +kernel
theorem D129_6 : decode (mB 129) 6 = .ok (.getfield 34, 3) := by decide +kernel
theorem D129_9 : decode (mB 129) 9 = .ok (.if_icmp .ge 123, 3) := by decide +kernel
theorem D129_12 : decode (mB 129) 12 = .ok (.iload_n 2, 1) := by decide +kernel
theorem D129_13 : decode (mB 129) 13 = .ok (.bipush 40, 2) := by decide +kernel
theorem D129_15 : decode (mB 129) 15 = .ok (.if_icmp .ge 117, 3) := by decide +kernel
theorem D129_18 : decode (mB 129) 18 = .ok (.aload_n 0, 1) := by decide +kernel
theorem D129_19 : decode (mB 129) 19 = .ok (.getfield 11, 3) := by decide +kernel
theorem D129_22 : decode (mB 129) 22 = .ok (.iload_n 2, 1) := by decide +kernel
theorem D129_23 : decode (mB 129) 23 = .ok (.iaload, 1) := by decide +kernel
theorem D129_24 : decode (mB 129) 24 = .ok (.istore_n 3, 1) := by decide +kernel
theorem D129_25 : decode (mB 129) 25 = .ok (.iload_n 3, 1) := by decide +kernel
theorem D129_26 : decode (mB 129) 26 = .ok (.sipush 2000, 3) := by decide +kernel
theorem D129_29 : decode (mB 129) 29 = .ok (.if_icmp .ge 26, 3) := by decide +kernel
theorem D129_32 : decode (mB 129) 32 = .ok (.iload_n 1, 1) := by decide +kernel
theorem D129_33 : decode (mB 129) 33 = .ok (.bipush 40, 2) := by decide +kernel
theorem D129_35 : decode (mB 129) 35 = .ok (.if_icmp .ge 91, 3) := by decide +kernel
theorem D129_38 : decode (mB 129) 38 = .ok (.aload_n 0, 1) := by decide +kernel
theorem D129_39 : decode (mB 129) 39 = .ok (.getfield 25, 3) := by decide +kernel
theorem D129_42 : decode (mB 129) 42 = .ok (.iload_n 1, 1) := by decide +kernel
theorem D129_43 : decode (mB 129) 43 = .ok (.aload_n 0, 1) := by decide +kernel
theorem D129_44 : decode (mB 129) 44 = .ok (.iload_n 3, 1) := by decide +kernel
theorem D129_45 : decode (mB 129) 45 = .ok (.invokevirtual 122, 3) := by decide +kernel
theorem D129_48 : decode (mB 129) 48 = .ok (.iastore, 1) := by decide +kernel
theorem D129_49 : decode (mB 129) 49 = .ok (.iinc 1 1, 3) := by decide +kernel
theorem D129_52 : decode (mB 129) 52 = .ok (.goto 74, 3) := by decide +kernel
theorem D129_55 : decode (mB 129) 55 = .ok (.iload_n 3, 1) := by decide +kernel
theorem D129_56 : decode (mB 129) 56 = .ok (.sipush 2256, 3) := by decide +kernel
theorem D129_59 : decode (mB 129) 59 = .ok (.if_icmp .ne 27, 3) := by decide +kernel
theorem D129_62 : decode (mB 129) 62 = .ok (.iload_n 1, 1) := by decide +kernel
theorem D129_63 : decode (mB 129) 63 = .ok (.ifCond .le 63, 3) := by decide +kernel
theorem D129_66 : decode (mB 129) 66 = .ok (.aload_n 0, 1) := by decide +kernel
theorem D129_67 : decode (mB 129) 67 = .ok (.getfield 25, 3) := by decide +kernel
theorem D129_70 : decode (mB 129) 70 = .ok (.iload_n 1, 1) := by decide +kernel
theorem D129_71 : decode (mB 129) 71 = .ok (.iconst 1, 1) := by decide +kernel
theorem D129_72 : decode (mB 129) 72 = .ok (.isub, 1) := by decide +kernel
theorem D129_73 : decode (mB 129) 73 = .ok (.aload_n 0, 1) := by decide +kernel
theorem D129_74 : decode (mB 129) 74 = .ok (.getfield 25, 3) := by decide +kernel
theorem D129_77 : decode (mB 129) 77 = .ok (.iload_n 1, 1) := by decide +kernel
theorem D129_78 : decode (mB 129) 78 = .ok (.iconst 1, 1) := by decide +kernel
theorem D129_79 : decode (mB 129) 79 = .ok (.isub, 1) := by decide +kernel
theorem D129_80 : decode (mB 129) 80 = .ok (.iaload, 1) := by decide +kernel
theorem D129_81 : decode (mB 129) 81 = .ok (.ineg, 1) := by decide +kernel
theorem D129_82 : decode (mB 129) 82 = .ok (.iastore, 1) := by decide +kernel
theorem D129_83 : decode (mB 129) 83 = .ok (.goto 43, 3) := by decide +kernel
theorem D129_86 : decode (mB 129) 86 = .ok (.iload_n 1, 1) := by decide +kernel
theorem D129_87 : decode (mB 129) 87 = .ok (.iconst 1, 1) := by decide +kernel
theorem D129_88 : decode (mB 129) 88 = .ok (.if_icmp .le 38, 3) := by decide +kernel
theorem D129_91 : decode (mB 129) 91 = .ok (.aload_n 0, 1) := by decide +kernel
theorem D129_92 : decode (mB 129) 92 = .ok (.getfield 25, 3) := by decide +kernel
theorem D129_95 : decode (mB 129) 95 = .ok (.iload_n 1, 1) := by decide +kernel
theorem D129_96 : decode (mB 129) 96 = .ok (.iconst 2, 1) := by decide +kernel
theorem D129_97 : decode (mB 129) 97 = .ok (.isub, 1) := by decide +kernel
theorem D129_98 : decode (mB 129) 98 = .ok (.iload_n 3, 1) := by decide +kernel
theorem D129_99 : decode (mB 129) 99 = .ok (.sipush 2000, 3) := by decide +kernel
theorem D129_102 : decode (mB 129) 102 = .ok (.isub, 1) := by decide +kernel
theorem D129_103 : decode (mB 129) 103 = .ok (.aload_n 0, 1) := by decide +kernel
theorem D129_104 : decode (mB 129) 104 = .ok (.getfield 25, 3) := by decide +kernel
theorem D129_107 : decode (mB 129) 107 = .ok (.iload_n 1, 1) := by decide +kernel
theorem D129_108 : decode (mB 129) 108 = .ok (.iconst 2, 1) := by decide +kernel
theorem D129_109 : decode (mB 129) 109 = .ok (.isub, 1) := by decide +kernel
theorem D129_110 : decode (mB 129) 110 = .ok (.iaload, 1) := by decide +kernel
theorem D129_111 : decode (mB 129) 111 = .ok (.aload_n 0, 1) := by decide +kernel
theorem D129_112 : decode (mB 129) 112 = .ok (.getfield 25, 3) := by decide +kernel
theorem D129_115 : decode (mB 129) 115 = .ok (.iload_n 1, 1) := by decide +kernel
theorem D129_116 : decode (mB 129) 116 = .ok (.iconst 1, 1) := by decide +kernel
theorem D129_117 : decode (mB 129) 117 = .ok (.isub, 1) := by decide +kernel
theorem D129_118 : decode (mB 129) 118 = .ok (.iaload, 1) := by decide +kernel
theorem D129_119 : decode (mB 129) 119 = .ok (.invokestatic 125, 3) := by decide +kernel
theorem D129_122 : decode (mB 129) 122 = .ok (.iastore, 1) := by decide +kernel
theorem D129_123 : decode (mB 129) 123 = .ok (.iinc 1 (-1), 3) := by decide +kernel
theorem D129_126 : decode (mB 129) 126 = .ok (.iinc 2 1, 3) := by decide +kernel
theorem D129_129 : decode (mB 129) 129 = .ok (.goto (-125), 3) := by decide +kernel
theorem D129_132 : decode (mB 129) 132 = .ok (.aload_n 0, 1) := by decide +kernel
theorem D129_133 : decode (mB 129) 133 = .ok (.getfield 25, 3) := by decide +kernel
theorem D129_136 : decode (mB 129) 136 = .ok (.iconst 0, 1) := by decide +kernel
theorem D129_137 : decode (mB 129) 137 = .ok (.iaload, 1) := by decide +kernel
theorem D129_138 : decode (mB 129) 138 = .ok (.ireturn, 1) := by decide +kernel
theorem D130_0 : decode (mB 130) 0 = .ok (.iload_n 1, 1) := by decide +kernel
theorem D130_1 : decode (mB 130) 1 = .ok (.sipush 1000, 3) := by decide +kernel
theorem D130_4 : decode (mB 130) 4 = .ok (.isub, 1) := by decide +kernel
theorem D130_5 : decode (mB 130) 5 = .ok (.istore_n 2, 1) := by decide +kernel
theorem D130_6 : decode (mB 130) 6 = .ok (.iload_n 2, 1) := by decide +kernel
theorem D130_7 : decode (mB 130) 7 = .ok (.ifCond .lt 21, 3) := by decide +kernel
theorem D130_10 : decode (mB 130) 10 = .ok (.iload_n 2, 1) := by decide +kernel
theorem D130_11 : decode (mB 130) 11 = .ok (.aload_n 0, 1) := by decide +kernel
theorem D130_12 : decode (mB 130) 12 = .ok (.getfield 22, 3) := by decide +kernel
theorem D130_15 : decode (mB 130) 15 = .ok (.arraylength, 1) := by decide +kernel
theorem D130_16 : decode (mB 130) 16 = .ok (.if_icmp .ge 12, 3) := by decide +kernel
theorem D130_19 : decode (mB 130) 19 = .ok (.aload_n 0, 1) := by decide +kernel
theorem D130_20 : decode (mB 130) 20 = .ok (.getfield 22, 3) := by decide +kernel
theorem D130_23 : decode (mB 130) 23 = .ok (.iload_n 2, 1) := by decide +kernel
theorem D130_24 : decode (mB 130) 24 = .ok (.iaload, 1) := by decide +kernel
theorem D130_25 : decode (mB 130) 25 = .ok (.goto 4, 3) := by decide +kernel
theorem D130_28 : decode (mB 130) 28 = .ok (.iload_n 1, 1) := by decide +kernel
theorem D130_29 : decode (mB 130) 29 = .ok (.ireturn, 1) := by decide +kernel
theorem D131_0 : decode (mB 131) 0 = .ok (.iload_n 0, 1) := by decide +kernel
theorem D131_1 : decode (mB 131) 1 = .ok (.lookupswitch 104 #[(42, 100), (43, 92), (45, 96), (60, 59), (61, 81), (62, 70)], 59) := by decide +kernel
theorem D131_60 : decode (mB 131) 60 = .ok (.iload_n 1, 1) := by decide +kernel
theorem D131_61 : decode (mB 131) 61 = .ok (.iload_n 2, 1) := by decide +kernel
theorem D131_62 : decode (mB 131) 62 = .ok (.if_icmp .ge 7, 3) := by decide +kernel
theorem D131_65 : decode (mB 131) 65 = .ok (.iconst 1, 1) := by decide +kernel
theorem D131_66 : decode (mB 131) 66 = .ok (.goto 4, 3) := by decide +kernel
theorem D131_69 : decode (mB 131) 69 = .ok (.iconst 0, 1) := by decide +kernel
theorem D131_70 : decode (mB 131) 70 = .ok (.ireturn, 1) := by decide +kernel
theorem D131_71 : decode (mB 131) 71 = .ok (.iload_n 1, 1) := by decide +kernel
theorem D131_72 : decode (mB 131) 72 = .ok (.iload_n 2, 1) := by decide +kernel
theorem D131_73 : decode (mB 131) 73 = .ok (.if_icmp .le 7, 3) := by decide +kernel
theorem D131_76 : decode (mB 131) 76 = .ok (.iconst 1, 1) := by decide +kernel
theorem D131_77 : decode (mB 131) 77 = .ok (.goto 4, 3) := by decide +kernel
theorem D131_80 : decode (mB 131) 80 = .ok (.iconst 0, 1) := by decide +kernel
theorem D131_81 : decode (mB 131) 81 = .ok (.ireturn, 1) := by decide +kernel
theorem D131_82 : decode (mB 131) 82 = .ok (.iload_n 1, 1) := by decide +kernel
theorem D131_83 : decode (mB 131) 83 = .ok (.iload_n 2, 1) := by decide +kernel
theorem D131_84 : decode (mB 131) 84 = .ok (.if_icmp .ne 7, 3) := by decide +kernel
theorem D131_87 : decode (mB 131) 87 = .ok (.iconst 1, 1) := by decide +kernel
theorem D131_88 : decode (mB 131) 88 = .ok (.goto 4, 3) := by decide +kernel
theorem D131_91 : decode (mB 131) 91 = .ok (.iconst 0, 1) := by decide +kernel
theorem D131_92 : decode (mB 131) 92 = .ok (.ireturn, 1) := by decide +kernel
theorem D131_93 : decode (mB 131) 93 = .ok (.iload_n 1, 1) := by decide +kernel
theorem D131_94 : decode (mB 131) 94 = .ok (.iload_n 2, 1) := by decide +kernel
theorem D131_95 : decode (mB 131) 95 = .ok (.iadd, 1) := by decide +kernel
theorem D131_96 : decode (mB 131) 96 = .ok (.ireturn, 1) := by decide +kernel
theorem D131_97 : decode (mB 131) 97 = .ok (.iload_n 1, 1) := by decide +kernel
theorem D131_98 : decode (mB 131) 98 = .ok (.iload_n 2, 1) := by decide +kernel
theorem D131_99 : decode (mB 131) 99 = .ok (.isub, 1) := by decide +kernel
theorem D131_100 : decode (mB 131) 100 = .ok (.ireturn, 1) := by decide +kernel
theorem D131_101 : decode (mB 131) 101 = .ok (.iload_n 1, 1) := by decide +kernel
theorem D131_102 : decode (mB 131) 102 = .ok (.iload_n 2, 1) := by decide +kernel
theorem D131_103 : decode (mB 131) 103 = .ok (.imul, 1) := by decide +kernel
theorem D131_104 : decode (mB 131) 104 = .ok (.ireturn, 1) := by decide +kernel
theorem D131_105 : decode (mB 131) 105 = .ok (.iload_n 2, 1) := by decide +kernel
theorem D131_106 : decode (mB 131) 106 = .ok (.ifCond .ne 7, 3) := by decide +kernel
theorem D131_109 : decode (mB 131) 109 = .ok (.iconst 0, 1) := by decide +kernel
theorem D131_110 : decode (mB 131) 110 = .ok (.goto 6, 3) := by decide +kernel
theorem D131_113 : decode (mB 131) 113 = .ok (.iload_n 1, 1) := by decide +kernel
theorem D131_114 : decode (mB 131) 114 = .ok (.iload_n 2, 1) := by decide +kernel
theorem D131_115 : decode (mB 131) 115 = .ok (.idiv, 1) := by decide +kernel
theorem D131_116 : decode (mB 131) 116 = .ok (.ireturn, 1) := by decide +kernel
theorem D132_0 : decode (mB 132) 0 = .ok (.aload_n 0, 1) := by decide +kernel
theorem D132_1 : decode (mB 132) 1 = .ok (.invokespecial 3, 3) := by decide +kernel
theorem D132_4 : decode (mB 132) 4 = .ok (.aload_n 0, 1) := by decide +kernel
theorem D132_5 : decode (mB 132) 5 = .ok (.bipush 80, 2) := by decide +kernel
theorem D132_7 : decode (mB 132) 7 = .ok (.newarray .char, 2) := by decide +kernel
theorem D132_9 : decode (mB 132) 9 = .ok (.putfield 11, 3) := by decide +kernel
theorem D132_12 : decode (mB 132) 12 = .ok (.return_, 1) := by decide +kernel
theorem D133_0 : decode (mB 133) 0 = .ok (.aload_n 0, 1) := by decide +kernel
theorem D133_1 : decode (mB 133) 1 = .ok (.getfield 15, 3) := by decide +kernel
theorem D133_4 : decode (mB 133) 4 = .ok (.bipush 76, 2) := by decide +kernel
theorem D133_6 : decode (mB 133) 6 = .ok (.if_icmp .le 5, 3) := by decide +kernel
theorem D133_9 : decode (mB 133) 9 = .ok (.iconst (-1), 1) := by decide +kernel
theorem D133_10 : decode (mB 133) 10 = .ok (.ireturn, 1) := by decide +kernel
theorem D133_11 : decode (mB 133) 11 = .ok (.bipush 24, 2) := by decide +kernel
theorem D133_13 : decode (mB 133) 13 = .ok (.istore_n 2, 1) := by decide +kernel
theorem D133_14 : decode (mB 133) 14 = .ok (.iload_n 2, 1) := by decide +kernel
theorem D133_15 : decode (mB 133) 15 = .ok (.ifCond .lt 36, 3) := by decide +kernel
theorem D133_18 : decode (mB 133) 18 = .ok (.aload_n 0, 1) := by decide +kernel
theorem D133_19 : decode (mB 133) 19 = .ok (.getfield 11, 3) := by decide +kernel
theorem D133_22 : decode (mB 133) 22 = .ok (.aload_n 0, 1) := by decide +kernel
theorem D133_23 : decode (mB 133) 23 = .ok (.getfield 15, 3) := by decide +kernel
theorem D133_26 : decode (mB 133) 26 = .ok (.iload_n 1, 1) := by decide +kernel
theorem D133_27 : decode (mB 133) 27 = .ok (.iload_n 2, 1) := by decide +kernel
theorem D133_28 : decode (mB 133) 28 = .ok (.ishr, 1) := by decide +kernel
theorem D133_29 : decode (mB 133) 29 = .ok (.sipush 255, 3) := by decide +kernel
theorem D133_32 : decode (mB 133) 32 = .ok (.iand, 1) := by decide +kernel
theorem D133_33 : decode (mB 133) 33 = .ok (.i2c, 1) := by decide +kernel
theorem D133_34 : decode (mB 133) 34 = .ok (.castore, 1) := by decide +kernel
theorem D133_35 : decode (mB 133) 35 = .ok (.aload_n 0, 1) := by decide +kernel
theorem D133_36 : decode (mB 133) 36 = .ok (.dup, 1) := by decide +kernel
theorem D133_37 : decode (mB 133) 37 = .ok (.getfield 15, 3) := by decide +kernel
theorem D133_40 : decode (mB 133) 40 = .ok (.iconst 1, 1) := by decide +kernel
theorem D133_41 : decode (mB 133) 41 = .ok (.iadd, 1) := by decide +kernel
theorem D133_42 : decode (mB 133) 42 = .ok (.putfield 15, 3) := by decide +kernel
theorem D133_45 : decode (mB 133) 45 = .ok (.iinc 2 (-8), 3) := by decide +kernel
theorem D133_48 : decode (mB 133) 48 = .ok (.goto (-34), 3) := by decide +kernel
theorem D133_51 : decode (mB 133) 51 = .ok (.aload_n 0, 1) := by decide +kernel
theorem D133_52 : decode (mB 133) 52 = .ok (.getfield 15, 3) := by decide +kernel
theorem D133_55 : decode (mB 133) 55 = .ok (.ireturn, 1) := by decide +kernel
theorem D134_0 : decode (mB 134) 0 = .ok (.iload_n 1, 1) := by decide +kernel
theorem D134_1 : decode (mB 134) 1 = .ok (.ifCond .lt 11, 3) := by decide +kernel
theorem D134_4 : decode (mB 134) 4 = .ok (.iload_n 1, 1) := by decide +kernel
theorem D134_5 : decode (mB 134) 5 = .ok (.aload_n 0, 1) := by decide +kernel
theorem D134_6 : decode (mB 134) 6 = .ok (.getfield 15, 3) := by decide +kernel
theorem D134_9 : decode (mB 134) 9 = .ok (.if_icmp .le 5, 3) := by decide +kernel
theorem D134_12 : decode (mB 134) 12 = .ok (.iconst 0, 1) := by decide +kernel
theorem D134_13 : decode (mB 134) 13 = .ok (.ireturn, 1) := by decide +kernel
theorem D134_14 : decode (mB 134) 14 = .ok (.aload_n 0, 1) := by decide +kernel
theorem D134_15 : decode (mB 134) 15 = .ok (.iload_n 1, 1) := by decide +kernel
theorem D134_16 : decode (mB 134) 16 = .ok (.putfield 15, 3) := by decide +kernel
theorem D134_19 : decode (mB 134) 19 = .ok (.iconst 1, 1) := by decide +kernel
theorem D134_20 : decode (mB 134) 20 = .ok (.ireturn, 1) := by decide +kernel
theorem D135_0 : decode (mB 135) 0 = .ok (.iload_n 1, 1) := by decide +kernel
theorem D135_1 : decode (mB 135) 1 = .ok (.ifCond .lt 20, 3) := by decide +kernel
theorem D135_4 : decode (mB 135) 4 = .ok (.iload_n 1, 1) := by decide +kernel
theorem D135_5 : decode (mB 135) 5 = .ok (.aload_n 0, 1) := by decide +kernel
theorem D135_6 : decode (mB 135) 6 = .ok (.getfield 15, 3) := by decide +kernel
theorem D135_9 : decode (mB 135) 9 = .ok (.if_icmp .ge 12, 3) := by decide +kernel
theorem D135_12 : decode (mB 135) 12 = .ok (.aload_n 0, 1) := by decide +kernel
theorem D135_13 : decode (mB 135) 13 = .ok (.getfield 11, 3) := by decide +kernel
theorem D135_16 : decode (mB 135) 16 = .ok (.iload_n 1, 1) := by decide +kernel
theorem D135_17 : decode (mB 135) 17 = .ok (.caload, 1) := by decide +kernel
theorem D135_18 : decode (mB 135) 18 = .ok (.goto 4, 3) := by decide +kernel
theorem D135_21 : decode (mB 135) 21 = .ok (.iconst (-1), 1) := by decide +kernel
theorem D135_22 : decode (mB 135) 22 = .ok (.ireturn, 1) := by decide +kernel
theorem D136_0 : decode (mB 136) 0 = .ok (.aload_n 0, 1) := by decide +kernel
theorem D136_1 : decode (mB 136) 1 = .ok (.iload_n 1, 1) := by decide +kernel
theorem D136_2 : decode (mB 136) 2 = .ok (.invokevirtual 19, 3) := by decide +kernel
theorem D136_5 : decode (mB 136) 5 = .ok (.bipush 48, 2) := by decide +kernel
theorem D136_7 : decode (mB 136) 7 = .ok (.isub, 1) := by decide +kernel
theorem D136_8 : decode (mB 136) 8 = .ok (.ireturn, 1) := by decide +kernel
theorem D137_0 : decode (mB 137) 0 = .ok (.aload_n 0, 1) := by decide +kernel
theorem D137_1 : decode (mB 137) 1 = .ok (.iconst 0, 1) := by decide +kernel
theorem D137_2 : decode (mB 137) 2 = .ok (.putfield 15, 3) := by decide +kernel
theorem D137_5 : decode (mB 137) 5 = .ok (.return_, 1) := by decide +kernel
theorem D138_0 : decode (mB 138) 0 = .ok (.bipush 10, 2) := by decide +kernel
theorem D138_2 : decode (mB 138) 2 = .ok (.aload_n 0, 1) := by decide +kernel
theorem D138_3 : decode (mB 138) 3 = .ok (.iload_n 1, 1) := by decide +kernel
theorem D138_4 : decode (mB 138) 4 = .ok (.invokevirtual 23, 3) := by decide +kernel
theorem D138_7 : decode (mB 138) 7 = .ok (.imul, 1) := by decide +kernel
theorem D138_8 : decode (mB 138) 8 = .ok (.aload_n 0, 1) := by decide +kernel
theorem D138_9 : decode (mB 138) 9 = .ok (.iload_n 1, 1) := by decide +kernel
theorem D138_10 : decode (mB 138) 10 = .ok (.iconst 1, 1) := by decide +kernel
theorem D138_11 : decode (mB 138) 11 = .ok (.iadd, 1) := by decide +kernel
theorem D138_12 : decode (mB 138) 12 = .ok (.invokevirtual 23, 3) := by decide +kernel
theorem D138_15 : decode (mB 138) 15 = .ok (.iadd, 1) := by decide +kernel
theorem D138_16 : decode (mB 138) 16 = .ok (.ireturn, 1) := by decide +kernel
theorem E65_0 {d : Nat} {S : SS} {I : II} (h0 : (0 : Int) ≤ 424) : ev d 65 0 [(2, 424)] [] S I = ev d 65 9 [(2, 424)] [(2, (S.1 : Int)), (2, 424)] (newS S 20 12) (newI S I) := by
  refine (sx_aload_n D65_0 rfl).trans ?_
  refine (sx_obj (q := (10, 0, 275)) D65_1 (by decide +kernel) rfl h0 (by simp [cat])).trans ?_
  refine (sx_aload_n D65_4 rfl).trans ?_
  refine (sx_bipush D65_5 (by decide)).trans ?_
  refine (sx_newarr (kk := 20) D65_7 (by decide) (by decide)).trans ?_
  exact rfl
theorem E65_9 {d : Nat} {s1 : Int} {S : SS} {I : II} (h0 : (0 : Int) ≤ s1) (h1 : KO S 424 2) : ev d 65 9 [(2, 424)] [(2, s1), (2, 424)] S I = ev d 65 12 [(2, 424)] [] (S.1, S.2.1, S.2.2.1, up2 (sG S) 424 0 s1) I := by
  refine (sx_pfR (q := (2, 0, 0, 276)) (j := 0) D65_9 (by decide +kernel) (by decide +kernel) (by decide) h1 h0 rfl).trans ?_
  exact rfl
theorem E65_12 {d : Nat} {S : SS} {I : II}  : ev d 65 12 [(2, 424)] [] S I = ev d 65 17 [(2, 424)] [(2, (S.1 : Int)), (2, 424)] (newS S 20 12) (newI S I) := by
  refine (sx_aload_n D65_12 rfl).trans ?_
  refine (sx_bipush D65_13 (by decide)).trans ?_
  refine (sx_newarr (kk := 20) D65_15 (by decide) (by decide)).trans ?_
  exact rfl
theorem E65_17 {d : Nat} {s1 : Int} {S : SS} {I : II} (h0 : (0 : Int) ≤ s1) (h1 : KO S 424 2) : ev d 65 17 [(2, 424)] [(2, s1), (2, 424)] S I = ev d 65 20 [(2, 424)] [] (S.1, S.2.1, S.2.2.1, up2 (sG S) 424 1 s1) I := by
  refine (sx_pfR (q := (2, 1, 0, 277)) (j := 1) D65_17 (by decide +kernel) (by decide +kernel) (by decide) h1 h0 rfl).trans ?_
  exact rfl
theorem E65_20 {d : Nat} {S : SS} {I : II}  : ev d 65 20 [(2, 424)] [] S I = some (uU, S, I) := by
  exact sx_return D65_20 (by decide +kernel)
theorem E66_0 {d : Nat} {a1 a2 : Int} {S : SS} {I : II}  : ev (d + 1) 66 0 [(2, 424), (0, a1), (0, a2)] [] S I = if w a2 < 0 then (ev (d + 1) 66 28 [(2, 424), (0, a1), (0, a2)] [] S I) else ((ev d 67 0 [(0, a1)] [] S I).bind (fun q => ev (d + 1) 66 9 [(2, 424), (0, a1), (0, a2)] (psh q.1 [(0, a2)]) q.2.1 q.2.2)) := by
  refine (sx_iload_n D66_0 rfl).trans ?_
  refine sx_i0_lt (pc' := 28) D66_1 (by decide) (by decide) ?_ ?_ rfl
  · exact rfl
  · refine (sx_iload_n D66_4 rfl).trans ?_
    refine (sx_iload_n D66_5 rfl).trans ?_
    exact sx_stat (ag := [(0, a1)]) (r := [(0, a2)]) (al' := [(0, a1)]) (np := 1) (nl := 1) (q := (0, 67, 1089)) D66_6 (by decide +kernel) (by decide) mP_67 mL_67 (Nat.le_of_ble_eq_true rfl) rfl rfl (by simp [cat]) rfl rfl
theorem E66_9 {d : Nat} {a1 a2 s0 s1 : Int} {S : SS} {I : II} (h0 : HA S 424) : ev d 66 9 [(2, 424), (0, a1), (0, a2)] [(0, s1), (0, s0)] S I = if w s0 < w s1 then (if w (I 424 2) < 0 then (ev d 66 28 [(2, 424), (0, a1), (0, a2)] [] S I) else (if w (I 424 2) < 12 then (gdR (0 ≤ w (I 424 2) ∧ w (I 424 2) < 12) (gdR (0 ≤ w (I 424 2) ∧ w (I 424 2) < 12) (some ((0, (I 424 2) + 1), S, (up2 (up2 (up2 I 425 (w (I 424 2)) a1) 426 (w (I 424 2)) a2) 424 2 ((I 424 2) + 1)))))) else (ev d 66 28 [(2, 424), (0, a1), (0, a2)] [] S I))) else (ev d 66 28 [(2, 424), (0, a1), (0, a2)] [] S I) := by
  refine sx_if_ge (pc' := 28) D66_9 (by decide) (by decide) ?_ ?_ rfl rfl
  · refine (sx_aload_n D66_12 rfl).trans ?_
    refine (sx_gfI (q := (2, 2, 0, 278)) (j := 2) D66_13 (by decide +kernel) (by decide +kernel) (by decide) (HA_o h0) rfl rfl).trans ?_
    refine sx_i0_lt (pc' := 28) D66_16 (by decide) (by decide) ?_ ?_ rfl
    · exact rfl
    · refine (sx_aload_n D66_19 rfl).trans ?_
      refine (sx_gfI (q := (2, 2, 0, 278)) (j := 2) D66_20 (by decide +kernel) (by decide +kernel) (by decide) (HA_o h0) rfl rfl).trans ?_
      refine (sx_bipush D66_23 (by decide)).trans ?_
      refine sx_if_lt (pc' := 30) D66_25 (by decide) (by decide) ?_ ?_ rfl (w_small (by decide) (by decide))
      · refine (sx_aload_n D66_30 rfl).trans ?_
        refine (sx_gfR (q := (2, 0, 0, 276)) (b := 425) D66_31 (by decide +kernel) (by decide +kernel) (by decide) (HA_o h0) (HA_g0 h0)).trans ?_
        refine (sx_aload_n D66_34 rfl).trans ?_
        refine (sx_gfI (q := (2, 2, 0, 278)) (j := 2) D66_35 (by decide +kernel) (by decide +kernel) (by decide) (HA_o h0) rfl rfl).trans ?_
        refine (sx_iload_n D66_38 rfl).trans ?_
        refine (sx_is D66_39 (HA_k0 h0)).trans (gdR_to fun g1 => ?_)
        refine (sx_aload_n D66_40 rfl).trans ?_
        refine (sx_gfR (q := (2, 1, 0, 277)) (b := 426) D66_41 (by decide +kernel) (by decide +kernel) (by decide) (HA_o h0) (HA_g1 h0)).trans ?_
        refine (sx_aload_n D66_44 rfl).trans ?_
        refine (sx_gfI (q := (2, 2, 0, 278)) (j := 2) D66_45 (by decide +kernel) (by decide +kernel) (by decide) (HA_o h0) rfl (up2_cell (by omega))).trans ?_
        refine (sx_iload_n D66_48 rfl).trans ?_
        refine (sx_is D66_49 (HA_k1 h0)).trans (gdR_to fun g2 => ?_)
        refine (sx_aload_n D66_50 rfl).trans ?_
        refine (sx_dup D66_51 (by decide)).trans ?_
        refine (sx_gfI (q := (2, 2, 0, 278)) (j := 2) D66_52 (by decide +kernel) (by decide +kernel) (by decide) (HA_o h0) rfl ((up2_cell (by omega)).trans (up2_cell (by omega)))).trans ?_
        refine (sx_iconst D66_55).trans ?_
        refine (sx_iadd D66_56).trans ?_
        refine (sx_pfI (q := (2, 2, 0, 278)) (j := 2) D66_57 (by decide +kernel) (by decide) (by decide) (HA_o h0) rfl).trans ?_
        refine (sx_aload_n D66_60 rfl).trans ?_
        refine (sx_gfI (q := (2, 2, 0, 278)) (j := 2) D66_61 (by decide +kernel) (by decide +kernel) (by decide) (HA_o h0) rfl (up2_same _ _ _ _)).trans ?_
        exact sx_ireturn D66_64 (by decide +kernel)
      · exact rfl
  · exact rfl
theorem E66_28 {d : Nat} {a1 a2 : Int} {S : SS} {I : II}  : ev d 66 28 [(2, 424), (0, a1), (0, a2)] [] S I = some ((0, (-1)), S, I) := by
  refine (sx_iconst D66_28).trans ?_
  exact sx_ireturn D66_29 (by decide +kernel)
theorem E67_0 {d : Nat} {a0 : Int} {S : SS} {I : II}  : ev d 67 0 [(0, a0)] [] S I = if w a0 = 0 then (some ((0, 5), S, I)) else (if w a0 = 1 then (some ((0, 5), S, I)) else (if w a0 = 2 then (some ((0, 10), S, I)) else (if w a0 = 3 then (some ((0, 2), S, I)) else (some ((0, 0), S, I))))) := by
  refine (sx_iload_n D67_0 rfl).trans ?_
  refine ite_go (c := w a0 = 0) (fun x1 => ?_) (fun x1 => ?_)
  · refine (sx_tsw (pc' := 32) D67_1 ((rfl).trans x1) (by decide) rfl (by decide) (by decide)).trans ?_
    refine (sx_iconst D67_32).trans ?_
    exact sx_ireturn D67_33 (by decide +kernel)
  refine ite_go (c := w a0 = 1) (fun x2 => ?_) (fun x2 => ?_)
  · refine (sx_tsw (pc' := 34) D67_1 ((rfl).trans x2) (by decide) rfl (by decide) (by decide)).trans ?_
    refine (sx_iconst D67_34).trans ?_
    exact sx_ireturn D67_35 (by decide +kernel)
  refine ite_go (c := w a0 = 2) (fun x3 => ?_) (fun x3 => ?_)
  · refine (sx_tsw (pc' := 36) D67_1 ((rfl).trans x3) (by decide) rfl (by decide) (by decide)).trans ?_
    refine (sx_bipush D67_36 (by decide)).trans ?_
    exact sx_ireturn D67_38 (by decide +kernel)
  refine ite_go (c := w a0 = 3) (fun x4 => ?_) (fun x4 => ?_)
  · refine (sx_tsw (pc' := 39) D67_1 ((rfl).trans x4) (by decide) rfl (by decide) (by decide)).trans ?_
    refine (sx_iconst D67_39).trans ?_
    exact sx_ireturn D67_40 (by decide +kernel)
  refine (sx_tsd (pc' := 41) D67_1 (by rw [show w _ = _ from rfl]; omega) (by decide) (by decide)).trans ?_
  refine (sx_iconst D67_41).trans ?_
  exact sx_ireturn D67_42 (by decide +kernel)
theorem E68_0 {d : Nat} {S : SS} {I : II} (h0 : HA S 424) : ev d 68 0 [(2, 424), uU] [] S I = some ((0, I 424 2), S, (up2 I 424 2 0)) := by
  refine (sx_aload_n D68_0 rfl).trans ?_
  refine (sx_gfI (q := (2, 2, 0, 278)) (j := 2) D68_1 (by decide +kernel) (by decide +kernel) (by decide) (HA_o h0) rfl rfl).trans ?_
  refine (sx_istore_n (al' := [(2, 424), (0, I 424 2)]) D68_4 (Nat.le_of_ble_eq_true rfl) rfl rfl).trans ?_
  refine (sx_aload_n D68_5 rfl).trans ?_
  refine (sx_iconst D68_6).trans ?_
  refine (sx_pfI (q := (2, 2, 0, 278)) (j := 2) D68_7 (by decide +kernel) (by decide) (by decide) (HA_o h0) rfl).trans ?_
  refine (sx_iload_n D68_10 rfl).trans ?_
  exact sx_ireturn D68_11 (by decide +kernel)
theorem E69_0 {d : Nat} {a1 : Int} {S : SS} {I : II} (h0 : RA S 3) : ev (d + 1) 69 0 [(2, 424), (2, a1), (2, 3), uU, uU, uU] [] S I = (ev d 111 0 [(2, 3)] [] S I).bind (fun q => ev (d + 1) 69 6 [(2, 424), (2, a1), (2, 3), (0, 0), uU, uU] (psh q.1 []) q.2.1 q.2.2) := by
  refine (sx_iconst D69_0).trans ?_
  refine (sx_istore_n (al' := [(2, 424), (2, a1), (2, 3), (0, 0), uU, uU]) D69_1 (Nat.le_of_ble_eq_true rfl) rfl rfl).trans ?_
  refine (sx_aload_n D69_2 rfl).trans ?_
  exact sx_virt (c := 7) (ag := [(2, 3)]) (r := []) (al' := [(2, 3)]) (np := 0) (nl := 1) (q := (1, 111, 1108)) D69_3 (by decide +kernel) (by decide) mP_111 mL_111 mC_111 (Nat.le_of_ble_eq_true rfl) rfl rfl (by simp [cat]) (by decide) (RA_o h0) rfl rfl
theorem E69_6 {d : Nat} {a1 a3 : Int} {S : SS} {I : II}  : ev d 69 6 [(2, 424), (2, a1), (2, 3), (0, a3), uU, uU] [] S I = ev d 69 9 [(2, 424), (2, a1), (2, 3), (0, a3), (0, 0), uU] [] S I := by
  refine (sx_iconst D69_6).trans ?_
  refine (sx_istore (al' := [(2, 424), (2, a1), (2, 3), (0, a3), (0, 0), uU]) D69_7 (Nat.le_of_ble_eq_true rfl) rfl rfl).trans ?_
  exact rfl
theorem E69_9 {d : Nat} {a1 a3 a4 : Int} {a5 : AV} {S : SS} {I : II}  : ev d 69 9 [(2, 424), (2, a1), (2, 3), (0, a3), (0, a4), a5] [] S I = if w a4 < 5 then (ev d 69 18 [(2, 424), (2, a1), (2, 3), (0, a3), (0, a4), (0, 0)] [] S I) else (some ((0, a3), S, I)) := by
  refine (sx_iload D69_9 rfl).trans ?_
  refine (sx_iconst D69_11).trans ?_
  refine sx_if_ge (pc' := 67) D69_12 (by decide) (by decide) ?_ ?_ rfl (w_small (by decide) (by decide))
  · refine (sx_iconst D69_15).trans ?_
    refine (sx_istore (al' := [(2, 424), (2, a1), (2, 3), (0, a3), (0, a4), (0, 0)]) D69_16 (Nat.le_of_ble_eq_true rfl) rfl rfl).trans ?_
    exact rfl
  · refine (sx_iload_n D69_67 rfl).trans ?_
    exact sx_ireturn D69_68 (by decide +kernel)
theorem E69_18 {d : Nat} {a1 a3 a4 a5 : Int} {S : SS} {I : II} (h0 : HA S 424) : ev (d + 1) 69 18 [(2, 424), (2, a1), (2, 3), (0, a3), (0, a4), (0, a5)] [] S I = if w a5 < 16 then ((ev d 70 0 [(2, 424), (2, a1), (0, a4), (0, a5), uU] [] S I).bind (fun q => ev (d + 1) 69 34 [(2, 424), (2, a1), (2, 3), (0, a3), (0, a4), (0, a5)] (psh q.1 []) q.2.1 q.2.2)) else (ev (d + 1) 69 9 [(2, 424), (2, a1), (2, 3), (0, a3), (0, a4 + 1), (0, a5)] [] S I) := by
  refine (sx_iload D69_18 rfl).trans ?_
  refine (sx_bipush D69_20 (by decide)).trans ?_
  refine sx_if_ge (pc' := 61) D69_22 (by decide) (by decide) ?_ ?_ rfl (w_small (by decide) (by decide))
  · refine (sx_aload_n D69_25 rfl).trans ?_
    refine (sx_aload_n D69_26 rfl).trans ?_
    refine (sx_iload D69_27 rfl).trans ?_
    refine (sx_iload D69_29 rfl).trans ?_
    exact sx_virt (c := 4) (ag := [(2, 424), (2, a1), (0, a4), (0, a5)]) (r := []) (al' := [(2, 424), (2, a1), (0, a4), (0, a5), uU]) (np := 3) (nl := 5) (q := (1, 70, 1109)) D69_31 (by decide +kernel) (by decide) mP_70 mL_70 mC_70 (Nat.le_of_ble_eq_true rfl) rfl rfl (by simp [cat]) (by decide) (HA_o h0) rfl rfl
  · refine (sx_iinc (al' := [(2, 424), (2, a1), (2, 3), (0, a3), (0, a4 + 1), (0, a5)]) D69_61 rfl rfl).trans ?_
    refine (sx_goto (pc' := 9) D69_64 (by decide) (by decide)).trans ?_
    exact rfl
theorem E69_34 {d : Nat} {a1 a3 a4 a5 s0 : Int} {S : SS} {I : II} (h0 : RA S 3) : ev (d + 1) 69 34 [(2, 424), (2, a1), (2, 3), (0, a3), (0, a4), (0, a5)] [(0, s0)] S I = if w s0 = 0 then (ev (d + 1) 69 55 [(2, 424), (2, a1), (2, 3), (0, a3), (0, a4), (0, a5)] [] S I) else (if w (a3 + 1) = 1 then ((ev d 109 0 [(2, 3), (1, w a4), uU, (1, w a5), uU] [] S I).bind (fun q => ev (d + 1) 69 55 [(2, 424), (2, a1), (2, 3), (0, a3 + 1), (0, a4), (0, a5)] (psh q.1 []) q.2.1 q.2.2)) else (ev (d + 1) 69 55 [(2, 424), (2, a1), (2, 3), (0, a3 + 1), (0, a4), (0, a5)] [] S I)) := by
  refine sx_i0_eq (pc' := 55) D69_34 (by decide) (by decide) ?_ ?_ rfl
  · exact rfl
  · refine (sx_iinc (al' := [(2, 424), (2, a1), (2, 3), (0, a3 + 1), (0, a4), (0, a5)]) D69_37 rfl rfl).trans ?_
    refine (sx_iload_n D69_40 rfl).trans ?_
    refine (sx_iconst D69_41).trans ?_
    refine sx_if_ne (pc' := 55) D69_42 (by decide) (by decide) ?_ ?_ rfl (w_small (by decide) (by decide))
    · refine (sx_aload_n D69_45 rfl).trans ?_
      refine (sx_iload D69_46 rfl).trans ?_
      refine (sx_i2l D69_48).trans ?_
      refine (sx_iload D69_49 rfl).trans ?_
      refine (sx_i2l D69_51).trans ?_
      exact sx_virt (c := 7) (ag := [(2, 3), (1, w a4), (1, w a5)]) (r := []) (al' := [(2, 3), (1, w a4), uU, (1, w a5), uU]) (np := 2) (nl := 5) (q := (1, 109, 1126)) D69_52 (by decide +kernel) (by decide) mP_109 mL_109 mC_109 (Nat.le_of_ble_eq_true rfl) rfl rfl (by simp [cat]) (by decide) (RA_o h0) rfl rfl
    · exact rfl
theorem E69_55 {d : Nat} {a1 a3 a4 a5 : Int} {S : SS} {I : II}  : ev d 69 55 [(2, 424), (2, a1), (2, 3), (0, a3), (0, a4), (0, a5)] [] S I = ev d 69 18 [(2, 424), (2, a1), (2, 3), (0, a3), (0, a4), (0, a5 + 1)] [] S I := by
  refine (sx_iinc (al' := [(2, 424), (2, a1), (2, 3), (0, a3), (0, a4), (0, a5 + 1)]) D69_55 rfl rfl).trans ?_
  refine (sx_goto (pc' := 18) D69_58 (by decide) (by decide)).trans ?_
  exact rfl
theorem E70_0 {d : Nat} {a1 a2 a3 : Int} {S : SS} {I : II} (h0 : DA S a1) : ev (d + 1) 70 0 [(2, 424), (2, a1), (0, a2), (0, a3), uU] [] S I = (ev d 62 0 [(2, a1), (0, a2), (0, a3), uU, uU, uU] [] S I).bind (fun q => ev (d + 1) 70 6 [(2, 424), (2, a1), (0, a2), (0, a3), uU] (psh q.1 []) q.2.1 q.2.2) := by
  refine (sx_aload_n D70_0 rfl).trans ?_
  refine (sx_iload_n D70_1 rfl).trans ?_
  refine (sx_iload_n D70_2 rfl).trans ?_
  exact sx_virt (c := 3) (ag := [(2, a1), (0, a2), (0, a3)]) (r := []) (al' := [(2, a1), (0, a2), (0, a3), uU, uU, uU]) (np := 2) (nl := 6) (q := (1, 62, 1113)) D70_3 (by decide +kernel) (by decide) mP_62 mL_62 mC_62 (Nat.le_of_ble_eq_true rfl) rfl rfl (by simp [cat]) (by decide) (DA_o h0) rfl rfl
theorem E70_6 {d : Nat} {a1 a2 a3 s0 : Int} {S : SS} {I : II}  : ev d 70 6 [(2, 424), (2, a1), (0, a2), (0, a3), uU] [(0, s0)] S I = if w s0 = (-1) then (some ((0, 0), S, I)) else (ev d 70 15 [(2, 424), (2, a1), (0, a2), (0, a3), (0, 0)] [] S I) := by
  refine (sx_iconst D70_6).trans ?_
  refine sx_if_ne (pc' := 12) D70_7 (by decide) (by decide) ?_ ?_ rfl (w_small (by decide) (by decide))
  · refine (sx_iconst D70_10).trans ?_
    exact sx_zreturn D70_11 (by decide +kernel) (by decide)
  · refine (sx_iconst D70_12).trans ?_
    refine (sx_istore (al' := [(2, 424), (2, a1), (0, a2), (0, a3), (0, 0)]) D70_13 (Nat.le_of_ble_eq_true rfl) rfl rfl).trans ?_
    exact rfl
theorem E70_15 {d : Nat} {a1 a2 a3 a4 : Int} {S : SS} {I : II} (h0 : HA S 424) : ev (d + 1) 70 15 [(2, 424), (2, a1), (0, a2), (0, a3), (0, a4)] [] S I = if w a4 < w (I 424 2) then (if w a4 < 12 then (gdR (0 ≤ w a4 ∧ w a4 < 12) ((ev d 71 0 [(2, a1), (0, a2), (0, a3), (0, I 425 (w a4))] [] S I).bind (fun q => ev (d + 1) 70 44 [(2, 424), (2, a1), (0, a2), (0, a3), (0, a4)] (psh q.1 []) q.2.1 q.2.2))) else (ev (d + 1) 70 62 [(2, 424), (2, a1), (0, a2), (0, a3), (0, a4)] [] S I)) else (ev (d + 1) 70 62 [(2, 424), (2, a1), (0, a2), (0, a3), (0, a4)] [] S I) := by
  refine (sx_iload D70_15 rfl).trans ?_
  refine (sx_aload_n D70_17 rfl).trans ?_
  refine (sx_gfI (q := (2, 2, 0, 278)) (j := 2) D70_18 (by decide +kernel) (by decide +kernel) (by decide) (HA_o h0) rfl rfl).trans ?_
  refine sx_if_ge (pc' := 62) D70_21 (by decide) (by decide) ?_ ?_ rfl rfl
  · refine (sx_iload D70_24 rfl).trans ?_
    refine (sx_bipush D70_26 (by decide)).trans ?_
    refine sx_if_ge (pc' := 62) D70_28 (by decide) (by decide) ?_ ?_ rfl (w_small (by decide) (by decide))
    · refine (sx_aload_n D70_31 rfl).trans ?_
      refine (sx_iload_n D70_32 rfl).trans ?_
      refine (sx_iload_n D70_33 rfl).trans ?_
      refine (sx_aload_n D70_34 rfl).trans ?_
      refine (sx_gfR (q := (2, 0, 0, 276)) (b := 425) D70_35 (by decide +kernel) (by decide +kernel) (by decide) (HA_o h0) (HA_g0 h0)).trans ?_
      refine (sx_iload D70_38 rfl).trans ?_
      refine (sx_ia D70_40 (HA_k0 h0) rfl).trans (gdR_to fun g1 => ?_)
      exact sx_stat (ag := [(2, a1), (0, a2), (0, a3), (0, I 425 (w a4))]) (r := []) (al' := [(2, a1), (0, a2), (0, a3), (0, I 425 (w a4))]) (np := 4) (nl := 4) (q := (0, 71, 1117)) D70_41 (by decide +kernel) (by decide) mP_71 mL_71 (Nat.le_of_ble_eq_true rfl) rfl rfl (by simp [cat]) rfl rfl
    · exact rfl
  · exact rfl
theorem E70_44 {d : Nat} {a1 a2 a3 a4 s0 : Int} {S : SS} {I : II} (h0 : HA S 424) : ev d 70 44 [(2, 424), (2, a1), (0, a2), (0, a3), (0, a4)] [(0, s0)] S I = gdR (0 ≤ w a4 ∧ w a4 < 12) (if w s0 = w (I 426 (w a4)) then (ev d 70 15 [(2, 424), (2, a1), (0, a2), (0, a3), (0, a4 + 1)] [] S I) else (some ((0, 0), S, I))) := by
  refine (sx_aload_n D70_44 rfl).trans ?_
  refine (sx_gfR (q := (2, 1, 0, 277)) (b := 426) D70_45 (by decide +kernel) (by decide +kernel) (by decide) (HA_o h0) (HA_g1 h0)).trans ?_
  refine (sx_iload D70_48 rfl).trans ?_
  refine (sx_ia D70_50 (HA_k1 h0) rfl).trans (gdR_to fun g1 => ?_)
  refine sx_if_eq (pc' := 56) D70_51 (by decide) (by decide) ?_ ?_ rfl rfl
  · refine (sx_iinc (al' := [(2, 424), (2, a1), (0, a2), (0, a3), (0, a4 + 1)]) D70_56 rfl rfl).trans ?_
    refine (sx_goto (pc' := 15) D70_59 (by decide) (by decide)).trans ?_
    exact rfl
  · refine (sx_iconst D70_54).trans ?_
    exact sx_zreturn D70_55 (by decide +kernel) (by decide)
theorem E70_62 {d : Nat} {a1 a2 a3 a4 : Int} {S : SS} {I : II}  : ev d 70 62 [(2, 424), (2, a1), (0, a2), (0, a3), (0, a4)] [] S I = some ((0, 1), S, I) := by
  refine (sx_iconst D70_62).trans ?_
  exact sx_zreturn D70_63 (by decide +kernel) (by decide)
theorem E71_0 {d : Nat} {a0 a1 a2 a3 : Int} {S : SS} {I : II} (h0 : DA S a0) : ev (d + 1) 71 0 [(2, a0), (0, a1), (0, a2), (0, a3)] [] S I = if w a3 = 0 then (some ((0, a1), S, I)) else (if w a3 = 1 then ((ev d 62 0 [(2, a0), (0, a1), (0, a2), uU, uU, uU] [] S I).bind (fun q => ev (d + 1) 71 36 [(2, a0), (0, a1), (0, a2), (0, a3)] (psh q.1 []) q.2.1 q.2.2)) else (if w a3 = 2 then ((ev d 62 0 [(2, a0), (0, a1), (0, a2), uU, uU, uU] [] S I).bind (fun q => ev (d + 1) 71 46 [(2, a0), (0, a1), (0, a2), (0, a3)] (psh q.1 []) q.2.1 q.2.2)) else ((ev d 63 0 [(2, a0), (0, a1), (0, a2)] [] S I).bind (fun q => ev (d + 1) 71 56 [(2, a0), (0, a1), (0, a2), (0, a3)] (psh q.1 []) q.2.1 q.2.2)))) := by
  refine (sx_iload_n D71_0 rfl).trans ?_
  refine ite_go (c := w a3 = 0) (fun x1 => ?_) (fun x1 => ?_)
  · refine (sx_tsw (pc' := 28) D71_1 ((rfl).trans x1) (by decide) rfl (by decide) (by decide)).trans ?_
    refine (sx_iload_n D71_28 rfl).trans ?_
    exact sx_ireturn D71_29 (by decide +kernel)
  refine ite_go (c := w a3 = 1) (fun x2 => ?_) (fun x2 => ?_)
  · refine (sx_tsw (pc' := 30) D71_1 ((rfl).trans x2) (by decide) rfl (by decide) (by decide)).trans ?_
    refine (sx_aload_n D71_30 rfl).trans ?_
    refine (sx_iload_n D71_31 rfl).trans ?_
    refine (sx_iload_n D71_32 rfl).trans ?_
    exact sx_virt (c := 3) (ag := [(2, a0), (0, a1), (0, a2)]) (r := []) (al' := [(2, a0), (0, a1), (0, a2), uU, uU, uU]) (np := 2) (nl := 6) (q := (1, 62, 1113)) D71_33 (by decide +kernel) (by decide) mP_62 mL_62 mC_62 (Nat.le_of_ble_eq_true rfl) rfl rfl (by simp [cat]) (by decide) (DA_o h0) rfl rfl
  refine ite_go (c := w a3 = 2) (fun x3 => ?_) (fun x3 => ?_)
  · refine (sx_tsw (pc' := 40) D71_1 ((rfl).trans x3) (by decide) rfl (by decide) (by decide)).trans ?_
    refine (sx_aload_n D71_40 rfl).trans ?_
    refine (sx_iload_n D71_41 rfl).trans ?_
    refine (sx_iload_n D71_42 rfl).trans ?_
    exact sx_virt (c := 3) (ag := [(2, a0), (0, a1), (0, a2)]) (r := []) (al' := [(2, a0), (0, a1), (0, a2), uU, uU, uU]) (np := 2) (nl := 6) (q := (1, 62, 1113)) D71_43 (by decide +kernel) (by decide) mP_62 mL_62 mC_62 (Nat.le_of_ble_eq_true rfl) rfl rfl (by simp [cat]) (by decide) (DA_o h0) rfl rfl
  refine (sx_tsd (pc' := 50) D71_1 (by rw [show w _ = _ from rfl]; omega) (by decide) (by decide)).trans ?_
  refine (sx_aload_n D71_50 rfl).trans ?_
  refine (sx_iload_n D71_51 rfl).trans ?_
  refine (sx_iload_n D71_52 rfl).trans ?_
  exact sx_virt (c := 3) (ag := [(2, a0), (0, a1), (0, a2)]) (r := []) (al' := [(2, a0), (0, a1), (0, a2)]) (np := 2) (nl := 3) (q := (1, 63, 1122)) D71_53 (by decide +kernel) (by decide) mP_63 mL_63 mC_63 (Nat.le_of_ble_eq_true rfl) rfl rfl (by simp [cat]) (by decide) (DA_o h0) rfl rfl
theorem E71_36 {d : Nat} {a0 a1 a2 a3 s0 : Int} {S : SS} {I : II}  : ev (d + 1) 71 36 [(2, a0), (0, a1), (0, a2), (0, a3)] [(0, s0)] S I = (ev d 2 0 [(0, s0)] [] S I).bind (fun q => ev (d + 1) 71 39 [(2, a0), (0, a1), (0, a2), (0, a3)] (psh q.1 []) q.2.1 q.2.2) := by
  exact sx_stat (ag := [(0, s0)]) (r := []) (al' := [(0, s0)]) (np := 1) (nl := 1) (q := (0, 2, 1120)) D71_36 (by decide +kernel) (by decide) mP_2 mL_2 (Nat.le_of_ble_eq_true rfl) rfl rfl (by simp [cat]) rfl rfl
theorem E71_39 {d : Nat} {a0 a1 a2 a3 s0 : Int} {S : SS} {I : II}  : ev d 71 39 [(2, a0), (0, a1), (0, a2), (0, a3)] [(0, s0)] S I = some ((0, s0), S, I) := by
  exact sx_ireturn D71_39 (by decide +kernel)
theorem E71_46 {d : Nat} {a0 a1 a2 a3 s0 : Int} {S : SS} {I : II}  : ev (d + 1) 71 46 [(2, a0), (0, a1), (0, a2), (0, a3)] [(0, s0)] S I = (ev d 1 0 [(0, s0)] [] S I).bind (fun q => ev (d + 1) 71 49 [(2, a0), (0, a1), (0, a2), (0, a3)] (psh q.1 []) q.2.1 q.2.2) := by
  exact sx_stat (ag := [(0, s0)]) (r := []) (al' := [(0, s0)]) (np := 1) (nl := 1) (q := (0, 1, 1121)) D71_46 (by decide +kernel) (by decide) mP_1 mL_1 (Nat.le_of_ble_eq_true rfl) rfl rfl (by simp [cat]) rfl rfl
theorem E71_49 {d : Nat} {a0 a1 a2 a3 s0 : Int} {S : SS} {I : II}  : ev d 71 49 [(2, a0), (0, a1), (0, a2), (0, a3)] [(0, s0)] S I = some ((0, s0), S, I) := by
  exact sx_ireturn D71_49 (by decide +kernel)
theorem E71_56 {d : Nat} {a0 a1 a2 a3 s0 : Int} {S : SS} {I : II}  : ev d 71 56 [(2, a0), (0, a1), (0, a2), (0, a3)] [(0, s0)] S I = if w s0 = 0 then (ev d 71 64 [(2, a0), (0, a1), (0, a2), (0, a3)] [(0, 0)] S I) else (ev d 71 64 [(2, a0), (0, a1), (0, a2), (0, a3)] [(0, 1)] S I) := by
  refine sx_i0_eq (pc' := 63) D71_56 (by decide) (by decide) ?_ ?_ rfl
  · refine (sx_iconst D71_63).trans ?_
    exact rfl
  · refine (sx_iconst D71_59).trans ?_
    refine (sx_goto (pc' := 64) D71_60 (by decide) (by decide)).trans ?_
    exact rfl
theorem E71_64 {d : Nat} {a0 a1 a2 a3 s0 : Int} {S : SS} {I : II}  : ev d 71 64 [(2, a0), (0, a1), (0, a2), (0, a3)] [(0, s0)] S I = some ((0, s0), S, I) := by
  exact sx_ireturn D71_64 (by decide +kernel)
theorem E72_0 {d : Nat} {a1 : Int} {S : SS} {I : II}  : ev d 72 0 [(2, 424), (2, a1), (2, 3), uU, uU, uU, uU, uU, uU, uU] [] S I = ev d 72 9 [(2, 424), (2, a1), (2, 3), (0, (-1)), (0, 81), (0, 0), uU, uU, uU, uU] [] S I := by
  refine (sx_iconst D72_0).trans ?_
  refine (sx_istore_n (al' := [(2, 424), (2, a1), (2, 3), (0, (-1)), uU, uU, uU, uU, uU, uU]) D72_1 (Nat.le_of_ble_eq_true rfl) rfl rfl).trans ?_
  refine (sx_bipush D72_2 (by decide)).trans ?_
  refine (sx_istore (al' := [(2, 424), (2, a1), (2, 3), (0, (-1)), (0, 81), uU, uU, uU, uU, uU]) D72_4 (Nat.le_of_ble_eq_true rfl) rfl rfl).trans ?_
  refine (sx_iconst D72_6).trans ?_
  refine (sx_istore (al' := [(2, 424), (2, a1), (2, 3), (0, (-1)), (0, 81), (0, 0), uU, uU, uU, uU]) D72_7 (Nat.le_of_ble_eq_true rfl) rfl rfl).trans ?_
  exact rfl
theorem E72_9 {d : Nat} {a1 a3 a4 a5 : Int} {a6 a7 a8 a9 : AV} {S : SS} {I : II} (h0 : HA S 424) (h1 : RA S 3) : ev (d + 1) 72 9 [(2, 424), (2, a1), (2, 3), (0, a3), (0, a4), (0, a5), a6, a7, a8, a9] [] S I = if w a5 < 4 then ((ev d 73 0 [(2, 424), (2, a1), (0, a5), uU, uU, uU, uU] [] S I).bind (fun q => ev (d + 1) 72 22 [(2, 424), (2, a1), (2, 3), (0, a3), (0, a4), (0, a5), a6, a7, a8, a9] (psh q.1 []) q.2.1 q.2.2)) else ((ev d 110 0 [(2, 3), (1, w a4), uU] [] S I).bind (fun q => ev (d + 1) 72 138 [(2, 424), (2, a1), (2, 3), (0, a3), (0, a4), (0, a5), a6, a7, a8, a9] (psh q.1 []) q.2.1 q.2.2)) := by
  refine (sx_iload D72_9 rfl).trans ?_
  refine (sx_iconst D72_11).trans ?_
  refine sx_if_ge (pc' := 131) D72_12 (by decide) (by decide) ?_ ?_ rfl (w_small (by decide) (by decide))
  · refine (sx_aload_n D72_15 rfl).trans ?_
    refine (sx_aload_n D72_16 rfl).trans ?_
    refine (sx_iload D72_17 rfl).trans ?_
    exact sx_virt (c := 4) (ag := [(2, 424), (2, a1), (0, a5)]) (r := []) (al' := [(2, 424), (2, a1), (0, a5), uU, uU, uU, uU]) (np := 2) (nl := 7) (q := (1, 73, 1135)) D72_19 (by decide +kernel) (by decide) mP_73 mL_73 mC_73 (Nat.le_of_ble_eq_true rfl) rfl rfl (by simp [cat]) (by decide) (HA_o h0) rfl rfl
  · refine (sx_aload_n D72_131 rfl).trans ?_
    refine (sx_iload D72_132 rfl).trans ?_
    refine (sx_i2l D72_134).trans ?_
    exact sx_virt (c := 7) (ag := [(2, 3), (1, w a4)]) (r := []) (al' := [(2, 3), (1, w a4), uU]) (np := 1) (nl := 3) (q := (1, 110, 1140)) D72_135 (by decide +kernel) (by decide) mP_110 mL_110 mC_110 (Nat.le_of_ble_eq_true rfl) rfl rfl (by simp [cat]) (by decide) (RA_o h1) rfl rfl
theorem E72_22 {d : Nat} {a1 a3 a4 a5 s0 : Int} {a6 a7 a8 a9 : AV} {S : SS} {I : II}  : ev d 72 22 [(2, 424), (2, a1), (2, 3), (0, a3), (0, a4), (0, a5), a6, a7, a8, a9] [(2, s0)] S I = ev d 72 30 [(2, 424), (2, a1), (2, 3), (0, a3), (0, a4), (0, a5), (2, s0), (0, 0), (0, 0), a9] [] S I := by
  refine (sx_astore (al' := [(2, 424), (2, a1), (2, 3), (0, a3), (0, a4), (0, a5), (2, s0), a7, a8, a9]) D72_22 (Nat.le_of_ble_eq_true rfl) rfl rfl).trans ?_
  refine (sx_iconst D72_24).trans ?_
  refine (sx_istore (al' := [(2, 424), (2, a1), (2, 3), (0, a3), (0, a4), (0, a5), (2, s0), (0, 0), a8, a9]) D72_25 (Nat.le_of_ble_eq_true rfl) rfl rfl).trans ?_
  refine (sx_iconst D72_27).trans ?_
  refine (sx_istore (al' := [(2, 424), (2, a1), (2, 3), (0, a3), (0, a4), (0, a5), (2, s0), (0, 0), (0, 0), a9]) D72_28 (Nat.le_of_ble_eq_true rfl) rfl rfl).trans ?_
  exact rfl
theorem E72_30 {d : Nat} {a1 a3 a4 a5 a6 a7 a8 ln0 : Int} {a9 : AV} {S : SS} {I : II} (h0 : KA S a6 20 ln0) : ev d 72 30 [(2, 424), (2, a1), (2, 3), (0, a3), (0, a4), (0, a5), (2, a6), (0, a7), (0, a8), a9] [] S I = if w a8 < 10 then (gdR (0 ≤ w a8 ∧ w a8 < ln0) (ev d 72 30 [(2, 424), (2, a1), (2, 3), (0, a3), (0, a4), (0, a5), (2, a6), (0, a7 + (I a6 (w a8))), (0, a8 + 1), a9] [] S I)) else (if w a7 = 0 then (some ((0, (-2)), S, I)) else (ev d 72 64 [(2, 424), (2, a1), (2, 3), (0, a3), (0, a4), (0, a5), (2, a6), (0, a7), (0, 0), a9] [] S I)) := by
  refine (sx_iload D72_30 rfl).trans ?_
  refine (sx_bipush D72_32 (by decide)).trans ?_
  refine sx_if_ge (pc' := 53) D72_34 (by decide) (by decide) ?_ ?_ rfl (w_small (by decide) (by decide))
  · refine (sx_iload D72_37 rfl).trans ?_
    refine (sx_aload D72_39 rfl).trans ?_
    refine (sx_iload D72_41 rfl).trans ?_
    refine (sx_ia D72_43 h0 rfl).trans (gdR_to fun g1 => ?_)
    refine (sx_iadd D72_44).trans ?_
    refine (sx_istore (al' := [(2, 424), (2, a1), (2, 3), (0, a3), (0, a4), (0, a5), (2, a6), (0, a7 + (I a6 (w a8))), (0, a8), a9]) D72_45 (Nat.le_of_ble_eq_true rfl) rfl rfl).trans ?_
    refine (sx_iinc (al' := [(2, 424), (2, a1), (2, 3), (0, a3), (0, a4), (0, a5), (2, a6), (0, a7 + (I a6 (w a8))), (0, a8 + 1), a9]) D72_47 rfl rfl).trans ?_
    refine (sx_goto (pc' := 30) D72_50 (by decide) (by decide)).trans ?_
    exact rfl
  · refine (sx_iload D72_53 rfl).trans ?_
    refine sx_i0_ne (pc' := 61) D72_55 (by decide) (by decide) ?_ ?_ rfl
    · refine (sx_bipush D72_58 (by decide)).trans ?_
      exact sx_ireturn D72_60 (by decide +kernel)
    · refine (sx_iconst D72_61).trans ?_
      refine (sx_istore (al' := [(2, 424), (2, a1), (2, 3), (0, a3), (0, a4), (0, a5), (2, a6), (0, a7), (0, 0), a9]) D72_62 (Nat.le_of_ble_eq_true rfl) rfl rfl).trans ?_
      exact rfl
theorem E72_64 {d : Nat} {a1 a3 a4 a5 a6 a7 a8 : Int} {a9 : AV} {S : SS} {I : II}  : ev (d + 1) 72 64 [(2, 424), (2, a1), (2, 3), (0, a3), (0, a4), (0, a5), (2, a6), (0, a7), (0, a8), a9] [] S I = (ev d 67 0 [(0, a5)] [] S I).bind (fun q => ev (d + 1) 72 71 [(2, 424), (2, a1), (2, 3), (0, a3), (0, a4), (0, a5), (2, a6), (0, a7), (0, a8), a9] (psh q.1 [(0, a8)]) q.2.1 q.2.2) := by
  refine (sx_iload D72_64 rfl).trans ?_
  refine (sx_iload D72_66 rfl).trans ?_
  exact sx_stat (ag := [(0, a5)]) (r := [(0, a8)]) (al' := [(0, a5)]) (np := 1) (nl := 1) (q := (0, 67, 1089)) D72_68 (by decide +kernel) (by decide) mP_67 mL_67 (Nat.le_of_ble_eq_true rfl) rfl rfl (by simp [cat]) rfl rfl
theorem E72_71 {d : Nat} {a1 a3 a4 a5 a6 a7 a8 s0 s1 ln0 : Int} {a9 : AV} {S : SS} {I : II} (h0 : KA S a6 20 ln0) : ev d 72 71 [(2, 424), (2, a1), (2, 3), (0, a3), (0, a4), (0, a5), (2, a6), (0, a7), (0, a8), a9] [(0, s1), (0, s0)] S I = if w s0 < w s1 then (if w a8 < 10 then (gdR (0 ≤ w a8 ∧ w a8 < ln0) (gdR (0 ≤ w a8 ∧ w a8 < ln0) (if (if w (I a6 (w a8)) < w (a7 - (I a6 (w a8))) then w (a7 - (I a6 (w a8))) else w (I a6 (w a8))) < w a4 then (ev d 72 119 [(2, 424), (2, a1), (2, 3), (0, (10 * a5) + a8), (0, if w (I a6 (w a8)) < w (a7 - (I a6 (w a8))) then w (a7 - (I a6 (w a8))) else w (I a6 (w a8))), (0, a5), (2, a6), (0, a7), (0, a8), (0, if w (I a6 (w a8)) < w (a7 - (I a6 (w a8))) then w (a7 - (I a6 (w a8))) else w (I a6 (w a8)))] [] S I) else (ev d 72 119 [(2, 424), (2, a1), (2, 3), (0, a3), (0, a4), (0, a5), (2, a6), (0, a7), (0, a8), (0, if w (I a6 (w a8)) < w (a7 - (I a6 (w a8))) then w (a7 - (I a6 (w a8))) else w (I a6 (w a8)))] [] S I)))) else (ev d 72 125 [(2, 424), (2, a1), (2, 3), (0, a3), (0, a4), (0, a5), (2, a6), (0, a7), (0, a8), a9] [] S I)) else (ev d 72 125 [(2, 424), (2, a1), (2, 3), (0, a3), (0, a4), (0, a5), (2, a6), (0, a7), (0, a8), a9] [] S I) := by
  refine sx_if_ge (pc' := 125) D72_71 (by decide) (by decide) ?_ ?_ rfl rfl
  · refine (sx_iload D72_74 rfl).trans ?_
    refine (sx_bipush D72_76 (by decide)).trans ?_
    refine sx_if_ge (pc' := 125) D72_78 (by decide) (by decide) ?_ ?_ rfl (w_small (by decide) (by decide))
    · refine (sx_aload D72_81 rfl).trans ?_
      refine (sx_iload D72_83 rfl).trans ?_
      refine (sx_ia D72_85 h0 rfl).trans (gdR_to fun g1 => ?_)
      refine (sx_iload D72_86 rfl).trans ?_
      refine (sx_aload D72_88 rfl).trans ?_
      refine (sx_iload D72_90 rfl).trans ?_
      refine (sx_ia D72_92 h0 rfl).trans (gdR_to fun g2 => ?_)
      refine (sx_isub D72_93).trans ?_
      refine (sx_max (q := (12, 0, 1139)) D72_94 (by decide +kernel) rfl (by simp [cat]) rfl rfl).trans ?_
      refine (sx_istore (al' := [(2, 424), (2, a1), (2, 3), (0, a3), (0, a4), (0, a5), (2, a6), (0, a7), (0, a8), (0, if w (I a6 (w a8)) < w (a7 - (I a6 (w a8))) then w (a7 - (I a6 (w a8))) else w (I a6 (w a8)))]) D72_97 (Nat.le_of_ble_eq_true rfl) rfl rfl).trans ?_
      refine (sx_iload D72_99 rfl).trans ?_
      refine (sx_iload D72_101 rfl).trans ?_
      refine sx_if_ge (pc' := 119) D72_103 (by decide) (by decide) ?_ ?_ (w_ite (w_toInt _) (w_toInt _)) rfl
      · refine (sx_iload D72_106 rfl).trans ?_
        refine (sx_istore (al' := [(2, 424), (2, a1), (2, 3), (0, a3), (0, if w (I a6 (w a8)) < w (a7 - (I a6 (w a8))) then w (a7 - (I a6 (w a8))) else w (I a6 (w a8))), (0, a5), (2, a6), (0, a7), (0, a8), (0, if w (I a6 (w a8)) < w (a7 - (I a6 (w a8))) then w (a7 - (I a6 (w a8))) else w (I a6 (w a8)))]) D72_108 (Nat.le_of_ble_eq_true rfl) rfl rfl).trans ?_
        refine (sx_bipush D72_110 (by decide)).trans ?_
        refine (sx_iload D72_112 rfl).trans ?_
        refine (sx_imul D72_114).trans ?_
        refine (sx_iload D72_115 rfl).trans ?_
        refine (sx_iadd D72_117).trans ?_
        refine (sx_istore_n (al' := [(2, 424), (2, a1), (2, 3), (0, (10 * a5) + a8), (0, if w (I a6 (w a8)) < w (a7 - (I a6 (w a8))) then w (a7 - (I a6 (w a8))) else w (I a6 (w a8))), (0, a5), (2, a6), (0, a7), (0, a8), (0, if w (I a6 (w a8)) < w (a7 - (I a6 (w a8))) then w (a7 - (I a6 (w a8))) else w (I a6 (w a8)))]) D72_118 (Nat.le_of_ble_eq_true rfl) rfl rfl).trans ?_
        exact rfl
      · exact rfl
    · exact rfl
  · exact rfl
theorem E72_119 {d : Nat} {a1 a3 a4 a5 a6 a7 a8 a9 : Int} {S : SS} {I : II}  : ev d 72 119 [(2, 424), (2, a1), (2, 3), (0, a3), (0, a4), (0, a5), (2, a6), (0, a7), (0, a8), (0, a9)] [] S I = ev d 72 64 [(2, 424), (2, a1), (2, 3), (0, a3), (0, a4), (0, a5), (2, a6), (0, a7), (0, a8 + 1), (0, a9)] [] S I := by
  refine (sx_iinc (al' := [(2, 424), (2, a1), (2, 3), (0, a3), (0, a4), (0, a5), (2, a6), (0, a7), (0, a8 + 1), (0, a9)]) D72_119 rfl rfl).trans ?_
  refine (sx_goto (pc' := 64) D72_122 (by decide) (by decide)).trans ?_
  exact rfl
theorem E72_125 {d : Nat} {a1 a3 a4 a5 a6 a7 a8 : Int} {a9 : AV} {S : SS} {I : II}  : ev d 72 125 [(2, 424), (2, a1), (2, 3), (0, a3), (0, a4), (0, a5), (2, a6), (0, a7), (0, a8), a9] [] S I = ev d 72 9 [(2, 424), (2, a1), (2, 3), (0, a3), (0, a4), (0, a5 + 1), (2, a6), (0, a7), (0, a8), a9] [] S I := by
  refine (sx_iinc (al' := [(2, 424), (2, a1), (2, 3), (0, a3), (0, a4), (0, a5 + 1), (2, a6), (0, a7), (0, a8), a9]) D72_125 rfl rfl).trans ?_
  refine (sx_goto (pc' := 9) D72_128 (by decide) (by decide)).trans ?_
  exact rfl
theorem E72_138 {d : Nat} {a1 a3 a4 a5 : Int} {a6 a7 a8 a9 : AV} {S : SS} {I : II}  : ev d 72 138 [(2, 424), (2, a1), (2, 3), (0, a3), (0, a4), (0, a5), a6, a7, a8, a9] [] S I = some ((0, a3), S, I) := by
  refine (sx_iload_n D72_138 rfl).trans ?_
  exact sx_ireturn D72_139 (by decide +kernel)
theorem E73_0 {d : Nat} {a1 a2 : Int} {S : SS} {I : II}  : ev d 73 0 [(2, 424), (2, a1), (0, a2), uU, uU, uU, uU] [] S I = ev d 73 4 [(2, 424), (2, a1), (0, a2), uU, uU, uU, uU] [(2, (S.1 : Int))] (newS S 20 10) (newI S I) := by
  refine (sx_bipush D73_0 (by decide)).trans ?_
  refine (sx_newarr (kk := 20) D73_2 (by decide) (by decide)).trans ?_
  exact rfl
theorem E73_4 {d : Nat} {a1 a2 s0 : Int} {S : SS} {I : II}  : ev d 73 4 [(2, 424), (2, a1), (0, a2), uU, uU, uU, uU] [(2, s0)] S I = ev d 73 8 [(2, 424), (2, a1), (0, a2), (2, s0), (0, 0), uU, uU] [] S I := by
  refine (sx_astore_n (al' := [(2, 424), (2, a1), (0, a2), (2, s0), uU, uU, uU]) D73_4 (Nat.le_of_ble_eq_true rfl) rfl rfl).trans ?_
  refine (sx_iconst D73_5).trans ?_
  refine (sx_istore (al' := [(2, 424), (2, a1), (0, a2), (2, s0), (0, 0), uU, uU]) D73_6 (Nat.le_of_ble_eq_true rfl) rfl rfl).trans ?_
  exact rfl
theorem E73_8 {d : Nat} {a1 a2 a3 a4 : Int} {a5 a6 : AV} {S : SS} {I : II}  : ev d 73 8 [(2, 424), (2, a1), (0, a2), (2, a3), (0, a4), a5, a6] [] S I = if w a4 < 5 then (ev d 73 17 [(2, 424), (2, a1), (0, a2), (2, a3), (0, a4), (0, 0), a6] [] S I) else (some ((2, a3), S, I)) := by
  refine (sx_iload D73_8 rfl).trans ?_
  refine (sx_iconst D73_10).trans ?_
  refine sx_if_ge (pc' := 79) D73_11 (by decide) (by decide) ?_ ?_ rfl (w_small (by decide) (by decide))
  · refine (sx_iconst D73_14).trans ?_
    refine (sx_istore (al' := [(2, 424), (2, a1), (0, a2), (2, a3), (0, a4), (0, 0), a6]) D73_15 (Nat.le_of_ble_eq_true rfl) rfl rfl).trans ?_
    exact rfl
  · refine (sx_aload_n D73_79 rfl).trans ?_
    exact sx_areturnA D73_80 (by decide +kernel)
theorem E73_17 {d : Nat} {a1 a2 a3 a4 a5 : Int} {a6 : AV} {S : SS} {I : II} (h0 : HA S 424) : ev (d + 1) 73 17 [(2, 424), (2, a1), (0, a2), (2, a3), (0, a4), (0, a5), a6] [] S I = if w a5 < 16 then ((ev d 70 0 [(2, 424), (2, a1), (0, a4), (0, a5), uU] [] S I).bind (fun q => ev (d + 1) 73 33 [(2, 424), (2, a1), (0, a2), (2, a3), (0, a4), (0, a5), a6] (psh q.1 []) q.2.1 q.2.2)) else (ev (d + 1) 73 8 [(2, 424), (2, a1), (0, a2), (2, a3), (0, a4 + 1), (0, a5), a6] [] S I) := by
  refine (sx_iload D73_17 rfl).trans ?_
  refine (sx_bipush D73_19 (by decide)).trans ?_
  refine sx_if_ge (pc' := 73) D73_21 (by decide) (by decide) ?_ ?_ rfl (w_small (by decide) (by decide))
  · refine (sx_aload_n D73_24 rfl).trans ?_
    refine (sx_aload_n D73_25 rfl).trans ?_
    refine (sx_iload D73_26 rfl).trans ?_
    refine (sx_iload D73_28 rfl).trans ?_
    exact sx_virt (c := 4) (ag := [(2, 424), (2, a1), (0, a4), (0, a5)]) (r := []) (al' := [(2, 424), (2, a1), (0, a4), (0, a5), uU]) (np := 3) (nl := 5) (q := (1, 70, 1109)) D73_30 (by decide +kernel) (by decide) mP_70 mL_70 mC_70 (Nat.le_of_ble_eq_true rfl) rfl rfl (by simp [cat]) (by decide) (HA_o h0) rfl rfl
  · refine (sx_iinc (al' := [(2, 424), (2, a1), (0, a2), (2, a3), (0, a4 + 1), (0, a5), a6]) D73_73 rfl rfl).trans ?_
    refine (sx_goto (pc' := 8) D73_76 (by decide) (by decide)).trans ?_
    exact rfl
theorem E73_33 {d : Nat} {a1 a2 a3 a4 a5 s0 : Int} {a6 : AV} {S : SS} {I : II}  : ev (d + 1) 73 33 [(2, 424), (2, a1), (0, a2), (2, a3), (0, a4), (0, a5), a6] [(0, s0)] S I = if w s0 = 0 then (ev (d + 1) 73 67 [(2, 424), (2, a1), (0, a2), (2, a3), (0, a4), (0, a5), a6] [] S I) else ((ev d 71 0 [(2, a1), (0, a4), (0, a5), (0, a2)] [] S I).bind (fun q => ev (d + 1) 73 45 [(2, 424), (2, a1), (0, a2), (2, a3), (0, a4), (0, a5), a6] (psh q.1 []) q.2.1 q.2.2)) := by
  refine sx_i0_eq (pc' := 67) D73_33 (by decide) (by decide) ?_ ?_ rfl
  · exact rfl
  · refine (sx_aload_n D73_36 rfl).trans ?_
    refine (sx_iload D73_37 rfl).trans ?_
    refine (sx_iload D73_39 rfl).trans ?_
    refine (sx_iload_n D73_41 rfl).trans ?_
    exact sx_stat (ag := [(2, a1), (0, a4), (0, a5), (0, a2)]) (r := []) (al' := [(2, a1), (0, a4), (0, a5), (0, a2)]) (np := 4) (nl := 4) (q := (0, 71, 1117)) D73_42 (by decide +kernel) (by decide) mP_71 mL_71 (Nat.le_of_ble_eq_true rfl) rfl rfl (by simp [cat]) rfl rfl
theorem E73_45 {d : Nat} {a1 a2 a3 a4 a5 s0 ln0 : Int} {a6 : AV} {S : SS} {I : II} (h0 : KA S a3 20 ln0) : ev d 73 45 [(2, 424), (2, a1), (0, a2), (2, a3), (0, a4), (0, a5), a6] [(0, s0)] S I = if w s0 < 0 then (ev d 73 67 [(2, 424), (2, a1), (0, a2), (2, a3), (0, a4), (0, a5), (0, s0)] [] S I) else (if w s0 < 10 then (gdR (0 ≤ w s0 ∧ w s0 < ln0) (gdR (0 ≤ w s0 ∧ w s0 < ln0) (ev d 73 67 [(2, 424), (2, a1), (0, a2), (2, a3), (0, a4), (0, a5), (0, s0)] [] S (up2 I a3 (w s0) ((I a3 (w s0)) + 1))))) else (ev d 73 67 [(2, 424), (2, a1), (0, a2), (2, a3), (0, a4), (0, a5), (0, s0)] [] S I)) := by
  refine (sx_istore (al' := [(2, 424), (2, a1), (0, a2), (2, a3), (0, a4), (0, a5), (0, s0)]) D73_45 (Nat.le_of_ble_eq_true rfl) rfl rfl).trans ?_
  refine (sx_iload D73_47 rfl).trans ?_
  refine sx_i0_lt (pc' := 67) D73_49 (by decide) (by decide) ?_ ?_ rfl
  · exact rfl
  · refine (sx_iload D73_52 rfl).trans ?_
    refine (sx_bipush D73_54 (by decide)).trans ?_
    refine sx_if_ge (pc' := 67) D73_56 (by decide) (by decide) ?_ ?_ rfl (w_small (by decide) (by decide))
    · refine (sx_aload_n D73_59 rfl).trans ?_
      refine (sx_iload D73_60 rfl).trans ?_
      refine (sx_dup2 D73_62 (by decide) (by decide)).trans ?_
      refine (sx_ia D73_63 h0 rfl).trans (gdR_to fun g1 => ?_)
      refine (sx_iconst D73_64).trans ?_
      refine (sx_iadd D73_65).trans ?_
      refine (sx_is D73_66 h0).trans (gdR_to fun g2 => ?_)
      exact rfl
    · exact rfl
theorem E73_67 {d : Nat} {a1 a2 a3 a4 a5 : Int} {a6 : AV} {S : SS} {I : II}  : ev d 73 67 [(2, 424), (2, a1), (0, a2), (2, a3), (0, a4), (0, a5), a6] [] S I = ev d 73 17 [(2, 424), (2, a1), (0, a2), (2, a3), (0, a4), (0, a5 + 1), a6] [] S I := by
  refine (sx_iinc (al' := [(2, 424), (2, a1), (0, a2), (2, a3), (0, a4), (0, a5 + 1), a6]) D73_67 rfl rfl).trans ?_
  refine (sx_goto (pc' := 17) D73_70 (by decide) (by decide)).trans ?_
  exact rfl
theorem E74_0 {d : Nat} {a0 : Int} {S : SS} {I : II} (h0 : (0 : Int) ≤ a0) : ev d 74 0 [(2, a0)] [] S I = ev d 74 9 [(2, a0)] [(2, (S.1 : Int)), (2, a0)] (newS S 20 8) (newI S I) := by
  refine (sx_aload_n D74_0 rfl).trans ?_
  refine (sx_obj (q := (10, 0, 77)) D74_1 (by decide +kernel) rfl h0 (by simp [cat])).trans ?_
  refine (sx_aload_n D74_4 rfl).trans ?_
  refine (sx_bipush D74_5 (by decide)).trans ?_
  refine (sx_newarr (kk := 20) D74_7 (by decide) (by decide)).trans ?_
  exact rfl
theorem E74_9 {d : Nat} {a0 s0 s1 : Int} {S : SS} {I : II} (h0 : (0 : Int) ≤ s1) (h1 : KO S s0 3) : ev d 74 9 [(2, a0)] [(2, s1), (2, s0)] S I = ev d 74 12 [(2, a0)] [] (S.1, S.2.1, S.2.2.1, up2 (sG S) s0 14 s1) I := by
  refine (sx_pfR (q := (3, 14, 0, 104)) (j := 14) D74_9 (by decide +kernel) (by decide +kernel) (by decide) h1 h0 rfl).trans ?_
  exact rfl
theorem E74_12 {d : Nat} {a0 : Int} {S : SS} {I : II}  : ev d 74 12 [(2, a0)] [] S I = ev d 74 17 [(2, a0)] [(2, (S.1 : Int)), (2, a0)] (newS S 20 8) (newI S I) := by
  refine (sx_aload_n D74_12 rfl).trans ?_
  refine (sx_bipush D74_13 (by decide)).trans ?_
  refine (sx_newarr (kk := 20) D74_15 (by decide) (by decide)).trans ?_
  exact rfl
theorem E74_17 {d : Nat} {a0 s0 s1 : Int} {S : SS} {I : II} (h0 : (0 : Int) ≤ s1) (h1 : KO S s0 3) : ev d 74 17 [(2, a0)] [(2, s1), (2, s0)] S I = ev d 74 20 [(2, a0)] [] (S.1, S.2.1, S.2.2.1, up2 (sG S) s0 15 s1) I := by
  refine (sx_pfR (q := (3, 15, 0, 105)) (j := 15) D74_17 (by decide +kernel) (by decide +kernel) (by decide) h1 h0 rfl).trans ?_
  exact rfl
theorem E74_20 {d : Nat} {a0 : Int} {S : SS} {I : II}  : ev d 74 20 [(2, a0)] [] S I = ev d 74 25 [(2, a0)] [(2, (S.1 : Int)), (2, a0)] (newS S 20 8) (newI S I) := by
  refine (sx_aload_n D74_20 rfl).trans ?_
  refine (sx_bipush D74_21 (by decide)).trans ?_
  refine (sx_newarr (kk := 20) D74_23 (by decide) (by decide)).trans ?_
  exact rfl
theorem E74_25 {d : Nat} {a0 s0 s1 : Int} {S : SS} {I : II} (h0 : (0 : Int) ≤ s1) (h1 : KO S s0 3) : ev d 74 25 [(2, a0)] [(2, s1), (2, s0)] S I = ev d 74 28 [(2, a0)] [] (S.1, S.2.1, S.2.2.1, up2 (sG S) s0 16 s1) I := by
  refine (sx_pfR (q := (3, 16, 0, 106)) (j := 16) D74_25 (by decide +kernel) (by decide +kernel) (by decide) h1 h0 rfl).trans ?_
  exact rfl
theorem E74_28 {d : Nat} {a0 : Int} {S : SS} {I : II}  : ev d 74 28 [(2, a0)] [] S I = some (uU, S, I) := by
  exact sx_return D74_28 (by decide +kernel)
theorem E75_0 {d : Nat} {a0 a1 : Int} {S : SS} {I : II} (h0 : LA S a1) (h1 : LA S a0) (h2 : a0 + 4 ≤ a1 ∨ a1 + 4 ≤ a0) : ev d 75 0 [(2, a0), (2, a1)] [] S I = gdR (I a1 3 = 0 ∨ I a1 3 = 1) (gdR (I a1 12 = 0 ∨ I a1 12 = 1) (some (uU, S, (cpy (cpy (cpy (up2 (up2 (up2 (up2 (up2 (up2 (up2 (up2 (up2 (up2 (up2 (up2 (up2 (up2 I a0 0 (I a1 0)) a0 1 (I a1 1)) a0 2 (I a1 2)) a0 3 (I a1 3)) a0 4 (I a1 4)) a0 5 (I a1 5)) a0 6 (I a1 6)) a0 7 (I a1 7)) a0 8 (I a1 8)) a0 9 (I a1 9)) a0 10 (I a1 10)) a0 11 (I a1 11)) a0 12 (I a1 12)) a0 13 (I a1 13)) (a1 + 1) 0 (a0 + 1) 0 8) (a1 + 2) 0 (a0 + 2) 0 8) (a1 + 3) 0 (a0 + 3) 0 8)))) := by
  refine (sx_aload_n D75_0 rfl).trans ?_
  refine (sx_aload_n D75_1 rfl).trans ?_
  refine (sx_gfI (q := (3, 0, 0, 78)) (j := 0) D75_2 (by decide +kernel) (by decide +kernel) (by decide) (LA_o h0) rfl rfl).trans ?_
  refine (sx_pfI (q := (3, 0, 0, 78)) (j := 0) D75_5 (by decide +kernel) (by decide) (by decide) (LA_o h1) rfl).trans ?_
  refine (sx_aload_n D75_8 rfl).trans ?_
  refine (sx_aload_n D75_9 rfl).trans ?_
  refine (sx_gfI (q := (3, 1, 0, 80)) (j := 1) D75_10 (by decide +kernel) (by decide +kernel) (by decide) (LA_o h0) rfl (up2_cell (by omega))).trans ?_
  refine (sx_pfI (q := (3, 1, 0, 80)) (j := 1) D75_13 (by decide +kernel) (by decide) (by decide) (LA_o h1) rfl).trans ?_
  refine (sx_aload_n D75_16 rfl).trans ?_
  refine (sx_aload_n D75_17 rfl).trans ?_
  refine (sx_gfI (q := (3, 2, 0, 83)) (j := 2) D75_18 (by decide +kernel) (by decide +kernel) (by decide) (LA_o h0) rfl ((up2_cell (by omega)).trans (up2_cell (by omega)))).trans ?_
  refine (sx_pfI (q := (3, 2, 0, 83)) (j := 2) D75_21 (by decide +kernel) (by decide) (by decide) (LA_o h1) rfl).trans ?_
  refine (sx_aload_n D75_24 rfl).trans ?_
  refine (sx_aload_n D75_25 rfl).trans ?_
  refine (sx_gfI (q := (3, 3, 0, 86)) (j := 3) D75_26 (by decide +kernel) (by decide +kernel) (by decide) (LA_o h0) rfl ((up2_cell (by omega)).trans ((up2_cell (by omega)).trans (up2_cell (by omega))))).trans ?_
  refine (sx_pfZ (q := (3, 3, 0, 86)) (j := 3) D75_29 (by decide +kernel) (by decide) (by decide) (LA_o h1) rfl).trans (gdR_to fun g1 => ?_)
  refine (sx_aload_n D75_32 rfl).trans ?_
  refine (sx_aload_n D75_33 rfl).trans ?_
  refine (sx_gfI (q := (3, 4, 0, 88)) (j := 4) D75_34 (by decide +kernel) (by decide +kernel) (by decide) (LA_o h0) rfl ((up2_cell (by omega)).trans ((up2_cell (by omega)).trans ((up2_cell (by omega)).trans (up2_cell (by omega)))))).trans ?_
  refine (sx_pfI (q := (3, 4, 0, 88)) (j := 4) D75_37 (by decide +kernel) (by decide) (by decide) (LA_o h1) rfl).trans ?_
  refine (sx_aload_n D75_40 rfl).trans ?_
  refine (sx_aload_n D75_41 rfl).trans ?_
  refine (sx_gfI (q := (3, 5, 0, 89)) (j := 5) D75_42 (by decide +kernel) (by decide +kernel) (by decide) (LA_o h0) rfl ((up2_cell (by omega)).trans ((up2_cell (by omega)).trans ((up2_cell (by omega)).trans ((up2_cell (by omega)).trans (up2_cell (by omega))))))).trans ?_
  refine (sx_pfI (q := (3, 5, 0, 89)) (j := 5) D75_45 (by decide +kernel) (by decide) (by decide) (LA_o h1) rfl).trans ?_
  refine (sx_aload_n D75_48 rfl).trans ?_
  refine (sx_aload_n D75_49 rfl).trans ?_
  refine (sx_gfI (q := (3, 6, 0, 91)) (j := 6) D75_50 (by decide +kernel) (by decide +kernel) (by decide) (LA_o h0) rfl ((up2_cell (by omega)).trans ((up2_cell (by omega)).trans ((up2_cell (by omega)).trans ((up2_cell (by omega)).trans ((up2_cell (by omega)).trans (up2_cell (by omega)))))))).trans ?_
  refine (sx_pfI (q := (3, 6, 0, 91)) (j := 6) D75_53 (by decide +kernel) (by decide) (by decide) (LA_o h1) rfl).trans ?_
  refine (sx_aload_n D75_56 rfl).trans ?_
  refine (sx_aload_n D75_57 rfl).trans ?_
  refine (sx_gfI (q := (3, 7, 0, 93)) (j := 7) D75_58 (by decide +kernel) (by decide +kernel) (by decide) (LA_o h0) rfl ((up2_cell (by omega)).trans ((up2_cell (by omega)).trans ((up2_cell (by omega)).trans ((up2_cell (by omega)).trans ((up2_cell (by omega)).trans ((up2_cell (by omega)).trans (up2_cell (by omega))))))))).trans ?_
  refine (sx_pfI (q := (3, 7, 0, 93)) (j := 7) D75_61 (by decide +kernel) (by decide) (by decide) (LA_o h1) rfl).trans ?_
  refine (sx_aload_n D75_64 rfl).trans ?_
  refine (sx_aload_n D75_65 rfl).trans ?_
  refine (sx_gfI (q := (3, 8, 0, 95)) (j := 8) D75_66 (by decide +kernel) (by decide +kernel) (by decide) (LA_o h0) rfl ((up2_cell (by omega)).trans ((up2_cell (by omega)).trans ((up2_cell (by omega)).trans ((up2_cell (by omega)).trans ((up2_cell (by omega)).trans ((up2_cell (by omega)).trans ((up2_cell (by omega)).trans (up2_cell (by omega)))))))))).trans ?_
  refine (sx_pfI (q := (3, 8, 0, 95)) (j := 8) D75_69 (by decide +kernel) (by decide) (by decide) (LA_o h1) rfl).trans ?_
  refine (sx_aload_n D75_72 rfl).trans ?_
  refine (sx_aload_n D75_73 rfl).trans ?_
  refine (sx_gfI (q := (3, 9, 0, 96)) (j := 9) D75_74 (by decide +kernel) (by decide +kernel) (by decide) (LA_o h0) rfl ((up2_cell (by omega)).trans ((up2_cell (by omega)).trans ((up2_cell (by omega)).trans ((up2_cell (by omega)).trans ((up2_cell (by omega)).trans ((up2_cell (by omega)).trans ((up2_cell (by omega)).trans ((up2_cell (by omega)).trans (up2_cell (by omega))))))))))).trans ?_
  refine (sx_pfI (q := (3, 9, 0, 96)) (j := 9) D75_77 (by decide +kernel) (by decide) (by decide) (LA_o h1) rfl).trans ?_
  refine (sx_aload_n D75_80 rfl).trans ?_
  refine (sx_aload_n D75_81 rfl).trans ?_
  refine (sx_gfI (q := (3, 10, 0, 98)) (j := 10) D75_82 (by decide +kernel) (by decide +kernel) (by decide) (LA_o h0) rfl ((up2_cell (by omega)).trans ((up2_cell (by omega)).trans ((up2_cell (by omega)).trans ((up2_cell (by omega)).trans ((up2_cell (by omega)).trans ((up2_cell (by omega)).trans ((up2_cell (by omega)).trans ((up2_cell (by omega)).trans ((up2_cell (by omega)).trans (up2_cell (by omega)))))))))))).trans ?_
  refine (sx_pfI (q := (3, 10, 0, 98)) (j := 10) D75_85 (by decide +kernel) (by decide) (by decide) (LA_o h1) rfl).trans ?_
  refine (sx_aload_n D75_88 rfl).trans ?_
  refine (sx_aload_n D75_89 rfl).trans ?_
  refine (sx_gfI (q := (3, 11, 0, 101)) (j := 11) D75_90 (by decide +kernel) (by decide +kernel) (by decide) (LA_o h0) rfl ((up2_cell (by omega)).trans ((up2_cell (by omega)).trans ((up2_cell (by omega)).trans ((up2_cell (by omega)).trans ((up2_cell (by omega)).trans ((up2_cell (by omega)).trans ((up2_cell (by omega)).trans ((up2_cell (by omega)).trans ((up2_cell (by omega)).trans ((up2_cell (by omega)).trans (up2_cell (by omega))))))))))))).trans ?_
  refine (sx_pfI (q := (3, 11, 0, 101)) (j := 11) D75_93 (by decide +kernel) (by decide) (by decide) (LA_o h1) rfl).trans ?_
  refine (sx_aload_n D75_96 rfl).trans ?_
  refine (sx_aload_n D75_97 rfl).trans ?_
  refine (sx_gfI (q := (3, 12, 0, 102)) (j := 12) D75_98 (by decide +kernel) (by decide +kernel) (by decide) (LA_o h0) rfl ((up2_cell (by omega)).trans ((up2_cell (by omega)).trans ((up2_cell (by omega)).trans ((up2_cell (by omega)).trans ((up2_cell (by omega)).trans ((up2_cell (by omega)).trans ((up2_cell (by omega)).trans ((up2_cell (by omega)).trans ((up2_cell (by omega)).trans ((up2_cell (by omega)).trans ((up2_cell (by omega)).trans (up2_cell (by omega)))))))))))))).trans ?_
  refine (sx_pfZ (q := (3, 12, 0, 102)) (j := 12) D75_101 (by decide +kernel) (by decide) (by decide) (LA_o h1) rfl).trans (gdR_to fun g2 => ?_)
  refine (sx_aload_n D75_104 rfl).trans ?_
  refine (sx_aload_n D75_105 rfl).trans ?_
  refine (sx_gfI (q := (3, 13, 0, 103)) (j := 13) D75_106 (by decide +kernel) (by decide +kernel) (by decide) (LA_o h0) rfl ((up2_cell (by omega)).trans ((up2_cell (by omega)).trans ((up2_cell (by omega)).trans ((up2_cell (by omega)).trans ((up2_cell (by omega)).trans ((up2_cell (by omega)).trans ((up2_cell (by omega)).trans ((up2_cell (by omega)).trans ((up2_cell (by omega)).trans ((up2_cell (by omega)).trans ((up2_cell (by omega)).trans ((up2_cell (by omega)).trans (up2_cell (by omega))))))))))))))).trans ?_
  refine (sx_pfI (q := (3, 13, 0, 103)) (j := 13) D75_109 (by decide +kernel) (by decide) (by decide) (LA_o h1) rfl).trans ?_
  refine (sx_aload_n D75_112 rfl).trans ?_
  refine (sx_gfR (q := (3, 14, 0, 104)) (b := a1 + 1) D75_113 (by decide +kernel) (by decide +kernel) (by decide) (LA_o h0) (LA_g14 h0)).trans ?_
  refine (sx_iconst D75_116).trans ?_
  refine (sx_aload_n D75_117 rfl).trans ?_
  refine (sx_gfR (q := (3, 14, 0, 104)) (b := a0 + 1) D75_118 (by decide +kernel) (by decide +kernel) (by decide) (LA_o h1) (LA_g14 h1)).trans ?_
  refine (sx_iconst D75_121).trans ?_
  refine (sx_bipush D75_122 (by decide)).trans ?_
  refine (sx_acpy (q := (11, 0, 537)) D75_124 (by decide +kernel) rfl (LA_k14 h0) (LA_k14 h1) (by decide) (by simp [cat])).trans ?_
  show ev d 75 127 [(2, a0), (2, a1)] [] S (cpy (up2 (up2 (up2 (up2 (up2 (up2 (up2 (up2 (up2 (up2 (up2 (up2 (up2 (up2 I a0 0 (I a1 0)) a0 1 (I a1 1)) a0 2 (I a1 2)) a0 3 (I a1 3)) a0 4 (I a1 4)) a0 5 (I a1 5)) a0 6 (I a1 6)) a0 7 (I a1 7)) a0 8 (I a1 8)) a0 9 (I a1 9)) a0 10 (I a1 10)) a0 11 (I a1 11)) a0 12 (I a1 12)) a0 13 (I a1 13)) (a1 + 1) 0 (a0 + 1) 0 8) = _
  refine (sx_aload_n D75_127 rfl).trans ?_
  refine (sx_gfR (q := (3, 15, 0, 105)) (b := a1 + 2) D75_128 (by decide +kernel) (by decide +kernel) (by decide) (LA_o h0) (LA_g15 h0)).trans ?_
  refine (sx_iconst D75_131).trans ?_
  refine (sx_aload_n D75_132 rfl).trans ?_
  refine (sx_gfR (q := (3, 15, 0, 105)) (b := a0 + 2) D75_133 (by decide +kernel) (by decide +kernel) (by decide) (LA_o h1) (LA_g15 h1)).trans ?_
  refine (sx_iconst D75_136).trans ?_
  refine (sx_bipush D75_137 (by decide)).trans ?_
  refine (sx_acpy (q := (11, 0, 537)) D75_139 (by decide +kernel) rfl (LA_k15 h0) (LA_k15 h1) (by decide) (by simp [cat])).trans ?_
  show ev d 75 142 [(2, a0), (2, a1)] [] S (cpy (cpy (up2 (up2 (up2 (up2 (up2 (up2 (up2 (up2 (up2 (up2 (up2 (up2 (up2 (up2 I a0 0 (I a1 0)) a0 1 (I a1 1)) a0 2 (I a1 2)) a0 3 (I a1 3)) a0 4 (I a1 4)) a0 5 (I a1 5)) a0 6 (I a1 6)) a0 7 (I a1 7)) a0 8 (I a1 8)) a0 9 (I a1 9)) a0 10 (I a1 10)) a0 11 (I a1 11)) a0 12 (I a1 12)) a0 13 (I a1 13)) (a1 + 1) 0 (a0 + 1) 0 8) (a1 + 2) 0 (a0 + 2) 0 8) = _
  refine (sx_aload_n D75_142 rfl).trans ?_
  refine (sx_gfR (q := (3, 16, 0, 106)) (b := a1 + 3) D75_143 (by decide +kernel) (by decide +kernel) (by decide) (LA_o h0) (LA_g16 h0)).trans ?_
  refine (sx_iconst D75_146).trans ?_
  refine (sx_aload_n D75_147 rfl).trans ?_
  refine (sx_gfR (q := (3, 16, 0, 106)) (b := a0 + 3) D75_148 (by decide +kernel) (by decide +kernel) (by decide) (LA_o h1) (LA_g16 h1)).trans ?_
  refine (sx_iconst D75_151).trans ?_
  refine (sx_bipush D75_152 (by decide)).trans ?_
  refine (sx_acpy (q := (11, 0, 537)) D75_154 (by decide +kernel) rfl (LA_k16 h0) (LA_k16 h1) (by decide) (by simp [cat])).trans ?_
  show ev d 75 157 [(2, a0), (2, a1)] [] S (cpy (cpy (cpy (up2 (up2 (up2 (up2 (up2 (up2 (up2 (up2 (up2 (up2 (up2 (up2 (up2 (up2 I a0 0 (I a1 0)) a0 1 (I a1 1)) a0 2 (I a1 2)) a0 3 (I a1 3)) a0 4 (I a1 4)) a0 5 (I a1 5)) a0 6 (I a1 6)) a0 7 (I a1 7)) a0 8 (I a1 8)) a0 9 (I a1 9)) a0 10 (I a1 10)) a0 11 (I a1 11)) a0 12 (I a1 12)) a0 13 (I a1 13)) (a1 + 1) 0 (a0 + 1) 0 8) (a1 + 2) 0 (a0 + 2) 0 8) (a1 + 3) 0 (a0 + 3) 0 8) = _
  exact sx_return D75_157 (by decide +kernel)
theorem E76_0 {d : Nat} {a0 a1 a2 a3 : Int} {S : SS} {I : II} (h0 : LA S a0) : ev (d + 1) 76 0 [(2, a0), (0, a1), (0, a2), (0, a3), uU] [] S I = (ev d 77 0 [(2, a0)] [] S I).bind (fun q => ev (d + 1) 76 4 [(2, a0), (0, a1), (0, a2), (0, a3), uU] (psh q.1 []) q.2.1 q.2.2) := by
  refine (sx_aload_n D76_0 rfl).trans ?_
  exact sx_virt (c := 5) (ag := [(2, a0)]) (r := []) (al' := [(2, a0)]) (np := 0) (nl := 1) (q := (1, 77, 551)) D76_1 (by decide +kernel) (by decide) mP_77 mL_77 mC_77 (Nat.le_of_ble_eq_true rfl) rfl rfl (by simp [cat]) (by decide) (LA_o h0) rfl rfl
theorem E76_4 {d : Nat} {a0 a1 a2 a3 s0 : Int} {S : SS} {I : II} (h0 : LA S a0) : ev (d + 1) 76 4 [(2, a0), (0, a1), (0, a2), (0, a3), uU] [(0, s0)] S I = if 0 < w s0 then ((ev d 78 0 [(2, a0), uU] [] S I).bind (fun q => ev (d + 1) 76 14 [(2, a0), (0, a1), (0, a2), (0, a3), uU] (psh q.1 []) q.2.1 q.2.2)) else (some ((0, (-2)), S, I)) := by
  refine sx_i0_gt (pc' := 10) D76_4 (by decide) (by decide) ?_ ?_ rfl
  · refine (sx_aload_n D76_10 rfl).trans ?_
    exact sx_virt (c := 5) (ag := [(2, a0)]) (r := []) (al' := [(2, a0), uU]) (np := 0) (nl := 2) (q := (1, 78, 555)) D76_11 (by decide +kernel) (by decide) mP_78 mL_78 mC_78 (Nat.le_of_ble_eq_true rfl) rfl rfl (by simp [cat]) (by decide) (LA_o h0) rfl rfl
  · refine (sx_bipush D76_7 (by decide)).trans ?_
    exact sx_ireturn D76_9 (by decide +kernel)
theorem E76_14 {d : Nat} {a0 a1 a2 a3 s0 : Int} {S : SS} {I : II} (h0 : LA S a0) : ev (d + 1) 76 14 [(2, a0), (0, a1), (0, a2), (0, a3), uU] [(0, s0)] S I = if w s0 = (-1) then (some ((0, (-3)), S, I)) else ((ev d 0 0 [(0, s0), (0, a1), (0, a2), (0, a3)] [] S (up2 I a0 13 (iOr (I a0 13) (iShl 1 s0)))).bind (fun q => ev (d + 1) 76 57 [(2, a0), (0, a1), (0, a2), (0, a3), (0, s0)] (psh q.1 [(0, iAnd (I a0 4) 7), (2, a0 + 1)]) q.2.1 q.2.2)) := by
  refine (sx_istore (al' := [(2, a0), (0, a1), (0, a2), (0, a3), (0, s0)]) D76_14 (Nat.le_of_ble_eq_true rfl) rfl rfl).trans ?_
  refine (sx_iload D76_16 rfl).trans ?_
  refine (sx_iconst D76_18).trans ?_
  refine sx_if_ne (pc' := 25) D76_19 (by decide) (by decide) ?_ ?_ rfl (w_small (by decide) (by decide))
  · refine (sx_bipush D76_22 (by decide)).trans ?_
    exact sx_ireturn D76_24 (by decide +kernel)
  · refine (sx_aload_n D76_25 rfl).trans ?_
    refine (sx_dup D76_26 (by decide)).trans ?_
    refine (sx_gfI (q := (3, 13, 0, 103)) (j := 13) D76_27 (by decide +kernel) (by decide +kernel) (by decide) (LA_o h0) rfl rfl).trans ?_
    refine (sx_iconst D76_30).trans ?_
    refine (sx_iload D76_31 rfl).trans ?_
    refine (sx_ishl D76_33).trans ?_
    refine (sx_ior D76_34).trans ?_
    refine (sx_pfI (q := (3, 13, 0, 103)) (j := 13) D76_35 (by decide +kernel) (by decide) (by decide) (LA_o h0) rfl).trans ?_
    refine (sx_aload_n D76_38 rfl).trans ?_
    refine (sx_gfR (q := (3, 14, 0, 104)) (b := a0 + 1) D76_39 (by decide +kernel) (by decide +kernel) (by decide) (LA_o h0) (LA_g14 h0)).trans ?_
    refine (sx_aload_n D76_42 rfl).trans ?_
    refine (sx_gfI (q := (3, 4, 0, 88)) (j := 4) D76_43 (by decide +kernel) (by decide +kernel) (by decide) (LA_o h0) rfl (up2_slot (by decide))).trans ?_
    refine (sx_bipush D76_46 (by decide)).trans ?_
    refine (sx_iand D76_48).trans ?_
    refine (sx_iload D76_49 rfl).trans ?_
    refine (sx_iload_n D76_51 rfl).trans ?_
    refine (sx_iload_n D76_52 rfl).trans ?_
    refine (sx_iload_n D76_53 rfl).trans ?_
    exact sx_stat (ag := [(0, s0), (0, a1), (0, a2), (0, a3)]) (r := [(0, iAnd (I a0 4) 7), (2, a0 + 1)]) (al' := [(0, s0), (0, a1), (0, a2), (0, a3)]) (np := 4) (nl := 4) (q := (0, 0, 563)) D76_54 (by decide +kernel) (by decide) mP_0 mL_0 (Nat.le_of_ble_eq_true rfl) rfl rfl (by simp [cat]) rfl rfl
theorem E76_57 {d : Nat} {a0 a1 a2 a3 a4 s0 s1 s2 ln0 : Int} {S : SS} {I : II} (h0 : KA S s0 20 ln0) (h1 : LA S a0) : ev d 76 57 [(2, a0), (0, a1), (0, a2), (0, a3), (0, a4)] [(0, s2), (0, s1), (2, s0)] S I = gdR (0 ≤ w s1 ∧ w s1 < ln0) (some ((0, a4), S, (up2 (up2 I s0 (w s1) s2) a0 4 (((up2 I s0 (w s1) s2) a0 4) + 1)))) := by
  refine (sx_is D76_57 h0).trans (gdR_to fun g1 => ?_)
  refine (sx_aload_n D76_58 rfl).trans ?_
  refine (sx_dup D76_59 (by decide)).trans ?_
  refine (sx_gfI (q := (3, 4, 0, 88)) (j := 4) D76_60 (by decide +kernel) (by decide +kernel) (by decide) (LA_o h1) rfl rfl).trans ?_
  refine (sx_iconst D76_63).trans ?_
  refine (sx_iadd D76_64).trans ?_
  refine (sx_pfI (q := (3, 4, 0, 88)) (j := 4) D76_65 (by decide +kernel) (by decide) (by decide) (LA_o h1) rfl).trans ?_
  refine (sx_iload D76_68 rfl).trans ?_
  exact sx_ireturn D76_70 (by decide +kernel)
theorem E77_0 {d : Nat} {a0 : Int} {S : SS} {I : II} (h0 : LA S a0) : ev d 77 0 [(2, a0)] [] S I = some ((0, ((I a0 0) - 1) - ((I a0 4) - (I a0 8))), S, I) := by
  refine (sx_aload_n D77_0 rfl).trans ?_
  refine (sx_gfI (q := (3, 0, 0, 78)) (j := 0) D77_1 (by decide +kernel) (by decide +kernel) (by decide) (LA_o h0) rfl rfl).trans ?_
  refine (sx_iconst D77_4).trans ?_
  refine (sx_isub D77_5).trans ?_
  refine (sx_aload_n D77_6 rfl).trans ?_
  refine (sx_gfI (q := (3, 4, 0, 88)) (j := 4) D77_7 (by decide +kernel) (by decide +kernel) (by decide) (LA_o h0) rfl rfl).trans ?_
  refine (sx_aload_n D77_10 rfl).trans ?_
  refine (sx_gfI (q := (3, 8, 0, 95)) (j := 8) D77_11 (by decide +kernel) (by decide +kernel) (by decide) (LA_o h0) rfl rfl).trans ?_
  refine (sx_isub D77_14).trans ?_
  refine (sx_isub D77_15).trans ?_
  exact sx_ireturn D77_16 (by decide +kernel)
theorem E78_0 {d : Nat} {a0 : Int} {S : SS} {I : II}  : ev d 78 0 [(2, a0), uU] [] S I = ev d 78 2 [(2, a0), (0, 0)] [] S I := by
  refine (sx_iconst D78_0).trans ?_
  refine (sx_istore_n (al' := [(2, a0), (0, 0)]) D78_1 (Nat.le_of_ble_eq_true rfl) rfl rfl).trans ?_
  exact rfl
theorem E78_2 {d : Nat} {a0 a1 : Int} {S : SS} {I : II} (h0 : LA S a0) : ev (d + 1) 78 2 [(2, a0), (0, a1)] [] S I = if w a1 < 16 then ((ev d 79 0 [(2, a0), (0, a1)] [] S I).bind (fun q => ev (d + 1) 78 13 [(2, a0), (0, a1)] (psh q.1 []) q.2.1 q.2.2)) else (some ((0, (-1)), S, I)) := by
  refine (sx_iload_n D78_2 rfl).trans ?_
  refine (sx_bipush D78_3 (by decide)).trans ?_
  refine sx_if_ge (pc' := 24) D78_5 (by decide) (by decide) ?_ ?_ rfl (w_small (by decide) (by decide))
  · refine (sx_aload_n D78_8 rfl).trans ?_
    refine (sx_iload_n D78_9 rfl).trans ?_
    exact sx_virt (c := 5) (ag := [(2, a0), (0, a1)]) (r := []) (al' := [(2, a0), (0, a1)]) (np := 1) (nl := 2) (q := (1, 79, 559)) D78_10 (by decide +kernel) (by decide) mP_79 mL_79 mC_79 (Nat.le_of_ble_eq_true rfl) rfl rfl (by simp [cat]) (by decide) (LA_o h0) rfl rfl
  · refine (sx_iconst D78_24).trans ?_
    exact sx_ireturn D78_25 (by decide +kernel)
theorem E78_13 {d : Nat} {a0 a1 s0 : Int} {S : SS} {I : II}  : ev d 78 13 [(2, a0), (0, a1)] [(0, s0)] S I = if w s0 = 0 then (some ((0, a1), S, I)) else (ev d 78 2 [(2, a0), (0, a1 + 1)] [] S I) := by
  refine sx_i0_ne (pc' := 18) D78_13 (by decide) (by decide) ?_ ?_ rfl
  · refine (sx_iload_n D78_16 rfl).trans ?_
    exact sx_ireturn D78_17 (by decide +kernel)
  · refine (sx_iinc (al' := [(2, a0), (0, a1 + 1)]) D78_18 rfl rfl).trans ?_
    refine (sx_goto (pc' := 2) D78_21 (by decide) (by decide)).trans ?_
    exact rfl
theorem E79_0 {d : Nat} {a0 a1 : Int} {S : SS} {I : II} (h0 : LA S a0) : ev d 79 0 [(2, a0), (0, a1)] [] S I = if iAnd (iShr (I a0 13) a1) 1 = 1 then (ev d 79 17 [(2, a0), (0, a1)] [(0, 1)] S I) else (ev d 79 17 [(2, a0), (0, a1)] [(0, 0)] S I) := by
  refine (sx_aload_n D79_0 rfl).trans ?_
  refine (sx_gfI (q := (3, 13, 0, 103)) (j := 13) D79_1 (by decide +kernel) (by decide +kernel) (by decide) (LA_o h0) rfl rfl).trans ?_
  refine (sx_iload_n D79_4 rfl).trans ?_
  refine (sx_ishr D79_5).trans ?_
  refine (sx_iconst D79_6).trans ?_
  refine (sx_iand D79_7).trans ?_
  refine (sx_iconst D79_8).trans ?_
  refine sx_if_ne (pc' := 16) D79_9 (by decide) (by decide) ?_ ?_ (w_toInt _) (w_small (by decide) (by decide))
  · refine (sx_iconst D79_12).trans ?_
    refine (sx_goto (pc' := 17) D79_13 (by decide) (by decide)).trans ?_
    exact rfl
  · refine (sx_iconst D79_16).trans ?_
    exact rfl
theorem E79_17 {d : Nat} {a0 a1 s0 : Int} {S : SS} {I : II} (h0 : s0 = 0 ∨ s0 = 1) : ev d 79 17 [(2, a0), (0, a1)] [(0, s0)] S I = some ((0, s0), S, I) := by
  exact sx_zreturn D79_17 (by decide +kernel) h0
theorem E80_0 {d : Nat} {a0 : Int} {S : SS} {I : II} (h0 : LA S a0) : ev d 80 0 [(2, a0), uU] [] S I = if w (I a0 5) = w (I a0 4) then (some ((0, (-2)), S, I)) else (if w (I a0 3) = 0 then (ev d 80 55 [(2, a0), (0, I a0 5)] [] S (up2 I a0 5 (I a0 4))) else (if w (I a0 11) < w (I a0 5) then (ev d 80 53 [(2, a0), (0, I a0 5)] [] S (up2 I a0 5 (I a0 4))) else (if w (I a0 11) < w (I a0 4) then (ev d 80 55 [(2, a0), (0, I a0 5)] [] S (up2 I a0 5 (I a0 4))) else (ev d 80 53 [(2, a0), (0, I a0 5)] [] S (up2 I a0 5 (I a0 4)))))) := by
  refine (sx_aload_n D80_0 rfl).trans ?_
  refine (sx_gfI (q := (3, 5, 0, 89)) (j := 5) D80_1 (by decide +kernel) (by decide +kernel) (by decide) (LA_o h0) rfl rfl).trans ?_
  refine (sx_aload_n D80_4 rfl).trans ?_
  refine (sx_gfI (q := (3, 4, 0, 88)) (j := 4) D80_5 (by decide +kernel) (by decide +kernel) (by decide) (LA_o h0) rfl rfl).trans ?_
  refine sx_if_ne (pc' := 14) D80_8 (by decide) (by decide) ?_ ?_ rfl rfl
  · refine (sx_bipush D80_11 (by decide)).trans ?_
    exact sx_ireturn D80_13 (by decide +kernel)
  · refine (sx_aload_n D80_14 rfl).trans ?_
    refine (sx_gfI (q := (3, 5, 0, 89)) (j := 5) D80_15 (by decide +kernel) (by decide +kernel) (by decide) (LA_o h0) rfl rfl).trans ?_
    refine (sx_istore_n (al' := [(2, a0), (0, I a0 5)]) D80_18 (Nat.le_of_ble_eq_true rfl) rfl rfl).trans ?_
    refine (sx_aload_n D80_19 rfl).trans ?_
    refine (sx_aload_n D80_20 rfl).trans ?_
    refine (sx_gfI (q := (3, 4, 0, 88)) (j := 4) D80_21 (by decide +kernel) (by decide +kernel) (by decide) (LA_o h0) rfl rfl).trans ?_
    refine (sx_pfI (q := (3, 5, 0, 89)) (j := 5) D80_24 (by decide +kernel) (by decide) (by decide) (LA_o h0) rfl).trans ?_
    refine (sx_aload_n D80_27 rfl).trans ?_
    refine (sx_gfI (q := (3, 3, 0, 86)) (j := 3) D80_28 (by decide +kernel) (by decide +kernel) (by decide) (LA_o h0) rfl (up2_slot (by decide))).trans ?_
    refine sx_i0_eq (pc' := 55) D80_31 (by decide) (by decide) ?_ ?_ rfl
    · exact rfl
    · refine (sx_aload_n D80_34 rfl).trans ?_
      refine (sx_gfI (q := (3, 11, 0, 101)) (j := 11) D80_35 (by decide +kernel) (by decide +kernel) (by decide) (LA_o h0) rfl (up2_slot (by decide))).trans ?_
      refine (sx_iload_n D80_38 rfl).trans ?_
      refine sx_if_lt (pc' := 53) D80_39 (by decide) (by decide) ?_ ?_ rfl rfl
      · exact rfl
      · refine (sx_aload_n D80_42 rfl).trans ?_
        refine (sx_gfI (q := (3, 11, 0, 101)) (j := 11) D80_43 (by decide +kernel) (by decide +kernel) (by decide) (LA_o h0) rfl (up2_slot (by decide))).trans ?_
        refine (sx_aload_n D80_46 rfl).trans ?_
        refine (sx_gfI (q := (3, 5, 0, 89)) (j := 5) D80_47 (by decide +kernel) (by decide +kernel) (by decide) (LA_o h0) rfl (up2_same _ _ _ _)).trans ?_
        refine sx_if_lt (pc' := 55) D80_50 (by decide) (by decide) ?_ ?_ rfl rfl
        · exact rfl
        · exact rfl
theorem E80_53 {d : Nat} {a0 a1 : Int} {S : SS} {I : II}  : ev d 80 53 [(2, a0), (0, a1)] [] S I = some ((0, 0), S, I) := by
  refine (sx_iconst D80_53).trans ?_
  exact sx_ireturn D80_54 (by decide +kernel)
theorem E80_55 {d : Nat} {a0 a1 : Int} {S : SS} {I : II} (h0 : LA S a0) : ev d 80 55 [(2, a0), (0, a1)] [] S I = gdR (I a0 3 = 0 ∨ I a0 3 = 1) (some ((0, 1), S, (up2 (up2 I a0 6 (I a0 5)) a0 12 (I a0 3)))) := by
  refine (sx_aload_n D80_55 rfl).trans ?_
  refine (sx_aload_n D80_56 rfl).trans ?_
  refine (sx_gfI (q := (3, 5, 0, 89)) (j := 5) D80_57 (by decide +kernel) (by decide +kernel) (by decide) (LA_o h0) rfl rfl).trans ?_
  refine (sx_pfI (q := (3, 6, 0, 91)) (j := 6) D80_60 (by decide +kernel) (by decide) (by decide) (LA_o h0) rfl).trans ?_
  refine (sx_aload_n D80_63 rfl).trans ?_
  refine (sx_aload_n D80_64 rfl).trans ?_
  refine (sx_gfI (q := (3, 3, 0, 86)) (j := 3) D80_65 (by decide +kernel) (by decide +kernel) (by decide) (LA_o h0) rfl (up2_slot (by decide))).trans ?_
  refine (sx_pfZ (q := (3, 12, 0, 102)) (j := 12) D80_68 (by decide +kernel) (by decide) (by decide) (LA_o h0) rfl).trans (gdR_to fun g1 => ?_)
  refine (sx_iconst D80_71).trans ?_
  exact sx_ireturn D80_72 (by decide +kernel)
theorem E81_0 {d : Nat} {a0 a1 : Int} {S : SS} {I : II} (h0 : LA S a0) : ev d 81 0 [(2, a0), (0, a1)] [] S I = if w a1 = 0 then (some ((0, I a0 0), S, I)) else (if w a1 = 1 then (some ((0, I a0 1), S, I)) else (if w a1 = 2 then (some ((0, I a0 2), S, I)) else (if w a1 = 3 then (if w (I a0 3) = 0 then (ev d 81 91 [(2, a0), (0, a1)] [(0, 0)] S I) else (ev d 81 91 [(2, a0), (0, a1)] [(0, 1)] S I)) else (if w a1 = 4 then (some ((0, I a0 4), S, I)) else (if w a1 = 5 then (some ((0, I a0 5), S, I)) else (if w a1 = 6 then (some ((0, I a0 6), S, I)) else (if w a1 = 7 then (some ((0, I a0 7), S, I)) else (if w a1 = 8 then (some ((0, I a0 8), S, I)) else (if w a1 = 9 then (some ((0, I a0 9), S, I)) else (if w a1 = 10 then (some ((0, I a0 10), S, I)) else (if w a1 = 11 then (some ((0, I a0 11), S, I)) else (if w (I a0 12) = 0 then (ev d 81 144 [(2, a0), (0, a1)] [(0, 0)] S I) else (ev d 81 144 [(2, a0), (0, a1)] [(0, 1)] S I))))))))))))) := by
  refine (sx_iload_n D81_0 rfl).trans ?_
  refine ite_go (c := w a1 = 0) (fun x1 => ?_) (fun x1 => ?_)
  · refine (sx_tsw (pc' := 64) D81_1 ((rfl).trans x1) (by decide) rfl (by decide) (by decide)).trans ?_
    refine (sx_aload_n D81_64 rfl).trans ?_
    refine (sx_gfI (q := (3, 0, 0, 78)) (j := 0) D81_65 (by decide +kernel) (by decide +kernel) (by decide) (LA_o h0) rfl rfl).trans ?_
    exact sx_ireturn D81_68 (by decide +kernel)
  refine ite_go (c := w a1 = 1) (fun x2 => ?_) (fun x2 => ?_)
  · refine (sx_tsw (pc' := 69) D81_1 ((rfl).trans x2) (by decide) rfl (by decide) (by decide)).trans ?_
    refine (sx_aload_n D81_69 rfl).trans ?_
    refine (sx_gfI (q := (3, 1, 0, 80)) (j := 1) D81_70 (by decide +kernel) (by decide +kernel) (by decide) (LA_o h0) rfl rfl).trans ?_
    exact sx_ireturn D81_73 (by decide +kernel)
  refine ite_go (c := w a1 = 2) (fun x3 => ?_) (fun x3 => ?_)
  · refine (sx_tsw (pc' := 74) D81_1 ((rfl).trans x3) (by decide) rfl (by decide) (by decide)).trans ?_
    refine (sx_aload_n D81_74 rfl).trans ?_
    refine (sx_gfI (q := (3, 2, 0, 83)) (j := 2) D81_75 (by decide +kernel) (by decide +kernel) (by decide) (LA_o h0) rfl rfl).trans ?_
    exact sx_ireturn D81_78 (by decide +kernel)
  refine ite_go (c := w a1 = 3) (fun x4 => ?_) (fun x4 => ?_)
  · refine (sx_tsw (pc' := 79) D81_1 ((rfl).trans x4) (by decide) rfl (by decide) (by decide)).trans ?_
    refine (sx_aload_n D81_79 rfl).trans ?_
    refine (sx_gfI (q := (3, 3, 0, 86)) (j := 3) D81_80 (by decide +kernel) (by decide +kernel) (by decide) (LA_o h0) rfl rfl).trans ?_
    refine sx_i0_eq (pc' := 90) D81_83 (by decide) (by decide) ?_ ?_ rfl
    · refine (sx_iconst D81_90).trans ?_
      exact rfl
    · refine (sx_iconst D81_86).trans ?_
      refine (sx_goto (pc' := 91) D81_87 (by decide) (by decide)).trans ?_
      exact rfl
  refine ite_go (c := w a1 = 4) (fun x5 => ?_) (fun x5 => ?_)
  · refine (sx_tsw (pc' := 92) D81_1 ((rfl).trans x5) (by decide) rfl (by decide) (by decide)).trans ?_
    refine (sx_aload_n D81_92 rfl).trans ?_
    refine (sx_gfI (q := (3, 4, 0, 88)) (j := 4) D81_93 (by decide +kernel) (by decide +kernel) (by decide) (LA_o h0) rfl rfl).trans ?_
    exact sx_ireturn D81_96 (by decide +kernel)
  refine ite_go (c := w a1 = 5) (fun x6 => ?_) (fun x6 => ?_)
  · refine (sx_tsw (pc' := 97) D81_1 ((rfl).trans x6) (by decide) rfl (by decide) (by decide)).trans ?_
    refine (sx_aload_n D81_97 rfl).trans ?_
    refine (sx_gfI (q := (3, 5, 0, 89)) (j := 5) D81_98 (by decide +kernel) (by decide +kernel) (by decide) (LA_o h0) rfl rfl).trans ?_
    exact sx_ireturn D81_101 (by decide +kernel)
  refine ite_go (c := w a1 = 6) (fun x7 => ?_) (fun x7 => ?_)
  · refine (sx_tsw (pc' := 102) D81_1 ((rfl).trans x7) (by decide) rfl (by decide) (by decide)).trans ?_
    refine (sx_aload_n D81_102 rfl).trans ?_
    refine (sx_gfI (q := (3, 6, 0, 91)) (j := 6) D81_103 (by decide +kernel) (by decide +kernel) (by decide) (LA_o h0) rfl rfl).trans ?_
    exact sx_ireturn D81_106 (by decide +kernel)
  refine ite_go (c := w a1 = 7) (fun x8 => ?_) (fun x8 => ?_)
  · refine (sx_tsw (pc' := 107) D81_1 ((rfl).trans x8) (by decide) rfl (by decide) (by decide)).trans ?_
    refine (sx_aload_n D81_107 rfl).trans ?_
    refine (sx_gfI (q := (3, 7, 0, 93)) (j := 7) D81_108 (by decide +kernel) (by decide +kernel) (by decide) (LA_o h0) rfl rfl).trans ?_
    exact sx_ireturn D81_111 (by decide +kernel)
  refine ite_go (c := w a1 = 8) (fun x9 => ?_) (fun x9 => ?_)
  · refine (sx_tsw (pc' := 112) D81_1 ((rfl).trans x9) (by decide) rfl (by decide) (by decide)).trans ?_
    refine (sx_aload_n D81_112 rfl).trans ?_
    refine (sx_gfI (q := (3, 8, 0, 95)) (j := 8) D81_113 (by decide +kernel) (by decide +kernel) (by decide) (LA_o h0) rfl rfl).trans ?_
    exact sx_ireturn D81_116 (by decide +kernel)
  refine ite_go (c := w a1 = 9) (fun x10 => ?_) (fun x10 => ?_)
  · refine (sx_tsw (pc' := 117) D81_1 ((rfl).trans x10) (by decide) rfl (by decide) (by decide)).trans ?_
    refine (sx_aload_n D81_117 rfl).trans ?_
    refine (sx_gfI (q := (3, 9, 0, 96)) (j := 9) D81_118 (by decide +kernel) (by decide +kernel) (by decide) (LA_o h0) rfl rfl).trans ?_
    exact sx_ireturn D81_121 (by decide +kernel)
  refine ite_go (c := w a1 = 10) (fun x11 => ?_) (fun x11 => ?_)
  · refine (sx_tsw (pc' := 122) D81_1 ((rfl).trans x11) (by decide) rfl (by decide) (by decide)).trans ?_
    refine (sx_aload_n D81_122 rfl).trans ?_
    refine (sx_gfI (q := (3, 10, 0, 98)) (j := 10) D81_123 (by decide +kernel) (by decide +kernel) (by decide) (LA_o h0) rfl rfl).trans ?_
    exact sx_ireturn D81_126 (by decide +kernel)
  refine ite_go (c := w a1 = 11) (fun x12 => ?_) (fun x12 => ?_)
  · refine (sx_tsw (pc' := 127) D81_1 ((rfl).trans x12) (by decide) rfl (by decide) (by decide)).trans ?_
    refine (sx_aload_n D81_127 rfl).trans ?_
    refine (sx_gfI (q := (3, 11, 0, 101)) (j := 11) D81_128 (by decide +kernel) (by decide +kernel) (by decide) (LA_o h0) rfl rfl).trans ?_
    exact sx_ireturn D81_131 (by decide +kernel)
  refine (sx_tsd (pc' := 132) D81_1 (by rw [show w _ = _ from rfl]; omega) (by decide) (by decide)).trans ?_
  refine (sx_aload_n D81_132 rfl).trans ?_
  refine (sx_gfI (q := (3, 12, 0, 102)) (j := 12) D81_133 (by decide +kernel) (by decide +kernel) (by decide) (LA_o h0) rfl rfl).trans ?_
  refine sx_i0_eq (pc' := 143) D81_136 (by decide) (by decide) ?_ ?_ rfl
  · refine (sx_iconst D81_143).trans ?_
    exact rfl
  · refine (sx_iconst D81_139).trans ?_
    refine (sx_goto (pc' := 144) D81_140 (by decide) (by decide)).trans ?_
    exact rfl
theorem E81_91 {d : Nat} {a0 a1 s0 : Int} {S : SS} {I : II}  : ev d 81 91 [(2, a0), (0, a1)] [(0, s0)] S I = some ((0, s0), S, I) := by
  exact sx_ireturn D81_91 (by decide +kernel)
theorem E81_144 {d : Nat} {a0 a1 s0 : Int} {S : SS} {I : II}  : ev d 81 144 [(2, a0), (0, a1)] [(0, s0)] S I = some ((0, s0), S, I) := by
  exact sx_ireturn D81_144 (by decide +kernel)
theorem E82_0 {d : Nat} {a0 a1 : Int} {S : SS} {I : II} (h0 : LA S a0) : ev d 82 0 [(2, a0), (0, a1)] [] S I = if w ((I a0 9) - (I a0 10)) < w ((I a0 1) - 1) then (some ((0, 1), S, (up2 (up2 (up2 I (a0 + 2) ((I a0 9) % 8) a1) (a0 + 3) ((I a0 9) % 8) (I a0 7)) a0 9 ((I a0 9) + 1)))) else (some ((0, 0), S, I)) := by
  refine (sx_aload_n D82_0 rfl).trans ?_
  refine (sx_gfI (q := (3, 9, 0, 96)) (j := 9) D82_1 (by decide +kernel) (by decide +kernel) (by decide) (LA_o h0) rfl rfl).trans ?_
  refine (sx_aload_n D82_4 rfl).trans ?_
  refine (sx_gfI (q := (3, 10, 0, 98)) (j := 10) D82_5 (by decide +kernel) (by decide +kernel) (by decide) (LA_o h0) rfl rfl).trans ?_
  refine (sx_isub D82_8).trans ?_
  refine (sx_aload_n D82_9 rfl).trans ?_
  refine (sx_gfI (q := (3, 1, 0, 80)) (j := 1) D82_10 (by decide +kernel) (by decide +kernel) (by decide) (LA_o h0) rfl rfl).trans ?_
  refine (sx_iconst D82_13).trans ?_
  refine (sx_isub D82_14).trans ?_
  refine sx_if_lt (pc' := 20) D82_15 (by decide) (by decide) ?_ ?_ rfl rfl
  · refine (sx_aload_n D82_20 rfl).trans ?_
    refine (sx_gfR (q := (3, 15, 0, 105)) (b := a0 + 2) D82_21 (by decide +kernel) (by decide +kernel) (by decide) (LA_o h0) (LA_g15 h0)).trans ?_
    refine (sx_aload_n D82_24 rfl).trans ?_
    refine (sx_gfI (q := (3, 9, 0, 96)) (j := 9) D82_25 (by decide +kernel) (by decide +kernel) (by decide) (LA_o h0) rfl rfl).trans ?_
    refine (sx_bipush D82_28 (by decide)).trans ?_
    refine (sx_iand D82_30).trans ?_
    refine (sx_iload_n D82_31 rfl).trans ?_
    refine (sx_isK (j := (I a0 9) % 8) D82_32 (LA_k15 h0) (w_and7 _) (mod8_lo _) (mod8_hi _)).trans ?_
    refine (sx_aload_n D82_33 rfl).trans ?_
    refine (sx_gfR (q := (3, 16, 0, 106)) (b := a0 + 3) D82_34 (by decide +kernel) (by decide +kernel) (by decide) (LA_o h0) (LA_g16 h0)).trans ?_
    refine (sx_aload_n D82_37 rfl).trans ?_
    refine (sx_gfI (q := (3, 9, 0, 96)) (j := 9) D82_38 (by decide +kernel) (by decide +kernel) (by decide) (LA_o h0) rfl (up2_cell (by omega))).trans ?_
    refine (sx_bipush D82_41 (by decide)).trans ?_
    refine (sx_iand D82_43).trans ?_
    refine (sx_aload_n D82_44 rfl).trans ?_
    refine (sx_gfI (q := (3, 7, 0, 93)) (j := 7) D82_45 (by decide +kernel) (by decide +kernel) (by decide) (LA_o h0) rfl (up2_cell (by omega))).trans ?_
    refine (sx_isK (j := (I a0 9) % 8) D82_48 (LA_k16 h0) (w_and7 _) (mod8_lo _) (mod8_hi _)).trans ?_
    refine (sx_aload_n D82_49 rfl).trans ?_
    refine (sx_dup D82_50 (by decide)).trans ?_
    refine (sx_gfI (q := (3, 9, 0, 96)) (j := 9) D82_51 (by decide +kernel) (by decide +kernel) (by decide) (LA_o h0) rfl ((up2_cell (by omega)).trans (up2_cell (by omega)))).trans ?_
    refine (sx_iconst D82_54).trans ?_
    refine (sx_iadd D82_55).trans ?_
    refine (sx_pfI (q := (3, 9, 0, 96)) (j := 9) D82_56 (by decide +kernel) (by decide) (by decide) (LA_o h0) rfl).trans ?_
    refine (sx_iconst D82_59).trans ?_
    exact sx_zreturn D82_60 (by decide +kernel) (by decide)
  · refine (sx_iconst D82_18).trans ?_
    exact sx_zreturn D82_19 (by decide +kernel) (by decide)
theorem E83_0 {d : Nat} {a0 : Int} {S : SS} {I : II} (h0 : LA S a0) : ev d 83 0 [(2, a0)] [] S I = if w (I a0 3) = 0 then (ev d 83 14 [(2, a0)] [] S I) else (if w (I a0 12) = 0 then (ev d 83 14 [(2, a0)] [] S I) else (if w (I a0 5) = w (I a0 7) then (ev d 83 47 [(2, a0)] [] S (up2 (up2 (up2 I a0 6 (I a0 5)) a0 11 (I a0 5)) a0 12 0)) else (ev d 83 47 [(2, a0)] [] S (up2 I a0 6 (I a0 5))))) := by
  refine (sx_aload_n D83_0 rfl).trans ?_
  refine (sx_gfI (q := (3, 3, 0, 86)) (j := 3) D83_1 (by decide +kernel) (by decide +kernel) (by decide) (LA_o h0) rfl rfl).trans ?_
  refine sx_i0_eq (pc' := 14) D83_4 (by decide) (by decide) ?_ ?_ rfl
  · exact rfl
  · refine (sx_aload_n D83_7 rfl).trans ?_
    refine (sx_gfI (q := (3, 12, 0, 102)) (j := 12) D83_8 (by decide +kernel) (by decide +kernel) (by decide) (LA_o h0) rfl rfl).trans ?_
    refine sx_i0_ne (pc' := 15) D83_11 (by decide) (by decide) ?_ ?_ rfl
    · exact rfl
    · refine (sx_aload_n D83_15 rfl).trans ?_
      refine (sx_aload_n D83_16 rfl).trans ?_
      refine (sx_gfI (q := (3, 5, 0, 89)) (j := 5) D83_17 (by decide +kernel) (by decide +kernel) (by decide) (LA_o h0) rfl rfl).trans ?_
      refine (sx_pfI (q := (3, 6, 0, 91)) (j := 6) D83_20 (by decide +kernel) (by decide) (by decide) (LA_o h0) rfl).trans ?_
      refine (sx_aload_n D83_23 rfl).trans ?_
      refine (sx_gfI (q := (3, 6, 0, 91)) (j := 6) D83_24 (by decide +kernel) (by decide +kernel) (by decide) (LA_o h0) rfl (up2_same _ _ _ _)).trans ?_
      refine (sx_aload_n D83_27 rfl).trans ?_
      refine (sx_gfI (q := (3, 7, 0, 93)) (j := 7) D83_28 (by decide +kernel) (by decide +kernel) (by decide) (LA_o h0) rfl (up2_slot (by decide))).trans ?_
      refine sx_if_ne (pc' := 47) D83_31 (by decide) (by decide) ?_ ?_ rfl rfl
      · refine (sx_aload_n D83_34 rfl).trans ?_
        refine (sx_aload_n D83_35 rfl).trans ?_
        refine (sx_gfI (q := (3, 6, 0, 91)) (j := 6) D83_36 (by decide +kernel) (by decide +kernel) (by decide) (LA_o h0) rfl (up2_same _ _ _ _)).trans ?_
        refine (sx_pfI (q := (3, 11, 0, 101)) (j := 11) D83_39 (by decide +kernel) (by decide) (by decide) (LA_o h0) rfl).trans ?_
        refine (sx_aload_n D83_42 rfl).trans ?_
        refine (sx_iconst D83_43).trans ?_
        refine ((sx_pfZ (q := (3, 12, 0, 102)) (j := 12) D83_44 (by decide +kernel) (by decide) (by decide) (LA_o h0) rfl).trans (gdR_pos (by decide))).trans ?_
        exact rfl
      · exact rfl
theorem E83_14 {d : Nat} {a0 : Int} {S : SS} {I : II}  : ev d 83 14 [(2, a0)] [] S I = some (uU, S, I) := by
  exact sx_return D83_14 (by decide +kernel)
theorem E83_47 {d : Nat} {a0 : Int} {S : SS} {I : II}  : ev d 83 47 [(2, a0)] [] S I = some (uU, S, I) := by
  exact sx_return D83_47 (by decide +kernel)
theorem E84_0 {d : Nat} {a0 : Int} {S : SS} {I : II} (h0 : LA S a0) : ev d 84 0 [(2, a0)] [] S I = if w (I a0 7) < w (I a0 6) then (ev d 84 16 [(2, a0)] [(0, 1)] S I) else (ev d 84 16 [(2, a0)] [(0, 0)] S I) := by
  refine (sx_aload_n D84_0 rfl).trans ?_
  refine (sx_gfI (q := (3, 6, 0, 91)) (j := 6) D84_1 (by decide +kernel) (by decide +kernel) (by decide) (LA_o h0) rfl rfl).trans ?_
  refine (sx_aload_n D84_4 rfl).trans ?_
  refine (sx_gfI (q := (3, 7, 0, 93)) (j := 7) D84_5 (by decide +kernel) (by decide +kernel) (by decide) (LA_o h0) rfl rfl).trans ?_
  refine sx_if_le (pc' := 15) D84_8 (by decide) (by decide) ?_ ?_ rfl rfl
  · refine (sx_iconst D84_11).trans ?_
    refine (sx_goto (pc' := 16) D84_12 (by decide) (by decide)).trans ?_
    exact rfl
  · refine (sx_iconst D84_15).trans ?_
    exact rfl
theorem E84_16 {d : Nat} {a0 s0 : Int} {S : SS} {I : II} (h0 : s0 = 0 ∨ s0 = 1) : ev d 84 16 [(2, a0)] [(0, s0)] S I = some ((0, s0), S, I) := by
  exact sx_zreturn D84_16 (by decide +kernel) h0
theorem E85_0 {d : Nat} {a0 : Int} {S : SS} {I : II} (h0 : LA S a0) : ev (d + 1) 85 0 [(2, a0), uU] [] S I = (ev d 86 0 [(2, a0), (0, 0)] [] S I).bind (fun q => ev (d + 1) 85 5 [(2, a0), uU] (psh q.1 []) q.2.1 q.2.2) := by
  refine (sx_aload_n D85_0 rfl).trans ?_
  refine (sx_iconst D85_1).trans ?_
  exact sx_virt (c := 5) (ag := [(2, a0), (0, 0)]) (r := []) (al' := [(2, a0), (0, 0)]) (np := 1) (nl := 2) (q := (1, 86, 689)) D85_2 (by decide +kernel) (by decide) mP_86 mL_86 mC_86 (Nat.le_of_ble_eq_true rfl) rfl rfl (by simp [cat]) (by decide) (LA_o h0) rfl rfl
theorem E85_5 {d : Nat} {a0 s0 : Int} {S : SS} {I : II} (h0 : LA S a0) : ev d 85 5 [(2, a0), uU] [(0, s0)] S I = some ((0, s0), S, (up2 I a0 7 ((I a0 7) + 1))) := by
  refine (sx_istore_n (al' := [(2, a0), (0, s0)]) D85_5 (Nat.le_of_ble_eq_true rfl) rfl rfl).trans ?_
  refine (sx_aload_n D85_6 rfl).trans ?_
  refine (sx_dup D85_7 (by decide)).trans ?_
  refine (sx_gfI (q := (3, 7, 0, 93)) (j := 7) D85_8 (by decide +kernel) (by decide +kernel) (by decide) (LA_o h0) rfl rfl).trans ?_
  refine (sx_iconst D85_11).trans ?_
  refine (sx_iadd D85_12).trans ?_
  refine (sx_pfI (q := (3, 7, 0, 93)) (j := 7) D85_13 (by decide +kernel) (by decide) (by decide) (LA_o h0) rfl).trans ?_
  refine (sx_iload_n D85_16 rfl).trans ?_
  exact sx_ireturn D85_17 (by decide +kernel)
theorem E86_0 {d : Nat} {a0 a1 : Int} {S : SS} {I : II} (h0 : LA S a0) : ev d 86 0 [(2, a0), (0, a1)] [] S I = some ((0, I (a0 + 1) (((I a0 7) + a1) % 8)), S, I) := by
  refine (sx_aload_n D86_0 rfl).trans ?_
  refine (sx_gfR (q := (3, 14, 0, 104)) (b := a0 + 1) D86_1 (by decide +kernel) (by decide +kernel) (by decide) (LA_o h0) (LA_g14 h0)).trans ?_
  refine (sx_aload_n D86_4 rfl).trans ?_
  refine (sx_gfI (q := (3, 7, 0, 93)) (j := 7) D86_5 (by decide +kernel) (by decide +kernel) (by decide) (LA_o h0) rfl rfl).trans ?_
  refine (sx_iload_n D86_8 rfl).trans ?_
  refine (sx_iadd D86_9).trans ?_
  refine (sx_bipush D86_10 (by decide)).trans ?_
  refine (sx_iand D86_12).trans ?_
  refine (sx_iaK (j := ((I a0 7) + a1) % 8) D86_13 (LA_k14 h0) (w_and7 _) (mod8_lo _) (mod8_hi _) rfl).trans ?_
  exact sx_ireturn D86_14 (by decide +kernel)
theorem E87_0 {d : Nat} {a0 : Int} {S : SS} {I : II} (h0 : LA S a0) : ev (d + 1) 87 0 [(2, a0), uU] [] S I = (ev d 86 0 [(2, a0), (0, 0)] [] S I).bind (fun q => ev (d + 1) 87 5 [(2, a0), uU] (psh q.1 []) q.2.1 q.2.2) := by
  refine (sx_aload_n D87_0 rfl).trans ?_
  refine (sx_iconst D87_1).trans ?_
  exact sx_virt (c := 5) (ag := [(2, a0), (0, 0)]) (r := []) (al' := [(2, a0), (0, 0)]) (np := 1) (nl := 2) (q := (1, 86, 689)) D87_2 (by decide +kernel) (by decide) mP_86 mL_86 mC_86 (Nat.le_of_ble_eq_true rfl) rfl rfl (by simp [cat]) (by decide) (LA_o h0) rfl rfl
theorem E87_5 {d : Nat} {a0 s0 : Int} {S : SS} {I : II} (h0 : LA S a0) : ev (d + 1) 87 5 [(2, a0), uU] [(0, s0)] S I = (ev d 84 0 [(2, a0)] [] S I).bind (fun q => ev (d + 1) 87 10 [(2, a0), (0, s0)] (psh q.1 []) q.2.1 q.2.2) := by
  refine (sx_istore_n (al' := [(2, a0), (0, s0)]) D87_5 (Nat.le_of_ble_eq_true rfl) rfl rfl).trans ?_
  refine (sx_aload_n D87_6 rfl).trans ?_
  exact sx_virt (c := 5) (ag := [(2, a0)]) (r := []) (al' := [(2, a0)]) (np := 0) (nl := 1) (q := (1, 84, 701)) D87_7 (by decide +kernel) (by decide) mP_84 mL_84 mC_84 (Nat.le_of_ble_eq_true rfl) rfl rfl (by simp [cat]) (by decide) (LA_o h0) rfl rfl
theorem E87_10 {d : Nat} {a0 a1 s0 : Int} {S : SS} {I : II}  : ev (d + 1) 87 10 [(2, a0), (0, a1)] [(0, s0)] S I = if w s0 = 0 then (ev (d + 1) 87 32 [(2, a0), (0, a1)] [] S I) else ((ev d 2 0 [(0, a1)] [] S I).bind (fun q => ev (d + 1) 87 17 [(2, a0), (0, a1)] (psh q.1 []) q.2.1 q.2.2)) := by
  refine sx_i0_eq (pc' := 32) D87_10 (by decide) (by decide) ?_ ?_ rfl
  · exact rfl
  · refine (sx_iload_n D87_13 rfl).trans ?_
    exact sx_stat (ag := [(0, a1)]) (r := []) (al' := [(0, a1)]) (np := 1) (nl := 1) (q := (0, 2, 702)) D87_14 (by decide +kernel) (by decide) mP_2 mL_2 (Nat.le_of_ble_eq_true rfl) rfl rfl (by simp [cat]) rfl rfl
theorem E87_17 {d : Nat} {a0 a1 s0 : Int} {S : SS} {I : II}  : ev (d + 1) 87 17 [(2, a0), (0, a1)] [(0, s0)] S I = if w s0 = 3 then ((ev d 5 0 [(0, a1)] [] S I).bind (fun q => ev (d + 1) 87 25 [(2, a0), (0, a1)] (psh q.1 []) q.2.1 q.2.2)) else (ev (d + 1) 87 32 [(2, a0), (0, a1)] [] S I) := by
  refine (sx_iconst D87_17).trans ?_
  refine sx_if_ne (pc' := 32) D87_18 (by decide) (by decide) ?_ ?_ rfl (w_small (by decide) (by decide))
  · refine (sx_iload_n D87_21 rfl).trans ?_
    exact sx_stat (ag := [(0, a1)]) (r := []) (al' := [(0, a1)]) (np := 1) (nl := 1) (q := (0, 5, 703)) D87_22 (by decide +kernel) (by decide) mP_5 mL_5 (Nat.le_of_ble_eq_true rfl) rfl rfl (by simp [cat]) rfl rfl
  · exact rfl
theorem E87_25 {d : Nat} {a0 a1 s0 : Int} {S : SS} {I : II}  : ev d 87 25 [(2, a0), (0, a1)] [(0, s0)] S I = if w s0 = 0 then (ev d 87 33 [(2, a0), (0, a1)] [(0, 1)] S I) else (ev d 87 32 [(2, a0), (0, a1)] [] S I) := by
  refine sx_i0_ne (pc' := 32) D87_25 (by decide) (by decide) ?_ ?_ rfl
  · refine (sx_iconst D87_28).trans ?_
    refine (sx_goto (pc' := 33) D87_29 (by decide) (by decide)).trans ?_
    exact rfl
  · exact rfl
theorem E87_32 {d : Nat} {a0 a1 : Int} {S : SS} {I : II}  : ev d 87 32 [(2, a0), (0, a1)] [] S I = ev d 87 33 [(2, a0), (0, a1)] [(0, 0)] S I := by
  refine (sx_iconst D87_32).trans ?_
  exact rfl
theorem E87_33 {d : Nat} {a0 a1 s0 : Int} {S : SS} {I : II} (h0 : s0 = 0 ∨ s0 = 1) : ev d 87 33 [(2, a0), (0, a1)] [(0, s0)] S I = some ((0, s0), S, I) := by
  exact sx_zreturn D87_33 (by decide +kernel) h0
theorem E88_0 {d : Nat} {a0 a1 : Int} {S : SS} {I : II} (h0 : LA S a0) : ev d 88 0 [(2, a0), (0, a1)] [] S I = some ((0, I (a0 + 2) (a1 % 8)), S, I) := by
  refine (sx_aload_n D88_0 rfl).trans ?_
  refine (sx_gfR (q := (3, 15, 0, 105)) (b := a0 + 2) D88_1 (by decide +kernel) (by decide +kernel) (by decide) (LA_o h0) (LA_g15 h0)).trans ?_
  refine (sx_iload_n D88_4 rfl).trans ?_
  refine (sx_bipush D88_5 (by decide)).trans ?_
  refine (sx_iand D88_7).trans ?_
  refine (sx_iaK (j := a1 % 8) D88_8 (LA_k15 h0) (w_and7 _) (mod8_lo _) (mod8_hi _) rfl).trans ?_
  exact sx_ireturn D88_9 (by decide +kernel)
theorem E89_0 {d : Nat} {a0 a1 : Int} {S : SS} {I : II} (h0 : LA S a0) : ev d 89 0 [(2, a0), (0, a1)] [] S I = some ((0, I (a0 + 3) (a1 % 8)), S, I) := by
  refine (sx_aload_n D89_0 rfl).trans ?_
  refine (sx_gfR (q := (3, 16, 0, 106)) (b := a0 + 3) D89_1 (by decide +kernel) (by decide +kernel) (by decide) (LA_o h0) (LA_g16 h0)).trans ?_
  refine (sx_iload_n D89_4 rfl).trans ?_
  refine (sx_bipush D89_5 (by decide)).trans ?_
  refine (sx_iand D89_7).trans ?_
  refine (sx_iaK (j := a1 % 8) D89_8 (LA_k16 h0) (w_and7 _) (mod8_lo _) (mod8_hi _) rfl).trans ?_
  exact sx_ireturn D89_9 (by decide +kernel)
theorem E90_0 {d : Nat} {a0 a1 : Int} {S : SS} {I : II} (h0 : LA S a0) : ev d 90 0 [(2, a0), (0, a1)] [] S I = if 0 < w (I a0 1) then (gdR (w (I a0 1) ≠ 0) (if iRem (iDiv a1 (I a0 1)) 2 = 0 then (ev d 90 23 [(2, a0), (0, a1)] [(0, 1)] S I) else (ev d 90 22 [(2, a0), (0, a1)] [] S I))) else (ev d 90 22 [(2, a0), (0, a1)] [] S I) := by
  refine (sx_aload_n D90_0 rfl).trans ?_
  refine (sx_gfI (q := (3, 1, 0, 80)) (j := 1) D90_1 (by decide +kernel) (by decide +kernel) (by decide) (LA_o h0) rfl rfl).trans ?_
  refine sx_i0_le (pc' := 22) D90_4 (by decide) (by decide) ?_ ?_ rfl
  · refine (sx_iload_n D90_7 rfl).trans ?_
    refine (sx_aload_n D90_8 rfl).trans ?_
    refine (sx_gfI (q := (3, 1, 0, 80)) (j := 1) D90_9 (by decide +kernel) (by decide +kernel) (by decide) (LA_o h0) rfl rfl).trans ?_
    refine (sx_idiv D90_12).trans (gdR_to fun g1 => ?_)
    refine (sx_iconst D90_13).trans ?_
    refine ((sx_irem D90_14).trans (gdR_pos (by decide))).trans ?_
    refine sx_i0_ne (pc' := 22) D90_15 (by decide) (by decide) ?_ ?_ (w_toInt _)
    · refine (sx_iconst D90_18).trans ?_
      refine (sx_goto (pc' := 23) D90_19 (by decide) (by decide)).trans ?_
      exact rfl
    · exact rfl
  · exact rfl
theorem E90_22 {d : Nat} {a0 a1 : Int} {S : SS} {I : II}  : ev d 90 22 [(2, a0), (0, a1)] [] S I = ev d 90 23 [(2, a0), (0, a1)] [(0, 0)] S I := by
  refine (sx_iconst D90_22).trans ?_
  exact rfl
theorem E90_23 {d : Nat} {a0 a1 s0 : Int} {S : SS} {I : II}  : ev d 90 23 [(2, a0), (0, a1)] [(0, s0)] S I = some ((0, s0), S, I) := by
  exact sx_ireturn D90_23 (by decide +kernel)
theorem E91_0 {d : Nat} {a0 : Int} {S : SS} {I : II} (h0 : LA S a0) : ev (d + 1) 91 0 [(2, a0)] [] S I = (ev d 89 0 [(2, a0), (0, I a0 10)] [] S I).bind (fun q => ev (d + 1) 91 9 [(2, a0)] (psh q.1 [(2, a0)]) q.2.1 q.2.2) := by
  refine (sx_aload_n D91_0 rfl).trans ?_
  refine (sx_aload_n D91_1 rfl).trans ?_
  refine (sx_aload_n D91_2 rfl).trans ?_
  refine (sx_gfI (q := (3, 10, 0, 98)) (j := 10) D91_3 (by decide +kernel) (by decide +kernel) (by decide) (LA_o h0) rfl rfl).trans ?_
  exact sx_virt (c := 5) (ag := [(2, a0), (0, I a0 10)]) (r := [(2, a0)]) (al' := [(2, a0), (0, I a0 10)]) (np := 1) (nl := 2) (q := (1, 89, 771)) D91_6 (by decide +kernel) (by decide) mP_89 mL_89 mC_89 (Nat.le_of_ble_eq_true rfl) rfl rfl (by simp [cat]) (by decide) (LA_o h0) rfl rfl
theorem E91_9 {d : Nat} {a0 s0 s1 : Int} {S : SS} {I : II} (h0 : LA S s0) (h1 : a0 + 4 ≤ s0 ∨ s0 + 4 ≤ a0) (h2 : LA S a0) : ev (d + 1) 91 9 [(2, a0)] [(0, s1), (2, s0)] S I = (ev d 88 0 [(2, a0), (0, I a0 10)] [] S (up2 I s0 8 s1)).bind (fun q => ev (d + 1) 91 26 [(2, a0)] (psh q.1 [(0, 1), (0, I a0 13), (2, a0)]) q.2.1 q.2.2) := by
  refine (sx_pfI (q := (3, 8, 0, 95)) (j := 8) D91_9 (by decide +kernel) (by decide) (by decide) (LA_o h0) rfl).trans ?_
  refine (sx_aload_n D91_12 rfl).trans ?_
  refine (sx_dup D91_13 (by decide)).trans ?_
  refine (sx_gfI (q := (3, 13, 0, 103)) (j := 13) D91_14 (by decide +kernel) (by decide +kernel) (by decide) (LA_o h2) rfl (up2_cell (by omega))).trans ?_
  refine (sx_iconst D91_17).trans ?_
  refine (sx_aload_n D91_18 rfl).trans ?_
  refine (sx_aload_n D91_19 rfl).trans ?_
  refine (sx_gfI (q := (3, 10, 0, 98)) (j := 10) D91_20 (by decide +kernel) (by decide +kernel) (by decide) (LA_o h2) rfl (up2_cell (by omega))).trans ?_
  exact sx_virt (c := 5) (ag := [(2, a0), (0, I a0 10)]) (r := [(0, 1), (0, I a0 13), (2, a0)]) (al' := [(2, a0), (0, I a0 10)]) (np := 1) (nl := 2) (q := (1, 88, 772)) D91_23 (by decide +kernel) (by decide) mP_88 mL_88 mC_88 (Nat.le_of_ble_eq_true rfl) rfl rfl (by simp [cat]) (by decide) (LA_o h2) rfl rfl
theorem E91_26 {d : Nat} {a0 s0 s1 s2 s3 : Int} {S : SS} {I : II}  : ev (d + 1) 91 26 [(2, a0)] [(0, s3), (0, s2), (0, s1), (2, s0)] S I = (ev d 10 0 [(0, s3)] [] S I).bind (fun q => ev (d + 1) 91 29 [(2, a0)] (psh q.1 [(0, s2), (0, s1), (2, s0)]) q.2.1 q.2.2) := by
  exact sx_stat (ag := [(0, s3)]) (r := [(0, s2), (0, s1), (2, s0)]) (al' := [(0, s3)]) (np := 1) (nl := 1) (q := (0, 10, 773)) D91_26 (by decide +kernel) (by decide) mP_10 mL_10 (Nat.le_of_ble_eq_true rfl) rfl rfl (by simp [cat]) rfl rfl
theorem E91_29 {d : Nat} {a0 s0 s1 s2 s3 : Int} {S : SS} {I : II} (h0 : LA S s0) (h1 : a0 + 4 ≤ s0 ∨ s0 + 4 ≤ a0) (h2 : LA S a0) : ev d 91 29 [(2, a0)] [(0, s3), (0, s2), (0, s1), (2, s0)] S I = some (uU, S, (up2 (up2 I s0 13 (iAnd s1 (iXor (iShl s2 s3) (-1)))) a0 10 ((I a0 10) + 1))) := by
  refine (sx_ishl D91_29).trans ?_
  refine (sx_iconst D91_30).trans ?_
  refine (sx_ixor D91_31).trans ?_
  refine (sx_iand D91_32).trans ?_
  refine (sx_pfI (q := (3, 13, 0, 103)) (j := 13) D91_33 (by decide +kernel) (by decide) (by decide) (LA_o h0) rfl).trans ?_
  refine (sx_aload_n D91_36 rfl).trans ?_
  refine (sx_dup D91_37 (by decide)).trans ?_
  refine (sx_gfI (q := (3, 10, 0, 98)) (j := 10) D91_38 (by decide +kernel) (by decide +kernel) (by decide) (LA_o h2) rfl (up2_cell (by omega))).trans ?_
  refine (sx_iconst D91_41).trans ?_
  refine (sx_iadd D91_42).trans ?_
  refine (sx_pfI (q := (3, 10, 0, 98)) (j := 10) D91_43 (by decide +kernel) (by decide) (by decide) (LA_o h2) rfl).trans ?_
  exact sx_return D91_46 (by decide +kernel)
theorem E92_0 {d : Nat} {a0 a1 : Int} {S : SS} {I : II}  : ev d 92 0 [(2, a0), (0, a1), uU] [] S I = ev d 92 2 [(2, a0), (0, a1), (0, 0)] [] S I := by
  refine (sx_iconst D92_0).trans ?_
  refine (sx_istore_n (al' := [(2, a0), (0, a1), (0, 0)]) D92_1 (Nat.le_of_ble_eq_true rfl) rfl rfl).trans ?_
  exact rfl
theorem E92_2 {d : Nat} {a0 a1 a2 : Int} {S : SS} {I : II} (h0 : LA S a0) : ev (d + 1) 92 2 [(2, a0), (0, a1), (0, a2)] [] S I = (ev d 93 0 [(2, a0)] [] S I).bind (fun q => ev (d + 1) 92 7 [(2, a0), (0, a1), (0, a2)] (psh q.1 [(0, a2)]) q.2.1 q.2.2) := by
  refine (sx_iload_n D92_2 rfl).trans ?_
  refine (sx_aload_n D92_3 rfl).trans ?_
  exact sx_virt (c := 5) (ag := [(2, a0)]) (r := [(0, a2)]) (al' := [(2, a0)]) (np := 0) (nl := 1) (q := (1, 93, 796)) D92_4 (by decide +kernel) (by decide) mP_93 mL_93 mC_93 (Nat.le_of_ble_eq_true rfl) rfl rfl (by simp [cat]) (by decide) (LA_o h0) rfl rfl
theorem E92_7 {d : Nat} {a0 a1 a2 s0 s1 : Int} {S : SS} {I : II} (h0 : LA S a0) : ev (d + 1) 92 7 [(2, a0), (0, a1), (0, a2)] [(0, s1), (0, s0)] S I = if w s0 < w s1 then ((ev d 86 0 [(2, a0), (0, a2)] [] S I).bind (fun q => ev (d + 1) 92 15 [(2, a0), (0, a1), (0, a2)] (psh q.1 []) q.2.1 q.2.2)) else (some ((0, (-1)), S, I)) := by
  refine sx_if_ge (pc' := 30) D92_7 (by decide) (by decide) ?_ ?_ rfl rfl
  · refine (sx_aload_n D92_10 rfl).trans ?_
    refine (sx_iload_n D92_11 rfl).trans ?_
    exact sx_virt (c := 5) (ag := [(2, a0), (0, a2)]) (r := []) (al' := [(2, a0), (0, a2)]) (np := 1) (nl := 2) (q := (1, 86, 689)) D92_12 (by decide +kernel) (by decide) mP_86 mL_86 mC_86 (Nat.le_of_ble_eq_true rfl) rfl rfl (by simp [cat]) (by decide) (LA_o h0) rfl rfl
  · refine (sx_iconst D92_30).trans ?_
    exact sx_ireturn D92_31 (by decide +kernel)
theorem E92_15 {d : Nat} {a0 a1 a2 s0 : Int} {S : SS} {I : II}  : ev (d + 1) 92 15 [(2, a0), (0, a1), (0, a2)] [(0, s0)] S I = (ev d 3 0 [(0, s0)] [] S I).bind (fun q => ev (d + 1) 92 18 [(2, a0), (0, a1), (0, a2)] (psh q.1 []) q.2.1 q.2.2) := by
  exact sx_stat (ag := [(0, s0)]) (r := []) (al' := [(0, s0)]) (np := 1) (nl := 1) (q := (0, 3, 800)) D92_15 (by decide +kernel) (by decide) mP_3 mL_3 (Nat.le_of_ble_eq_true rfl) rfl rfl (by simp [cat]) rfl rfl
theorem E92_18 {d : Nat} {a0 a1 a2 s0 : Int} {S : SS} {I : II}  : ev d 92 18 [(2, a0), (0, a1), (0, a2)] [(0, s0)] S I = if w s0 = w a1 then (some ((0, a2), S, I)) else (ev d 92 2 [(2, a0), (0, a1), (0, a2 + 1)] [] S I) := by
  refine (sx_iload_n D92_18 rfl).trans ?_
  refine sx_if_ne (pc' := 24) D92_19 (by decide) (by decide) ?_ ?_ rfl rfl
  · refine (sx_iload_n D92_22 rfl).trans ?_
    exact sx_ireturn D92_23 (by decide +kernel)
  · refine (sx_iinc (al' := [(2, a0), (0, a1), (0, a2 + 1)]) D92_24 rfl rfl).trans ?_
    refine (sx_goto (pc' := 2) D92_27 (by decide) (by decide)).trans ?_
    exact rfl
theorem E93_0 {d : Nat} {a0 : Int} {S : SS} {I : II} (h0 : LA S a0) : ev d 93 0 [(2, a0)] [] S I = some ((0, (I a0 4) - (I a0 7)), S, I) := by
  refine (sx_aload_n D93_0 rfl).trans ?_
  refine (sx_gfI (q := (3, 4, 0, 88)) (j := 4) D93_1 (by decide +kernel) (by decide +kernel) (by decide) (LA_o h0) rfl rfl).trans ?_
  refine (sx_aload_n D93_4 rfl).trans ?_
  refine (sx_gfI (q := (3, 7, 0, 93)) (j := 7) D93_5 (by decide +kernel) (by decide +kernel) (by decide) (LA_o h0) rfl rfl).trans ?_
  refine (sx_isub D93_8).trans ?_
  exact sx_ireturn D93_9 (by decide +kernel)
theorem E94_0 {d : Nat} {a0 a1 : Int} {S : SS} {I : II} (h0 : LA S a0) : ev d 94 0 [(2, a0), (0, a1)] [] S I = some (uU, S, (up2 I (a0 + 1) (((I a0 7) + a1) % 8) (iOr (I (a0 + 1) (((I a0 7) + a1) % 8)) 262144))) := by
  refine (sx_aload_n D94_0 rfl).trans ?_
  refine (sx_gfR (q := (3, 14, 0, 104)) (b := a0 + 1) D94_1 (by decide +kernel) (by decide +kernel) (by decide) (LA_o h0) (LA_g14 h0)).trans ?_
  refine (sx_aload_n D94_4 rfl).trans ?_
  refine (sx_gfI (q := (3, 7, 0, 93)) (j := 7) D94_5 (by decide +kernel) (by decide +kernel) (by decide) (LA_o h0) rfl rfl).trans ?_
  refine (sx_iload_n D94_8 rfl).trans ?_
  refine (sx_iadd D94_9).trans ?_
  refine (sx_bipush D94_10 (by decide)).trans ?_
  refine (sx_iand D94_12).trans ?_
  refine (sx_dup2 D94_13 (by decide) (by decide)).trans ?_
  refine (sx_iaK (j := ((I a0 7) + a1) % 8) D94_14 (LA_k14 h0) (w_and7 _) (mod8_lo _) (mod8_hi _) rfl).trans ?_
  refine (sx_ldcI (q := (262144, 810)) D94_15 (by decide +kernel)).trans ?_
  refine (sx_ior D94_17).trans ?_
  refine (sx_isK (j := ((I a0 7) + a1) % 8) D94_18 (LA_k14 h0) (w_and7 _) (mod8_lo _) (mod8_hi _)).trans ?_
  exact sx_return D94_19 (by decide +kernel)
theorem E95_0 {d : Nat} {a0 : Int} {S : SS} {I : II} (h0 : LA S a0) : ev (d + 1) 95 0 [(2, a0)] [] S I = (ev d 311 0 [(0, I a0 13)] [] S I).bind (fun q => ev (d + 1) 95 7 [(2, a0)] (psh q.1 []) q.2.1 q.2.2) := by
  refine (sx_aload_n D95_0 rfl).trans ?_
  refine (sx_gfI (q := (3, 13, 0, 103)) (j := 13) D95_1 (by decide +kernel) (by decide +kernel) (by decide) (LA_o h0) rfl rfl).trans ?_
  exact sx_stat (ag := [(0, I a0 13)]) (r := []) (al' := [(0, I a0 13)]) (np := 1) (nl := 1) (q := (0, 311, 835)) D95_4 (by decide +kernel) (by decide) mP_311 mL_311 (Nat.le_of_ble_eq_true rfl) rfl rfl (by simp [cat]) rfl rfl
theorem E95_7 {d : Nat} {a0 s0 : Int} {S : SS} {I : II}  : ev d 95 7 [(2, a0)] [(0, s0)] S I = some ((0, s0), S, I) := by
  exact sx_ireturn D95_7 (by decide +kernel)
theorem E96_0 {d : Nat} {a0 : Int} {S : SS} {I : II} (h0 : LA S a0) : ev d 96 0 [(2, a0)] [] S I = some (uU, S, (up2 (up2 (up2 (up2 (up2 (up2 (up2 (up2 (up2 (up2 I a0 4 0) a0 5 0) a0 6 0) a0 7 0) a0 8 0) a0 9 0) a0 10 0) a0 11 0) a0 12 0) a0 13 0)) := by
  refine (sx_aload_n D96_0 rfl).trans ?_
  refine (sx_iconst D96_1).trans ?_
  refine (sx_pfI (q := (3, 4, 0, 88)) (j := 4) D96_2 (by decide +kernel) (by decide) (by decide) (LA_o h0) rfl).trans ?_
  refine (sx_aload_n D96_5 rfl).trans ?_
  refine (sx_iconst D96_6).trans ?_
  refine (sx_pfI (q := (3, 5, 0, 89)) (j := 5) D96_7 (by decide +kernel) (by decide) (by decide) (LA_o h0) rfl).trans ?_
  refine (sx_aload_n D96_10 rfl).trans ?_
  refine (sx_iconst D96_11).trans ?_
  refine (sx_pfI (q := (3, 6, 0, 91)) (j := 6) D96_12 (by decide +kernel) (by decide) (by decide) (LA_o h0) rfl).trans ?_
  refine (sx_aload_n D96_15 rfl).trans ?_
  refine (sx_iconst D96_16).trans ?_
  refine (sx_pfI (q := (3, 7, 0, 93)) (j := 7) D96_17 (by decide +kernel) (by decide) (by decide) (LA_o h0) rfl).trans ?_
  refine (sx_aload_n D96_20 rfl).trans ?_
  refine (sx_iconst D96_21).trans ?_
  refine (sx_pfI (q := (3, 8, 0, 95)) (j := 8) D96_22 (by decide +kernel) (by decide) (by decide) (LA_o h0) rfl).trans ?_
  refine (sx_aload_n D96_25 rfl).trans ?_
  refine (sx_iconst D96_26).trans ?_
  refine (sx_pfI (q := (3, 9, 0, 96)) (j := 9) D96_27 (by decide +kernel) (by decide) (by decide) (LA_o h0) rfl).trans ?_
  refine (sx_aload_n D96_30 rfl).trans ?_
  refine (sx_iconst D96_31).trans ?_
  refine (sx_pfI (q := (3, 10, 0, 98)) (j := 10) D96_32 (by decide +kernel) (by decide) (by decide) (LA_o h0) rfl).trans ?_
  refine (sx_aload_n D96_35 rfl).trans ?_
  refine (sx_iconst D96_36).trans ?_
  refine (sx_pfI (q := (3, 11, 0, 101)) (j := 11) D96_37 (by decide +kernel) (by decide) (by decide) (LA_o h0) rfl).trans ?_
  refine (sx_aload_n D96_40 rfl).trans ?_
  refine (sx_iconst D96_41).trans ?_
  refine ((sx_pfZ (q := (3, 12, 0, 102)) (j := 12) D96_42 (by decide +kernel) (by decide) (by decide) (LA_o h0) rfl).trans (gdR_pos (by decide))).trans ?_
  refine (sx_aload_n D96_45 rfl).trans ?_
  refine (sx_iconst D96_46).trans ?_
  refine (sx_pfI (q := (3, 13, 0, 103)) (j := 13) D96_47 (by decide +kernel) (by decide) (by decide) (LA_o h0) rfl).trans ?_
  exact sx_return D96_50 (by decide +kernel)
theorem E97_0 {d : Nat} {a0 : Int} {S : SS} {I : II} (h0 : LA S a0) : ev d 97 0 [(2, a0), uU, uU] [] S I = ev d 97 16 [(2, a0), (0, 0), (0, if 0 < w ((I a0 9) - (I a0 1)) then w ((I a0 9) - (I a0 1)) else 0)] [] S I := by
  refine (sx_iconst D97_0).trans ?_
  refine (sx_istore_n (al' := [(2, a0), (0, 0), uU]) D97_1 (Nat.le_of_ble_eq_true rfl) rfl rfl).trans ?_
  refine (sx_iconst D97_2).trans ?_
  refine (sx_aload_n D97_3 rfl).trans ?_
  refine (sx_gfI (q := (3, 9, 0, 96)) (j := 9) D97_4 (by decide +kernel) (by decide +kernel) (by decide) (LA_o h0) rfl rfl).trans ?_
  refine (sx_aload_n D97_7 rfl).trans ?_
  refine (sx_gfI (q := (3, 1, 0, 80)) (j := 1) D97_8 (by decide +kernel) (by decide +kernel) (by decide) (LA_o h0) rfl rfl).trans ?_
  refine (sx_isub D97_11).trans ?_
  refine (sx_max (q := (12, 0, 957)) D97_12 (by decide +kernel) rfl (by simp [cat]) (w_small (by decide) (by decide)) rfl).trans ?_
  refine (sx_istore_n (al' := [(2, a0), (0, 0), (0, if 0 < w ((I a0 9) - (I a0 1)) then w ((I a0 9) - (I a0 1)) else 0)]) D97_15 (Nat.le_of_ble_eq_true rfl) rfl rfl).trans ?_
  exact rfl
theorem E97_16 {d : Nat} {a0 a1 a2 : Int} {S : SS} {I : II} (h0 : LA S a0) : ev (d + 1) 97 16 [(2, a0), (0, a1), (0, a2)] [] S I = if w a2 < w (I a0 9) then (if 0 < w (I a0 1) then ((ev d 90 0 [(2, a0), (0, a2)] [] S I).bind (fun q => ev (d + 1) 97 36 [(2, a0), (0, a1), (0, a2)] (psh q.1 []) q.2.1 q.2.2)) else (ev (d + 1) 97 51 [(2, a0), (0, a1), (0, a2)] [] S I)) else (some ((0, a1), S, I)) := by
  refine (sx_iload_n D97_16 rfl).trans ?_
  refine (sx_aload_n D97_17 rfl).trans ?_
  refine (sx_gfI (q := (3, 9, 0, 96)) (j := 9) D97_18 (by decide +kernel) (by decide +kernel) (by decide) (LA_o h0) rfl rfl).trans ?_
  refine sx_if_ge (pc' := 57) D97_21 (by decide) (by decide) ?_ ?_ rfl rfl
  · refine (sx_aload_n D97_24 rfl).trans ?_
    refine (sx_gfI (q := (3, 1, 0, 80)) (j := 1) D97_25 (by decide +kernel) (by decide +kernel) (by decide) (LA_o h0) rfl rfl).trans ?_
    refine sx_i0_le (pc' := 51) D97_28 (by decide) (by decide) ?_ ?_ rfl
    · refine (sx_aload_n D97_31 rfl).trans ?_
      refine (sx_iload_n D97_32 rfl).trans ?_
      exact sx_virt (c := 5) (ag := [(2, a0), (0, a2)]) (r := []) (al' := [(2, a0), (0, a2)]) (np := 1) (nl := 2) (q := (1, 90, 958)) D97_33 (by decide +kernel) (by decide) mP_90 mL_90 mC_90 (Nat.le_of_ble_eq_true rfl) rfl rfl (by simp [cat]) (by decide) (LA_o h0) rfl rfl
    · exact rfl
  · refine (sx_iload_n D97_57 rfl).trans ?_
    exact sx_ireturn D97_58 (by decide +kernel)
theorem E97_36 {d : Nat} {a0 a1 a2 s0 : Int} {S : SS} {I : II} (h0 : LA S a0) : ev d 97 36 [(2, a0), (0, a1), (0, a2)] [(0, s0)] S I = if w s0 = 1 then (gdR (w (I a0 1) ≠ 0) (ev d 97 51 [(2, a0), (0, iOr a1 (iShl 1 (iRem a2 (I a0 1)))), (0, a2)] [] S I)) else (ev d 97 51 [(2, a0), (0, a1), (0, a2)] [] S I) := by
  refine (sx_iconst D97_36).trans ?_
  refine sx_if_ne (pc' := 51) D97_37 (by decide) (by decide) ?_ ?_ rfl (w_small (by decide) (by decide))
  · refine (sx_iload_n D97_40 rfl).trans ?_
    refine (sx_iconst D97_41).trans ?_
    refine (sx_iload_n D97_42 rfl).trans ?_
    refine (sx_aload_n D97_43 rfl).trans ?_
    refine (sx_gfI (q := (3, 1, 0, 80)) (j := 1) D97_44 (by decide +kernel) (by decide +kernel) (by decide) (LA_o h0) rfl rfl).trans ?_
    refine (sx_irem D97_47).trans (gdR_to fun g1 => ?_)
    refine (sx_ishl D97_48).trans ?_
    refine (sx_ior D97_49).trans ?_
    refine (sx_istore_n (al' := [(2, a0), (0, iOr a1 (iShl 1 (iRem a2 (I a0 1)))), (0, a2)]) D97_50 (Nat.le_of_ble_eq_true rfl) rfl rfl).trans ?_
    exact rfl
  · exact rfl
theorem E97_51 {d : Nat} {a0 a1 a2 : Int} {S : SS} {I : II}  : ev d 97 51 [(2, a0), (0, a1), (0, a2)] [] S I = ev d 97 16 [(2, a0), (0, a1), (0, a2 + 1)] [] S I := by
  refine (sx_iinc (al' := [(2, a0), (0, a1), (0, a2 + 1)]) D97_51 rfl rfl).trans ?_
  refine (sx_goto (pc' := 16) D97_54 (by decide) (by decide)).trans ?_
  exact rfl
theorem E98_0 {d : Nat} {a0 : Int} {S : SS} {I : II} (h0 : LA S a0) : ev (d + 1) 98 0 [(2, a0)] [] S I = (ev d 95 0 [(2, a0)] [] S I).bind (fun q => ev (d + 1) 98 6 [(2, a0)] (psh q.1 [(0, 16)]) q.2.1 q.2.2) := by
  refine (sx_bipush D98_0 (by decide)).trans ?_
  refine (sx_aload_n D98_2 rfl).trans ?_
  exact sx_virt (c := 5) (ag := [(2, a0)]) (r := [(0, 16)]) (al' := [(2, a0)]) (np := 0) (nl := 1) (q := (1, 95, 968)) D98_3 (by decide +kernel) (by decide) mP_95 mL_95 mC_95 (Nat.le_of_ble_eq_true rfl) rfl rfl (by simp [cat]) (by decide) (LA_o h0) rfl rfl
theorem E98_6 {d : Nat} {a0 s0 s1 : Int} {S : SS} {I : II}  : ev d 98 6 [(2, a0)] [(0, s1), (0, s0)] S I = some ((0, s0 - s1), S, I) := by
  refine (sx_isub D98_6).trans ?_
  exact sx_ireturn D98_7 (by decide +kernel)
theorem E99_0 {d : Nat} {a0 a1 : Int} {S : SS} {I : II} (h0 : LA S a0) : ev d 99 0 [(2, a0), (0, a1), uU] [] S I = ev d 99 5 [(2, a0), (0, a1), (0, I a0 10)] [] S I := by
  refine (sx_aload_n D99_0 rfl).trans ?_
  refine (sx_gfI (q := (3, 10, 0, 98)) (j := 10) D99_1 (by decide +kernel) (by decide +kernel) (by decide) (LA_o h0) rfl rfl).trans ?_
  refine (sx_istore_n (al' := [(2, a0), (0, a1), (0, I a0 10)]) D99_4 (Nat.le_of_ble_eq_true rfl) rfl rfl).trans ?_
  exact rfl
theorem E99_5 {d : Nat} {a0 a1 a2 : Int} {S : SS} {I : II} (h0 : LA S a0) : ev (d + 1) 99 5 [(2, a0), (0, a1), (0, a2)] [] S I = if w a2 < w (I a0 9) then ((ev d 10 0 [(0, I (a0 + 2) (a2 % 8))] [] S I).bind (fun q => ev (d + 1) 99 25 [(2, a0), (0, a1), (0, a2)] (psh q.1 []) q.2.1 q.2.2)) else (some ((0, (-1)), S, I)) := by
  refine (sx_iload_n D99_5 rfl).trans ?_
  refine (sx_aload_n D99_6 rfl).trans ?_
  refine (sx_gfI (q := (3, 9, 0, 96)) (j := 9) D99_7 (by decide +kernel) (by decide +kernel) (by decide) (LA_o h0) rfl rfl).trans ?_
  refine sx_if_ge (pc' := 37) D99_10 (by decide) (by decide) ?_ ?_ rfl rfl
  · refine (sx_aload_n D99_13 rfl).trans ?_
    refine (sx_gfR (q := (3, 15, 0, 105)) (b := a0 + 2) D99_14 (by decide +kernel) (by decide +kernel) (by decide) (LA_o h0) (LA_g15 h0)).trans ?_
    refine (sx_iload_n D99_17 rfl).trans ?_
    refine (sx_bipush D99_18 (by decide)).trans ?_
    refine (sx_iand D99_20).trans ?_
    refine (sx_iaK (j := a2 % 8) D99_21 (LA_k15 h0) (w_and7 _) (mod8_lo _) (mod8_hi _) rfl).trans ?_
    exact sx_stat (ag := [(0, I (a0 + 2) (a2 % 8))]) (r := []) (al' := [(0, I (a0 + 2) (a2 % 8))]) (np := 1) (nl := 1) (q := (0, 10, 773)) D99_22 (by decide +kernel) (by decide) mP_10 mL_10 (Nat.le_of_ble_eq_true rfl) rfl rfl (by simp [cat]) rfl rfl
  · refine (sx_iconst D99_37).trans ?_
    exact sx_ireturn D99_38 (by decide +kernel)
theorem E99_25 {d : Nat} {a0 a1 a2 s0 : Int} {S : SS} {I : II}  : ev d 99 25 [(2, a0), (0, a1), (0, a2)] [(0, s0)] S I = if w s0 = w a1 then (some ((0, a2), S, I)) else (ev d 99 5 [(2, a0), (0, a1), (0, a2 + 1)] [] S I) := by
  refine (sx_iload_n D99_25 rfl).trans ?_
  refine sx_if_ne (pc' := 31) D99_26 (by decide) (by decide) ?_ ?_ rfl rfl
  · refine (sx_iload_n D99_29 rfl).trans ?_
    exact sx_ireturn D99_30 (by decide +kernel)
  · refine (sx_iinc (al' := [(2, a0), (0, a1), (0, a2 + 1)]) D99_31 rfl rfl).trans ?_
    refine (sx_goto (pc' := 5) D99_34 (by decide) (by decide)).trans ?_
    exact rfl
theorem E100_0 {d : Nat} {a0 : Int} {S : SS} {I : II} (h0 : LA S a0) : ev d 100 0 [(2, a0), uU, uU] [] S I = ev d 100 12 [(2, a0), (0, (I a0 9) - (I a0 10)), (0, 0)] [] S I := by
  refine (sx_aload_n D100_0 rfl).trans ?_
  refine (sx_gfI (q := (3, 9, 0, 96)) (j := 9) D100_1 (by decide +kernel) (by decide +kernel) (by decide) (LA_o h0) rfl rfl).trans ?_
  refine (sx_aload_n D100_4 rfl).trans ?_
  refine (sx_gfI (q := (3, 10, 0, 98)) (j := 10) D100_5 (by decide +kernel) (by decide +kernel) (by decide) (LA_o h0) rfl rfl).trans ?_
  refine (sx_isub D100_8).trans ?_
  refine (sx_istore_n (al' := [(2, a0), (0, (I a0 9) - (I a0 10)), uU]) D100_9 (Nat.le_of_ble_eq_true rfl) rfl rfl).trans ?_
  refine (sx_iconst D100_10).trans ?_
  refine (sx_istore_n (al' := [(2, a0), (0, (I a0 9) - (I a0 10)), (0, 0)]) D100_11 (Nat.le_of_ble_eq_true rfl) rfl rfl).trans ?_
  exact rfl
theorem E100_12 {d : Nat} {a0 a1 a2 : Int} {S : SS} {I : II} (h0 : LA S a0) : ev (d + 1) 100 12 [(2, a0), (0, a1), (0, a2)] [] S I = if w a2 < w a1 then ((ev d 91 0 [(2, a0)] [] S I).bind (fun q => ev (d + 1) 100 21 [(2, a0), (0, a1), (0, a2)] (psh q.1 []) q.2.1 q.2.2)) else (some (uU, S, I)) := by
  refine (sx_iload_n D100_12 rfl).trans ?_
  refine (sx_iload_n D100_13 rfl).trans ?_
  refine sx_if_ge (pc' := 27) D100_14 (by decide) (by decide) ?_ ?_ rfl rfl
  · refine (sx_aload_n D100_17 rfl).trans ?_
    exact sx_virt (c := 5) (ag := [(2, a0)]) (r := []) (al' := [(2, a0)]) (np := 0) (nl := 1) (q := (1, 91, 1038)) D100_18 (by decide +kernel) (by decide) mP_91 mL_91 mC_91 (Nat.le_of_ble_eq_true rfl) rfl rfl (by simp [cat]) (by decide) (LA_o h0) rfl rfl
  · exact sx_return D100_27 (by decide +kernel)
theorem E100_21 {d : Nat} {a0 a1 a2 : Int} {S : SS} {I : II}  : ev d 100 21 [(2, a0), (0, a1), (0, a2)] [] S I = ev d 100 12 [(2, a0), (0, a1), (0, a2 + 1)] [] S I := by
  refine (sx_iinc (al' := [(2, a0), (0, a1), (0, a2 + 1)]) D100_21 rfl rfl).trans ?_
  refine (sx_goto (pc' := 12) D100_24 (by decide) (by decide)).trans ?_
  exact rfl
theorem E101_0 {d : Nat} {S : SS} {I : II} (h0 : (0 : Int) ≤ 67) : ev d 101 0 [(2, 67), uU] [] S I = ev d 101 10 [(2, 67), uU] [(2, (S.1 : Int)), (2, 67)] (newS S 24 9) (newI S I) := by
  refine (sx_aload_n D101_0 rfl).trans ?_
  refine (sx_obj (q := (10, 0, 211)) D101_1 (by decide +kernel) rfl h0 (by simp [cat])).trans ?_
  refine (sx_aload_n D101_4 rfl).trans ?_
  refine (sx_bipush D101_5 (by decide)).trans ?_
  refine (sx_newref (kk := 24) (q := (1, 212)) D101_7 (by decide +kernel) (by decide) (by decide)).trans ?_
  exact rfl
theorem E101_10 {d : Nat} {s1 : Int} {S : SS} {I : II} (h0 : (0 : Int) ≤ s1) (h1 : KO S 67 4) : ev d 101 10 [(2, 67), uU] [(2, s1), (2, 67)] S I = ev d 101 13 [(2, 67), uU] [] (S.1, S.2.1, S.2.2.1, up2 (sG S) 67 0 s1) I := by
  refine (sx_pfR (q := (4, 0, 0, 215)) (j := 0) D101_10 (by decide +kernel) (by decide +kernel) (by decide) h1 h0 rfl).trans ?_
  exact rfl
theorem E101_13 {d : Nat} {S : SS} {I : II}  : ev d 101 13 [(2, 67), uU] [] S I = ev d 101 18 [(2, 67), uU] [(2, (S.1 : Int)), (2, 67)] (newS S 24 2) (newI S I) := by
  refine (sx_aload_n D101_13 rfl).trans ?_
  refine (sx_iconst D101_14).trans ?_
  refine (sx_newref (kk := 24) (q := (1, 212)) D101_15 (by decide +kernel) (by decide) (by decide)).trans ?_
  exact rfl
theorem E101_18 {d : Nat} {s1 : Int} {S : SS} {I : II} (h0 : (0 : Int) ≤ s1) (h1 : KO S 67 4) : ev d 101 18 [(2, 67), uU] [(2, s1), (2, 67)] S I = ev d 101 21 [(2, 67), uU] [] (S.1, S.2.1, S.2.2.1, up2 (sG S) 67 3 s1) I := by
  refine (sx_pfR (q := (4, 3, 0, 219)) (j := 3) D101_18 (by decide +kernel) (by decide +kernel) (by decide) h1 h0 rfl).trans ?_
  exact rfl
theorem E101_21 {d : Nat} {S : SS} {I : II}  : ev d 101 21 [(2, 67), uU] [] S I = ev d 101 25 [(2, 67), uU] [(2, (S.1 : Int)), (2, 67)] (newS S 23 2) (newI S I) := by
  refine (sx_aload_n D101_21 rfl).trans ?_
  refine (sx_iconst D101_22).trans ?_
  refine (sx_newarr (kk := 23) D101_23 (by decide) (by decide)).trans ?_
  exact rfl
theorem E101_25 {d : Nat} {s1 : Int} {S : SS} {I : II} (h0 : (0 : Int) ≤ s1) (h1 : KO S 67 4) : ev d 101 25 [(2, 67), uU] [(2, s1), (2, 67)] S I = ev d 101 28 [(2, 67), uU] [] (S.1, S.2.1, S.2.2.1, up2 (sG S) 67 4 s1) I := by
  refine (sx_pfR (q := (4, 4, 0, 220)) (j := 4) D101_25 (by decide +kernel) (by decide +kernel) (by decide) h1 h0 rfl).trans ?_
  exact rfl
theorem E101_28 {d : Nat} {S : SS} {I : II}  : ev d 101 28 [(2, 67), uU] [] S I = ev d 101 30 [(2, 67), (0, 0)] [] S I := by
  refine (sx_iconst D101_28).trans ?_
  refine (sx_istore_n (al' := [(2, 67), (0, 0)]) D101_29 (Nat.le_of_ble_eq_true rfl) rfl rfl).trans ?_
  exact rfl
theorem E101_30 {d : Nat} {a1 : Int} {S : SS} {I : II} (h0 : KO S 67 4) : ev d 101 30 [(2, 67), (0, a1)] [] S I = if 8 < w a1 then (ev d 101 57 [(2, 67), (0, 0)] [] S I) else (ev d 101 44 [(2, 67), (0, a1)] [(2, (S.1 : Int)), (0, a1), (2, sG S 67 0)] (newS S 1 17) (newI S I)) := by
  refine (sx_iload_n D101_30 rfl).trans ?_
  refine (sx_bipush D101_31 (by decide)).trans ?_
  refine sx_if_gt (pc' := 55) D101_33 (by decide) (by decide) ?_ ?_ rfl (w_small (by decide) (by decide))
  · refine (sx_iconst D101_55).trans ?_
    refine (sx_istore_n (al' := [(2, 67), (0, 0)]) D101_56 (Nat.le_of_ble_eq_true rfl) rfl rfl).trans ?_
    exact rfl
  · refine (sx_aload_n D101_36 rfl).trans ?_
    refine (sx_gfR (q := (4, 0, 0, 215)) (b := sG S 67 0) D101_37 (by decide +kernel) (by decide +kernel) (by decide) h0 rfl).trans ?_
    refine (sx_iload_n D101_40 rfl).trans ?_
    refine (sx_newobj (q := (1, 212)) D101_41 (by decide +kernel)).trans ?_
    exact rfl
theorem E101_44 {d : Nat} {a1 s0 s1 s2 : Int} {S : SS} {I : II} (h0 : (0 : Int) ≤ s2) : ev (d + 1) 101 44 [(2, 67), (0, a1)] [(2, s2), (0, s1), (2, s0)] S I = (ev d 14 0 [(2, s2), uU] [] S I).bind (fun q => ev (d + 1) 101 48 [(2, 67), (0, a1)] (psh q.1 [(2, s2), (0, s1), (2, s0)]) q.2.1 q.2.2) := by
  refine (sx_dup D101_44 (by decide)).trans ?_
  exact sx_spec (ag := [(2, s2)]) (r := [(2, s2), (0, s1), (2, s0)]) (al' := [(2, s2), uU]) (np := 0) (nl := 2) (q := (2, 14, 214)) D101_45 (by decide +kernel) (by decide) mP_14 mL_14 (Nat.le_of_ble_eq_true rfl) rfl rfl (by simp [cat]) h0 rfl rfl
theorem E101_48 {d : Nat} {a1 s0 s1 s2 ln0 : Int} {S : SS} {I : II} (h0 : KA S s0 24 ln0) (h1 : KO S s2 1) (h2 : 0 ≤ w s1 ∧ w s1 < ln0) : ev d 101 48 [(2, 67), (0, a1)] [(2, s2), (0, s1), (2, s0)] S I = ev d 101 49 [(2, 67), (0, a1)] [] (S.1, S.2.1, S.2.2.1, up2 (sG S) s0 (w s1) s2) I := by
  refine (sx_rs (kk := 24) D101_48 (Or.inl ⟨rfl, h1⟩) h0 h2).trans ?_
  exact rfl
theorem E101_49 {d : Nat} {a1 : Int} {S : SS} {I : II}  : ev d 101 49 [(2, 67), (0, a1)] [] S I = ev d 101 30 [(2, 67), (0, a1 + 1)] [] S I := by
  refine (sx_iinc (al' := [(2, 67), (0, a1 + 1)]) D101_49 rfl rfl).trans ?_
  refine (sx_goto (pc' := 30) D101_52 (by decide) (by decide)).trans ?_
  exact rfl
theorem E101_57 {d : Nat} {a1 : Int} {S : SS} {I : II} (h0 : KO S 67 4) : ev d 101 57 [(2, 67), (0, a1)] [] S I = if w a1 < 2 then (ev d 101 70 [(2, 67), (0, a1)] [(2, (S.1 : Int)), (0, a1), (2, sG S 67 3)] (newS S 1 17) (newI S I)) else (some (uU, S, I)) := by
  refine (sx_iload_n D101_57 rfl).trans ?_
  refine (sx_iconst D101_58).trans ?_
  refine sx_if_ge (pc' := 81) D101_59 (by decide) (by decide) ?_ ?_ rfl (w_small (by decide) (by decide))
  · refine (sx_aload_n D101_62 rfl).trans ?_
    refine (sx_gfR (q := (4, 3, 0, 219)) (b := sG S 67 3) D101_63 (by decide +kernel) (by decide +kernel) (by decide) h0 rfl).trans ?_
    refine (sx_iload_n D101_66 rfl).trans ?_
    refine (sx_newobj (q := (1, 212)) D101_67 (by decide +kernel)).trans ?_
    exact rfl
  · exact sx_return D101_81 (by decide +kernel)
theorem E101_70 {d : Nat} {a1 s0 s1 s2 : Int} {S : SS} {I : II} (h0 : (0 : Int) ≤ s2) : ev (d + 1) 101 70 [(2, 67), (0, a1)] [(2, s2), (0, s1), (2, s0)] S I = (ev d 14 0 [(2, s2), uU] [] S I).bind (fun q => ev (d + 1) 101 74 [(2, 67), (0, a1)] (psh q.1 [(2, s2), (0, s1), (2, s0)]) q.2.1 q.2.2) := by
  refine (sx_dup D101_70 (by decide)).trans ?_
  exact sx_spec (ag := [(2, s2)]) (r := [(2, s2), (0, s1), (2, s0)]) (al' := [(2, s2), uU]) (np := 0) (nl := 2) (q := (2, 14, 214)) D101_71 (by decide +kernel) (by decide) mP_14 mL_14 (Nat.le_of_ble_eq_true rfl) rfl rfl (by simp [cat]) h0 rfl rfl
theorem E101_74 {d : Nat} {a1 s0 s1 s2 ln0 : Int} {S : SS} {I : II} (h0 : KA S s0 24 ln0) (h1 : KO S s2 1) (h2 : 0 ≤ w s1 ∧ w s1 < ln0) : ev d 101 74 [(2, 67), (0, a1)] [(2, s2), (0, s1), (2, s0)] S I = ev d 101 75 [(2, 67), (0, a1)] [] (S.1, S.2.1, S.2.2.1, up2 (sG S) s0 (w s1) s2) I := by
  refine (sx_rs (kk := 24) D101_74 (Or.inl ⟨rfl, h1⟩) h0 h2).trans ?_
  exact rfl
theorem E101_75 {d : Nat} {a1 : Int} {S : SS} {I : II}  : ev d 101 75 [(2, 67), (0, a1)] [] S I = ev d 101 57 [(2, 67), (0, a1 + 1)] [] S I := by
  refine (sx_iinc (al' := [(2, 67), (0, a1 + 1)]) D101_75 rfl rfl).trans ?_
  refine (sx_goto (pc' := 57) D101_78 (by decide) (by decide)).trans ?_
  exact rfl
theorem E102_0 {d : Nat} {S : SS} {I : II} (h0 : PA S 67) : ev d 102 0 [(2, 67)] [] S I = some (uU, S, (up2 I 67 2 0)) := by
  refine (sx_aload_n D102_0 rfl).trans ?_
  refine (sx_iconst D102_1).trans ?_
  refine (sx_pfI (q := (4, 2, 0, 217)) (j := 2) D102_2 (by decide +kernel) (by decide) (by decide) (PA_o h0) rfl).trans ?_
  exact sx_return D102_5 (by decide +kernel)
theorem E103_0 {d : Nat} {a1 : Int} {S : SS} {I : II} (h0 : PA S 67) : ev (d + 1) 103 0 [(2, 67), (2, a1)] [] S I = if w (I 67 1) < 0 then (ev (d + 1) 103 29 [(2, 67), (2, a1)] [] S I) else (if 8 < w (I 67 1) then (ev (d + 1) 103 29 [(2, 67), (2, a1)] [] S I) else (gdR (0 ≤ w (I 67 1) ∧ w (I 67 1) < 9) ((ev d 19 0 [(2, 71 + 31 * (w (I 67 1))), (2, a1), uU] [] S I).bind (fun q => ev (d + 1) 103 29 [(2, 67), (2, a1)] (psh q.1 []) q.2.1 q.2.2)))) := by
  refine (sx_aload_n D103_0 rfl).trans ?_
  refine (sx_gfI (q := (4, 1, 0, 216)) (j := 1) D103_1 (by decide +kernel) (by decide +kernel) (by decide) (PA_o h0) rfl rfl).trans ?_
  refine sx_i0_lt (pc' := 29) D103_4 (by decide) (by decide) ?_ ?_ rfl
  · exact rfl
  · refine (sx_aload_n D103_7 rfl).trans ?_
    refine (sx_gfI (q := (4, 1, 0, 216)) (j := 1) D103_8 (by decide +kernel) (by decide +kernel) (by decide) (PA_o h0) rfl rfl).trans ?_
    refine (sx_bipush D103_11 (by decide)).trans ?_
    refine sx_if_gt (pc' := 29) D103_13 (by decide) (by decide) ?_ ?_ rfl (w_small (by decide) (by decide))
    · exact rfl
    · refine (sx_aload_n D103_16 rfl).trans ?_
      refine (sx_gfR (q := (4, 0, 0, 215)) (b := 68) D103_17 (by decide +kernel) (by decide +kernel) (by decide) (PA_o h0) (PA_g0 h0)).trans ?_
      refine (sx_aload_n D103_20 rfl).trans ?_
      refine (sx_gfI (q := (4, 1, 0, 216)) (j := 1) D103_21 (by decide +kernel) (by decide +kernel) (by decide) (PA_o h0) rfl rfl).trans ?_
      refine (sx_ra D103_24 (Or.inl rfl) (PA_k0 h0)).trans (gdR_to fun g1 => ?_)
      rw [(PA_e0 h0 _ g1.1 g1.2).1]
      show ev (d + 1) 103 25 [(2, 67), (2, a1)] [(2, 71 + 31 * (w (I 67 1)))] S I = _
      refine (sx_aload_n D103_25 rfl).trans ?_
      exact sx_virt (c := 3) (ag := [(2, 71 + 31 * (w (I 67 1))), (2, a1)]) (r := []) (al' := [(2, 71 + 31 * (w (I 67 1))), (2, a1), uU]) (np := 1) (nl := 3) (q := (1, 19, 529)) D103_26 (by decide +kernel) (by decide) mP_19 mL_19 mC_19 (Nat.le_of_ble_eq_true rfl) rfl rfl (by simp [cat]) (by decide) (DA_o (PA_e0 h0 _ g1.1 g1.2).2) rfl rfl
theorem E103_29 {d : Nat} {a1 : Int} {S : SS} {I : II}  : ev d 103 29 [(2, 67), (2, a1)] [] S I = some (uU, S, I) := by
  exact sx_return D103_29 (by decide +kernel)
theorem E104_0 {d : Nat} {a1 : Int} {S : SS} {I : II} (h0 : PA S 67) : ev d 104 0 [(2, 67), (0, a1)] [] S I = if w a1 < 0 then (ev d 104 32 [(2, 67), (0, a1)] [] S I) else (ev d 104 32 [(2, 67), (0, a1)] [] S (up2 (up2 I 67 1 (iRem ((I 67 1) + 1) 9)) 67 2 (if w ((I 67 2) + 1) < 8 then w ((I 67 2) + 1) else 8))) := by
  refine (sx_iload_n D104_0 rfl).trans ?_
  refine sx_i0_lt (pc' := 32) D104_1 (by decide) (by decide) ?_ ?_ rfl
  · exact rfl
  · refine (sx_aload_n D104_4 rfl).trans ?_
    refine (sx_aload_n D104_5 rfl).trans ?_
    refine (sx_gfI (q := (4, 1, 0, 216)) (j := 1) D104_6 (by decide +kernel) (by decide +kernel) (by decide) (PA_o h0) rfl rfl).trans ?_
    refine (sx_iconst D104_9).trans ?_
    refine (sx_iadd D104_10).trans ?_
    refine (sx_bipush D104_11 (by decide)).trans ?_
    refine ((sx_irem D104_13).trans (gdR_pos (by decide))).trans ?_
    refine (sx_pfI (q := (4, 1, 0, 216)) (j := 1) D104_14 (by decide +kernel) (by decide) (by decide) (PA_o h0) rfl).trans ?_
    refine (sx_aload_n D104_17 rfl).trans ?_
    refine (sx_bipush D104_18 (by decide)).trans ?_
    refine (sx_aload_n D104_20 rfl).trans ?_
    refine (sx_gfI (q := (4, 2, 0, 217)) (j := 2) D104_21 (by decide +kernel) (by decide +kernel) (by decide) (PA_o h0) rfl (up2_slot (by decide))).trans ?_
    refine (sx_iconst D104_24).trans ?_
    refine (sx_iadd D104_25).trans ?_
    refine (sx_min (q := (13, 0, 570)) D104_26 (by decide +kernel) rfl (by simp [cat]) (w_small (by decide) (by decide)) rfl).trans ?_
    refine (sx_pfI (q := (4, 2, 0, 217)) (j := 2) D104_29 (by decide +kernel) (by decide) (by decide) (PA_o h0) rfl).trans ?_
    exact rfl
theorem E104_32 {d : Nat} {a1 : Int} {S : SS} {I : II}  : ev d 104 32 [(2, 67), (0, a1)] [] S I = some ((0, a1), S, I) := by
  refine (sx_iload_n D104_32 rfl).trans ?_
  exact sx_ireturn D104_33 (by decide +kernel)
theorem E105_0 {d : Nat} {a1 : Int} {S : SS} {I : II} (h0 : PA S 67) : ev d 105 0 [(2, 67), (2, a1)] [] S I = if w (I 67 2) < 1 then (some ((0, (-1)), S, I)) else (if 0 < w (I 67 1) then (if 8 < w (I 67 1) then (ev d 105 36 [(2, 67), (2, a1)] [(2, 67)] S I) else (ev d 105 38 [(2, 67), (2, a1)] [(0, (I 67 1) - 1), (2, 67)] S I)) else (ev d 105 36 [(2, 67), (2, a1)] [(2, 67)] S I)) := by
  refine (sx_aload_n D105_0 rfl).trans ?_
  refine (sx_gfI (q := (4, 2, 0, 217)) (j := 2) D105_1 (by decide +kernel) (by decide +kernel) (by decide) (PA_o h0) rfl rfl).trans ?_
  refine (sx_iconst D105_4).trans ?_
  refine sx_if_ge (pc' := 10) D105_5 (by decide) (by decide) ?_ ?_ rfl (w_small (by decide) (by decide))
  · refine (sx_iconst D105_8).trans ?_
    exact sx_ireturn D105_9 (by decide +kernel)
  · refine (sx_aload_n D105_10 rfl).trans ?_
    refine (sx_aload_n D105_11 rfl).trans ?_
    refine (sx_gfI (q := (4, 1, 0, 216)) (j := 1) D105_12 (by decide +kernel) (by decide +kernel) (by decide) (PA_o h0) rfl rfl).trans ?_
    refine sx_i0_le (pc' := 36) D105_15 (by decide) (by decide) ?_ ?_ rfl
    · refine (sx_aload_n D105_18 rfl).trans ?_
      refine (sx_gfI (q := (4, 1, 0, 216)) (j := 1) D105_19 (by decide +kernel) (by decide +kernel) (by decide) (PA_o h0) rfl rfl).trans ?_
      refine (sx_bipush D105_22 (by decide)).trans ?_
      refine sx_if_gt (pc' := 36) D105_24 (by decide) (by decide) ?_ ?_ rfl (w_small (by decide) (by decide))
      · exact rfl
      · refine (sx_aload_n D105_27 rfl).trans ?_
        refine (sx_gfI (q := (4, 1, 0, 216)) (j := 1) D105_28 (by decide +kernel) (by decide +kernel) (by decide) (PA_o h0) rfl rfl).trans ?_
        refine (sx_iconst D105_31).trans ?_
        refine (sx_isub D105_32).trans ?_
        refine (sx_goto (pc' := 38) D105_33 (by decide) (by decide)).trans ?_
        exact rfl
    · exact rfl
theorem E105_36 {d : Nat} {a1 : Int} {S : SS} {I : II}  : ev d 105 36 [(2, 67), (2, a1)] [(2, 67)] S I = ev d 105 38 [(2, 67), (2, a1)] [(0, 8), (2, 67)] S I := by
  refine (sx_bipush D105_36 (by decide)).trans ?_
  exact rfl
theorem E105_38 {d : Nat} {a1 s1 : Int} {S : SS} {I : II} (h0 : PA S 67) (h1 : DA S a1) : ev (d + 1) 105 38 [(2, 67), (2, a1)] [(0, s1), (2, 67)] S I = gdR (0 ≤ w s1 ∧ w s1 < 9) ((ev d 19 0 [(2, a1), (2, 71 + 31 * (w s1)), uU] [] S (up2 (up2 I 67 1 s1) 67 2 ((I 67 2) - 1))).bind (fun q => ev (d + 1) 105 64 [(2, 67), (2, a1)] (psh q.1 []) q.2.1 q.2.2)) := by
  refine (sx_pfI (q := (4, 1, 0, 216)) (j := 1) D105_38 (by decide +kernel) (by decide) (by decide) (PA_o h0) rfl).trans ?_
  refine (sx_aload_n D105_41 rfl).trans ?_
  refine (sx_dup D105_42 (by decide)).trans ?_
  refine (sx_gfI (q := (4, 2, 0, 217)) (j := 2) D105_43 (by decide +kernel) (by decide +kernel) (by decide) (PA_o h0) rfl (up2_slot (by decide))).trans ?_
  refine (sx_iconst D105_46).trans ?_
  refine (sx_isub D105_47).trans ?_
  refine (sx_pfI (q := (4, 2, 0, 217)) (j := 2) D105_48 (by decide +kernel) (by decide) (by decide) (PA_o h0) rfl).trans ?_
  refine (sx_aload_n D105_51 rfl).trans ?_
  refine (sx_aload_n D105_52 rfl).trans ?_
  refine (sx_gfR (q := (4, 0, 0, 215)) (b := 68) D105_53 (by decide +kernel) (by decide +kernel) (by decide) (PA_o h0) (PA_g0 h0)).trans ?_
  refine (sx_aload_n D105_56 rfl).trans ?_
  refine (sx_gfI (q := (4, 1, 0, 216)) (j := 1) D105_57 (by decide +kernel) (by decide +kernel) (by decide) (PA_o h0) rfl ((up2_slot (by decide)).trans (up2_same _ _ _ _))).trans ?_
  refine (sx_ra D105_60 (Or.inl rfl) (PA_k0 h0)).trans (gdR_to fun g1 => ?_)
  rw [(PA_e0 h0 _ g1.1 g1.2).1]
  show ev (d + 1) 105 61 [(2, 67), (2, a1)] [(2, 71 + 31 * (w s1)), (2, a1)] S (up2 (up2 I 67 1 s1) 67 2 ((I 67 2) - 1)) = _
  exact sx_virt (c := 3) (ag := [(2, a1), (2, 71 + 31 * (w s1))]) (r := []) (al' := [(2, a1), (2, 71 + 31 * (w s1)), uU]) (np := 1) (nl := 3) (q := (1, 19, 529)) D105_61 (by decide +kernel) (by decide) mP_19 mL_19 mC_19 (Nat.le_of_ble_eq_true rfl) rfl rfl (by simp [cat]) (by decide) (DA_o h1) rfl rfl
theorem E105_64 {d : Nat} {a1 : Int} {S : SS} {I : II} (h0 : PA S 67) : ev d 105 64 [(2, 67), (2, a1)] [] S I = some ((0, I 67 2), S, I) := by
  refine (sx_aload_n D105_64 rfl).trans ?_
  refine (sx_gfI (q := (4, 2, 0, 217)) (j := 2) D105_65 (by decide +kernel) (by decide +kernel) (by decide) (PA_o h0) rfl rfl).trans ?_
  exact sx_ireturn D105_68 (by decide +kernel)
theorem E106_0 {d : Nat} {a1 a2 : Int} {S : SS} {I : II} (h0 : PA S 67) : ev (d + 1) 106 0 [(2, 67), (0, a1), (2, a2)] [] S I = if w a1 < 0 then (ev (d + 1) 106 9 [(2, 67), (0, a1), (2, a2)] [] S I) else (if w a1 < 2 then (gdR (0 ≤ w a1 ∧ w a1 < 2) ((ev d 19 0 [(2, 350 + 31 * (w a1)), (2, a2), uU] [] S I).bind (fun q => ev (d + 1) 106 21 [(2, 67), (0, a1), (2, a2)] (psh q.1 []) q.2.1 q.2.2))) else (ev (d + 1) 106 9 [(2, 67), (0, a1), (2, a2)] [] S I)) := by
  refine (sx_iload_n D106_0 rfl).trans ?_
  refine sx_i0_lt (pc' := 9) D106_1 (by decide) (by decide) ?_ ?_ rfl
  · exact rfl
  · refine (sx_iload_n D106_4 rfl).trans ?_
    refine (sx_iconst D106_5).trans ?_
    refine sx_if_lt (pc' := 11) D106_6 (by decide) (by decide) ?_ ?_ rfl (w_small (by decide) (by decide))
    · refine (sx_aload_n D106_11 rfl).trans ?_
      refine (sx_gfR (q := (4, 3, 0, 219)) (b := 69) D106_12 (by decide +kernel) (by decide +kernel) (by decide) (PA_o h0) (PA_g3 h0)).trans ?_
      refine (sx_iload_n D106_15 rfl).trans ?_
      refine (sx_ra D106_16 (Or.inl rfl) (PA_k3 h0)).trans (gdR_to fun g1 => ?_)
      rw [(PA_e3 h0 _ g1.1 g1.2).1]
      show ev (d + 1) 106 17 [(2, 67), (0, a1), (2, a2)] [(2, 350 + 31 * (w a1))] S I = _
      refine (sx_aload_n D106_17 rfl).trans ?_
      exact sx_virt (c := 3) (ag := [(2, 350 + 31 * (w a1)), (2, a2)]) (r := []) (al' := [(2, 350 + 31 * (w a1)), (2, a2), uU]) (np := 1) (nl := 3) (q := (1, 19, 529)) D106_18 (by decide +kernel) (by decide) mP_19 mL_19 mC_19 (Nat.le_of_ble_eq_true rfl) rfl rfl (by simp [cat]) (by decide) (DA_o (PA_e3 h0 _ g1.1 g1.2).2) rfl rfl
    · exact rfl
theorem E106_9 {d : Nat} {a1 a2 : Int} {S : SS} {I : II}  : ev d 106 9 [(2, 67), (0, a1), (2, a2)] [] S I = some ((0, 0), S, I) := by
  refine (sx_iconst D106_9).trans ?_
  exact sx_zreturn D106_10 (by decide +kernel) (by decide)
theorem E106_21 {d : Nat} {a1 a2 : Int} {S : SS} {I : II} (h0 : PA S 67) : ev d 106 21 [(2, 67), (0, a1), (2, a2)] [] S I = gdR (0 ≤ w a1 ∧ w a1 < 2) (some ((0, 1), S, (up2 I 70 (w a1) 1))) := by
  refine (sx_aload_n D106_21 rfl).trans ?_
  refine (sx_gfR (q := (4, 4, 0, 220)) (b := 70) D106_22 (by decide +kernel) (by decide +kernel) (by decide) (PA_o h0) (PA_g4 h0)).trans ?_
  refine (sx_iload_n D106_25 rfl).trans ?_
  refine (sx_iconst D106_26).trans ?_
  refine (sx_zsK D106_27 (PA_k4 h0) (by decide)).trans (gdR_to fun g1 => ?_)
  refine (sx_iconst D106_28).trans ?_
  exact sx_zreturn D106_29 (by decide +kernel) (by decide)
theorem E107_0 {d : Nat} {a1 a2 : Int} {S : SS} {I : II} (h0 : PA S 67) (h1 : DA S a2) : ev (d + 1) 107 0 [(2, 67), (0, a1), (2, a2)] [] S I = if w a1 < 0 then (ev (d + 1) 107 34 [(2, 67), (0, a1), (2, a2)] [] S I) else (if w a1 < 2 then (gdR (0 ≤ w a1 ∧ w a1 < 2) (if w (I 70 (w a1)) = 0 then (ev (d + 1) 107 34 [(2, 67), (0, a1), (2, a2)] [] S I) else (gdR (0 ≤ w a1 ∧ w a1 < 2) (if w (I (350 + 31 * (w a1)) 0) = w (I a2 0) then (gdR (0 ≤ w a1 ∧ w a1 < 2) ((ev d 19 0 [(2, a2), (2, 350 + 31 * (w a1)), uU] [] S I).bind (fun q => ev (d + 1) 107 46 [(2, 67), (0, a1), (2, a2)] (psh q.1 []) q.2.1 q.2.2))) else (ev (d + 1) 107 34 [(2, 67), (0, a1), (2, a2)] [] S I))))) else (ev (d + 1) 107 34 [(2, 67), (0, a1), (2, a2)] [] S I)) := by
  refine (sx_iload_n D107_0 rfl).trans ?_
  refine sx_i0_lt (pc' := 34) D107_1 (by decide) (by decide) ?_ ?_ rfl
  · exact rfl
  · refine (sx_iload_n D107_4 rfl).trans ?_
    refine (sx_iconst D107_5).trans ?_
    refine sx_if_ge (pc' := 34) D107_6 (by decide) (by decide) ?_ ?_ rfl (w_small (by decide) (by decide))
    · refine (sx_aload_n D107_9 rfl).trans ?_
      refine (sx_gfR (q := (4, 4, 0, 220)) (b := 70) D107_10 (by decide +kernel) (by decide +kernel) (by decide) (PA_o h0) (PA_g4 h0)).trans ?_
      refine (sx_iload_n D107_13 rfl).trans ?_
      refine (sx_za D107_14 (PA_k4 h0) rfl).trans (gdR_to fun g1 => ?_)
      refine sx_i0_eq (pc' := 34) D107_15 (by decide) (by decide) ?_ ?_ rfl
      · exact rfl
      · refine (sx_aload_n D107_18 rfl).trans ?_
        refine (sx_gfR (q := (4, 3, 0, 219)) (b := 69) D107_19 (by decide +kernel) (by decide +kernel) (by decide) (PA_o h0) (PA_g3 h0)).trans ?_
        refine (sx_iload_n D107_22 rfl).trans ?_
        refine (sx_ra D107_23 (Or.inl rfl) (PA_k3 h0)).trans (gdR_to fun g2 => ?_)
        rw [(PA_e3 h0 _ g2.1 g2.2).1]
        show ev (d + 1) 107 24 [(2, 67), (0, a1), (2, a2)] [(2, 350 + 31 * (w a1))] S I = _
        refine (sx_gfI (q := (1, 0, 1, 147)) (j := 0) D107_24 (by decide +kernel) (by decide +kernel) (by decide) (DA_o (PA_e3 h0 _ g2.1 g2.2).2) rfl rfl).trans ?_
        refine (sx_aload_n D107_27 rfl).trans ?_
        refine (sx_gfI (q := (1, 0, 1, 147)) (j := 0) D107_28 (by decide +kernel) (by decide +kernel) (by decide) (DA_o h1) rfl rfl).trans ?_
        refine sx_if_eq (pc' := 36) D107_31 (by decide) (by decide) ?_ ?_ rfl rfl
        · refine (sx_aload_n D107_36 rfl).trans ?_
          refine (sx_aload_n D107_37 rfl).trans ?_
          refine (sx_gfR (q := (4, 3, 0, 219)) (b := 69) D107_38 (by decide +kernel) (by decide +kernel) (by decide) (PA_o h0) (PA_g3 h0)).trans ?_
          refine (sx_iload_n D107_41 rfl).trans ?_
          refine (sx_ra D107_42 (Or.inl rfl) (PA_k3 h0)).trans (gdR_to fun g3 => ?_)
          rw [(PA_e3 h0 _ g3.1 g3.2).1]
          show ev (d + 1) 107 43 [(2, 67), (0, a1), (2, a2)] [(2, 350 + 31 * (w a1)), (2, a2)] S I = _
          exact sx_virt (c := 3) (ag := [(2, a2), (2, 350 + 31 * (w a1))]) (r := []) (al' := [(2, a2), (2, 350 + 31 * (w a1)), uU]) (np := 1) (nl := 3) (q := (1, 19, 529)) D107_43 (by decide +kernel) (by decide) mP_19 mL_19 mC_19 (Nat.le_of_ble_eq_true rfl) rfl rfl (by simp [cat]) (by decide) (DA_o h1) rfl rfl
        · exact rfl
    · exact rfl
theorem E107_34 {d : Nat} {a1 a2 : Int} {S : SS} {I : II}  : ev d 107 34 [(2, 67), (0, a1), (2, a2)] [] S I = some ((0, 0), S, I) := by
  refine (sx_iconst D107_34).trans ?_
  exact sx_zreturn D107_35 (by decide +kernel) (by decide)
theorem E107_46 {d : Nat} {a1 a2 : Int} {S : SS} {I : II} (h0 : PA S 67) : ev (d + 1) 107 46 [(2, 67), (0, a1), (2, a2)] [] S I = (ev d 102 0 [(2, 67)] [] S I).bind (fun q => ev (d + 1) 107 50 [(2, 67), (0, a1), (2, a2)] (psh q.1 []) q.2.1 q.2.2) := by
  refine (sx_aload_n D107_46 rfl).trans ?_
  exact sx_virt (c := 6) (ag := [(2, 67)]) (r := []) (al' := [(2, 67)]) (np := 0) (nl := 1) (q := (1, 102, 1195)) D107_47 (by decide +kernel) (by decide) mP_102 mL_102 mC_102 (Nat.le_of_ble_eq_true rfl) rfl rfl (by simp [cat]) (by decide) (PA_o h0) rfl rfl
theorem E107_50 {d : Nat} {a1 a2 : Int} {S : SS} {I : II}  : ev d 107 50 [(2, 67), (0, a1), (2, a2)] [] S I = some ((0, 1), S, I) := by
  refine (sx_iconst D107_50).trans ?_
  exact sx_zreturn D107_51 (by decide +kernel) (by decide)
theorem E108_0 {d : Nat} {S : SS} {I : II} (h0 : (0 : Int) ≤ 3) : ev d 108 0 [(2, 3)] [] S I = ev d 108 9 [(2, 3)] [(2, (S.1 : Int)), (2, 3)] (newS S 21 12) (newI S I) := by
  refine (sx_aload_n D108_0 rfl).trans ?_
  refine (sx_obj (q := (10, 0, 55)) D108_1 (by decide +kernel) rfl h0 (by simp [cat])).trans ?_
  refine (sx_aload_n D108_4 rfl).trans ?_
  refine (sx_bipush D108_5 (by decide)).trans ?_
  refine (sx_newarr (kk := 21) D108_7 (by decide) (by decide)).trans ?_
  exact rfl
theorem E108_9 {d : Nat} {s1 : Int} {S : SS} {I : II} (h0 : (0 : Int) ≤ s1) (h1 : KO S 3 5) : ev d 108 9 [(2, 3)] [(2, s1), (2, 3)] S I = ev d 108 12 [(2, 3)] [] (S.1, S.2.1, S.2.2.1, up2 (sG S) 3 0 s1) I := by
  refine (sx_pfR (q := (5, 0, 0, 56)) (j := 0) D108_9 (by decide +kernel) (by decide +kernel) (by decide) h1 h0 rfl).trans ?_
  exact rfl
theorem E108_12 {d : Nat} {S : SS} {I : II}  : ev d 108 12 [(2, 3)] [] S I = some (uU, S, I) := by
  exact sx_return D108_12 (by decide +kernel)
theorem E109_0 {d : Nat} {a1 a3 : Int} {S : SS} {I : II} (h0 : RA S 3) : ev (d + 1) 109 0 [(2, 3), (1, a1), uU, (1, a3), uU] [] S I = (ev d 110 0 [(2, 3), (1, a1), uU] [] S I).bind (fun q => ev (d + 1) 109 5 [(2, 3), (1, a1), uU, (1, a3), uU] (psh q.1 []) q.2.1 q.2.2) := by
  refine (sx_aload_n D109_0 rfl).trans ?_
  refine (sx_lload_n D109_1 rfl).trans ?_
  exact sx_virt (c := 7) (ag := [(2, 3), (1, a1)]) (r := []) (al' := [(2, 3), (1, a1), uU]) (np := 1) (nl := 3) (q := (1, 110, 727)) D109_2 (by decide +kernel) (by decide) mP_110 mL_110 mC_110 (Nat.le_of_ble_eq_true rfl) rfl rfl (by simp [cat]) (by decide) (RA_o h0) rfl rfl
theorem E109_5 {d : Nat} {a1 a3 : Int} {S : SS} {I : II} (h0 : RA S 3) : ev (d + 1) 109 5 [(2, 3), (1, a1), uU, (1, a3), uU] [] S I = (ev d 112 0 [(2, 3), (1, a3), uU] [] S I).bind (fun q => ev (d + 1) 109 10 [(2, 3), (1, a1), uU, (1, a3), uU] (psh q.1 []) q.2.1 q.2.2) := by
  refine (sx_aload_n D109_5 rfl).trans ?_
  refine (sx_lload_n D109_6 rfl).trans ?_
  exact sx_virt (c := 7) (ag := [(2, 3), (1, a3)]) (r := []) (al' := [(2, 3), (1, a3), uU]) (np := 1) (nl := 3) (q := (1, 112, 735)) D109_7 (by decide +kernel) (by decide) mP_112 mL_112 mC_112 (Nat.le_of_ble_eq_true rfl) rfl rfl (by simp [cat]) (by decide) (RA_o h0) rfl rfl
theorem E109_10 {d : Nat} {a1 a3 : Int} {S : SS} {I : II}  : ev d 109 10 [(2, 3), (1, a1), uU, (1, a3), uU] [] S I = some (uU, S, I) := by
  exact sx_return D109_10 (by decide +kernel)
theorem E110_0 {d : Nat} {a1 : Int} {S : SS} {I : II} (h0 : RA S 3) : ev (d + 1) 110 0 [(2, 3), (1, a1), uU] [] S I = (ev d 111 0 [(2, 3)] [] S I).bind (fun q => ev (d + 1) 110 4 [(2, 3), (1, a1), uU] (psh q.1 []) q.2.1 q.2.2) := by
  refine (sx_aload_n D110_0 rfl).trans ?_
  exact sx_virt (c := 7) (ag := [(2, 3)]) (r := []) (al' := [(2, 3)]) (np := 0) (nl := 1) (q := (1, 111, 731)) D110_1 (by decide +kernel) (by decide) mP_111 mL_111 mC_111 (Nat.le_of_ble_eq_true rfl) rfl rfl (by simp [cat]) (by decide) (RA_o h0) rfl rfl
theorem E110_4 {d : Nat} {a1 : Int} {S : SS} {I : II} (h0 : RA S 3) : ev (d + 1) 110 4 [(2, 3), (1, a1), uU] [] S I = (ev d 112 0 [(2, 3), (1, a1), uU] [] S I).bind (fun q => ev (d + 1) 110 9 [(2, 3), (1, a1), uU] (psh q.1 []) q.2.1 q.2.2) := by
  refine (sx_aload_n D110_4 rfl).trans ?_
  refine (sx_lload_n D110_5 rfl).trans ?_
  exact sx_virt (c := 7) (ag := [(2, 3), (1, a1)]) (r := []) (al' := [(2, 3), (1, a1), uU]) (np := 1) (nl := 3) (q := (1, 112, 735)) D110_6 (by decide +kernel) (by decide) mP_112 mL_112 mC_112 (Nat.le_of_ble_eq_true rfl) rfl rfl (by simp [cat]) (by decide) (RA_o h0) rfl rfl
theorem E110_9 {d : Nat} {a1 : Int} {S : SS} {I : II}  : ev d 110 9 [(2, 3), (1, a1), uU] [] S I = some (uU, S, I) := by
  exact sx_return D110_9 (by decide +kernel)
theorem E111_0 {d : Nat} {S : SS} {I : II} (h0 : RA S 3) : ev d 111 0 [(2, 3)] [] S I = some (uU, S, (up2 I 3 1 0)) := by
  refine (sx_aload_n D111_0 rfl).trans ?_
  refine (sx_iconst D111_1).trans ?_
  refine (sx_pfI (q := (5, 1, 0, 57)) (j := 1) D111_2 (by decide +kernel) (by decide) (by decide) (RA_o h0) rfl).trans ?_
  exact sx_return D111_5 (by decide +kernel)
theorem E112_0 {d : Nat} {a1 : Int} {S : SS} {I : II} (h0 : RA S 3) : ev d 112 0 [(2, 3), (1, a1), uU] [] S I = if w (I 3 1) < 12 then (gdR (0 ≤ w (I 3 1) ∧ w (I 3 1) < 12) (ev d 112 29 [(2, 3), (1, a1), uU] [] S (up2 (up2 I 4 (w (I 3 1)) a1) 3 1 ((I 3 1) + 1)))) else (ev d 112 29 [(2, 3), (1, a1), uU] [] S I) := by
  refine (sx_aload_n D112_0 rfl).trans ?_
  refine (sx_gfI (q := (5, 1, 0, 57)) (j := 1) D112_1 (by decide +kernel) (by decide +kernel) (by decide) (RA_o h0) rfl rfl).trans ?_
  refine (sx_bipush D112_4 (by decide)).trans ?_
  refine sx_if_ge (pc' := 29) D112_6 (by decide) (by decide) ?_ ?_ rfl (w_small (by decide) (by decide))
  · refine (sx_aload_n D112_9 rfl).trans ?_
    refine (sx_gfR (q := (5, 0, 0, 56)) (b := 4) D112_10 (by decide +kernel) (by decide +kernel) (by decide) (RA_o h0) (RA_g0 h0)).trans ?_
    refine (sx_aload_n D112_13 rfl).trans ?_
    refine (sx_gfI (q := (5, 1, 0, 57)) (j := 1) D112_14 (by decide +kernel) (by decide +kernel) (by decide) (RA_o h0) rfl rfl).trans ?_
    refine (sx_lload_n D112_17 rfl).trans ?_
    refine (sx_js D112_18 (RA_k0 h0)).trans (gdR_to fun g1 => ?_)
    refine (sx_aload_n D112_19 rfl).trans ?_
    refine (sx_dup D112_20 (by decide)).trans ?_
    refine (sx_gfI (q := (5, 1, 0, 57)) (j := 1) D112_21 (by decide +kernel) (by decide +kernel) (by decide) (RA_o h0) rfl (up2_cell (by omega))).trans ?_
    refine (sx_iconst D112_24).trans ?_
    refine (sx_iadd D112_25).trans ?_
    refine (sx_pfI (q := (5, 1, 0, 57)) (j := 1) D112_26 (by decide +kernel) (by decide) (by decide) (RA_o h0) rfl).trans ?_
    exact rfl
  · exact rfl
theorem E112_29 {d : Nat} {a1 : Int} {S : SS} {I : II}  : ev d 112 29 [(2, 3), (1, a1), uU] [] S I = some (uU, S, I) := by
  exact sx_return D112_29 (by decide +kernel)
theorem E113_0 {d : Nat} {a1 a3 a5 : Int} {S : SS} {I : II} (h0 : RA S 3) : ev (d + 1) 113 0 [(2, 3), (1, a1), uU, (1, a3), uU, (1, a5), uU] [] S I = (ev d 109 0 [(2, 3), (1, a1), uU, (1, a3), uU] [] S I).bind (fun q => ev (d + 1) 113 6 [(2, 3), (1, a1), uU, (1, a3), uU, (1, a5), uU] (psh q.1 []) q.2.1 q.2.2) := by
  refine (sx_aload_n D113_0 rfl).trans ?_
  refine (sx_lload_n D113_1 rfl).trans ?_
  refine (sx_lload_n D113_2 rfl).trans ?_
  exact sx_virt (c := 7) (ag := [(2, 3), (1, a1), (1, a3)]) (r := []) (al' := [(2, 3), (1, a1), uU, (1, a3), uU]) (np := 2) (nl := 5) (q := (1, 109, 766)) D113_3 (by decide +kernel) (by decide) mP_109 mL_109 mC_109 (Nat.le_of_ble_eq_true rfl) rfl rfl (by simp [cat]) (by decide) (RA_o h0) rfl rfl
theorem E113_6 {d : Nat} {a1 a3 a5 : Int} {S : SS} {I : II} (h0 : RA S 3) : ev (d + 1) 113 6 [(2, 3), (1, a1), uU, (1, a3), uU, (1, a5), uU] [] S I = (ev d 112 0 [(2, 3), (1, a5), uU] [] S I).bind (fun q => ev (d + 1) 113 12 [(2, 3), (1, a1), uU, (1, a3), uU, (1, a5), uU] (psh q.1 []) q.2.1 q.2.2) := by
  refine (sx_aload_n D113_6 rfl).trans ?_
  refine (sx_lload D113_7 rfl).trans ?_
  exact sx_virt (c := 7) (ag := [(2, 3), (1, a5)]) (r := []) (al' := [(2, 3), (1, a5), uU]) (np := 1) (nl := 3) (q := (1, 112, 735)) D113_9 (by decide +kernel) (by decide) mP_112 mL_112 mC_112 (Nat.le_of_ble_eq_true rfl) rfl rfl (by simp [cat]) (by decide) (RA_o h0) rfl rfl
theorem E113_12 {d : Nat} {a1 a3 a5 : Int} {S : SS} {I : II}  : ev d 113 12 [(2, 3), (1, a1), uU, (1, a3), uU, (1, a5), uU] [] S I = some (uU, S, I) := by
  exact sx_return D113_12 (by decide +kernel)
theorem E114_0 {d : Nat} {a1 : Int} {S : SS} {I : II} (h0 : RA S 3) : ev d 114 0 [(2, 3), (0, a1)] [] S I = if w a1 < 0 then (ev d 114 21 [(2, 3), (0, a1)] [] S I) else (if w a1 < w (I 3 1) then (gdR (0 ≤ w a1 ∧ w a1 < 12) (ev d 114 22 [(2, 3), (0, a1)] [(1, I 4 (w a1))] S I)) else (ev d 114 21 [(2, 3), (0, a1)] [] S I)) := by
  refine (sx_iload_n D114_0 rfl).trans ?_
  refine sx_i0_lt (pc' := 21) D114_1 (by decide) (by decide) ?_ ?_ rfl
  · exact rfl
  · refine (sx_iload_n D114_4 rfl).trans ?_
    refine (sx_aload_n D114_5 rfl).trans ?_
    refine (sx_gfI (q := (5, 1, 0, 57)) (j := 1) D114_6 (by decide +kernel) (by decide +kernel) (by decide) (RA_o h0) rfl rfl).trans ?_
    refine sx_if_ge (pc' := 21) D114_9 (by decide) (by decide) ?_ ?_ rfl rfl
    · refine (sx_aload_n D114_12 rfl).trans ?_
      refine (sx_gfR (q := (5, 0, 0, 56)) (b := 4) D114_13 (by decide +kernel) (by decide +kernel) (by decide) (RA_o h0) (RA_g0 h0)).trans ?_
      refine (sx_iload_n D114_16 rfl).trans ?_
      refine (sx_la D114_17 (RA_k0 h0) rfl).trans (gdR_to fun g1 => ?_)
      refine (sx_goto (pc' := 22) D114_18 (by decide) (by decide)).trans ?_
      exact rfl
    · exact rfl
theorem E114_21 {d : Nat} {a1 : Int} {S : SS} {I : II}  : ev d 114 21 [(2, 3), (0, a1)] [] S I = ev d 114 22 [(2, 3), (0, a1)] [(1, 0)] S I := by
  refine (sx_lconst D114_21).trans ?_
  exact rfl
theorem E114_22 {d : Nat} {a1 s0 : Int} {S : SS} {I : II}  : ev d 114 22 [(2, 3), (0, a1)] [(1, s0)] S I = some ((1, s0), S, I) := by
  exact sx_lreturn D114_22 (by decide +kernel)
theorem E115_0 {d : Nat} {a0 : Int} {S : SS} {I : II} (h0 : (0 : Int) ≤ a0) : ev d 115 0 [(2, a0)] [] S I = ev d 115 9 [(2, a0)] [(2, (S.1 : Int)), (2, a0)] (newS S 20 40) (newI S I) := by
  refine (sx_aload_n D115_0 rfl).trans ?_
  refine (sx_obj (q := (10, 0, 238)) D115_1 (by decide +kernel) rfl h0 (by simp [cat])).trans ?_
  refine (sx_aload_n D115_4 rfl).trans ?_
  refine (sx_bipush D115_5 (by decide)).trans ?_
  refine (sx_newarr (kk := 20) D115_7 (by decide) (by decide)).trans ?_
  exact rfl
theorem E115_9 {d : Nat} {a0 s0 s1 : Int} {S : SS} {I : II} (h0 : (0 : Int) ≤ s1) (h1 : KO S s0 6) : ev d 115 9 [(2, a0)] [(2, s1), (2, s0)] S I = ev d 115 12 [(2, a0)] [] (S.1, S.2.1, S.2.2.1, up2 (sG S) s0 0 s1) I := by
  refine (sx_pfR (q := (6, 0, 0, 239)) (j := 0) D115_9 (by decide +kernel) (by decide +kernel) (by decide) h1 h0 rfl).trans ?_
  exact rfl
theorem E115_12 {d : Nat} {a0 : Int} {S : SS} {I : II}  : ev d 115 12 [(2, a0)] [] S I = ev d 115 17 [(2, a0)] [(2, (S.1 : Int)), (2, a0)] (newS S 20 40) (newI S I) := by
  refine (sx_aload_n D115_12 rfl).trans ?_
  refine (sx_bipush D115_13 (by decide)).trans ?_
  refine (sx_newarr (kk := 20) D115_15 (by decide) (by decide)).trans ?_
  exact rfl
theorem E115_17 {d : Nat} {a0 s0 s1 : Int} {S : SS} {I : II} (h0 : (0 : Int) ≤ s1) (h1 : KO S s0 6) : ev d 115 17 [(2, a0)] [(2, s1), (2, s0)] S I = ev d 115 20 [(2, a0)] [] (S.1, S.2.1, S.2.2.1, up2 (sG S) s0 2 s1) I := by
  refine (sx_pfR (q := (6, 2, 0, 241)) (j := 2) D115_17 (by decide +kernel) (by decide +kernel) (by decide) h1 h0 rfl).trans ?_
  exact rfl
theorem E115_20 {d : Nat} {a0 : Int} {S : SS} {I : II}  : ev d 115 20 [(2, a0)] [] S I = ev d 115 24 [(2, a0)] [(2, (S.1 : Int)), (2, a0)] (newS S 23 5) (newI S I) := by
  refine (sx_aload_n D115_20 rfl).trans ?_
  refine (sx_iconst D115_21).trans ?_
  refine (sx_newarr (kk := 23) D115_22 (by decide) (by decide)).trans ?_
  exact rfl
theorem E115_24 {d : Nat} {a0 s0 s1 : Int} {S : SS} {I : II} (h0 : (0 : Int) ≤ s1) (h1 : KO S s0 6) : ev d 115 24 [(2, a0)] [(2, s1), (2, s0)] S I = ev d 115 27 [(2, a0)] [] (S.1, S.2.1, S.2.2.1, up2 (sG S) s0 4 s1) I := by
  refine (sx_pfR (q := (6, 4, 0, 243)) (j := 4) D115_24 (by decide +kernel) (by decide +kernel) (by decide) h1 h0 rfl).trans ?_
  exact rfl
theorem E115_27 {d : Nat} {a0 : Int} {S : SS} {I : II}  : ev d 115 27 [(2, a0)] [] S I = ev d 115 32 [(2, a0)] [(2, (S.1 : Int)), (2, a0)] (newS S 20 7) (newI S I) := by
  refine (sx_aload_n D115_27 rfl).trans ?_
  refine (sx_bipush D115_28 (by decide)).trans ?_
  refine (sx_newarr (kk := 20) D115_30 (by decide) (by decide)).trans ?_
  exact rfl
theorem E115_32 {d : Nat} {a0 s0 s1 : Int} {S : SS} {I : II} (h0 : (0 : Int) ≤ s1) (h1 : KO S s0 6) : ev d 115 32 [(2, a0)] [(2, s1), (2, s0)] S I = ev d 115 35 [(2, a0)] [] (S.1, S.2.1, S.2.2.1, up2 (sG S) s0 8 s1) I := by
  refine (sx_pfR (q := (6, 8, 0, 247)) (j := 8) D115_32 (by decide +kernel) (by decide +kernel) (by decide) h1 h0 rfl).trans ?_
  exact rfl
theorem E115_35 {d : Nat} {a0 : Int} {S : SS} {I : II}  : ev d 115 35 [(2, a0)] [] S I = ev d 115 40 [(2, a0)] [(2, (S.1 : Int)), (2, a0)] (newS S 20 40) (newI S I) := by
  refine (sx_aload_n D115_35 rfl).trans ?_
  refine (sx_bipush D115_36 (by decide)).trans ?_
  refine (sx_newarr (kk := 20) D115_38 (by decide) (by decide)).trans ?_
  exact rfl
theorem E115_40 {d : Nat} {a0 s0 s1 : Int} {S : SS} {I : II} (h0 : (0 : Int) ≤ s1) (h1 : KO S s0 6) : ev d 115 40 [(2, a0)] [(2, s1), (2, s0)] S I = ev d 115 43 [(2, a0)] [] (S.1, S.2.1, S.2.2.1, up2 (sG S) s0 9 s1) I := by
  refine (sx_pfR (q := (6, 9, 0, 248)) (j := 9) D115_40 (by decide +kernel) (by decide +kernel) (by decide) h1 h0 rfl).trans ?_
  exact rfl
theorem E115_43 {d : Nat} {a0 : Int} {S : SS} {I : II}  : ev d 115 43 [(2, a0)] [] S I = some (uU, S, I) := by
  exact sx_return D115_43 (by decide +kernel)
theorem E116_0 {d : Nat} {a0 : Int} {S : SS} {I : II} (h0 : UA S a0) (h1 : a0 + 0 ≠ 1) (h2 : a0 + 3 ≠ 1) (h3 : TA S 1) : ev d 116 0 [(2, a0), (2, 1), uU, uU] [] S I = gdR (0 ≤ w 0 ∧ w 0 < 5) (ev d 116 44 [(2, a0), (2, 1), (0, if 40 < w (I 1 1) then 40 else w (I 1 1)), (0, 0)] [] S (up2 (up2 (up2 (up2 (up2 (up2 I a0 1 0) a0 3 0) a0 5 0) a0 6 0) (a0 + 3) (w 0) 0) a0 7 1)) := by
  refine (sx_aload_n D116_0 rfl).trans ?_
  refine (sx_iconst D116_1).trans ?_
  refine (sx_pfI (q := (6, 1, 0, 240)) (j := 1) D116_2 (by decide +kernel) (by decide) (by decide) (UA_o h0) rfl).trans ?_
  refine (sx_aload_n D116_5 rfl).trans ?_
  refine (sx_iconst D116_6).trans ?_
  refine (sx_pfI (q := (6, 3, 0, 242)) (j := 3) D116_7 (by decide +kernel) (by decide) (by decide) (UA_o h0) rfl).trans ?_
  refine (sx_aload_n D116_10 rfl).trans ?_
  refine (sx_iconst D116_11).trans ?_
  refine (sx_pfI (q := (6, 5, 0, 244)) (j := 5) D116_12 (by decide +kernel) (by decide) (by decide) (UA_o h0) rfl).trans ?_
  refine (sx_aload_n D116_15 rfl).trans ?_
  refine (sx_iconst D116_16).trans ?_
  refine (sx_pfI (q := (6, 6, 0, 245)) (j := 6) D116_17 (by decide +kernel) (by decide) (by decide) (UA_o h0) rfl).trans ?_
  refine (sx_aload_n D116_20 rfl).trans ?_
  refine (sx_gfR (q := (6, 4, 0, 243)) (b := a0 + 3) D116_21 (by decide +kernel) (by decide +kernel) (by decide) (UA_o h0) (UA_g4 h0)).trans ?_
  refine (sx_iconst D116_24).trans ?_
  refine (sx_iconst D116_25).trans ?_
  refine (sx_zsK D116_26 (UA_k4 h0) (by decide)).trans (gdR_to fun g1 => ?_)
  refine (sx_aload_n D116_27 rfl).trans ?_
  refine (sx_iconst D116_28).trans ?_
  refine ((sx_pfZ (q := (6, 7, 0, 246)) (j := 7) D116_29 (by decide +kernel) (by decide) (by decide) (UA_o h0) rfl).trans (gdR_pos (by decide))).trans ?_
  refine (sx_aload_n D116_32 rfl).trans ?_
  refine (sx_gfI (q := (7, 1, 1, 42)) (j := 1) D116_33 (by decide +kernel) (by decide +kernel) (by decide) (TA_o h3) rfl ((up2_cell (by omega)).trans ((up2_cell (by omega)).trans ((up2_cell (by omega)).trans ((up2_cell (by omega)).trans ((up2_cell (by omega)).trans (up2_cell (by omega)))))))).trans ?_
  refine (sx_bipush D116_36 (by decide)).trans ?_
  refine (sx_min (q := (13, 0, 368)) D116_38 (by decide +kernel) rfl (by simp [cat]) rfl (w_small (by decide) (by decide))).trans ?_
  refine (sx_istore_n (al' := [(2, a0), (2, 1), (0, if 40 < w (I 1 1) then 40 else w (I 1 1)), uU]) D116_41 (Nat.le_of_ble_eq_true rfl) rfl rfl).trans ?_
  refine (sx_iconst D116_42).trans ?_
  refine (sx_istore_n (al' := [(2, a0), (2, 1), (0, if 40 < w (I 1 1) then 40 else w (I 1 1)), (0, 0)]) D116_43 (Nat.le_of_ble_eq_true rfl) rfl rfl).trans ?_
  exact rfl
theorem E116_44 {d : Nat} {a0 a2 a3 : Int} {S : SS} {I : II} (h0 : TA S 1) (h1 : UA S a0) : ev (d + 1) 116 44 [(2, a0), (2, 1), (0, a2), (0, a3)] [] S I = if w a3 < w a2 then ((ev d 135 0 [(2, 1), (0, a3)] [] S I).bind (fun q => ev (d + 1) 116 55 [(2, a0), (2, 1), (0, a2), (0, a3)] (psh q.1 [(2, a0)]) q.2.1 q.2.2)) else (if 40 < w (I 1 1) then (some ((0, (-41)), S, I)) else (if 0 < w a2 then (if w (I a0 7) = 0 then (if 0 < w (I a0 5) then (ev (d + 1) 116 101 [(2, a0), (2, 1), (0, a2), (0, a3)] [] S I) else (ev (d + 1) 116 105 [(2, a0), (2, 1), (0, a2), (0, a3)] [] S I)) else (ev (d + 1) 116 101 [(2, a0), (2, 1), (0, a2), (0, a3)] [] S I)) else (ev (d + 1) 116 105 [(2, a0), (2, 1), (0, a2), (0, a3)] [] S I))) := by
  refine (sx_iload_n D116_44 rfl).trans ?_
  refine (sx_iload_n D116_45 rfl).trans ?_
  refine sx_if_ge (pc' := 71) D116_46 (by decide) (by decide) ?_ ?_ rfl rfl
  · refine (sx_aload_n D116_49 rfl).trans ?_
    refine (sx_aload_n D116_50 rfl).trans ?_
    refine (sx_iload_n D116_51 rfl).trans ?_
    exact sx_virt (c := 9) (ag := [(2, 1), (0, a3)]) (r := [(2, a0)]) (al' := [(2, 1), (0, a3)]) (np := 1) (nl := 2) (q := (1, 135, 371)) D116_52 (by decide +kernel) (by decide) mP_135 mL_135 mC_135 (Nat.le_of_ble_eq_true rfl) rfl rfl (by simp [cat]) (by decide) (TA_o h0) rfl rfl
  · refine (sx_aload_n D116_71 rfl).trans ?_
    refine (sx_gfI (q := (7, 1, 1, 42)) (j := 1) D116_72 (by decide +kernel) (by decide +kernel) (by decide) (TA_o h0) rfl rfl).trans ?_
    refine (sx_bipush D116_75 (by decide)).trans ?_
    refine sx_if_le (pc' := 83) D116_77 (by decide) (by decide) ?_ ?_ rfl (w_small (by decide) (by decide))
    · refine (sx_bipush D116_80 (by decide)).trans ?_
      exact sx_ireturn D116_82 (by decide +kernel)
    · refine (sx_iload_n D116_83 rfl).trans ?_
      refine sx_i0_le (pc' := 105) D116_84 (by decide) (by decide) ?_ ?_ rfl
      · refine (sx_aload_n D116_87 rfl).trans ?_
        refine (sx_gfI (q := (6, 7, 0, 246)) (j := 7) D116_88 (by decide +kernel) (by decide +kernel) (by decide) (UA_o h1) rfl rfl).trans ?_
        refine sx_i0_ne (pc' := 101) D116_91 (by decide) (by decide) ?_ ?_ rfl
        · refine (sx_aload_n D116_94 rfl).trans ?_
          refine (sx_gfI (q := (6, 5, 0, 244)) (j := 5) D116_95 (by decide +kernel) (by decide +kernel) (by decide) (UA_o h1) rfl rfl).trans ?_
          refine sx_i0_le (pc' := 105) D116_98 (by decide) (by decide) ?_ ?_ rfl
          · exact rfl
          · exact rfl
        · exact rfl
      · exact rfl
theorem E116_55 {d : Nat} {a0 a2 a3 s0 s1 : Int} {S : SS} {I : II} (h0 : UA S s0) : ev (d + 1) 116 55 [(2, a0), (2, 1), (0, a2), (0, a3)] [(0, s1), (2, s0)] S I = (ev d 117 0 [(2, s0), (0, s1)] [] S I).bind (fun q => ev (d + 1) 116 58 [(2, a0), (2, 1), (0, a2), (0, a3)] (psh q.1 []) q.2.1 q.2.2) := by
  exact sx_virt (c := 8) (ag := [(2, s0), (0, s1)]) (r := []) (al' := [(2, s0), (0, s1)]) (np := 1) (nl := 2) (q := (1, 117, 372)) D116_55 (by decide +kernel) (by decide) mP_117 mL_117 mC_117 (Nat.le_of_ble_eq_true rfl) rfl rfl (by simp [cat]) (by decide) (UA_o h0) rfl rfl
theorem E116_58 {d : Nat} {a0 a2 a3 s0 : Int} {S : SS} {I : II}  : ev d 116 58 [(2, a0), (2, 1), (0, a2), (0, a3)] [(0, s0)] S I = if w s0 = 0 then (some ((0, (-1) - a3), S, I)) else (ev d 116 44 [(2, a0), (2, 1), (0, a2), (0, a3 + 1)] [] S I) := by
  refine sx_i0_ne (pc' := 65) D116_58 (by decide) (by decide) ?_ ?_ rfl
  · refine (sx_iconst D116_61).trans ?_
    refine (sx_iload_n D116_62 rfl).trans ?_
    refine (sx_isub D116_63).trans ?_
    exact sx_ireturn D116_64 (by decide +kernel)
  · refine (sx_iinc (al' := [(2, a0), (2, 1), (0, a2), (0, a3 + 1)]) D116_65 rfl rfl).trans ?_
    refine (sx_goto (pc' := 44) D116_68 (by decide) (by decide)).trans ?_
    exact rfl
theorem E116_101 {d : Nat} {a0 a2 a3 : Int} {S : SS} {I : II}  : ev d 116 101 [(2, a0), (2, 1), (0, a2), (0, a3)] [] S I = some ((0, (-1) - a2), S, I) := by
  refine (sx_iconst D116_101).trans ?_
  refine (sx_iload_n D116_102 rfl).trans ?_
  refine (sx_isub D116_103).trans ?_
  exact sx_ireturn D116_104 (by decide +kernel)
theorem E116_105 {d : Nat} {a0 a2 a3 : Int} {S : SS} {I : II} (h0 : UA S a0) : ev (d + 1) 116 105 [(2, a0), (2, 1), (0, a2), (0, a3)] [] S I = (ev d 126 0 [(2, a0), (0, 1)] [] S I).bind (fun q => ev (d + 1) 116 110 [(2, a0), (2, 1), (0, a2), (0, a3)] (psh q.1 []) q.2.1 q.2.2) := by
  refine (sx_aload_n D116_105 rfl).trans ?_
  refine (sx_iconst D116_106).trans ?_
  exact sx_virt (c := 8) (ag := [(2, a0), (0, 1)]) (r := []) (al' := [(2, a0), (0, 1)]) (np := 1) (nl := 2) (q := (1, 126, 492)) D116_107 (by decide +kernel) (by decide) mP_126 mL_126 mC_126 (Nat.le_of_ble_eq_true rfl) rfl rfl (by simp [cat]) (by decide) (UA_o h0) rfl rfl
theorem E116_110 {d : Nat} {a0 a2 a3 : Int} {S : SS} {I : II}  : ev d 116 110 [(2, a0), (2, 1), (0, a2), (0, a3)] [] S I = some ((0, 0), S, I) := by
  refine (sx_iconst D116_110).trans ?_
  exact sx_ireturn D116_111 (by decide +kernel)
theorem E117_0 {d : Nat} {a0 a1 : Int} {S : SS} {I : II} (h0 : UA S a0) : ev (d + 1) 117 0 [(2, a0), (0, a1)] [] S I = if w a1 < 48 then (ev (d + 1) 117 21 [(2, a0), (0, a1)] [] S I) else (if 57 < w a1 then (ev (d + 1) 117 21 [(2, a0), (0, a1)] [] S I) else ((ev d 118 0 [(2, a0), (0, a1 - 48)] [] S I).bind (fun q => ev (d + 1) 117 20 [(2, a0), (0, a1)] (psh q.1 []) q.2.1 q.2.2))) := by
  refine (sx_iload_n D117_0 rfl).trans ?_
  refine (sx_bipush D117_1 (by decide)).trans ?_
  refine sx_if_lt (pc' := 21) D117_3 (by decide) (by decide) ?_ ?_ rfl (w_small (by decide) (by decide))
  · exact rfl
  · refine (sx_iload_n D117_6 rfl).trans ?_
    refine (sx_bipush D117_7 (by decide)).trans ?_
    refine sx_if_gt (pc' := 21) D117_9 (by decide) (by decide) ?_ ?_ rfl (w_small (by decide) (by decide))
    · exact rfl
    · refine (sx_aload_n D117_12 rfl).trans ?_
      refine (sx_iload_n D117_13 rfl).trans ?_
      refine (sx_bipush D117_14 (by decide)).trans ?_
      refine (sx_isub D117_16).trans ?_
      exact sx_virt (c := 8) (ag := [(2, a0), (0, a1 - 48)]) (r := []) (al' := [(2, a0), (0, a1 - 48)]) (np := 1) (nl := 2) (q := (1, 118, 376)) D117_17 (by decide +kernel) (by decide) mP_118 mL_118 mC_118 (Nat.le_of_ble_eq_true rfl) rfl rfl (by simp [cat]) (by decide) (UA_o h0) rfl rfl
theorem E117_20 {d : Nat} {a0 a1 s0 : Int} {S : SS} {I : II} (h0 : s0 = 0 ∨ s0 = 1) : ev d 117 20 [(2, a0), (0, a1)] [(0, s0)] S I = some ((0, s0), S, I) := by
  exact sx_zreturn D117_20 (by decide +kernel) h0
theorem E117_21 {d : Nat} {a0 a1 : Int} {S : SS} {I : II} (h0 : UA S a0) : ev (d + 1) 117 21 [(2, a0), (0, a1)] [] S I = if w (I a0 7) = 0 then ((ev d 123 0 [(2, a0), (0, a1), uU] [] S I).bind (fun q => ev (d + 1) 117 41 [(2, a0), (0, a1)] (psh q.1 []) q.2.1 q.2.2)) else ((ev d 120 0 [(2, a0), (0, a1), uU] [] S I).bind (fun q => ev (d + 1) 117 33 [(2, a0), (0, a1)] (psh q.1 []) q.2.1 q.2.2)) := by
  refine (sx_aload_n D117_21 rfl).trans ?_
  refine (sx_gfI (q := (6, 7, 0, 246)) (j := 7) D117_22 (by decide +kernel) (by decide +kernel) (by decide) (UA_o h0) rfl rfl).trans ?_
  refine sx_i0_eq (pc' := 36) D117_25 (by decide) (by decide) ?_ ?_ rfl
  · refine (sx_aload_n D117_36 rfl).trans ?_
    refine (sx_iload_n D117_37 rfl).trans ?_
    exact sx_virt (c := 8) (ag := [(2, a0), (0, a1)]) (r := []) (al' := [(2, a0), (0, a1), uU]) (np := 1) (nl := 3) (q := (1, 123, 481)) D117_38 (by decide +kernel) (by decide) mP_123 mL_123 mC_123 (Nat.le_of_ble_eq_true rfl) rfl rfl (by simp [cat]) (by decide) (UA_o h0) rfl rfl
  · refine (sx_aload_n D117_28 rfl).trans ?_
    refine (sx_iload_n D117_29 rfl).trans ?_
    exact sx_virt (c := 8) (ag := [(2, a0), (0, a1)]) (r := []) (al' := [(2, a0), (0, a1), uU]) (np := 1) (nl := 3) (q := (1, 120, 384)) D117_30 (by decide +kernel) (by decide) mP_120 mL_120 mC_120 (Nat.le_of_ble_eq_true rfl) rfl rfl (by simp [cat]) (by decide) (UA_o h0) rfl rfl
theorem E117_33 {d : Nat} {a0 a1 s0 : Int} {S : SS} {I : II}  : ev d 117 33 [(2, a0), (0, a1)] [(0, s0)] S I = ev d 117 41 [(2, a0), (0, a1)] [(0, s0)] S I := by
  refine (sx_goto (pc' := 41) D117_33 (by decide) (by decide)).trans ?_
  exact rfl
theorem E117_41 {d : Nat} {a0 a1 s0 : Int} {S : SS} {I : II} (h0 : s0 = 0 ∨ s0 = 1) : ev d 117 41 [(2, a0), (0, a1)] [(0, s0)] S I = some ((0, s0), S, I) := by
  exact sx_zreturn D117_41 (by decide +kernel) h0
theorem E118_0 {d : Nat} {a0 a1 : Int} {S : SS} {I : II} (h0 : UA S a0) : ev (d + 1) 118 0 [(2, a0), (0, a1)] [] S I = if w (I a0 7) = 0 then (if w (I a0 6) < 1 then (ev (d + 1) 118 57 [(2, a0), (0, a1)] [] S I) else (if 2 < w (I a0 6) then (ev (d + 1) 118 57 [(2, a0), (0, a1)] [] S I) else (if w (I a0 1) < 1 then (ev (d + 1) 118 57 [(2, a0), (0, a1)] [] S I) else (if 40 < w (I a0 1) then (ev (d + 1) 118 57 [(2, a0), (0, a1)] [] S I) else (gdR (0 ≤ w ((I a0 1) - 1) ∧ w ((I a0 1) - 1) < 40) (gdR (0 ≤ w ((I a0 1) - 1) ∧ w ((I a0 1) - 1) < 40) (some ((0, 1), S, (up2 (up2 I (a0 + 1) (w ((I a0 1) - 1)) ((10 * (I (a0 + 1) (w ((I a0 1) - 1)))) + a1)) a0 6 ((I a0 6) + 1)))))))))) else ((ev d 119 0 [(2, a0), (0, a1)] [] S I).bind (fun q => ev (d + 1) 118 12 [(2, a0), (0, a1)] (psh q.1 []) q.2.1 q.2.2)) := by
  refine (sx_aload_n D118_0 rfl).trans ?_
  refine (sx_gfI (q := (6, 7, 0, 246)) (j := 7) D118_1 (by decide +kernel) (by decide +kernel) (by decide) (UA_o h0) rfl rfl).trans ?_
  refine sx_i0_eq (pc' := 24) D118_4 (by decide) (by decide) ?_ ?_ rfl
  · refine (sx_aload_n D118_24 rfl).trans ?_
    refine (sx_gfI (q := (6, 6, 0, 245)) (j := 6) D118_25 (by decide +kernel) (by decide +kernel) (by decide) (UA_o h0) rfl rfl).trans ?_
    refine (sx_iconst D118_28).trans ?_
    refine sx_if_lt (pc' := 57) D118_29 (by decide) (by decide) ?_ ?_ rfl (w_small (by decide) (by decide))
    · exact rfl
    · refine (sx_aload_n D118_32 rfl).trans ?_
      refine (sx_gfI (q := (6, 6, 0, 245)) (j := 6) D118_33 (by decide +kernel) (by decide +kernel) (by decide) (UA_o h0) rfl rfl).trans ?_
      refine (sx_iconst D118_36).trans ?_
      refine sx_if_gt (pc' := 57) D118_37 (by decide) (by decide) ?_ ?_ rfl (w_small (by decide) (by decide))
      · exact rfl
      · refine (sx_aload_n D118_40 rfl).trans ?_
        refine (sx_gfI (q := (6, 1, 0, 240)) (j := 1) D118_41 (by decide +kernel) (by decide +kernel) (by decide) (UA_o h0) rfl rfl).trans ?_
        refine (sx_iconst D118_44).trans ?_
        refine sx_if_lt (pc' := 57) D118_45 (by decide) (by decide) ?_ ?_ rfl (w_small (by decide) (by decide))
        · exact rfl
        · refine (sx_aload_n D118_48 rfl).trans ?_
          refine (sx_gfI (q := (6, 1, 0, 240)) (j := 1) D118_49 (by decide +kernel) (by decide +kernel) (by decide) (UA_o h0) rfl rfl).trans ?_
          refine (sx_bipush D118_52 (by decide)).trans ?_
          refine sx_if_le (pc' := 59) D118_54 (by decide) (by decide) ?_ ?_ rfl (w_small (by decide) (by decide))
          · exact rfl
          · refine (sx_aload_n D118_59 rfl).trans ?_
            refine (sx_gfR (q := (6, 0, 0, 239)) (b := a0 + 1) D118_60 (by decide +kernel) (by decide +kernel) (by decide) (UA_o h0) (UA_g0 h0)).trans ?_
            refine (sx_aload_n D118_63 rfl).trans ?_
            refine (sx_gfI (q := (6, 1, 0, 240)) (j := 1) D118_64 (by decide +kernel) (by decide +kernel) (by decide) (UA_o h0) rfl rfl).trans ?_
            refine (sx_iconst D118_67).trans ?_
            refine (sx_isub D118_68).trans ?_
            refine (sx_bipush D118_69 (by decide)).trans ?_
            refine (sx_aload_n D118_71 rfl).trans ?_
            refine (sx_gfR (q := (6, 0, 0, 239)) (b := a0 + 1) D118_72 (by decide +kernel) (by decide +kernel) (by decide) (UA_o h0) (UA_g0 h0)).trans ?_
            refine (sx_aload_n D118_75 rfl).trans ?_
            refine (sx_gfI (q := (6, 1, 0, 240)) (j := 1) D118_76 (by decide +kernel) (by decide +kernel) (by decide) (UA_o h0) rfl rfl).trans ?_
            refine (sx_iconst D118_79).trans ?_
            refine (sx_isub D118_80).trans ?_
            refine (sx_ia D118_81 (UA_k0 h0) rfl).trans (gdR_to fun g1 => ?_)
            refine (sx_imul D118_82).trans ?_
            refine (sx_iload_n D118_83 rfl).trans ?_
            refine (sx_iadd D118_84).trans ?_
            refine (sx_is D118_85 (UA_k0 h0)).trans (gdR_to fun g2 => ?_)
            refine (sx_aload_n D118_86 rfl).trans ?_
            refine (sx_dup D118_87 (by decide)).trans ?_
            refine (sx_gfI (q := (6, 6, 0, 245)) (j := 6) D118_88 (by decide +kernel) (by decide +kernel) (by decide) (UA_o h0) rfl (up2_cell (by omega))).trans ?_
            refine (sx_iconst D118_91).trans ?_
            refine (sx_iadd D118_92).trans ?_
            refine (sx_pfI (q := (6, 6, 0, 245)) (j := 6) D118_93 (by decide +kernel) (by decide) (by decide) (UA_o h0) rfl).trans ?_
            refine (sx_iconst D118_96).trans ?_
            exact sx_zreturn D118_97 (by decide +kernel) (by decide)
  · refine (sx_aload_n D118_7 rfl).trans ?_
    refine (sx_iload_n D118_8 rfl).trans ?_
    exact sx_virt (c := 8) (ag := [(2, a0), (0, a1)]) (r := []) (al' := [(2, a0), (0, a1)]) (np := 1) (nl := 2) (q := (1, 119, 380)) D118_9 (by decide +kernel) (by decide) mP_119 mL_119 mC_119 (Nat.le_of_ble_eq_true rfl) rfl rfl (by simp [cat]) (by decide) (UA_o h0) rfl rfl
theorem E118_12 {d : Nat} {a0 a1 : Int} {S : SS} {I : II} (h0 : UA S a0) : ev d 118 12 [(2, a0), (0, a1)] [] S I = some ((0, 1), S, (up2 (up2 I a0 6 1) a0 7 0)) := by
  refine (sx_aload_n D118_12 rfl).trans ?_
  refine (sx_iconst D118_13).trans ?_
  refine (sx_pfI (q := (6, 6, 0, 245)) (j := 6) D118_14 (by decide +kernel) (by decide) (by decide) (UA_o h0) rfl).trans ?_
  refine (sx_aload_n D118_17 rfl).trans ?_
  refine (sx_iconst D118_18).trans ?_
  refine ((sx_pfZ (q := (6, 7, 0, 246)) (j := 7) D118_19 (by decide +kernel) (by decide) (by decide) (UA_o h0) rfl).trans (gdR_pos (by decide))).trans ?_
  refine (sx_iconst D118_22).trans ?_
  exact sx_zreturn D118_23 (by decide +kernel) (by decide)
theorem E118_57 {d : Nat} {a0 a1 : Int} {S : SS} {I : II}  : ev d 118 57 [(2, a0), (0, a1)] [] S I = some ((0, 0), S, I) := by
  refine (sx_iconst D118_57).trans ?_
  exact sx_zreturn D118_58 (by decide +kernel) (by decide)
theorem E119_0 {d : Nat} {a0 a1 : Int} {S : SS} {I : II} (h0 : UA S a0) : ev d 119 0 [(2, a0), (0, a1)] [] S I = if w (I a0 1) < 0 then (ev d 119 36 [(2, a0), (0, a1)] [] S I) else (if w (I a0 1) < 40 then (gdR (0 ≤ w (I a0 1) ∧ w (I a0 1) < 40) (ev d 119 36 [(2, a0), (0, a1)] [] S (up2 (up2 I (a0 + 1) (w (I a0 1)) a1) a0 1 ((I a0 1) + 1)))) else (ev d 119 36 [(2, a0), (0, a1)] [] S I)) := by
  refine (sx_aload_n D119_0 rfl).trans ?_
  refine (sx_gfI (q := (6, 1, 0, 240)) (j := 1) D119_1 (by decide +kernel) (by decide +kernel) (by decide) (UA_o h0) rfl rfl).trans ?_
  refine sx_i0_lt (pc' := 36) D119_4 (by decide) (by decide) ?_ ?_ rfl
  · exact rfl
  · refine (sx_aload_n D119_7 rfl).trans ?_
    refine (sx_gfI (q := (6, 1, 0, 240)) (j := 1) D119_8 (by decide +kernel) (by decide +kernel) (by decide) (UA_o h0) rfl rfl).trans ?_
    refine (sx_bipush D119_11 (by decide)).trans ?_
    refine sx_if_ge (pc' := 36) D119_13 (by decide) (by decide) ?_ ?_ rfl (w_small (by decide) (by decide))
    · refine (sx_aload_n D119_16 rfl).trans ?_
      refine (sx_gfR (q := (6, 0, 0, 239)) (b := a0 + 1) D119_17 (by decide +kernel) (by decide +kernel) (by decide) (UA_o h0) (UA_g0 h0)).trans ?_
      refine (sx_aload_n D119_20 rfl).trans ?_
      refine (sx_gfI (q := (6, 1, 0, 240)) (j := 1) D119_21 (by decide +kernel) (by decide +kernel) (by decide) (UA_o h0) rfl rfl).trans ?_
      refine (sx_iload_n D119_24 rfl).trans ?_
      refine (sx_is D119_25 (UA_k0 h0)).trans (gdR_to fun g1 => ?_)
      refine (sx_aload_n D119_26 rfl).trans ?_
      refine (sx_dup D119_27 (by decide)).trans ?_
      refine (sx_gfI (q := (6, 1, 0, 240)) (j := 1) D119_28 (by decide +kernel) (by decide +kernel) (by decide) (UA_o h0) rfl (up2_cell (by omega))).trans ?_
      refine (sx_iconst D119_31).trans ?_
      refine (sx_iadd D119_32).trans ?_
      refine (sx_pfI (q := (6, 1, 0, 240)) (j := 1) D119_33 (by decide +kernel) (by decide) (by decide) (UA_o h0) rfl).trans ?_
      exact rfl
    · exact rfl
theorem E119_36 {d : Nat} {a0 a1 : Int} {S : SS} {I : II}  : ev d 119 36 [(2, a0), (0, a1)] [] S I = some (uU, S, I) := by
  exact sx_return D119_36 (by decide +kernel)
theorem E120_0 {d : Nat} {a0 a1 : Int} {S : SS} {I : II} (h0 : UA S a0) : ev (d + 1) 120 0 [(2, a0), (0, a1), uU] [] S I = if w a1 = 45 then ((ev d 121 0 [(2, a0), (0, 256)] [] S (up2 I a0 6 0)).bind (fun q => ev (d + 1) 120 18 [(2, a0), (0, a1), uU] (psh q.1 []) q.2.1 q.2.2)) else (if w a1 = 40 then ((ev d 122 0 [(2, a0)] [] S (up2 I a0 6 0)).bind (fun q => ev (d + 1) 120 30 [(2, a0), (0, a1), uU] (psh q.1 []) q.2.1 q.2.2)) else (if w a1 < 0 then (ev (d + 1) 120 46 [(2, a0), (0, a1), uU] [(0, (-1))] S (up2 I a0 6 0)) else ((ev d 312 0 [(2, (-10)), (0, iC a1)] [] S (up2 I a0 6 0)).bind (fun q => ev (d + 1) 120 46 [(2, a0), (0, a1), uU] (psh q.1 []) q.2.1 q.2.2)))) := by
  refine (sx_aload_n D120_0 rfl).trans ?_
  refine (sx_iconst D120_1).trans ?_
  refine (sx_pfI (q := (6, 6, 0, 245)) (j := 6) D120_2 (by decide +kernel) (by decide) (by decide) (UA_o h0) rfl).trans ?_
  refine (sx_iload_n D120_5 rfl).trans ?_
  refine (sx_bipush D120_6 (by decide)).trans ?_
  refine sx_if_ne (pc' := 20) D120_8 (by decide) (by decide) ?_ ?_ rfl (w_small (by decide) (by decide))
  · refine (sx_aload_n D120_11 rfl).trans ?_
    refine (sx_sipush D120_12 (by decide)).trans ?_
    exact sx_virt (c := 8) (ag := [(2, a0), (0, 256)]) (r := []) (al' := [(2, a0), (0, 256)]) (np := 1) (nl := 2) (q := (1, 121, 388)) D120_15 (by decide +kernel) (by decide) mP_121 mL_121 mC_121 (Nat.le_of_ble_eq_true rfl) rfl rfl (by simp [cat]) (by decide) (UA_o h0) rfl rfl
  · refine (sx_iload_n D120_20 rfl).trans ?_
    refine (sx_bipush D120_21 (by decide)).trans ?_
    refine sx_if_ne (pc' := 31) D120_23 (by decide) (by decide) ?_ ?_ rfl (w_small (by decide) (by decide))
    · refine (sx_aload_n D120_26 rfl).trans ?_
      exact sx_virt (c := 8) (ag := [(2, a0)]) (r := []) (al' := [(2, a0)]) (np := 0) (nl := 1) (q := (1, 122, 392)) D120_27 (by decide +kernel) (by decide) mP_122 mL_122 mC_122 (Nat.le_of_ble_eq_true rfl) rfl rfl (by simp [cat]) (by decide) (UA_o h0) rfl rfl
    · refine (sx_iload_n D120_31 rfl).trans ?_
      refine sx_i0_ge (pc' := 39) D120_32 (by decide) (by decide) ?_ ?_ rfl
      · refine (sx_iconst D120_35).trans ?_
        refine (sx_goto (pc' := 46) D120_36 (by decide) (by decide)).trans ?_
        exact rfl
      · refine (sx_ldcS (q := (0, 396)) D120_39 (by decide +kernel) (by decide +kernel)).trans ?_
        show ev (d + 1) 120 41 [(2, a0), (0, a1), uU] [(2, (-10))] S (up2 I a0 6 0) = _
        refine (sx_iload_n D120_41 rfl).trans ?_
        refine (sx_i2c D120_42).trans ?_
        exact sx_virtS (ag := [(2, (-10)), (0, iC a1)]) (r := []) (al' := [(2, (-10)), (0, iC a1)]) (np := 1) (nl := 2) (q := (1, 312, 397)) D120_43 (by decide +kernel) (by decide) mP_312 mL_312 mC_312 (Nat.le_of_ble_eq_true rfl) rfl rfl (by simp [cat]) (by decide) rfl rfl
theorem E120_18 {d : Nat} {a0 a1 : Int} {S : SS} {I : II}  : ev d 120 18 [(2, a0), (0, a1), uU] [] S I = some ((0, 1), S, I) := by
  refine (sx_iconst D120_18).trans ?_
  exact sx_zreturn D120_19 (by decide +kernel) (by decide)
theorem E120_30 {d : Nat} {a0 a1 s0 : Int} {S : SS} {I : II} (h0 : s0 = 0 ∨ s0 = 1) : ev d 120 30 [(2, a0), (0, a1), uU] [(0, s0)] S I = some ((0, s0), S, I) := by
  exact sx_zreturn D120_30 (by decide +kernel) h0
theorem E120_46 {d : Nat} {a0 a1 s0 : Int} {S : SS} {I : II} (h0 : UA S a0) : ev (d + 1) 120 46 [(2, a0), (0, a1), uU] [(0, s0)] S I = if w s0 < 0 then (some ((0, 0), S, I)) else ((ev d 119 0 [(2, a0), (0, 1000 + s0)] [] S I).bind (fun q => ev (d + 1) 120 62 [(2, a0), (0, a1), (0, s0)] (psh q.1 []) q.2.1 q.2.2)) := by
  refine (sx_istore_n (al' := [(2, a0), (0, a1), (0, s0)]) D120_46 (Nat.le_of_ble_eq_true rfl) rfl rfl).trans ?_
  refine (sx_iload_n D120_47 rfl).trans ?_
  refine sx_i0_ge (pc' := 53) D120_48 (by decide) (by decide) ?_ ?_ rfl
  · refine (sx_iconst D120_51).trans ?_
    exact sx_zreturn D120_52 (by decide +kernel) (by decide)
  · refine (sx_aload_n D120_53 rfl).trans ?_
    refine (sx_sipush D120_54 (by decide)).trans ?_
    refine (sx_iload_n D120_57 rfl).trans ?_
    refine (sx_iadd D120_58).trans ?_
    exact sx_virt (c := 8) (ag := [(2, a0), (0, 1000 + s0)]) (r := []) (al' := [(2, a0), (0, 1000 + s0)]) (np := 1) (nl := 2) (q := (1, 119, 380)) D120_59 (by decide +kernel) (by decide) mP_119 mL_119 mC_119 (Nat.le_of_ble_eq_true rfl) rfl rfl (by simp [cat]) (by decide) (UA_o h0) rfl rfl
theorem E120_62 {d : Nat} {a0 a1 a2 : Int} {S : SS} {I : II} (h0 : UA S a0) : ev d 120 62 [(2, a0), (0, a1), (0, a2)] [] S I = some ((0, 1), S, (up2 I a0 7 0)) := by
  refine (sx_aload_n D120_62 rfl).trans ?_
  refine (sx_iconst D120_63).trans ?_
  refine ((sx_pfZ (q := (6, 7, 0, 246)) (j := 7) D120_64 (by decide +kernel) (by decide) (by decide) (UA_o h0) rfl).trans (gdR_pos (by decide))).trans ?_
  refine (sx_iconst D120_67).trans ?_
  exact sx_zreturn D120_68 (by decide +kernel) (by decide)
theorem E121_0 {d : Nat} {a0 a1 : Int} {S : SS} {I : II} (h0 : UA S a0) : ev d 121 0 [(2, a0), (0, a1)] [] S I = if w (I a0 3) < 0 then (ev d 121 36 [(2, a0), (0, a1)] [] S I) else (if w (I a0 3) < 40 then (gdR (0 ≤ w (I a0 3) ∧ w (I a0 3) < 40) (ev d 121 36 [(2, a0), (0, a1)] [] S (up2 (up2 I (a0 + 2) (w (I a0 3)) a1) a0 3 ((I a0 3) + 1)))) else (ev d 121 36 [(2, a0), (0, a1)] [] S I)) := by
  refine (sx_aload_n D121_0 rfl).trans ?_
  refine (sx_gfI (q := (6, 3, 0, 242)) (j := 3) D121_1 (by decide +kernel) (by decide +kernel) (by decide) (UA_o h0) rfl rfl).trans ?_
  refine sx_i0_lt (pc' := 36) D121_4 (by decide) (by decide) ?_ ?_ rfl
  · exact rfl
  · refine (sx_aload_n D121_7 rfl).trans ?_
    refine (sx_gfI (q := (6, 3, 0, 242)) (j := 3) D121_8 (by decide +kernel) (by decide +kernel) (by decide) (UA_o h0) rfl rfl).trans ?_
    refine (sx_bipush D121_11 (by decide)).trans ?_
    refine sx_if_ge (pc' := 36) D121_13 (by decide) (by decide) ?_ ?_ rfl (w_small (by decide) (by decide))
    · refine (sx_aload_n D121_16 rfl).trans ?_
      refine (sx_gfR (q := (6, 2, 0, 241)) (b := a0 + 2) D121_17 (by decide +kernel) (by decide +kernel) (by decide) (UA_o h0) (UA_g2 h0)).trans ?_
      refine (sx_aload_n D121_20 rfl).trans ?_
      refine (sx_gfI (q := (6, 3, 0, 242)) (j := 3) D121_21 (by decide +kernel) (by decide +kernel) (by decide) (UA_o h0) rfl rfl).trans ?_
      refine (sx_iload_n D121_24 rfl).trans ?_
      refine (sx_is D121_25 (UA_k2 h0)).trans (gdR_to fun g1 => ?_)
      refine (sx_aload_n D121_26 rfl).trans ?_
      refine (sx_dup D121_27 (by decide)).trans ?_
      refine (sx_gfI (q := (6, 3, 0, 242)) (j := 3) D121_28 (by decide +kernel) (by decide +kernel) (by decide) (UA_o h0) rfl (up2_cell (by omega))).trans ?_
      refine (sx_iconst D121_31).trans ?_
      refine (sx_iadd D121_32).trans ?_
      refine (sx_pfI (q := (6, 3, 0, 242)) (j := 3) D121_33 (by decide +kernel) (by decide) (by decide) (UA_o h0) rfl).trans ?_
      exact rfl
    · exact rfl
theorem E121_36 {d : Nat} {a0 a1 : Int} {S : SS} {I : II}  : ev d 121 36 [(2, a0), (0, a1)] [] S I = some (uU, S, I) := by
  exact sx_return D121_36 (by decide +kernel)
theorem E122_0 {d : Nat} {a0 : Int} {S : SS} {I : II} (h0 : UA S a0) : ev (d + 1) 122 0 [(2, a0)] [] S I = if w (I a0 5) < 4 then (gdR (0 ≤ w ((I a0 5) + 1) ∧ w ((I a0 5) + 1) < 5) ((ev d 121 0 [(2, a0), (0, 40)] [] S (up2 (up2 I a0 5 ((I a0 5) + 1)) (a0 + 3) (w ((I a0 5) + 1)) 0)).bind (fun q => ev (d + 1) 122 36 [(2, a0)] (psh q.1 []) q.2.1 q.2.2))) else (some ((0, 0), S, I)) := by
  refine (sx_aload_n D122_0 rfl).trans ?_
  refine (sx_gfI (q := (6, 5, 0, 244)) (j := 5) D122_1 (by decide +kernel) (by decide +kernel) (by decide) (UA_o h0) rfl rfl).trans ?_
  refine (sx_iconst D122_4).trans ?_
  refine sx_if_lt (pc' := 10) D122_5 (by decide) (by decide) ?_ ?_ rfl (w_small (by decide) (by decide))
  · refine (sx_aload_n D122_10 rfl).trans ?_
    refine (sx_dup D122_11 (by decide)).trans ?_
    refine (sx_gfI (q := (6, 5, 0, 244)) (j := 5) D122_12 (by decide +kernel) (by decide +kernel) (by decide) (UA_o h0) rfl rfl).trans ?_
    refine (sx_iconst D122_15).trans ?_
    refine (sx_iadd D122_16).trans ?_
    refine (sx_pfI (q := (6, 5, 0, 244)) (j := 5) D122_17 (by decide +kernel) (by decide) (by decide) (UA_o h0) rfl).trans ?_
    refine (sx_aload_n D122_20 rfl).trans ?_
    refine (sx_gfR (q := (6, 4, 0, 243)) (b := a0 + 3) D122_21 (by decide +kernel) (by decide +kernel) (by decide) (UA_o h0) (UA_g4 h0)).trans ?_
    refine (sx_aload_n D122_24 rfl).trans ?_
    refine (sx_gfI (q := (6, 5, 0, 244)) (j := 5) D122_25 (by decide +kernel) (by decide +kernel) (by decide) (UA_o h0) rfl (up2_same _ _ _ _)).trans ?_
    refine (sx_iconst D122_28).trans ?_
    refine (sx_zsK D122_29 (UA_k4 h0) (by decide)).trans (gdR_to fun g1 => ?_)
    refine (sx_aload_n D122_30 rfl).trans ?_
    refine (sx_bipush D122_31 (by decide)).trans ?_
    exact sx_virt (c := 8) (ag := [(2, a0), (0, 40)]) (r := []) (al' := [(2, a0), (0, 40)]) (np := 1) (nl := 2) (q := (1, 121, 388)) D122_33 (by decide +kernel) (by decide) mP_121 mL_121 mC_121 (Nat.le_of_ble_eq_true rfl) rfl rfl (by simp [cat]) (by decide) (UA_o h0) rfl rfl
  · refine (sx_iconst D122_8).trans ?_
    exact sx_zreturn D122_9 (by decide +kernel) (by decide)
theorem E122_36 {d : Nat} {a0 : Int} {S : SS} {I : II}  : ev d 122 36 [(2, a0)] [] S I = some ((0, 1), S, I) := by
  refine (sx_iconst D122_36).trans ?_
  exact sx_zreturn D122_37 (by decide +kernel) (by decide)
theorem E123_0 {d : Nat} {a0 a1 : Int} {S : SS} {I : II} (h0 : UA S a0) : ev (d + 1) 123 0 [(2, a0), (0, a1), uU] [] S I = (ev d 124 0 [(0, a1)] [] S (up2 I a0 6 0)).bind (fun q => ev (d + 1) 123 9 [(2, a0), (0, a1), uU] (psh q.1 []) q.2.1 q.2.2) := by
  refine (sx_aload_n D123_0 rfl).trans ?_
  refine (sx_iconst D123_1).trans ?_
  refine (sx_pfI (q := (6, 6, 0, 245)) (j := 6) D123_2 (by decide +kernel) (by decide) (by decide) (UA_o h0) rfl).trans ?_
  refine (sx_iload_n D123_5 rfl).trans ?_
  exact sx_stat (ag := [(0, a1)]) (r := []) (al' := [(0, a1)]) (np := 1) (nl := 1) (q := (0, 124, 485)) D123_6 (by decide +kernel) (by decide) mP_124 mL_124 (Nat.le_of_ble_eq_true rfl) rfl rfl (by simp [cat]) rfl rfl
theorem E123_9 {d : Nat} {a0 a1 s0 : Int} {S : SS} {I : II} (h0 : UA S a0) : ev (d + 1) 123 9 [(2, a0), (0, a1), uU] [(0, s0)] S I = if w a1 = 41 then ((ev d 125 0 [(2, a0)] [] S I).bind (fun q => ev (d + 1) 123 20 [(2, a0), (0, a1), (0, s0)] (psh q.1 []) q.2.1 q.2.2)) else (if w s0 < 1 then (ev (d + 1) 123 41 [(2, a0), (0, a1), (0, s0)] [] S I) else (if w (I a0 5) < 0 then (ev (d + 1) 123 41 [(2, a0), (0, a1), (0, s0)] [] S I) else (if 4 < w (I a0 5) then (ev (d + 1) 123 41 [(2, a0), (0, a1), (0, s0)] [] S I) else (if w s0 = 1 then (gdR (0 ≤ w (I a0 5) ∧ w (I a0 5) < 5) (if w (I (a0 + 3) (w (I a0 5))) = 0 then (gdR (0 ≤ w (I a0 5) ∧ w (I a0 5) < 5) (ev (d + 1) 123 72 [(2, a0), (0, a1), (0, s0)] [] S (up2 I (a0 + 3) (w (I a0 5)) 1))) else (some ((0, 0), S, I)))) else (ev (d + 1) 123 72 [(2, a0), (0, a1), (0, s0)] [] S I))))) := by
  refine (sx_istore_n (al' := [(2, a0), (0, a1), (0, s0)]) D123_9 (Nat.le_of_ble_eq_true rfl) rfl rfl).trans ?_
  refine (sx_iload_n D123_10 rfl).trans ?_
  refine (sx_bipush D123_11 (by decide)).trans ?_
  refine sx_if_ne (pc' := 21) D123_13 (by decide) (by decide) ?_ ?_ rfl (w_small (by decide) (by decide))
  · refine (sx_aload_n D123_16 rfl).trans ?_
    exact sx_virt (c := 8) (ag := [(2, a0)]) (r := []) (al' := [(2, a0)]) (np := 0) (nl := 1) (q := (1, 125, 488)) D123_17 (by decide +kernel) (by decide) mP_125 mL_125 mC_125 (Nat.le_of_ble_eq_true rfl) rfl rfl (by simp [cat]) (by decide) (UA_o h0) rfl rfl
  · refine (sx_iload_n D123_21 rfl).trans ?_
    refine (sx_iconst D123_22).trans ?_
    refine sx_if_lt (pc' := 41) D123_23 (by decide) (by decide) ?_ ?_ rfl (w_small (by decide) (by decide))
    · exact rfl
    · refine (sx_aload_n D123_26 rfl).trans ?_
      refine (sx_gfI (q := (6, 5, 0, 244)) (j := 5) D123_27 (by decide +kernel) (by decide +kernel) (by decide) (UA_o h0) rfl rfl).trans ?_
      refine sx_i0_lt (pc' := 41) D123_30 (by decide) (by decide) ?_ ?_ rfl
      · exact rfl
      · refine (sx_aload_n D123_33 rfl).trans ?_
        refine (sx_gfI (q := (6, 5, 0, 244)) (j := 5) D123_34 (by decide +kernel) (by decide +kernel) (by decide) (UA_o h0) rfl rfl).trans ?_
        refine (sx_iconst D123_37).trans ?_
        refine sx_if_le (pc' := 43) D123_38 (by decide) (by decide) ?_ ?_ rfl (w_small (by decide) (by decide))
        · exact rfl
        · refine (sx_iload_n D123_43 rfl).trans ?_
          refine (sx_iconst D123_44).trans ?_
          refine sx_if_ne (pc' := 72) D123_45 (by decide) (by decide) ?_ ?_ rfl (w_small (by decide) (by decide))
          · refine (sx_aload_n D123_48 rfl).trans ?_
            refine (sx_gfR (q := (6, 4, 0, 243)) (b := a0 + 3) D123_49 (by decide +kernel) (by decide +kernel) (by decide) (UA_o h0) (UA_g4 h0)).trans ?_
            refine (sx_aload_n D123_52 rfl).trans ?_
            refine (sx_gfI (q := (6, 5, 0, 244)) (j := 5) D123_53 (by decide +kernel) (by decide +kernel) (by decide) (UA_o h0) rfl rfl).trans ?_
            refine (sx_za D123_56 (UA_k4 h0) rfl).trans (gdR_to fun g1 => ?_)
            refine sx_i0_eq (pc' := 62) D123_57 (by decide) (by decide) ?_ ?_ rfl
            · refine (sx_aload_n D123_62 rfl).trans ?_
              refine (sx_gfR (q := (6, 4, 0, 243)) (b := a0 + 3) D123_63 (by decide +kernel) (by decide +kernel) (by decide) (UA_o h0) (UA_g4 h0)).trans ?_
              refine (sx_aload_n D123_66 rfl).trans ?_
              refine (sx_gfI (q := (6, 5, 0, 244)) (j := 5) D123_67 (by decide +kernel) (by decide +kernel) (by decide) (UA_o h0) rfl rfl).trans ?_
              refine (sx_iconst D123_70).trans ?_
              refine (sx_zsK D123_71 (UA_k4 h0) (by decide)).trans (gdR_to fun g2 => ?_)
              exact rfl
            · refine (sx_iconst D123_60).trans ?_
              exact sx_zreturn D123_61 (by decide +kernel) (by decide)
          · exact rfl
theorem E123_20 {d : Nat} {a0 a1 a2 s0 : Int} {S : SS} {I : II} (h0 : s0 = 0 ∨ s0 = 1) : ev d 123 20 [(2, a0), (0, a1), (0, a2)] [(0, s0)] S I = some ((0, s0), S, I) := by
  exact sx_zreturn D123_20 (by decide +kernel) h0
theorem E123_41 {d : Nat} {a0 a1 a2 : Int} {S : SS} {I : II}  : ev d 123 41 [(2, a0), (0, a1), (0, a2)] [] S I = some ((0, 0), S, I) := by
  refine (sx_iconst D123_41).trans ?_
  exact sx_zreturn D123_42 (by decide +kernel) (by decide)
theorem E123_72 {d : Nat} {a0 a1 a2 : Int} {S : SS} {I : II} (h0 : UA S a0) : ev (d + 1) 123 72 [(2, a0), (0, a1), (0, a2)] [] S I = (ev d 126 0 [(2, a0), (0, a2)] [] S I).bind (fun q => ev (d + 1) 123 77 [(2, a0), (0, a1), (0, a2)] (psh q.1 []) q.2.1 q.2.2) := by
  refine (sx_aload_n D123_72 rfl).trans ?_
  refine (sx_iload_n D123_73 rfl).trans ?_
  exact sx_virt (c := 8) (ag := [(2, a0), (0, a2)]) (r := []) (al' := [(2, a0), (0, a2)]) (np := 1) (nl := 2) (q := (1, 126, 492)) D123_74 (by decide +kernel) (by decide) mP_126 mL_126 mC_126 (Nat.le_of_ble_eq_true rfl) rfl rfl (by simp [cat]) (by decide) (UA_o h0) rfl rfl
theorem E123_77 {d : Nat} {a0 a1 a2 : Int} {S : SS} {I : II} (h0 : UA S a0) : ev (d + 1) 123 77 [(2, a0), (0, a1), (0, a2)] [] S I = (ev d 121 0 [(2, a0), (0, a1)] [] S I).bind (fun q => ev (d + 1) 123 82 [(2, a0), (0, a1), (0, a2)] (psh q.1 []) q.2.1 q.2.2) := by
  refine (sx_aload_n D123_77 rfl).trans ?_
  refine (sx_iload_n D123_78 rfl).trans ?_
  exact sx_virt (c := 8) (ag := [(2, a0), (0, a1)]) (r := []) (al' := [(2, a0), (0, a1)]) (np := 1) (nl := 2) (q := (1, 121, 388)) D123_79 (by decide +kernel) (by decide) mP_121 mL_121 mC_121 (Nat.le_of_ble_eq_true rfl) rfl rfl (by simp [cat]) (by decide) (UA_o h0) rfl rfl
theorem E123_82 {d : Nat} {a0 a1 a2 : Int} {S : SS} {I : II} (h0 : UA S a0) : ev d 123 82 [(2, a0), (0, a1), (0, a2)] [] S I = some ((0, 1), S, (up2 I a0 7 1)) := by
  refine (sx_aload_n D123_82 rfl).trans ?_
  refine (sx_iconst D123_83).trans ?_
  refine ((sx_pfZ (q := (6, 7, 0, 246)) (j := 7) D123_84 (by decide +kernel) (by decide) (by decide) (UA_o h0) rfl).trans (gdR_pos (by decide))).trans ?_
  refine (sx_iconst D123_87).trans ?_
  exact sx_zreturn D123_88 (by decide +kernel) (by decide)
theorem E124_0 {d : Nat} {a0 : Int} {S : SS} {I : II}  : ev d 124 0 [(0, a0)] [] S I = if w a0 = 42 then (some ((0, 3), S, I)) else (if w a0 = 43 then (some ((0, 2), S, I)) else (if w a0 = 45 then (some ((0, 2), S, I)) else (if w a0 = 47 then (some ((0, 3), S, I)) else (if w a0 = 60 then (some ((0, 1), S, I)) else (if w a0 = 61 then (some ((0, 1), S, I)) else (if w a0 = 62 then (some ((0, 1), S, I)) else (if w a0 = 256 then (some ((0, 4), S, I)) else (some ((0, 0), S, I))))))))) := by
  refine (sx_iload_n D124_0 rfl).trans ?_
  refine ite_go (c := w a0 = 42) (fun x1 => ?_) (fun x1 => ?_)
  · refine (sx_lsw (pc' := 86) D124_1 (by decide) (by rw [(rfl).trans x1]) (by decide) (by decide)).trans ?_
    refine (sx_iconst D124_86).trans ?_
    exact sx_ireturn D124_87 (by decide +kernel)
  refine ite_go (c := w a0 = 43) (fun x2 => ?_) (fun x2 => ?_)
  · refine (sx_lsw (pc' := 82) D124_1 (by decide) (by rw [(rfl).trans x2]) (by decide) (by decide)).trans ?_
    refine (sx_iconst D124_82).trans ?_
    exact sx_ireturn D124_83 (by decide +kernel)
  refine ite_go (c := w a0 = 45) (fun x3 => ?_) (fun x3 => ?_)
  · refine (sx_lsw (pc' := 84) D124_1 (by decide) (by rw [(rfl).trans x3]) (by decide) (by decide)).trans ?_
    refine (sx_iconst D124_84).trans ?_
    exact sx_ireturn D124_85 (by decide +kernel)
  refine ite_go (c := w a0 = 47) (fun x4 => ?_) (fun x4 => ?_)
  · refine (sx_lsw (pc' := 88) D124_1 (by decide) (by rw [(rfl).trans x4]) (by decide) (by decide)).trans ?_
    refine (sx_iconst D124_88).trans ?_
    exact sx_ireturn D124_89 (by decide +kernel)
  refine ite_go (c := w a0 = 60) (fun x5 => ?_) (fun x5 => ?_)
  · refine (sx_lsw (pc' := 76) D124_1 (by decide) (by rw [(rfl).trans x5]) (by decide) (by decide)).trans ?_
    refine (sx_iconst D124_76).trans ?_
    exact sx_ireturn D124_77 (by decide +kernel)
  refine ite_go (c := w a0 = 61) (fun x6 => ?_) (fun x6 => ?_)
  · refine (sx_lsw (pc' := 80) D124_1 (by decide) (by rw [(rfl).trans x6]) (by decide) (by decide)).trans ?_
    refine (sx_iconst D124_80).trans ?_
    exact sx_ireturn D124_81 (by decide +kernel)
  refine ite_go (c := w a0 = 62) (fun x7 => ?_) (fun x7 => ?_)
  · refine (sx_lsw (pc' := 78) D124_1 (by decide) (by rw [(rfl).trans x7]) (by decide) (by decide)).trans ?_
    refine (sx_iconst D124_78).trans ?_
    exact sx_ireturn D124_79 (by decide +kernel)
  refine ite_go (c := w a0 = 256) (fun x8 => ?_) (fun x8 => ?_)
  · refine (sx_lsw (pc' := 90) D124_1 (by decide) (by rw [(rfl).trans x8]) (by decide) (by decide)).trans ?_
    refine (sx_iconst D124_90).trans ?_
    exact sx_ireturn D124_91 (by decide +kernel)
  refine (sx_lsw (pc' := 92) (o := 91) D124_1 (by decide) (by rw [show w _ = _ from rfl]; simp [Op.lookupswitch.offset, Ne.symm x1, Ne.symm x2, Ne.symm x3, Ne.symm x4, Ne.symm x5, Ne.symm x6, Ne.symm x7, Ne.symm x8]) (by decide) (by decide)).trans ?_
  refine (sx_iconst D124_92).trans ?_
  exact sx_ireturn D124_93 (by decide +kernel)
theorem E125_0 {d : Nat} {a0 : Int} {S : SS} {I : II} (h0 : UA S a0) : ev (d + 1) 125 0 [(2, a0)] [] S I = if w (I a0 5) < 1 then (some ((0, 0), S, I)) else ((ev d 126 0 [(2, a0), (0, 1)] [] S I).bind (fun q => ev (d + 1) 125 15 [(2, a0)] (psh q.1 []) q.2.1 q.2.2)) := by
  refine (sx_aload_n D125_0 rfl).trans ?_
  refine (sx_gfI (q := (6, 5, 0, 244)) (j := 5) D125_1 (by decide +kernel) (by decide +kernel) (by decide) (UA_o h0) rfl rfl).trans ?_
  refine (sx_iconst D125_4).trans ?_
  refine sx_if_ge (pc' := 10) D125_5 (by decide) (by decide) ?_ ?_ rfl (w_small (by decide) (by decide))
  · refine (sx_iconst D125_8).trans ?_
    exact sx_zreturn D125_9 (by decide +kernel) (by decide)
  · refine (sx_aload_n D125_10 rfl).trans ?_
    refine (sx_iconst D125_11).trans ?_
    exact sx_virt (c := 8) (ag := [(2, a0), (0, 1)]) (r := []) (al' := [(2, a0), (0, 1)]) (np := 1) (nl := 2) (q := (1, 126, 492)) D125_12 (by decide +kernel) (by decide) mP_126 mL_126 mC_126 (Nat.le_of_ble_eq_true rfl) rfl rfl (by simp [cat]) (by decide) (UA_o h0) rfl rfl
theorem E125_15 {d : Nat} {a0 : Int} {S : SS} {I : II} (h0 : UA S a0) : ev d 125 15 [(2, a0)] [] S I = some ((0, 1), S, (up2 (up2 I a0 3 ((I a0 3) - 1)) a0 5 ((I a0 5) - 1))) := by
  refine (sx_aload_n D125_15 rfl).trans ?_
  refine (sx_dup D125_16 (by decide)).trans ?_
  refine (sx_gfI (q := (6, 3, 0, 242)) (j := 3) D125_17 (by decide +kernel) (by decide +kernel) (by decide) (UA_o h0) rfl rfl).trans ?_
  refine (sx_iconst D125_20).trans ?_
  refine (sx_isub D125_21).trans ?_
  refine (sx_pfI (q := (6, 3, 0, 242)) (j := 3) D125_22 (by decide +kernel) (by decide) (by decide) (UA_o h0) rfl).trans ?_
  refine (sx_aload_n D125_25 rfl).trans ?_
  refine (sx_dup D125_26 (by decide)).trans ?_
  refine (sx_gfI (q := (6, 5, 0, 244)) (j := 5) D125_27 (by decide +kernel) (by decide +kernel) (by decide) (UA_o h0) rfl (up2_slot (by decide))).trans ?_
  refine (sx_iconst D125_30).trans ?_
  refine (sx_isub D125_31).trans ?_
  refine (sx_pfI (q := (6, 5, 0, 244)) (j := 5) D125_32 (by decide +kernel) (by decide) (by decide) (UA_o h0) rfl).trans ?_
  refine (sx_iconst D125_35).trans ?_
  exact sx_zreturn D125_36 (by decide +kernel) (by decide)
theorem E126_0 {d : Nat} {a0 a1 : Int} {S : SS} {I : II} (h0 : UA S a0) : ev (d + 1) 126 0 [(2, a0), (0, a1)] [] S I = if 0 < w (I a0 3) then (if 40 < w (I a0 3) then (ev (d + 1) 126 64 [(2, a0), (0, a1)] [] S I) else (gdR (0 ≤ w ((I a0 3) - 1) ∧ w ((I a0 3) - 1) < 40) ((ev d 124 0 [(0, I (a0 + 2) (w ((I a0 3) - 1)))] [] S I).bind (fun q => ev (d + 1) 126 30 [(2, a0), (0, a1)] (psh q.1 []) q.2.1 q.2.2)))) else (ev (d + 1) 126 64 [(2, a0), (0, a1)] [] S I) := by
  refine (sx_aload_n D126_0 rfl).trans ?_
  refine (sx_gfI (q := (6, 3, 0, 242)) (j := 3) D126_1 (by decide +kernel) (by decide +kernel) (by decide) (UA_o h0) rfl rfl).trans ?_
  refine sx_i0_le (pc' := 64) D126_4 (by decide) (by decide) ?_ ?_ rfl
  · refine (sx_aload_n D126_7 rfl).trans ?_
    refine (sx_gfI (q := (6, 3, 0, 242)) (j := 3) D126_8 (by decide +kernel) (by decide +kernel) (by decide) (UA_o h0) rfl rfl).trans ?_
    refine (sx_bipush D126_11 (by decide)).trans ?_
    refine sx_if_gt (pc' := 64) D126_13 (by decide) (by decide) ?_ ?_ rfl (w_small (by decide) (by decide))
    · exact rfl
    · refine (sx_aload_n D126_16 rfl).trans ?_
      refine (sx_gfR (q := (6, 2, 0, 241)) (b := a0 + 2) D126_17 (by decide +kernel) (by decide +kernel) (by decide) (UA_o h0) (UA_g2 h0)).trans ?_
      refine (sx_aload_n D126_20 rfl).trans ?_
      refine (sx_gfI (q := (6, 3, 0, 242)) (j := 3) D126_21 (by decide +kernel) (by decide +kernel) (by decide) (UA_o h0) rfl rfl).trans ?_
      refine (sx_iconst D126_24).trans ?_
      refine (sx_isub D126_25).trans ?_
      refine (sx_ia D126_26 (UA_k2 h0) rfl).trans (gdR_to fun g1 => ?_)
      exact sx_stat (ag := [(0, I (a0 + 2) (w ((I a0 3) - 1)))]) (r := []) (al' := [(0, I (a0 + 2) (w ((I a0 3) - 1)))]) (np := 1) (nl := 1) (q := (0, 124, 485)) D126_27 (by decide +kernel) (by decide) mP_124 mL_124 (Nat.le_of_ble_eq_true rfl) rfl rfl (by simp [cat]) rfl rfl
  · exact rfl
theorem E126_30 {d : Nat} {a0 a1 s0 : Int} {S : SS} {I : II} (h0 : UA S a0) : ev (d + 1) 126 30 [(2, a0), (0, a1)] [(0, s0)] S I = if w s0 < w a1 then (ev (d + 1) 126 64 [(2, a0), (0, a1)] [] S I) else (gdR (0 ≤ w ((I a0 3) - 1) ∧ w ((I a0 3) - 1) < 40) ((ev d 119 0 [(2, a0), (0, 2000 + (I (a0 + 2) (w ((I a0 3) - 1))))] [] S (up2 I a0 3 ((I a0 3) - 1))).bind (fun q => ev (d + 1) 126 61 [(2, a0), (0, a1)] (psh q.1 []) q.2.1 q.2.2))) := by
  refine (sx_iload_n D126_30 rfl).trans ?_
  refine sx_if_lt (pc' := 64) D126_31 (by decide) (by decide) ?_ ?_ rfl rfl
  · exact rfl
  · refine (sx_aload_n D126_34 rfl).trans ?_
    refine (sx_dup D126_35 (by decide)).trans ?_
    refine (sx_gfI (q := (6, 3, 0, 242)) (j := 3) D126_36 (by decide +kernel) (by decide +kernel) (by decide) (UA_o h0) rfl rfl).trans ?_
    refine (sx_iconst D126_39).trans ?_
    refine (sx_isub D126_40).trans ?_
    refine (sx_pfI (q := (6, 3, 0, 242)) (j := 3) D126_41 (by decide +kernel) (by decide) (by decide) (UA_o h0) rfl).trans ?_
    refine (sx_aload_n D126_44 rfl).trans ?_
    refine (sx_sipush D126_45 (by decide)).trans ?_
    refine (sx_aload_n D126_48 rfl).trans ?_
    refine (sx_gfR (q := (6, 2, 0, 241)) (b := a0 + 2) D126_49 (by decide +kernel) (by decide +kernel) (by decide) (UA_o h0) (UA_g2 h0)).trans ?_
    refine (sx_aload_n D126_52 rfl).trans ?_
    refine (sx_gfI (q := (6, 3, 0, 242)) (j := 3) D126_53 (by decide +kernel) (by decide +kernel) (by decide) (UA_o h0) rfl (up2_same _ _ _ _)).trans ?_
    refine (sx_ia D126_56 (UA_k2 h0) (up2_cell (by omega))).trans (gdR_to fun g1 => ?_)
    refine (sx_iadd D126_57).trans ?_
    exact sx_virt (c := 8) (ag := [(2, a0), (0, 2000 + (I (a0 + 2) (w ((I a0 3) - 1))))]) (r := []) (al' := [(2, a0), (0, 2000 + (I (a0 + 2) (w ((I a0 3) - 1))))]) (np := 1) (nl := 2) (q := (1, 119, 380)) D126_58 (by decide +kernel) (by decide) mP_119 mL_119 mC_119 (Nat.le_of_ble_eq_true rfl) rfl rfl (by simp [cat]) (by decide) (UA_o h0) rfl rfl
theorem E126_61 {d : Nat} {a0 a1 : Int} {S : SS} {I : II}  : ev d 126 61 [(2, a0), (0, a1)] [] S I = ev d 126 0 [(2, a0), (0, a1)] [] S I := by
  refine (sx_goto (pc' := 0) D126_61 (by decide) (by decide)).trans ?_
  exact rfl
theorem E126_64 {d : Nat} {a0 a1 : Int} {S : SS} {I : II}  : ev d 126 64 [(2, a0), (0, a1)] [] S I = some (uU, S, I) := by
  exact sx_return D126_64 (by decide +kernel)
theorem E127_0 {d : Nat} {a0 a1 : Int} {S : SS} {I : II} (h0 : UA S a1) (h1 : UA S a0) (h2 : a0 + 6 ≤ a1 ∨ a1 + 6 ≤ a0) : ev d 127 0 [(2, a0), (2, a1)] [] S I = some (uU, S, (up2 (cpy I (a1 + 1) 0 (a0 + 1) 0 40) a0 1 (I a1 1))) := by
  refine (sx_aload_n D127_0 rfl).trans ?_
  refine (sx_gfR (q := (6, 0, 0, 239)) (b := a1 + 1) D127_1 (by decide +kernel) (by decide +kernel) (by decide) (UA_o h0) (UA_g0 h0)).trans ?_
  refine (sx_iconst D127_4).trans ?_
  refine (sx_aload_n D127_5 rfl).trans ?_
  refine (sx_gfR (q := (6, 0, 0, 239)) (b := a0 + 1) D127_6 (by decide +kernel) (by decide +kernel) (by decide) (UA_o h1) (UA_g0 h1)).trans ?_
  refine (sx_iconst D127_9).trans ?_
  refine (sx_bipush D127_10 (by decide)).trans ?_
  refine (sx_acpy (q := (11, 0, 500)) D127_12 (by decide +kernel) rfl (UA_k0 h0) (UA_k0 h1) (by decide) (by simp [cat])).trans ?_
  show ev d 127 15 [(2, a0), (2, a1)] [] S (cpy I (a1 + 1) 0 (a0 + 1) 0 40) = _
  refine (sx_aload_n D127_15 rfl).trans ?_
  refine (sx_aload_n D127_16 rfl).trans ?_
  refine (sx_gfI (q := (6, 1, 0, 240)) (j := 1) D127_17 (by decide +kernel) (by decide +kernel) (by decide) (UA_o h0) rfl (cpy_cell (by omega))).trans ?_
  refine (sx_pfI (q := (6, 1, 0, 240)) (j := 1) D127_20 (by decide +kernel) (by decide) (by decide) (UA_o h1) rfl).trans ?_
  exact sx_return D127_23 (by decide +kernel)
theorem E128_0 {d : Nat} {a0 a1 a2 a3 a4 a5 : Int} {S : SS} {I : II} (h0 : UA S a0) : ev (d + 1) 128 0 [(2, a0), (0, a1), (0, a2), (0, a3), (0, a4), (0, a5)] [] S I = if w (I a0 1) = 0 then ((ev d 2 0 [(0, a1)] [] S I).bind (fun q => ev (d + 1) 128 11 [(2, a0), (0, a1), (0, a2), (0, a3), (0, a4), (0, a5)] (psh q.1 []) q.2.1 q.2.2)) else ((ev d 2 0 [(0, a1)] [] S I).bind (fun q => ev (d + 1) 128 29 [(2, a0), (0, a1), (0, a2), (0, a3), (0, a4), (0, a5)] (psh q.1 [(0, 0), (2, a0 + 4)]) q.2.1 q.2.2)) := by
  refine (sx_aload_n D128_0 rfl).trans ?_
  refine (sx_gfI (q := (6, 1, 0, 240)) (j := 1) D128_1 (by decide +kernel) (by decide +kernel) (by decide) (UA_o h0) rfl rfl).trans ?_
  refine sx_i0_ne (pc' := 20) D128_4 (by decide) (by decide) ?_ ?_ rfl
  · refine (sx_iload_n D128_7 rfl).trans ?_
    exact sx_stat (ag := [(0, a1)]) (r := []) (al' := [(0, a1)]) (np := 1) (nl := 1) (q := (0, 2, 708)) D128_8 (by decide +kernel) (by decide) mP_2 mL_2 (Nat.le_of_ble_eq_true rfl) rfl rfl (by simp [cat]) rfl rfl
  · refine (sx_aload_n D128_20 rfl).trans ?_
    refine (sx_gfR (q := (6, 8, 0, 247)) (b := a0 + 4) D128_21 (by decide +kernel) (by decide +kernel) (by decide) (UA_o h0) (UA_g8 h0)).trans ?_
    refine (sx_iconst D128_24).trans ?_
    refine (sx_iload_n D128_25 rfl).trans ?_
    exact sx_stat (ag := [(0, a1)]) (r := [(0, 0), (2, a0 + 4)]) (al' := [(0, a1)]) (np := 1) (nl := 1) (q := (0, 2, 708)) D128_26 (by decide +kernel) (by decide) mP_2 mL_2 (Nat.le_of_ble_eq_true rfl) rfl rfl (by simp [cat]) rfl rfl
theorem E128_11 {d : Nat} {a0 a1 a2 a3 a4 a5 s0 : Int} {S : SS} {I : II}  : ev d 128 11 [(2, a0), (0, a1), (0, a2), (0, a3), (0, a4), (0, a5)] [(0, s0)] S I = if 0 < w s0 then (ev d 128 19 [(2, a0), (0, a1), (0, a2), (0, a3), (0, a4), (0, a5)] [(0, 2)] S I) else (ev d 128 19 [(2, a0), (0, a1), (0, a2), (0, a3), (0, a4), (0, a5)] [(0, 1)] S I) := by
  refine sx_i0_le (pc' := 18) D128_11 (by decide) (by decide) ?_ ?_ rfl
  · refine (sx_iconst D128_14).trans ?_
    refine (sx_goto (pc' := 19) D128_15 (by decide) (by decide)).trans ?_
    exact rfl
  · refine (sx_iconst D128_18).trans ?_
    exact rfl
theorem E128_19 {d : Nat} {a0 a1 a2 a3 a4 a5 s0 : Int} {S : SS} {I : II}  : ev d 128 19 [(2, a0), (0, a1), (0, a2), (0, a3), (0, a4), (0, a5)] [(0, s0)] S I = some ((0, s0), S, I) := by
  exact sx_ireturn D128_19 (by decide +kernel)
theorem E128_29 {d : Nat} {a0 a1 a2 a3 a4 a5 s0 s1 s2 ln0 : Int} {S : SS} {I : II} (h0 : KA S s0 20 ln0) (h1 : UA S a0) : ev (d + 1) 128 29 [(2, a0), (0, a1), (0, a2), (0, a3), (0, a4), (0, a5)] [(0, s2), (0, s1), (2, s0)] S I = gdR (0 ≤ w s1 ∧ w s1 < ln0) ((ev d 1 0 [(0, a1)] [] S (up2 I s0 (w s1) s2)).bind (fun q => ev (d + 1) 128 39 [(2, a0), (0, a1), (0, a2), (0, a3), (0, a4), (0, a5)] (psh q.1 [(0, 1), (2, a0 + 4)]) q.2.1 q.2.2)) := by
  refine (sx_is D128_29 h0).trans (gdR_to fun g1 => ?_)
  refine (sx_aload_n D128_30 rfl).trans ?_
  refine (sx_gfR (q := (6, 8, 0, 247)) (b := a0 + 4) D128_31 (by decide +kernel) (by decide +kernel) (by decide) (UA_o h1) (UA_g8 h1)).trans ?_
  refine (sx_iconst D128_34).trans ?_
  refine (sx_iload_n D128_35 rfl).trans ?_
  exact sx_stat (ag := [(0, a1)]) (r := [(0, 1), (2, a0 + 4)]) (al' := [(0, a1)]) (np := 1) (nl := 1) (q := (0, 1, 709)) D128_36 (by decide +kernel) (by decide) mP_1 mL_1 (Nat.le_of_ble_eq_true rfl) rfl rfl (by simp [cat]) rfl rfl
theorem E128_39 {d : Nat} {a0 a1 a2 a3 a4 a5 s0 s1 s2 ln0 : Int} {S : SS} {I : II} (h0 : KA S s0 20 ln0) (h1 : UA S a0) : ev (d + 1) 128 39 [(2, a0), (0, a1), (0, a2), (0, a3), (0, a4), (0, a5)] [(0, s2), (0, s1), (2, s0)] S I = gdR (0 ≤ w s1 ∧ w s1 < ln0) ((ev d 4 0 [(0, a1)] [] S (up2 I s0 (w s1) s2)).bind (fun q => ev (d + 1) 128 49 [(2, a0), (0, a1), (0, a2), (0, a3), (0, a4), (0, a5)] (psh q.1 [(0, 2), (2, a0 + 4)]) q.2.1 q.2.2)) := by
  refine (sx_is D128_39 h0).trans (gdR_to fun g1 => ?_)
  refine (sx_aload_n D128_40 rfl).trans ?_
  refine (sx_gfR (q := (6, 8, 0, 247)) (b := a0 + 4) D128_41 (by decide +kernel) (by decide +kernel) (by decide) (UA_o h1) (UA_g8 h1)).trans ?_
  refine (sx_iconst D128_44).trans ?_
  refine (sx_iload_n D128_45 rfl).trans ?_
  exact sx_stat (ag := [(0, a1)]) (r := [(0, 2), (2, a0 + 4)]) (al' := [(0, a1)]) (np := 1) (nl := 1) (q := (0, 4, 710)) D128_46 (by decide +kernel) (by decide) mP_4 mL_4 (Nat.le_of_ble_eq_true rfl) rfl rfl (by simp [cat]) rfl rfl
theorem E128_49 {d : Nat} {a0 a1 a2 a3 a4 a5 s0 s1 s2 ln0 : Int} {S : SS} {I : II} (h0 : KA S s0 20 ln0) (h1 : UA S a0) : ev (d + 1) 128 49 [(2, a0), (0, a1), (0, a2), (0, a3), (0, a4), (0, a5)] [(0, s2), (0, s1), (2, s0)] S I = gdR (0 ≤ w s1 ∧ w s1 < ln0) ((ev d 129 0 [(2, a0), uU, uU, uU] [] S (up2 (up2 (up2 (up2 (up2 I s0 (w s1) s2) (a0 + 4) 3 a2) (a0 + 4) 4 a3) (a0 + 4) 5 a4) (a0 + 4) 6 (iRem a5 7))).bind (fun q => ev (d + 1) 128 91 [(2, a0), (0, a1), (0, a2), (0, a3), (0, a4), (0, a5)] (psh q.1 [(0, 1), (0, 9)]) q.2.1 q.2.2)) := by
  refine (sx_is D128_49 h0).trans (gdR_to fun g1 => ?_)
  refine (sx_aload_n D128_50 rfl).trans ?_
  refine (sx_gfR (q := (6, 8, 0, 247)) (b := a0 + 4) D128_51 (by decide +kernel) (by decide +kernel) (by decide) (UA_o h1) (UA_g8 h1)).trans ?_
  refine (sx_iconst D128_54).trans ?_
  refine (sx_iload_n D128_55 rfl).trans ?_
  refine (sx_isK (j := 3) D128_56 (UA_k8 h1) (w_small (by decide) (by decide)) (by decide) (by decide)).trans ?_
  refine (sx_aload_n D128_57 rfl).trans ?_
  refine (sx_gfR (q := (6, 8, 0, 247)) (b := a0 + 4) D128_58 (by decide +kernel) (by decide +kernel) (by decide) (UA_o h1) (UA_g8 h1)).trans ?_
  refine (sx_iconst D128_61).trans ?_
  refine (sx_iload_n D128_62 rfl).trans ?_
  refine (sx_isK (j := 4) D128_63 (UA_k8 h1) (w_small (by decide) (by decide)) (by decide) (by decide)).trans ?_
  refine (sx_aload_n D128_64 rfl).trans ?_
  refine (sx_gfR (q := (6, 8, 0, 247)) (b := a0 + 4) D128_65 (by decide +kernel) (by decide +kernel) (by decide) (UA_o h1) (UA_g8 h1)).trans ?_
  refine (sx_iconst D128_68).trans ?_
  refine (sx_iload D128_69 rfl).trans ?_
  refine (sx_isK (j := 5) D128_71 (UA_k8 h1) (w_small (by decide) (by decide)) (by decide) (by decide)).trans ?_
  refine (sx_aload_n D128_72 rfl).trans ?_
  refine (sx_gfR (q := (6, 8, 0, 247)) (b := a0 + 4) D128_73 (by decide +kernel) (by decide +kernel) (by decide) (UA_o h1) (UA_g8 h1)).trans ?_
  refine (sx_bipush D128_76 (by decide)).trans ?_
  refine (sx_iload D128_78 rfl).trans ?_
  refine (sx_bipush D128_80 (by decide)).trans ?_
  refine ((sx_irem D128_82).trans (gdR_pos (by decide))).trans ?_
  refine (sx_isK (j := 6) D128_83 (UA_k8 h1) (w_small (by decide) (by decide)) (by decide) (by decide)).trans ?_
  refine (sx_bipush D128_84 (by decide)).trans ?_
  refine (sx_iconst D128_86).trans ?_
  refine (sx_aload_n D128_87 rfl).trans ?_
  exact sx_virt (c := 8) (ag := [(2, a0)]) (r := [(0, 1), (0, 9)]) (al' := [(2, a0), uU, uU, uU]) (np := 0) (nl := 4) (q := (1, 129, 711)) D128_88 (by decide +kernel) (by decide) mP_129 mL_129 mC_129 (Nat.le_of_ble_eq_true rfl) rfl rfl (by simp [cat]) (by decide) (UA_o h1) rfl rfl
theorem E128_91 {d : Nat} {a0 a1 a2 a3 a4 a5 s0 s1 s2 : Int} {S : SS} {I : II}  : ev d 128 91 [(2, a0), (0, a1), (0, a2), (0, a3), (0, a4), (0, a5)] [(0, s2), (0, s1), (0, s0)] S I = some ((0, if (if w s1 < w s2 then w s2 else w s1) < w s0 then (if w s1 < w s2 then w s2 else w s1) else w s0), S, I) := by
  refine (sx_max (q := (12, 0, 722)) D128_91 (by decide +kernel) rfl (by simp [cat]) rfl rfl).trans ?_
  refine (sx_min (q := (13, 0, 368)) D128_94 (by decide +kernel) rfl (by simp [cat]) rfl (w_ite (w_toInt _) (w_toInt _))).trans ?_
  exact sx_ireturn D128_97 (by decide +kernel)
theorem E129_0 {d : Nat} {a0 : Int} {S : SS} {I : II}  : ev d 129 0 [(2, a0), uU, uU, uU] [] S I = ev d 129 4 [(2, a0), (0, 0), (0, 0), uU] [] S I := by
  refine (sx_iconst D129_0).trans ?_
  refine (sx_istore_n (al' := [(2, a0), (0, 0), uU, uU]) D129_1 (Nat.le_of_ble_eq_true rfl) rfl rfl).trans ?_
  refine (sx_iconst D129_2).trans ?_
  refine (sx_istore_n (al' := [(2, a0), (0, 0), (0, 0), uU]) D129_3 (Nat.le_of_ble_eq_true rfl) rfl rfl).trans ?_
  exact rfl
theorem E129_4 {d : Nat} {a0 a1 a2 : Int} {a3 : AV} {S : SS} {I : II} (h0 : UA S a0) : ev (d + 1) 129 4 [(2, a0), (0, a1), (0, a2), a3] [] S I = if w a2 < w (I a0 1) then (if w a2 < 40 then (gdR (0 ≤ w a2 ∧ w a2 < 40) (if w (I (a0 + 1) (w a2)) < 2000 then (if w a1 < 40 then ((ev d 130 0 [(2, a0), (0, I (a0 + 1) (w a2)), uU] [] S I).bind (fun q => ev (d + 1) 129 48 [(2, a0), (0, a1), (0, a2), (0, I (a0 + 1) (w a2))] (psh q.1 [(0, a1), (2, a0 + 5)]) q.2.1 q.2.2)) else (ev (d + 1) 129 126 [(2, a0), (0, a1), (0, a2), (0, I (a0 + 1) (w a2))] [] S I)) else (if w (I (a0 + 1) (w a2)) = 2256 then (if 0 < w a1 then (gdR (0 ≤ w (a1 - 1) ∧ w (a1 - 1) < 40) (gdR (0 ≤ w (a1 - 1) ∧ w (a1 - 1) < 40) (ev (d + 1) 129 126 [(2, a0), (0, a1), (0, a2), (0, I (a0 + 1) (w a2))] [] S (up2 I (a0 + 5) (w (a1 - 1)) (-(I (a0 + 5) (w (a1 - 1)))))))) else (ev (d + 1) 129 126 [(2, a0), (0, a1), (0, a2), (0, I (a0 + 1) (w a2))] [] S I)) else (if 1 < w a1 then (gdR (0 ≤ w (a1 - 2) ∧ w (a1 - 2) < 40) (gdR (0 ≤ w (a1 - 1) ∧ w (a1 - 1) < 40) ((ev d 131 0 [(0, (I (a0 + 1) (w a2)) - 2000), (0, I (a0 + 5) (w (a1 - 2))), (0, I (a0 + 5) (w (a1 - 1)))] [] S I).bind (fun q => ev (d + 1) 129 122 [(2, a0), (0, a1), (0, a2), (0, I (a0 + 1) (w a2))] (psh q.1 [(0, a1 - 2), (2, a0 + 5)]) q.2.1 q.2.2)))) else (ev (d + 1) 129 126 [(2, a0), (0, a1), (0, a2), (0, I (a0 + 1) (w a2))] [] S I))))) else (ev (d + 1) 129 132 [(2, a0), (0, a1), (0, a2), a3] [] S I)) else (ev (d + 1) 129 132 [(2, a0), (0, a1), (0, a2), a3] [] S I) := by
  refine (sx_iload_n D129_4 rfl).trans ?_
  refine (sx_aload_n D129_5 rfl).trans ?_
  refine (sx_gfI (q := (6, 1, 0, 240)) (j := 1) D129_6 (by decide +kernel) (by decide +kernel) (by decide) (UA_o h0) rfl rfl).trans ?_
  refine sx_if_ge (pc' := 132) D129_9 (by decide) (by decide) ?_ ?_ rfl rfl
  · refine (sx_iload_n D129_12 rfl).trans ?_
    refine (sx_bipush D129_13 (by decide)).trans ?_
    refine sx_if_ge (pc' := 132) D129_15 (by decide) (by decide) ?_ ?_ rfl (w_small (by decide) (by decide))
    · refine (sx_aload_n D129_18 rfl).trans ?_
      refine (sx_gfR (q := (6, 0, 0, 239)) (b := a0 + 1) D129_19 (by decide +kernel) (by decide +kernel) (by decide) (UA_o h0) (UA_g0 h0)).trans ?_
      refine (sx_iload_n D129_22 rfl).trans ?_
      refine (sx_ia D129_23 (UA_k0 h0) rfl).trans (gdR_to fun g1 => ?_)
      refine (sx_istore_n (al' := [(2, a0), (0, a1), (0, a2), (0, I (a0 + 1) (w a2))]) D129_24 (Nat.le_of_ble_eq_true rfl) rfl rfl).trans ?_
      refine (sx_iload_n D129_25 rfl).trans ?_
      refine (sx_sipush D129_26 (by decide)).trans ?_
      refine sx_if_ge (pc' := 55) D129_29 (by decide) (by decide) ?_ ?_ rfl (w_small (by decide) (by decide))
      · refine (sx_iload_n D129_32 rfl).trans ?_
        refine (sx_bipush D129_33 (by decide)).trans ?_
        refine sx_if_ge (pc' := 126) D129_35 (by decide) (by decide) ?_ ?_ rfl (w_small (by decide) (by decide))
        · refine (sx_aload_n D129_38 rfl).trans ?_
          refine (sx_gfR (q := (6, 9, 0, 248)) (b := a0 + 5) D129_39 (by decide +kernel) (by decide +kernel) (by decide) (UA_o h0) (UA_g9 h0)).trans ?_
          refine (sx_iload_n D129_42 rfl).trans ?_
          refine (sx_aload_n D129_43 rfl).trans ?_
          refine (sx_iload_n D129_44 rfl).trans ?_
          exact sx_virt (c := 8) (ag := [(2, a0), (0, I (a0 + 1) (w a2))]) (r := [(0, a1), (2, a0 + 5)]) (al' := [(2, a0), (0, I (a0 + 1) (w a2)), uU]) (np := 1) (nl := 3) (q := (1, 130, 715)) D129_45 (by decide +kernel) (by decide) mP_130 mL_130 mC_130 (Nat.le_of_ble_eq_true rfl) rfl rfl (by simp [cat]) (by decide) (UA_o h0) rfl rfl
        · exact rfl
      · refine (sx_iload_n D129_55 rfl).trans ?_
        refine (sx_sipush D129_56 (by decide)).trans ?_
        refine sx_if_ne (pc' := 86) D129_59 (by decide) (by decide) ?_ ?_ rfl (w_small (by decide) (by decide))
        · refine (sx_iload_n D129_62 rfl).trans ?_
          refine sx_i0_le (pc' := 126) D129_63 (by decide) (by decide) ?_ ?_ rfl
          · refine (sx_aload_n D129_66 rfl).trans ?_
            refine (sx_gfR (q := (6, 9, 0, 248)) (b := a0 + 5) D129_67 (by decide +kernel) (by decide +kernel) (by decide) (UA_o h0) (UA_g9 h0)).trans ?_
            refine (sx_iload_n D129_70 rfl).trans ?_
            refine (sx_iconst D129_71).trans ?_
            refine (sx_isub D129_72).trans ?_
            refine (sx_aload_n D129_73 rfl).trans ?_
            refine (sx_gfR (q := (6, 9, 0, 248)) (b := a0 + 5) D129_74 (by decide +kernel) (by decide +kernel) (by decide) (UA_o h0) (UA_g9 h0)).trans ?_
            refine (sx_iload_n D129_77 rfl).trans ?_
            refine (sx_iconst D129_78).trans ?_
            refine (sx_isub D129_79).trans ?_
            refine (sx_ia D129_80 (UA_k9 h0) rfl).trans (gdR_to fun g2 => ?_)
            refine (sx_ineg D129_81).trans ?_
            refine (sx_is D129_82 (UA_k9 h0)).trans (gdR_to fun g3 => ?_)
            refine (sx_goto (pc' := 126) D129_83 (by decide) (by decide)).trans ?_
            exact rfl
          · exact rfl
        · refine (sx_iload_n D129_86 rfl).trans ?_
          refine (sx_iconst D129_87).trans ?_
          refine sx_if_le (pc' := 126) D129_88 (by decide) (by decide) ?_ ?_ rfl (w_small (by decide) (by decide))
          · refine (sx_aload_n D129_91 rfl).trans ?_
            refine (sx_gfR (q := (6, 9, 0, 248)) (b := a0 + 5) D129_92 (by decide +kernel) (by decide +kernel) (by decide) (UA_o h0) (UA_g9 h0)).trans ?_
            refine (sx_iload_n D129_95 rfl).trans ?_
            refine (sx_iconst D129_96).trans ?_
            refine (sx_isub D129_97).trans ?_
            refine (sx_iload_n D129_98 rfl).trans ?_
            refine (sx_sipush D129_99 (by decide)).trans ?_
            refine (sx_isub D129_102).trans ?_
            refine (sx_aload_n D129_103 rfl).trans ?_
            refine (sx_gfR (q := (6, 9, 0, 248)) (b := a0 + 5) D129_104 (by decide +kernel) (by decide +kernel) (by decide) (UA_o h0) (UA_g9 h0)).trans ?_
            refine (sx_iload_n D129_107 rfl).trans ?_
            refine (sx_iconst D129_108).trans ?_
            refine (sx_isub D129_109).trans ?_
            refine (sx_ia D129_110 (UA_k9 h0) rfl).trans (gdR_to fun g4 => ?_)
            refine (sx_aload_n D129_111 rfl).trans ?_
            refine (sx_gfR (q := (6, 9, 0, 248)) (b := a0 + 5) D129_112 (by decide +kernel) (by decide +kernel) (by decide) (UA_o h0) (UA_g9 h0)).trans ?_
            refine (sx_iload_n D129_115 rfl).trans ?_
            refine (sx_iconst D129_116).trans ?_
            refine (sx_isub D129_117).trans ?_
            refine (sx_ia D129_118 (UA_k9 h0) rfl).trans (gdR_to fun g5 => ?_)
            exact sx_stat (ag := [(0, (I (a0 + 1) (w a2)) - 2000), (0, I (a0 + 5) (w (a1 - 2))), (0, I (a0 + 5) (w (a1 - 1)))]) (r := [(0, a1 - 2), (2, a0 + 5)]) (al' := [(0, (I (a0 + 1) (w a2)) - 2000), (0, I (a0 + 5) (w (a1 - 2))), (0, I (a0 + 5) (w (a1 - 1)))]) (np := 3) (nl := 3) (q := (0, 131, 719)) D129_119 (by decide +kernel) (by decide) mP_131 mL_131 (Nat.le_of_ble_eq_true rfl) rfl rfl (by simp [cat]) rfl rfl
          · exact rfl
    · exact rfl
  · exact rfl
theorem E129_48 {d : Nat} {a0 a1 a2 a3 s0 s1 s2 ln0 : Int} {S : SS} {I : II} (h0 : KA S s0 20 ln0) : ev d 129 48 [(2, a0), (0, a1), (0, a2), (0, a3)] [(0, s2), (0, s1), (2, s0)] S I = gdR (0 ≤ w s1 ∧ w s1 < ln0) (ev d 129 126 [(2, a0), (0, a1 + 1), (0, a2), (0, a3)] [] S (up2 I s0 (w s1) s2)) := by
  refine (sx_is D129_48 h0).trans (gdR_to fun g1 => ?_)
  refine (sx_iinc (al' := [(2, a0), (0, a1 + 1), (0, a2), (0, a3)]) D129_49 rfl rfl).trans ?_
  refine (sx_goto (pc' := 126) D129_52 (by decide) (by decide)).trans ?_
  exact rfl
theorem E129_122 {d : Nat} {a0 a1 a2 a3 s0 s1 s2 ln0 : Int} {S : SS} {I : II} (h0 : KA S s0 20 ln0) : ev d 129 122 [(2, a0), (0, a1), (0, a2), (0, a3)] [(0, s2), (0, s1), (2, s0)] S I = gdR (0 ≤ w s1 ∧ w s1 < ln0) (ev d 129 126 [(2, a0), (0, a1 + (-1)), (0, a2), (0, a3)] [] S (up2 I s0 (w s1) s2)) := by
  refine (sx_is D129_122 h0).trans (gdR_to fun g1 => ?_)
  refine (sx_iinc (al' := [(2, a0), (0, a1 + (-1)), (0, a2), (0, a3)]) D129_123 rfl rfl).trans ?_
  exact rfl
theorem E129_126 {d : Nat} {a0 a1 a2 a3 : Int} {S : SS} {I : II}  : ev d 129 126 [(2, a0), (0, a1), (0, a2), (0, a3)] [] S I = ev d 129 4 [(2, a0), (0, a1), (0, a2 + 1), (0, a3)] [] S I := by
  refine (sx_iinc (al' := [(2, a0), (0, a1), (0, a2 + 1), (0, a3)]) D129_126 rfl rfl).trans ?_
  refine (sx_goto (pc' := 4) D129_129 (by decide) (by decide)).trans ?_
  exact rfl
theorem E129_132 {d : Nat} {a0 a1 a2 : Int} {a3 : AV} {S : SS} {I : II} (h0 : UA S a0) : ev d 129 132 [(2, a0), (0, a1), (0, a2), a3] [] S I = some ((0, I (a0 + 5) 0), S, I) := by
  refine (sx_aload_n D129_132 rfl).trans ?_
  refine (sx_gfR (q := (6, 9, 0, 248)) (b := a0 + 5) D129_133 (by decide +kernel) (by decide +kernel) (by decide) (UA_o h0) (UA_g9 h0)).trans ?_
  refine (sx_iconst D129_136).trans ?_
  refine (sx_iaK (j := 0) D129_137 (UA_k9 h0) (w_small (by decide) (by decide)) (by decide) (by decide) rfl).trans ?_
  exact sx_ireturn D129_138 (by decide +kernel)
theorem E130_0 {d : Nat} {a0 a1 : Int} {S : SS} {I : II} (h0 : UA S a0) : ev d 130 0 [(2, a0), (0, a1), uU] [] S I = if w (a1 - 1000) < 0 then (ev d 130 28 [(2, a0), (0, a1), (0, a1 - 1000)] [] S I) else (if w (a1 - 1000) < 7 then (gdR (0 ≤ w (a1 - 1000) ∧ w (a1 - 1000) < 7) (ev d 130 29 [(2, a0), (0, a1), (0, a1 - 1000)] [(0, I (a0 + 4) (w (a1 - 1000)))] S I)) else (ev d 130 28 [(2, a0), (0, a1), (0, a1 - 1000)] [] S I)) := by
  refine (sx_iload_n D130_0 rfl).trans ?_
  refine (sx_sipush D130_1 (by decide)).trans ?_
  refine (sx_isub D130_4).trans ?_
  refine (sx_istore_n (al' := [(2, a0), (0, a1), (0, a1 - 1000)]) D130_5 (Nat.le_of_ble_eq_true rfl) rfl rfl).trans ?_
  refine (sx_iload_n D130_6 rfl).trans ?_
  refine sx_i0_lt (pc' := 28) D130_7 (by decide) (by decide) ?_ ?_ rfl
  · exact rfl
  · refine (sx_iload_n D130_10 rfl).trans ?_
    refine (sx_aload_n D130_11 rfl).trans ?_
    refine (sx_gfR (q := (6, 8, 0, 247)) (b := a0 + 4) D130_12 (by decide +kernel) (by decide +kernel) (by decide) (UA_o h0) (UA_g8 h0)).trans ?_
    refine (sx_alen D130_15 (by decide) (UA_k8 h0)).trans ?_
    refine sx_if_ge (pc' := 28) D130_16 (by decide) (by decide) ?_ ?_ rfl (w_small (by decide) (by decide))
    · refine (sx_aload_n D130_19 rfl).trans ?_
      refine (sx_gfR (q := (6, 8, 0, 247)) (b := a0 + 4) D130_20 (by decide +kernel) (by decide +kernel) (by decide) (UA_o h0) (UA_g8 h0)).trans ?_
      refine (sx_iload_n D130_23 rfl).trans ?_
      refine (sx_ia D130_24 (UA_k8 h0) rfl).trans (gdR_to fun g1 => ?_)
      refine (sx_goto (pc' := 29) D130_25 (by decide) (by decide)).trans ?_
      exact rfl
    · exact rfl
theorem E130_28 {d : Nat} {a0 a1 a2 : Int} {S : SS} {I : II}  : ev d 130 28 [(2, a0), (0, a1), (0, a2)] [] S I = ev d 130 29 [(2, a0), (0, a1), (0, a2)] [(0, a1)] S I := by
  refine (sx_iload_n D130_28 rfl).trans ?_
  exact rfl
theorem E130_29 {d : Nat} {a0 a1 a2 s0 : Int} {S : SS} {I : II}  : ev d 130 29 [(2, a0), (0, a1), (0, a2)] [(0, s0)] S I = some ((0, s0), S, I) := by
  exact sx_ireturn D130_29 (by decide +kernel)
theorem E131_0 {d : Nat} {a0 a1 a2 : Int} {S : SS} {I : II}  : ev d 131 0 [(0, a0), (0, a1), (0, a2)] [] S I = if w a0 = 42 then (some ((0, a1 * a2), S, I)) else (if w a0 = 43 then (some ((0, a1 + a2), S, I)) else (if w a0 = 45 then (some ((0, a1 - a2), S, I)) else (if w a0 = 60 then (if w a1 < w a2 then (ev d 131 70 [(0, a0), (0, a1), (0, a2)] [(0, 1)] S I) else (ev d 131 70 [(0, a0), (0, a1), (0, a2)] [(0, 0)] S I)) else (if w a0 = 61 then (if w a1 = w a2 then (ev d 131 92 [(0, a0), (0, a1), (0, a2)] [(0, 1)] S I) else (ev d 131 92 [(0, a0), (0, a1), (0, a2)] [(0, 0)] S I)) else (if w a0 = 62 then (if w a2 < w a1 then (ev d 131 81 [(0, a0), (0, a1), (0, a2)] [(0, 1)] S I) else (ev d 131 81 [(0, a0), (0, a1), (0, a2)] [(0, 0)] S I)) else (if w a2 = 0 then (ev d 131 116 [(0, a0), (0, a1), (0, a2)] [(0, 0)] S I) else (gdR (w a2 ≠ 0) (ev d 131 116 [(0, a0), (0, a1), (0, a2)] [(0, iDiv a1 a2)] S I)))))))) := by
  refine (sx_iload_n D131_0 rfl).trans ?_
  refine ite_go (c := w a0 = 42) (fun x1 => ?_) (fun x1 => ?_)
  · refine (sx_lsw (pc' := 101) D131_1 (by decide) (by rw [(rfl).trans x1]) (by decide) (by decide)).trans ?_
    refine (sx_iload_n D131_101 rfl).trans ?_
    refine (sx_iload_n D131_102 rfl).trans ?_
    refine (sx_imul D131_103).trans ?_
    exact sx_ireturn D131_104 (by decide +kernel)
  refine ite_go (c := w a0 = 43) (fun x2 => ?_) (fun x2 => ?_)
  · refine (sx_lsw (pc' := 93) D131_1 (by decide) (by rw [(rfl).trans x2]) (by decide) (by decide)).trans ?_
    refine (sx_iload_n D131_93 rfl).trans ?_
    refine (sx_iload_n D131_94 rfl).trans ?_
    refine (sx_iadd D131_95).trans ?_
    exact sx_ireturn D131_96 (by decide +kernel)
  refine ite_go (c := w a0 = 45) (fun x3 => ?_) (fun x3 => ?_)
  · refine (sx_lsw (pc' := 97) D131_1 (by decide) (by rw [(rfl).trans x3]) (by decide) (by decide)).trans ?_
    refine (sx_iload_n D131_97 rfl).trans ?_
    refine (sx_iload_n D131_98 rfl).trans ?_
    refine (sx_isub D131_99).trans ?_
    exact sx_ireturn D131_100 (by decide +kernel)
  refine ite_go (c := w a0 = 60) (fun x4 => ?_) (fun x4 => ?_)
  · refine (sx_lsw (pc' := 60) D131_1 (by decide) (by rw [(rfl).trans x4]) (by decide) (by decide)).trans ?_
    refine (sx_iload_n D131_60 rfl).trans ?_
    refine (sx_iload_n D131_61 rfl).trans ?_
    refine sx_if_ge (pc' := 69) D131_62 (by decide) (by decide) ?_ ?_ rfl rfl
    · refine (sx_iconst D131_65).trans ?_
      refine (sx_goto (pc' := 70) D131_66 (by decide) (by decide)).trans ?_
      exact rfl
    · refine (sx_iconst D131_69).trans ?_
      exact rfl
  refine ite_go (c := w a0 = 61) (fun x5 => ?_) (fun x5 => ?_)
  · refine (sx_lsw (pc' := 82) D131_1 (by decide) (by rw [(rfl).trans x5]) (by decide) (by decide)).trans ?_
    refine (sx_iload_n D131_82 rfl).trans ?_
    refine (sx_iload_n D131_83 rfl).trans ?_
    refine sx_if_ne (pc' := 91) D131_84 (by decide) (by decide) ?_ ?_ rfl rfl
    · refine (sx_iconst D131_87).trans ?_
      refine (sx_goto (pc' := 92) D131_88 (by decide) (by decide)).trans ?_
      exact rfl
    · refine (sx_iconst D131_91).trans ?_
      exact rfl
  refine ite_go (c := w a0 = 62) (fun x6 => ?_) (fun x6 => ?_)
  · refine (sx_lsw (pc' := 71) D131_1 (by decide) (by rw [(rfl).trans x6]) (by decide) (by decide)).trans ?_
    refine (sx_iload_n D131_71 rfl).trans ?_
    refine (sx_iload_n D131_72 rfl).trans ?_
    refine sx_if_le (pc' := 80) D131_73 (by decide) (by decide) ?_ ?_ rfl rfl
    · refine (sx_iconst D131_76).trans ?_
      refine (sx_goto (pc' := 81) D131_77 (by decide) (by decide)).trans ?_
      exact rfl
    · refine (sx_iconst D131_80).trans ?_
      exact rfl
  refine (sx_lsw (pc' := 105) (o := 104) D131_1 (by decide) (by rw [show w _ = _ from rfl]; simp [Op.lookupswitch.offset, Ne.symm x1, Ne.symm x2, Ne.symm x3, Ne.symm x4, Ne.symm x5, Ne.symm x6]) (by decide) (by decide)).trans ?_
  refine (sx_iload_n D131_105 rfl).trans ?_
  refine sx_i0_ne (pc' := 113) D131_106 (by decide) (by decide) ?_ ?_ rfl
  · refine (sx_iconst D131_109).trans ?_
    refine (sx_goto (pc' := 116) D131_110 (by decide) (by decide)).trans ?_
    exact rfl
  · refine (sx_iload_n D131_113 rfl).trans ?_
    refine (sx_iload_n D131_114 rfl).trans ?_
    refine (sx_idiv D131_115).trans (gdR_to fun g7 => ?_)
    exact rfl
theorem E131_70 {d : Nat} {a0 a1 a2 s0 : Int} {S : SS} {I : II}  : ev d 131 70 [(0, a0), (0, a1), (0, a2)] [(0, s0)] S I = some ((0, s0), S, I) := by
  exact sx_ireturn D131_70 (by decide +kernel)
theorem E131_81 {d : Nat} {a0 a1 a2 s0 : Int} {S : SS} {I : II}  : ev d 131 81 [(0, a0), (0, a1), (0, a2)] [(0, s0)] S I = some ((0, s0), S, I) := by
  exact sx_ireturn D131_81 (by decide +kernel)
theorem E131_92 {d : Nat} {a0 a1 a2 s0 : Int} {S : SS} {I : II}  : ev d 131 92 [(0, a0), (0, a1), (0, a2)] [(0, s0)] S I = some ((0, s0), S, I) := by
  exact sx_ireturn D131_92 (by decide +kernel)
theorem E131_116 {d : Nat} {a0 a1 a2 s0 : Int} {S : SS} {I : II}  : ev d 131 116 [(0, a0), (0, a1), (0, a2)] [(0, s0)] S I = some ((0, s0), S, I) := by
  exact sx_ireturn D131_116 (by decide +kernel)
theorem E132_0 {d : Nat} {S : SS} {I : II} (h0 : (0 : Int) ≤ 1) : ev d 132 0 [(2, 1)] [] S I = ev d 132 9 [(2, 1)] [(2, (S.1 : Int)), (2, 1)] (newS S 22 80) (newI S I) := by
  refine (sx_aload_n D132_0 rfl).trans ?_
  refine (sx_obj (q := (10, 0, 39)) D132_1 (by decide +kernel) rfl h0 (by simp [cat])).trans ?_
  refine (sx_aload_n D132_4 rfl).trans ?_
  refine (sx_bipush D132_5 (by decide)).trans ?_
  refine (sx_newarr (kk := 22) D132_7 (by decide) (by decide)).trans ?_
  exact rfl
theorem E132_9 {d : Nat} {s1 : Int} {S : SS} {I : II} (h0 : (0 : Int) ≤ s1) (h1 : KO S 1 7) : ev d 132 9 [(2, 1)] [(2, s1), (2, 1)] S I = ev d 132 12 [(2, 1)] [] (S.1, S.2.1, S.2.2.1, up2 (sG S) 1 0 s1) I := by
  refine (sx_pfR (q := (7, 0, 0, 40)) (j := 0) D132_9 (by decide +kernel) (by decide +kernel) (by decide) h1 h0 rfl).trans ?_
  exact rfl
theorem E132_12 {d : Nat} {S : SS} {I : II}  : ev d 132 12 [(2, 1)] [] S I = some (uU, S, I) := by
  exact sx_return D132_12 (by decide +kernel)
theorem E133_0 {d : Nat} {a1 : Int} {S : SS} {I : II} (h0 : TA S 1) : ev d 133 0 [(2, 1), (0, a1), uU] [] S I = if 76 < w (I 1 1) then (some ((0, (-1)), S, I)) else (ev d 133 14 [(2, 1), (0, a1), (0, 24)] [] S I) := by
  refine (sx_aload_n D133_0 rfl).trans ?_
  refine (sx_gfI (q := (7, 1, 0, 41)) (j := 1) D133_1 (by decide +kernel) (by decide +kernel) (by decide) (TA_o h0) rfl rfl).trans ?_
  refine (sx_bipush D133_4 (by decide)).trans ?_
  refine sx_if_le (pc' := 11) D133_6 (by decide) (by decide) ?_ ?_ rfl (w_small (by decide) (by decide))
  · refine (sx_iconst D133_9).trans ?_
    exact sx_ireturn D133_10 (by decide +kernel)
  · refine (sx_bipush D133_11 (by decide)).trans ?_
    refine (sx_istore_n (al' := [(2, 1), (0, a1), (0, 24)]) D133_13 (Nat.le_of_ble_eq_true rfl) rfl rfl).trans ?_
    exact rfl
theorem E133_14 {d : Nat} {a1 a2 : Int} {S : SS} {I : II} (h0 : TA S 1) : ev d 133 14 [(2, 1), (0, a1), (0, a2)] [] S I = if w a2 < 0 then (some ((0, I 1 1), S, I)) else (gdR ((0 ≤ w (I 1 1) ∧ w (I 1 1) < 80) ∧ 0 ≤ iC (iAnd (iShr a1 a2) 255) ∧ iC (iAnd (iShr a1 a2) 255) < 65536) (ev d 133 14 [(2, 1), (0, a1), (0, a2 + (-8))] [] S (up2 (up2 I 2 (w (I 1 1)) (iC (iAnd (iShr a1 a2) 255))) 1 1 ((I 1 1) + 1)))) := by
  refine (sx_iload_n D133_14 rfl).trans ?_
  refine sx_i0_lt (pc' := 51) D133_15 (by decide) (by decide) ?_ ?_ rfl
  · refine (sx_aload_n D133_51 rfl).trans ?_
    refine (sx_gfI (q := (7, 1, 0, 41)) (j := 1) D133_52 (by decide +kernel) (by decide +kernel) (by decide) (TA_o h0) rfl rfl).trans ?_
    exact sx_ireturn D133_55 (by decide +kernel)
  · refine (sx_aload_n D133_18 rfl).trans ?_
    refine (sx_gfR (q := (7, 0, 0, 40)) (b := 2) D133_19 (by decide +kernel) (by decide +kernel) (by decide) (TA_o h0) (TA_g0 h0)).trans ?_
    refine (sx_aload_n D133_22 rfl).trans ?_
    refine (sx_gfI (q := (7, 1, 0, 41)) (j := 1) D133_23 (by decide +kernel) (by decide +kernel) (by decide) (TA_o h0) rfl rfl).trans ?_
    refine (sx_iload_n D133_26 rfl).trans ?_
    refine (sx_iload_n D133_27 rfl).trans ?_
    refine (sx_ishr D133_28).trans ?_
    refine (sx_sipush D133_29 (by decide)).trans ?_
    refine (sx_iand D133_32).trans ?_
    refine (sx_i2c D133_33).trans ?_
    refine (sx_cs D133_34 (TA_k0 h0)).trans (gdR_to fun g1 => ?_)
    refine (sx_aload_n D133_35 rfl).trans ?_
    refine (sx_dup D133_36 (by decide)).trans ?_
    refine (sx_gfI (q := (7, 1, 0, 41)) (j := 1) D133_37 (by decide +kernel) (by decide +kernel) (by decide) (TA_o h0) rfl (up2_cell (by omega))).trans ?_
    refine (sx_iconst D133_40).trans ?_
    refine (sx_iadd D133_41).trans ?_
    refine (sx_pfI (q := (7, 1, 0, 41)) (j := 1) D133_42 (by decide +kernel) (by decide) (by decide) (TA_o h0) rfl).trans ?_
    refine (sx_iinc (al' := [(2, 1), (0, a1), (0, a2 + (-8))]) D133_45 rfl rfl).trans ?_
    refine (sx_goto (pc' := 14) D133_48 (by decide) (by decide)).trans ?_
    exact rfl
theorem E134_0 {d : Nat} {a1 : Int} {S : SS} {I : II} (h0 : TA S 1) : ev d 134 0 [(2, 1), (0, a1)] [] S I = if w a1 < 0 then (ev d 134 12 [(2, 1), (0, a1)] [] S I) else (if w (I 1 1) < w a1 then (ev d 134 12 [(2, 1), (0, a1)] [] S I) else (some ((0, 1), S, (up2 I 1 1 a1)))) := by
  refine (sx_iload_n D134_0 rfl).trans ?_
  refine sx_i0_lt (pc' := 12) D134_1 (by decide) (by decide) ?_ ?_ rfl
  · exact rfl
  · refine (sx_iload_n D134_4 rfl).trans ?_
    refine (sx_aload_n D134_5 rfl).trans ?_
    refine (sx_gfI (q := (7, 1, 0, 41)) (j := 1) D134_6 (by decide +kernel) (by decide +kernel) (by decide) (TA_o h0) rfl rfl).trans ?_
    refine sx_if_le (pc' := 14) D134_9 (by decide) (by decide) ?_ ?_ rfl rfl
    · exact rfl
    · refine (sx_aload_n D134_14 rfl).trans ?_
      refine (sx_iload_n D134_15 rfl).trans ?_
      refine (sx_pfI (q := (7, 1, 0, 41)) (j := 1) D134_16 (by decide +kernel) (by decide) (by decide) (TA_o h0) rfl).trans ?_
      refine (sx_iconst D134_19).trans ?_
      exact sx_zreturn D134_20 (by decide +kernel) (by decide)
theorem E134_12 {d : Nat} {a1 : Int} {S : SS} {I : II}  : ev d 134 12 [(2, 1), (0, a1)] [] S I = some ((0, 0), S, I) := by
  refine (sx_iconst D134_12).trans ?_
  exact sx_zreturn D134_13 (by decide +kernel) (by decide)
theorem E135_0 {d : Nat} {a1 : Int} {S : SS} {I : II} (h0 : TA S 1) : ev d 135 0 [(2, 1), (0, a1)] [] S I = if w a1 < 0 then (ev d 135 21 [(2, 1), (0, a1)] [] S I) else (if w a1 < w (I 1 1) then (gdR (0 ≤ w a1 ∧ w a1 < 80) (ev d 135 22 [(2, 1), (0, a1)] [(0, I 2 (w a1))] S I)) else (ev d 135 21 [(2, 1), (0, a1)] [] S I)) := by
  refine (sx_iload_n D135_0 rfl).trans ?_
  refine sx_i0_lt (pc' := 21) D135_1 (by decide) (by decide) ?_ ?_ rfl
  · exact rfl
  · refine (sx_iload_n D135_4 rfl).trans ?_
    refine (sx_aload_n D135_5 rfl).trans ?_
    refine (sx_gfI (q := (7, 1, 0, 41)) (j := 1) D135_6 (by decide +kernel) (by decide +kernel) (by decide) (TA_o h0) rfl rfl).trans ?_
    refine sx_if_ge (pc' := 21) D135_9 (by decide) (by decide) ?_ ?_ rfl rfl
    · refine (sx_aload_n D135_12 rfl).trans ?_
      refine (sx_gfR (q := (7, 0, 0, 40)) (b := 2) D135_13 (by decide +kernel) (by decide +kernel) (by decide) (TA_o h0) (TA_g0 h0)).trans ?_
      refine (sx_iload_n D135_16 rfl).trans ?_
      refine (sx_ca D135_17 (TA_k0 h0) rfl).trans (gdR_to fun g1 => ?_)
      refine (sx_goto (pc' := 22) D135_18 (by decide) (by decide)).trans ?_
      exact rfl
    · exact rfl
theorem E135_21 {d : Nat} {a1 : Int} {S : SS} {I : II}  : ev d 135 21 [(2, 1), (0, a1)] [] S I = ev d 135 22 [(2, 1), (0, a1)] [(0, (-1))] S I := by
  refine (sx_iconst D135_21).trans ?_
  exact rfl
theorem E135_22 {d : Nat} {a1 s0 : Int} {S : SS} {I : II}  : ev d 135 22 [(2, 1), (0, a1)] [(0, s0)] S I = some ((0, s0), S, I) := by
  exact sx_ireturn D135_22 (by decide +kernel)
theorem E136_0 {d : Nat} {a1 : Int} {S : SS} {I : II} (h0 : TA S 1) : ev (d + 1) 136 0 [(2, 1), (0, a1)] [] S I = (ev d 135 0 [(2, 1), (0, a1)] [] S I).bind (fun q => ev (d + 1) 136 5 [(2, 1), (0, a1)] (psh q.1 []) q.2.1 q.2.2) := by
  refine (sx_aload_n D136_0 rfl).trans ?_
  refine (sx_iload_n D136_1 rfl).trans ?_
  exact sx_virt (c := 9) (ag := [(2, 1), (0, a1)]) (r := []) (al' := [(2, 1), (0, a1)]) (np := 1) (nl := 2) (q := (1, 135, 347)) D136_2 (by decide +kernel) (by decide) mP_135 mL_135 mC_135 (Nat.le_of_ble_eq_true rfl) rfl rfl (by simp [cat]) (by decide) (TA_o h0) rfl rfl
theorem E136_5 {d : Nat} {a1 s0 : Int} {S : SS} {I : II}  : ev d 136 5 [(2, 1), (0, a1)] [(0, s0)] S I = some ((0, s0 - 48), S, I) := by
  refine (sx_bipush D136_5 (by decide)).trans ?_
  refine (sx_isub D136_7).trans ?_
  exact sx_ireturn D136_8 (by decide +kernel)
theorem E137_0 {d : Nat} {S : SS} {I : II} (h0 : TA S 1) : ev d 137 0 [(2, 1)] [] S I = some (uU, S, (up2 I 1 1 0)) := by
  refine (sx_aload_n D137_0 rfl).trans ?_
  refine (sx_iconst D137_1).trans ?_
  refine (sx_pfI (q := (7, 1, 0, 41)) (j := 1) D137_2 (by decide +kernel) (by decide) (by decide) (TA_o h0) rfl).trans ?_
  exact sx_return D137_5 (by decide +kernel)
theorem E138_0 {d : Nat} {a1 : Int} {S : SS} {I : II} (h0 : TA S 1) : ev (d + 1) 138 0 [(2, 1), (0, a1)] [] S I = (ev d 136 0 [(2, 1), (0, a1)] [] S I).bind (fun q => ev (d + 1) 138 7 [(2, 1), (0, a1)] (psh q.1 [(0, 10)]) q.2.1 q.2.2) := by
  refine (sx_bipush D138_0 (by decide)).trans ?_
  refine (sx_aload_n D138_2 rfl).trans ?_
  refine (sx_iload_n D138_3 rfl).trans ?_
  exact sx_virt (c := 9) (ag := [(2, 1), (0, a1)]) (r := [(0, 10)]) (al' := [(2, 1), (0, a1)]) (np := 1) (nl := 2) (q := (1, 136, 905)) D138_4 (by decide +kernel) (by decide) mP_136 mL_136 mC_136 (Nat.le_of_ble_eq_true rfl) rfl rfl (by simp [cat]) (by decide) (TA_o h0) rfl rfl
theorem E138_7 {d : Nat} {a1 s0 s1 : Int} {S : SS} {I : II} (h0 : TA S 1) : ev (d + 1) 138 7 [(2, 1), (0, a1)] [(0, s1), (0, s0)] S I = (ev d 136 0 [(2, 1), (0, a1 + 1)] [] S I).bind (fun q => ev (d + 1) 138 15 [(2, 1), (0, a1)] (psh q.1 [(0, s0 * s1)]) q.2.1 q.2.2) := by
  refine (sx_imul D138_7).trans ?_
  refine (sx_aload_n D138_8 rfl).trans ?_
  refine (sx_iload_n D138_9 rfl).trans ?_
  refine (sx_iconst D138_10).trans ?_
  refine (sx_iadd D138_11).trans ?_
  exact sx_virt (c := 9) (ag := [(2, 1), (0, a1 + 1)]) (r := [(0, s0 * s1)]) (al' := [(2, 1), (0, a1 + 1)]) (np := 1) (nl := 2) (q := (1, 136, 905)) D138_12 (by decide +kernel) (by decide) mP_136 mL_136 mC_136 (Nat.le_of_ble_eq_true rfl) rfl rfl (by simp [cat]) (by decide) (TA_o h0) rfl rfl
theorem E138_15 {d : Nat} {a1 s0 s1 : Int} {S : SS} {I : II}  : ev d 138 15 [(2, 1), (0, a1)] [(0, s1), (0, s0)] S I = some ((0, s0 + s1), S, I) := by
  refine (sx_iadd D138_15).trans ?_
  exact sx_ireturn D138_16 (by decide +kernel)
