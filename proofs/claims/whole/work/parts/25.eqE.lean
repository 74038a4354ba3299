/-! equations, by places where ways meet: methods 250 to 310 (written by wip/whole/genE.py) -/
theorem D250_0 : decode (mB 250) 0 = .ok (.iload_n 2, 1) := by decide +kernel
theorem D250_1 : decode (mB 250) 1 = .ok (.aload_n 1, 1) := by decide +kernel
theorem D250_2 : decode (mB 250) 2 = .ok (.iload_n 2, 1) := by decide +kernel
theorem D250_3 : decode (mB 250) 3 = .ok (.iconst 3, 1) := by decide +kernel
theorem D250_4 : decode (mB 250) 4 = .ok (.invokestatic 220, 3) := by decide +kernel
theorem D250_7 : decode (mB 250) 7 = .ok (.invokestatic 239, 3) := by decide +kernel
theorem D250_10 : decode (mB 250) 10 = .ok (.istore_n 3, 1) := by decide +kernel
theorem D250_11 : decode (mB 250) 11 = .ok (.aload_n 1, 1) := by decide +kernel
theorem D250_12 : decode (mB 250) 12 = .ok (.iload_n 2, 1) := by decide +kernel
theorem D250_13 : decode (mB 250) 13 = .ok (.iconst 3, 1) := by decide +kernel
theorem D250_14 : decode (mB 250) 14 = .ok (.aload_n 1, 1) := by decide +kernel
theorem D250_15 : decode (mB 250) 15 = .ok (.iload_n 2, 1) := by decide +kernel
theorem D250_16 : decode (mB 250) 16 = .ok (.iconst 3, 1) := by decide +kernel
theorem D250_17 : decode (mB 250) 17 = .ok (.invokestatic 220, 3) := by decide +kernel
theorem D250_20 : decode (mB 250) 20 = .ok (.iconst 1, 1) := by decide +kernel
theorem D250_21 : decode (mB 250) 21 = .ok (.iadd, 1) := by decide +kernel
theorem D250_22 : decode (mB 250) 22 = .ok (.invokestatic 278, 3) := by decide +kernel
theorem D250_25 : decode (mB 250) 25 = .ok (.aload_n 1, 1) := by decide +kernel
theorem D250_26 : decode (mB 250) 26 = .ok (.sipush 840, 3) := by decide +kernel
theorem D250_29 : decode (mB 250) 29 = .ok (.aload_n 0, 1) := by decide +kernel
theorem D250_30 : decode (mB 250) 30 = .ok (.getfield 140, 3) := by decide +kernel
theorem D250_33 : decode (mB 250) 33 = .ok (.iload_n 2, 1) := by decide +kernel
theorem D250_34 : decode (mB 250) 34 = .ok (.iaload, 1) := by decide +kernel
theorem D250_35 : decode (mB 250) 35 = .ok (.iadd, 1) := by decide +kernel
theorem D250_36 : decode (mB 250) 36 = .ok (.dup2, 1) := by decide +kernel
theorem D250_37 : decode (mB 250) 37 = .ok (.iaload, 1) := by decide +kernel
theorem D250_38 : decode (mB 250) 38 = .ok (.iconst 1, 1) := by decide +kernel
theorem D250_39 : decode (mB 250) 39 = .ok (.iadd, 1) := by decide +kernel
theorem D250_40 : decode (mB 250) 40 = .ok (.iastore, 1) := by decide +kernel
theorem D250_41 : decode (mB 250) 41 = .ok (.iload_n 3, 1) := by decide +kernel
theorem D250_42 : decode (mB 250) 42 = .ok (.ireturn, 1) := by decide +kernel
theorem D251_0 : decode (mB 251) 0 = .ok (.aload_n 0, 1) := by decide +kernel
theorem D251_1 : decode (mB 251) 1 = .ok (.getfield 125, 3) := by decide +kernel
theorem D251_4 : decode (mB 251) 4 = .ok (.iconst 0, 1) := by decide +kernel
theorem D251_5 : decode (mB 251) 5 = .ok (.aload_n 1, 1) := by decide +kernel
theorem D251_6 : decode (mB 251) 6 = .ok (.iload_n 3, 1) := by decide +kernel
theorem D251_7 : decode (mB 251) 7 = .ok (.iconst 1, 1) := by decide +kernel
theorem D251_8 : decode (mB 251) 8 = .ok (.iadd, 1) := by decide +kernel
theorem D251_9 : decode (mB 251) 9 = .ok (.iaload, 1) := by decide +kernel
theorem D251_10 : decode (mB 251) 10 = .ok (.iastore, 1) := by decide +kernel
theorem D251_11 : decode (mB 251) 11 = .ok (.aload_n 0, 1) := by decide +kernel
theorem D251_12 : decode (mB 251) 12 = .ok (.getfield 125, 3) := by decide +kernel
theorem D251_15 : decode (mB 251) 15 = .ok (.iconst 1, 1) := by decide +kernel
theorem D251_16 : decode (mB 251) 16 = .ok (.aload_n 1, 1) := by decide +kernel
theorem D251_17 : decode (mB 251) 17 = .ok (.iload_n 3, 1) := by decide +kernel
theorem D251_18 : decode (mB 251) 18 = .ok (.iconst 2, 1) := by decide +kernel
theorem D251_19 : decode (mB 251) 19 = .ok (.iadd, 1) := by decide +kernel
theorem D251_20 : decode (mB 251) 20 = .ok (.iaload, 1) := by decide +kernel
theorem D251_21 : decode (mB 251) 21 = .ok (.iastore, 1) := by decide +kernel
theorem D251_22 : decode (mB 251) 22 = .ok (.aload_n 0, 1) := by decide +kernel
theorem D251_23 : decode (mB 251) 23 = .ok (.getfield 125, 3) := by decide +kernel
theorem D251_26 : decode (mB 251) 26 = .ok (.iconst 2, 1) := by decide +kernel
theorem D251_27 : decode (mB 251) 27 = .ok (.aload_n 1, 1) := by decide +kernel
theorem D251_28 : decode (mB 251) 28 = .ok (.iload_n 3, 1) := by decide +kernel
theorem D251_29 : decode (mB 251) 29 = .ok (.iconst 3, 1) := by decide +kernel
theorem D251_30 : decode (mB 251) 30 = .ok (.iadd, 1) := by decide +kernel
theorem D251_31 : decode (mB 251) 31 = .ok (.iaload, 1) := by decide +kernel
theorem D251_32 : decode (mB 251) 32 = .ok (.iastore, 1) := by decide +kernel
theorem D251_33 : decode (mB 251) 33 = .ok (.aload_n 0, 1) := by decide +kernel
theorem D251_34 : decode (mB 251) 34 = .ok (.getfield 125, 3) := by decide +kernel
theorem D251_37 : decode (mB 251) 37 = .ok (.iconst 3, 1) := by decide +kernel
theorem D251_38 : decode (mB 251) 38 = .ok (.iload_n 2, 1) := by decide +kernel
theorem D251_39 : decode (mB 251) 39 = .ok (.iastore, 1) := by decide +kernel
theorem D251_40 : decode (mB 251) 40 = .ok (.aload_n 0, 1) := by decide +kernel
theorem D251_41 : decode (mB 251) 41 = .ok (.getfield 125, 3) := by decide +kernel
theorem D251_44 : decode (mB 251) 44 = .ok (.iconst 4, 1) := by decide +kernel
theorem D251_45 : decode (mB 251) 45 = .ok (.aload_n 0, 1) := by decide +kernel
theorem D251_46 : decode (mB 251) 46 = .ok (.getfield 140, 3) := by decide +kernel
theorem D251_49 : decode (mB 251) 49 = .ok (.iload_n 2, 1) := by decide +kernel
theorem D251_50 : decode (mB 251) 50 = .ok (.iaload, 1) := by decide +kernel
theorem D251_51 : decode (mB 251) 51 = .ok (.iastore, 1) := by decide +kernel
theorem D251_52 : decode (mB 251) 52 = .ok (.aload_n 0, 1) := by decide +kernel
theorem D251_53 : decode (mB 251) 53 = .ok (.getfield 125, 3) := by decide +kernel
theorem D251_56 : decode (mB 251) 56 = .ok (.iconst 5, 1) := by decide +kernel
theorem D251_57 : decode (mB 251) 57 = .ok (.aload_n 1, 1) := by decide +kernel
theorem D251_58 : decode (mB 251) 58 = .ok (.sipush 493, 3) := by decide +kernel
theorem D251_61 : decode (mB 251) 61 = .ok (.iaload, 1) := by decide +kernel
theorem D251_62 : decode (mB 251) 62 = .ok (.iastore, 1) := by decide +kernel
theorem D251_63 : decode (mB 251) 63 = .ok (.aload_n 0, 1) := by decide +kernel
theorem D251_64 : decode (mB 251) 64 = .ok (.getfield 125, 3) := by decide +kernel
theorem D251_67 : decode (mB 251) 67 = .ok (.bipush 6, 2) := by decide +kernel
theorem D251_69 : decode (mB 251) 69 = .ok (.aload_n 1, 1) := by decide +kernel
theorem D251_70 : decode (mB 251) 70 = .ok (.sipush 827, 3) := by decide +kernel
theorem D251_73 : decode (mB 251) 73 = .ok (.iaload, 1) := by decide +kernel
theorem D251_74 : decode (mB 251) 74 = .ok (.bipush 7, 2) := by decide +kernel
theorem D251_76 : decode (mB 251) 76 = .ok (.irem, 1) := by decide +kernel
theorem D251_77 : decode (mB 251) 77 = .ok (.iastore, 1) := by decide +kernel
theorem D251_78 : decode (mB 251) 78 = .ok (.iconst 1, 1) := by decide +kernel
theorem D251_79 : decode (mB 251) 79 = .ok (.bipush 9, 2) := by decide +kernel
theorem D251_81 : decode (mB 251) 81 = .ok (.aload_n 0, 1) := by decide +kernel
theorem D251_82 : decode (mB 251) 82 = .ok (.invokevirtual 303, 3) := by decide +kernel
theorem D251_85 : decode (mB 251) 85 = .ok (.invokestatic 31, 3) := by decide +kernel
theorem D251_88 : decode (mB 251) 88 = .ok (.invokestatic 226, 3) := by decide +kernel
theorem D251_91 : decode (mB 251) 91 = .ok (.ireturn, 1) := by decide +kernel
theorem D252_0 : decode (mB 252) 0 = .ok (.iconst 0, 1) := by decide +kernel
theorem D252_1 : decode (mB 252) 1 = .ok (.istore_n 1, 1) := by decide +kernel
theorem D252_2 : decode (mB 252) 2 = .ok (.iconst 0, 1) := by decide +kernel
theorem D252_3 : decode (mB 252) 3 = .ok (.istore_n 2, 1) := by decide +kernel
theorem D252_4 : decode (mB 252) 4 = .ok (.iload_n 2, 1) := by decide +kernel
theorem D252_5 : decode (mB 252) 5 = .ok (.aload_n 0, 1) := by decide +kernel
theorem D252_6 : decode (mB 252) 6 = .ok (.getfield 105, 3) := by decide +kernel
theorem D252_9 : decode (mB 252) 9 = .ok (.if_icmp .ge 116, 3) := by decide +kernel
theorem D252_12 : decode (mB 252) 12 = .ok (.aload_n 0, 1) := by decide +kernel
theorem D252_13 : decode (mB 252) 13 = .ok (.getfield 108, 3) := by decide +kernel
theorem D252_16 : decode (mB 252) 16 = .ok (.iload_n 2, 1) := by decide +kernel
theorem D252_17 : decode (mB 252) 17 = .ok (.iaload, 1) := by decide +kernel
theorem D252_18 : decode (mB 252) 18 = .ok (.istore_n 3, 1) := by decide +kernel
theorem D252_19 : decode (mB 252) 19 = .ok (.iload_n 3, 1) := by decide +kernel
theorem D252_20 : decode (mB 252) 20 = .ok (.sipush 3000, 3) := by decide +kernel
theorem D252_23 : decode (mB 252) 23 = .ok (.if_icmp .ne 23, 3) := by decide +kernel
theorem D252_26 : decode (mB 252) 26 = .ok (.aload_n 0, 1) := by decide +kernel
theorem D252_27 : decode (mB 252) 27 = .ok (.getfield 118, 3) := by decide +kernel
theorem D252_30 : decode (mB 252) 30 = .ok (.iload_n 1, 1) := by decide +kernel
theorem D252_31 : decode (mB 252) 31 = .ok (.iconst 1, 1) := by decide +kernel
theorem D252_32 : decode (mB 252) 32 = .ok (.isub, 1) := by decide +kernel
theorem D252_33 : decode (mB 252) 33 = .ok (.aload_n 0, 1) := by decide +kernel
theorem D252_34 : decode (mB 252) 34 = .ok (.getfield 118, 3) := by decide +kernel
theorem D252_37 : decode (mB 252) 37 = .ok (.iload_n 1, 1) := by decide +kernel
theorem D252_38 : decode (mB 252) 38 = .ok (.iconst 1, 1) := by decide +kernel
theorem D252_39 : decode (mB 252) 39 = .ok (.isub, 1) := by decide +kernel
theorem D252_40 : decode (mB 252) 40 = .ok (.iaload, 1) := by decide +kernel
theorem D252_41 : decode (mB 252) 41 = .ok (.ineg, 1) := by decide +kernel
theorem D252_42 : decode (mB 252) 42 = .ok (.iastore, 1) := by decide +kernel
theorem D252_43 : decode (mB 252) 43 = .ok (.goto 76, 3) := by decide +kernel
theorem D252_46 : decode (mB 252) 46 = .ok (.iload_n 3, 1) := by decide +kernel
theorem D252_47 : decode (mB 252) 47 = .ok (.sipush 2000, 3) := by decide +kernel
theorem D252_50 : decode (mB 252) 50 = .ok (.if_icmp .lt 39, 3) := by decide +kernel
theorem D252_53 : decode (mB 252) 53 = .ok (.iinc 1 (-1), 3) := by decide +kernel
theorem D252_56 : decode (mB 252) 56 = .ok (.aload_n 0, 1) := by decide +kernel
theorem D252_57 : decode (mB 252) 57 = .ok (.getfield 118, 3) := by decide +kernel
theorem D252_60 : decode (mB 252) 60 = .ok (.iload_n 1, 1) := by decide +kernel
theorem D252_61 : decode (mB 252) 61 = .ok (.iconst 1, 1) := by decide +kernel
theorem D252_62 : decode (mB 252) 62 = .ok (.isub, 1) := by decide +kernel
theorem D252_63 : decode (mB 252) 63 = .ok (.iload_n 3, 1) := by decide +kernel
theorem D252_64 : decode (mB 252) 64 = .ok (.sipush 2000, 3) := by decide +kernel
theorem D252_67 : decode (mB 252) 67 = .ok (.isub, 1) := by decide +kernel
theorem D252_68 : decode (mB 252) 68 = .ok (.aload_n 0, 1) := by decide +kernel
theorem D252_69 : decode (mB 252) 69 = .ok (.getfield 118, 3) := by decide +kernel
theorem D252_72 : decode (mB 252) 72 = .ok (.iload_n 1, 1) := by decide +kernel
theorem D252_73 : decode (mB 252) 73 = .ok (.iconst 1, 1) := by decide +kernel
theorem D252_74 : decode (mB 252) 74 = .ok (.isub, 1) := by decide +kernel
theorem D252_75 : decode (mB 252) 75 = .ok (.iaload, 1) := by decide +kernel
theorem D252_76 : decode (mB 252) 76 = .ok (.aload_n 0, 1) := by decide +kernel
theorem D252_77 : decode (mB 252) 77 = .ok (.getfield 118, 3) := by decide +kernel
theorem D252_80 : decode (mB 252) 80 = .ok (.iload_n 1, 1) := by decide +kernel
theorem D252_81 : decode (mB 252) 81 = .ok (.iaload, 1) := by decide +kernel
theorem D252_82 : decode (mB 252) 82 = .ok (.invokestatic 121, 3) := by decide +kernel
theorem D252_85 : decode (mB 252) 85 = .ok (.iastore, 1) := by decide +kernel
theorem D252_86 : decode (mB 252) 86 = .ok (.goto 33, 3) := by decide +kernel
theorem D252_89 : decode (mB 252) 89 = .ok (.aload_n 0, 1) := by decide +kernel
theorem D252_90 : decode (mB 252) 90 = .ok (.getfield 118, 3) := by decide +kernel
theorem D252_93 : decode (mB 252) 93 = .ok (.iload_n 1, 1) := by decide +kernel
theorem D252_94 : decode (mB 252) 94 = .ok (.iload_n 3, 1) := by decide +kernel
theorem D252_95 : decode (mB 252) 95 = .ok (.sipush 1000, 3) := by decide +kernel
theorem D252_98 : decode (mB 252) 98 = .ok (.if_icmp .lt 16, 3) := by decide +kernel
theorem D252_101 : decode (mB 252) 101 = .ok (.aload_n 0, 1) := by decide +kernel
theorem D252_102 : decode (mB 252) 102 = .ok (.getfield 125, 3) := by decide +kernel
theorem D252_105 : decode (mB 252) 105 = .ok (.iload_n 3, 1) := by decide +kernel
theorem D252_106 : decode (mB 252) 106 = .ok (.sipush 1000, 3) := by decide +kernel
theorem D252_109 : decode (mB 252) 109 = .ok (.isub, 1) := by decide +kernel
theorem D252_110 : decode (mB 252) 110 = .ok (.iaload, 1) := by decide +kernel
theorem D252_111 : decode (mB 252) 111 = .ok (.goto 4, 3) := by decide +kernel
theorem D252_114 : decode (mB 252) 114 = .ok (.iload_n 3, 1) := by decide +kernel
theorem D252_115 : decode (mB 252) 115 = .ok (.iastore, 1) := by decide +kernel
theorem D252_116 : decode (mB 252) 116 = .ok (.iinc 1 1, 3) := by decide +kernel
theorem D252_119 : decode (mB 252) 119 = .ok (.iinc 2 1, 3) := by decide +kernel
theorem D252_122 : decode (mB 252) 122 = .ok (.goto (-118), 3) := by decide +kernel
theorem D252_125 : decode (mB 252) 125 = .ok (.aload_n 0, 1) := by decide +kernel
theorem D252_126 : decode (mB 252) 126 = .ok (.getfield 105, 3) := by decide +kernel
theorem D252_129 : decode (mB 252) 129 = .ok (.ifCond .ne 25, 3) := by decide +kernel
theorem D252_132 : decode (mB 252) 132 = .ok (.iconst 1, 1) := by decide +kernel
theorem D252_133 : decode (mB 252) 133 = .ok (.aload_n 0, 1) := by decide +kernel
theorem D252_134 : decode (mB 252) 134 = .ok (.getfield 125, 3) := by decide +kernel
theorem D252_137 : decode (mB 252) 137 = .ok (.iconst 0, 1) := by decide +kernel
theorem D252_138 : decode (mB 252) 138 = .ok (.iaload, 1) := by decide +kernel
theorem D252_139 : decode (mB 252) 139 = .ok (.ifCond .le 7, 3) := by decide +kernel
theorem D252_142 : decode (mB 252) 142 = .ok (.iconst 1, 1) := by decide +kernel
theorem D252_143 : decode (mB 252) 143 = .ok (.goto 4, 3) := by decide +kernel
theorem D252_146 : decode (mB 252) 146 = .ok (.iconst 0, 1) := by decide +kernel
theorem D252_147 : decode (mB 252) 147 = .ok (.invokestatic 40, 3) := by decide +kernel
theorem D252_150 : decode (mB 252) 150 = .ok (.iadd, 1) := by decide +kernel
theorem D252_151 : decode (mB 252) 151 = .ok (.goto 9, 3) := by decide +kernel
theorem D252_154 : decode (mB 252) 154 = .ok (.aload_n 0, 1) := by decide +kernel
theorem D252_155 : decode (mB 252) 155 = .ok (.getfield 118, 3) := by decide +kernel
theorem D252_158 : decode (mB 252) 158 = .ok (.iconst 0, 1) := by decide +kernel
theorem D252_159 : decode (mB 252) 159 = .ok (.iaload, 1) := by decide +kernel
theorem D252_160 : decode (mB 252) 160 = .ok (.ireturn, 1) := by decide +kernel
theorem D253_0 : decode (mB 253) 0 = .ok (.iload_n 0, 1) := by decide +kernel
theorem D253_1 : decode (mB 253) 1 = .ok (.tableswitch 93 0 5 #[39, 53, 67, 81, 85, 89], 39) := by decide +kernel
theorem D253_40 : decode (mB 253) 40 = .ok (.iload_n 1, 1) := by decide +kernel
theorem D253_41 : decode (mB 253) 41 = .ok (.iload_n 2, 1) := by decide +kernel
theorem D253_42 : decode (mB 253) 42 = .ok (.if_icmp .ge 7, 3) := by decide +kernel
theorem D253_45 : decode (mB 253) 45 = .ok (.iconst 1, 1) := by decide +kernel
theorem D253_46 : decode (mB 253) 46 = .ok (.goto 4, 3) := by decide +kernel
theorem D253_49 : decode (mB 253) 49 = .ok (.iconst 0, 1) := by decide +kernel
theorem D253_50 : decode (mB 253) 50 = .ok (.invokestatic 40, 3) := by decide +kernel
theorem D253_53 : decode (mB 253) 53 = .ok (.ireturn, 1) := by decide +kernel
theorem D253_54 : decode (mB 253) 54 = .ok (.iload_n 1, 1) := by decide +kernel
theorem D253_55 : decode (mB 253) 55 = .ok (.iload_n 2, 1) := by decide +kernel
theorem D253_56 : decode (mB 253) 56 = .ok (.if_icmp .le 7, 3) := by decide +kernel
theorem D253_59 : decode (mB 253) 59 = .ok (.iconst 1, 1) := by decide +kernel
theorem D253_60 : decode (mB 253) 60 = .ok (.goto 4, 3) := by decide +kernel
theorem D253_63 : decode (mB 253) 63 = .ok (.iconst 0, 1) := by decide +kernel
theorem D253_64 : decode (mB 253) 64 = .ok (.invokestatic 40, 3) := by decide +kernel
theorem D253_67 : decode (mB 253) 67 = .ok (.ireturn, 1) := by decide +kernel
theorem D253_68 : decode (mB 253) 68 = .ok (.iload_n 1, 1) := by decide +kernel
theorem D253_69 : decode (mB 253) 69 = .ok (.iload_n 2, 1) := by decide +kernel
theorem D253_70 : decode (mB 253) 70 = .ok (.if_icmp .ne 7, 3) := by decide +kernel
theorem D253_73 : decode (mB 253) 73 = .ok (.iconst 1, 1) := by decide +kernel
theorem D253_74 : decode (mB 253) 74 = .ok (.goto 4, 3) := by decide +kernel
theorem D253_77 : decode (mB 253) 77 = .ok (.iconst 0, 1) := by decide +kernel
theorem D253_78 : decode (mB 253) 78 = .ok (.invokestatic 40, 3) := by decide +kernel
theorem D253_81 : decode (mB 253) 81 = .ok (.ireturn, 1) := by decide +kernel
theorem D253_82 : decode (mB 253) 82 = .ok (.iload_n 1, 1) := by decide +kernel
theorem D253_83 : decode (mB 253) 83 = .ok (.iload_n 2, 1) := by decide +kernel
theorem D253_84 : decode (mB 253) 84 = .ok (.iadd, 1) := by decide +kernel
theorem D253_85 : decode (mB 253) 85 = .ok (.ireturn, 1) := by decide +kernel
theorem D253_86 : decode (mB 253) 86 = .ok (.iload_n 1, 1) := by decide +kernel
theorem D253_87 : decode (mB 253) 87 = .ok (.iload_n 2, 1) := by decide +kernel
theorem D253_88 : decode (mB 253) 88 = .ok (.isub, 1) := by decide +kernel
theorem D253_89 : decode (mB 253) 89 = .ok (.ireturn, 1) := by decide +kernel
theorem D253_90 : decode (mB 253) 90 = .ok (.iload_n 1, 1) := by decide +kernel
theorem D253_91 : decode (mB 253) 91 = .ok (.iload_n 2, 1) := by decide +kernel
theorem D253_92 : decode (mB 253) 92 = .ok (.imul, 1) := by decide +kernel
theorem D253_93 : decode (mB 253) 93 = .ok (.ireturn, 1) := by decide +kernel
theorem D253_94 : decode (mB 253) 94 = .ok (.iload_n 2, 1) := by decide +kernel
theorem D253_95 : decode (mB 253) 95 = .ok (.ifCond .ne 7, 3) := by decide +kernel
theorem D253_98 : decode (mB 253) 98 = .ok (.iconst 0, 1) := by decide +kernel
theorem D253_99 : decode (mB 253) 99 = .ok (.goto 6, 3) := by decide +kernel
theorem D253_102 : decode (mB 253) 102 = .ok (.iload_n 1, 1) := by decide +kernel
theorem D253_103 : decode (mB 253) 103 = .ok (.iload_n 2, 1) := by decide +kernel
theorem D253_104 : decode (mB 253) 104 = .ok (.idiv, 1) := by decide +kernel
theorem D253_105 : decode (mB 253) 105 = .ok (.ireturn, 1) := by decide +kernel
theorem D254_0 : decode (mB 254) 0 = .ok (.iconst 0, 1) := by decide +kernel
theorem D254_1 : decode (mB 254) 1 = .ok (.istore_n 3, 1) := by decide +kernel
theorem D254_2 : decode (mB 254) 2 = .ok (.iload_n 3, 1) := by decide +kernel
theorem D254_3 : decode (mB 254) 3 = .ok (.iconst 5, 1) := by decide +kernel
theorem D254_4 : decode (mB 254) 4 = .ok (.if_icmp .ge 19, 3) := by decide +kernel
theorem D254_7 : decode (mB 254) 7 = .ok (.aload_n 0, 1) := by decide +kernel
theorem D254_8 : decode (mB 254) 8 = .ok (.iload_n 1, 1) := by decide +kernel
theorem D254_9 : decode (mB 254) 9 = .ok (.iload_n 3, 1) := by decide +kernel
theorem D254_10 : decode (mB 254) 10 = .ok (.iadd, 1) := by decide +kernel
theorem D254_11 : decode (mB 254) 11 = .ok (.aload_n 0, 1) := by decide +kernel
theorem D254_12 : decode (mB 254) 12 = .ok (.iload_n 2, 1) := by decide +kernel
theorem D254_13 : decode (mB 254) 13 = .ok (.iload_n 3, 1) := by decide +kernel
theorem D254_14 : decode (mB 254) 14 = .ok (.iadd, 1) := by decide +kernel
theorem D254_15 : decode (mB 254) 15 = .ok (.iaload, 1) := by decide +kernel
theorem D254_16 : decode (mB 254) 16 = .ok (.iastore, 1) := by decide +kernel
theorem D254_17 : decode (mB 254) 17 = .ok (.iinc 3 1, 3) := by decide +kernel
theorem D254_20 : decode (mB 254) 20 = .ok (.goto (-18), 3) := by decide +kernel
theorem D254_23 : decode (mB 254) 23 = .ok (.return_, 1) := by decide +kernel
theorem D255_0 : decode (mB 255) 0 = .ok (.aload_n 0, 1) := by decide +kernel
theorem D255_1 : decode (mB 255) 1 = .ok (.getfield 7, 3) := by decide +kernel
theorem D255_4 : decode (mB 255) 4 = .ok (.aload_n 0, 1) := by decide +kernel
theorem D255_5 : decode (mB 255) 5 = .ok (.getfield 11, 3) := by decide +kernel
theorem D255_8 : decode (mB 255) 8 = .ok (.lload_n 1, 1) := by decide +kernel
theorem D255_9 : decode (mB 255) 9 = .ok (.lastore, 1) := by decide +kernel
theorem D255_10 : decode (mB 255) 10 = .ok (.aload_n 0, 1) := by decide +kernel
theorem D255_11 : decode (mB 255) 11 = .ok (.dup, 1) := by decide +kernel
theorem D255_12 : decode (mB 255) 12 = .ok (.getfield 11, 3) := by decide +kernel
theorem D255_15 : decode (mB 255) 15 = .ok (.iconst 1, 1) := by decide +kernel
theorem D255_16 : decode (mB 255) 16 = .ok (.iadd, 1) := by decide +kernel
theorem D255_17 : decode (mB 255) 17 = .ok (.putfield 11, 3) := by decide +kernel
theorem D255_20 : decode (mB 255) 20 = .ok (.return_, 1) := by decide +kernel
theorem D256_0 : decode (mB 256) 0 = .ok (.aload_n 0, 1) := by decide +kernel
theorem D256_1 : decode (mB 256) 1 = .ok (.iconst 0, 1) := by decide +kernel
theorem D256_2 : decode (mB 256) 2 = .ok (.putfield 3, 3) := by decide +kernel
theorem D256_5 : decode (mB 256) 5 = .ok (.aload_n 0, 1) := by decide +kernel
theorem D256_6 : decode (mB 256) 6 = .ok (.invokevirtual 355, 3) := by decide +kernel
theorem D256_9 : decode (mB 256) 9 = .ok (.aload_n 0, 1) := by decide +kernel
theorem D256_10 : decode (mB 256) 10 = .ok (.aload_n 0, 1) := by decide +kernel
theorem D256_11 : decode (mB 256) 11 = .ok (.getfield 146, 3) := by decide +kernel
theorem D256_14 : decode (mB 256) 14 = .ok (.iload_n 1, 1) := by decide +kernel
theorem D256_15 : decode (mB 256) 15 = .ok (.invokevirtual 373, 3) := by decide +kernel
theorem D256_18 : decode (mB 256) 18 = .ok (.istore_n 2, 1) := by decide +kernel
theorem D256_19 : decode (mB 256) 19 = .ok (.iload_n 2, 1) := by decide +kernel
theorem D256_20 : decode (mB 256) 20 = .ok (.ifCond .ge 5, 3) := by decide +kernel
theorem D256_23 : decode (mB 256) 23 = .ok (.iload_n 2, 1) := by decide +kernel
theorem D256_24 : decode (mB 256) 24 = .ok (.ireturn, 1) := by decide +kernel
theorem D256_25 : decode (mB 256) 25 = .ok (.aload_n 0, 1) := by decide +kernel
theorem D256_26 : decode (mB 256) 26 = .ok (.iconst 0, 1) := by decide +kernel
theorem D256_27 : decode (mB 256) 27 = .ok (.putfield 11, 3) := by decide +kernel
theorem D256_30 : decode (mB 256) 30 = .ok (.aload_n 0, 1) := by decide +kernel
theorem D256_31 : decode (mB 256) 31 = .ok (.aload_n 0, 1) := by decide +kernel
theorem D256_32 : decode (mB 256) 32 = .ok (.getfield 146, 3) := by decide +kernel
theorem D256_35 : decode (mB 256) 35 = .ok (.iload_n 2, 1) := by decide +kernel
theorem D256_36 : decode (mB 256) 36 = .ok (.iconst 2, 1) := by decide +kernel
theorem D256_37 : decode (mB 256) 37 = .ok (.iadd, 1) := by decide +kernel
theorem D256_38 : decode (mB 256) 38 = .ok (.iaload, 1) := by decide +kernel
theorem D256_39 : decode (mB 256) 39 = .ok (.i2l, 1) := by decide +kernel
theorem D256_40 : decode (mB 256) 40 = .ok (.invokevirtual 345, 3) := by decide +kernel
theorem D256_43 : decode (mB 256) 43 = .ok (.aload_n 0, 1) := by decide +kernel
theorem D256_44 : decode (mB 256) 44 = .ok (.aload_n 0, 1) := by decide +kernel
theorem D256_45 : decode (mB 256) 45 = .ok (.getfield 146, 3) := by decide +kernel
theorem D256_48 : decode (mB 256) 48 = .ok (.iload_n 2, 1) := by decide +kernel
theorem D256_49 : decode (mB 256) 49 = .ok (.iconst 3, 1) := by decide +kernel
theorem D256_50 : decode (mB 256) 50 = .ok (.iadd, 1) := by decide +kernel
theorem D256_51 : decode (mB 256) 51 = .ok (.iaload, 1) := by decide +kernel
theorem D256_52 : decode (mB 256) 52 = .ok (.i2l, 1) := by decide +kernel
theorem D256_53 : decode (mB 256) 53 = .ok (.invokevirtual 345, 3) := by decide +kernel
theorem D256_56 : decode (mB 256) 56 = .ok (.aload_n 0, 1) := by decide +kernel
theorem D256_57 : decode (mB 256) 57 = .ok (.aload_n 0, 1) := by decide +kernel
theorem D256_58 : decode (mB 256) 58 = .ok (.getfield 146, 3) := by decide +kernel
theorem D256_61 : decode (mB 256) 61 = .ok (.iload_n 2, 1) := by decide +kernel
theorem D256_62 : decode (mB 256) 62 = .ok (.iconst 4, 1) := by decide +kernel
theorem D256_63 : decode (mB 256) 63 = .ok (.iadd, 1) := by decide +kernel
theorem D256_64 : decode (mB 256) 64 = .ok (.iaload, 1) := by decide +kernel
theorem D256_65 : decode (mB 256) 65 = .ok (.i2l, 1) := by decide +kernel
theorem D256_66 : decode (mB 256) 66 = .ok (.invokevirtual 345, 3) := by decide +kernel
theorem D256_69 : decode (mB 256) 69 = .ok (.aload_n 0, 1) := by decide +kernel
theorem D256_70 : decode (mB 256) 70 = .ok (.bipush 10, 2) := by decide +kernel
theorem D256_72 : decode (mB 256) 72 = .ok (.aload_n 0, 1) := by decide +kernel
theorem D256_73 : decode (mB 256) 73 = .ok (.getfield 146, 3) := by decide +kernel
theorem D256_76 : decode (mB 256) 76 = .ok (.iload_n 2, 1) := by decide +kernel
theorem D256_77 : decode (mB 256) 77 = .ok (.iconst 0, 1) := by decide +kernel
theorem D256_78 : decode (mB 256) 78 = .ok (.iadd, 1) := by decide +kernel
theorem D256_79 : decode (mB 256) 79 = .ok (.iaload, 1) := by decide +kernel
theorem D256_80 : decode (mB 256) 80 = .ok (.imul, 1) := by decide +kernel
theorem D256_81 : decode (mB 256) 81 = .ok (.aload_n 0, 1) := by decide +kernel
theorem D256_82 : decode (mB 256) 82 = .ok (.getfield 146, 3) := by decide +kernel
theorem D256_85 : decode (mB 256) 85 = .ok (.iload_n 2, 1) := by decide +kernel
theorem D256_86 : decode (mB 256) 86 = .ok (.iconst 1, 1) := by decide +kernel
theorem D256_87 : decode (mB 256) 87 = .ok (.iadd, 1) := by decide +kernel
theorem D256_88 : decode (mB 256) 88 = .ok (.iaload, 1) := by decide +kernel
theorem D256_89 : decode (mB 256) 89 = .ok (.iadd, 1) := by decide +kernel
theorem D256_90 : decode (mB 256) 90 = .ok (.invokevirtual 233, 3) := by decide +kernel
theorem D256_93 : decode (mB 256) 93 = .ok (.ireturn, 1) := by decide +kernel
theorem D257_0 : decode (mB 257) 0 = .ok (.aload_n 0, 1) := by decide +kernel
theorem D257_1 : decode (mB 257) 1 = .ok (.iload_n 2, 1) := by decide +kernel
theorem D257_2 : decode (mB 257) 2 = .ok (.invokevirtual 212, 3) := by decide +kernel
theorem D257_5 : decode (mB 257) 5 = .ok (.ifCond .ne 5, 3) := by decide +kernel
theorem D257_8 : decode (mB 257) 8 = .ok (.iconst (-1), 1) := by decide +kernel
theorem D257_9 : decode (mB 257) 9 = .ok (.ireturn, 1) := by decide +kernel
theorem D257_10 : decode (mB 257) 10 = .ok (.aload_n 1, 1) := by decide +kernel
theorem D257_11 : decode (mB 257) 11 = .ok (.iload_n 2, 1) := by decide +kernel
theorem D257_12 : decode (mB 257) 12 = .ok (.bipush 6, 2) := by decide +kernel
theorem D257_14 : decode (mB 257) 14 = .ok (.invokestatic 220, 3) := by decide +kernel
theorem D257_17 : decode (mB 257) 17 = .ok (.aload_n 1, 1) := by decide +kernel
theorem D257_18 : decode (mB 257) 18 = .ok (.iload_n 2, 1) := by decide +kernel
theorem D257_19 : decode (mB 257) 19 = .ok (.iconst 5, 1) := by decide +kernel
theorem D257_20 : decode (mB 257) 20 = .ok (.invokestatic 220, 3) := by decide +kernel
theorem D257_23 : decode (mB 257) 23 = .ok (.if_icmp .ne 6, 3) := by decide +kernel
theorem D257_26 : decode (mB 257) 26 = .ok (.bipush (-2), 2) := by decide +kernel
theorem D257_28 : decode (mB 257) 28 = .ok (.ireturn, 1) := by decide +kernel
theorem D257_29 : decode (mB 257) 29 = .ok (.iload_n 2, 1) := by decide +kernel
theorem D257_30 : decode (mB 257) 30 = .ok (.aload_n 1, 1) := by decide +kernel
theorem D257_31 : decode (mB 257) 31 = .ok (.iload_n 2, 1) := by decide +kernel
theorem D257_32 : decode (mB 257) 32 = .ok (.bipush 6, 2) := by decide +kernel
theorem D257_34 : decode (mB 257) 34 = .ok (.invokestatic 220, 3) := by decide +kernel
theorem D257_37 : decode (mB 257) 37 = .ok (.invokestatic 249, 3) := by decide +kernel
theorem D257_40 : decode (mB 257) 40 = .ok (.istore_n 3, 1) := by decide +kernel
theorem D257_41 : decode (mB 257) 41 = .ok (.aload_n 1, 1) := by decide +kernel
theorem D257_42 : decode (mB 257) 42 = .ok (.iload_n 2, 1) := by decide +kernel
theorem D257_43 : decode (mB 257) 43 = .ok (.bipush 6, 2) := by decide +kernel
theorem D257_45 : decode (mB 257) 45 = .ok (.aload_n 1, 1) := by decide +kernel
theorem D257_46 : decode (mB 257) 46 = .ok (.iload_n 2, 1) := by decide +kernel
theorem D257_47 : decode (mB 257) 47 = .ok (.bipush 6, 2) := by decide +kernel
theorem D257_49 : decode (mB 257) 49 = .ok (.invokestatic 220, 3) := by decide +kernel
theorem D257_52 : decode (mB 257) 52 = .ok (.iconst 1, 1) := by decide +kernel
theorem D257_53 : decode (mB 257) 53 = .ok (.iadd, 1) := by decide +kernel
theorem D257_54 : decode (mB 257) 54 = .ok (.invokestatic 278, 3) := by decide +kernel
theorem D257_57 : decode (mB 257) 57 = .ok (.aload_n 1, 1) := by decide +kernel
theorem D257_58 : decode (mB 257) 58 = .ok (.iload_n 2, 1) := by decide +kernel
theorem D257_59 : decode (mB 257) 59 = .ok (.iconst 4, 1) := by decide +kernel
theorem D257_60 : decode (mB 257) 60 = .ok (.aload_n 1, 1) := by decide +kernel
theorem D257_61 : decode (mB 257) 61 = .ok (.iload_n 3, 1) := by decide +kernel
theorem D257_62 : decode (mB 257) 62 = .ok (.iconst 3, 1) := by decide +kernel
theorem D257_63 : decode (mB 257) 63 = .ok (.iadd, 1) := by decide +kernel
theorem D257_64 : decode (mB 257) 64 = .ok (.iaload, 1) := by decide +kernel
theorem D257_65 : decode (mB 257) 65 = .ok (.invokestatic 278, 3) := by decide +kernel
theorem D257_68 : decode (mB 257) 68 = .ok (.iload_n 3, 1) := by decide +kernel
theorem D257_69 : decode (mB 257) 69 = .ok (.ireturn, 1) := by decide +kernel
theorem D258_0 : decode (mB 258) 0 = .ok (.aload_n 0, 1) := by decide +kernel
theorem D258_1 : decode (mB 258) 1 = .ok (.iconst 0, 1) := by decide +kernel
theorem D258_2 : decode (mB 258) 2 = .ok (.putfield 3, 3) := by decide +kernel
theorem D258_5 : decode (mB 258) 5 = .ok (.aload_n 0, 1) := by decide +kernel
theorem D258_6 : decode (mB 258) 6 = .ok (.invokevirtual 355, 3) := by decide +kernel
theorem D258_9 : decode (mB 258) 9 = .ok (.aload_n 0, 1) := by decide +kernel
theorem D258_10 : decode (mB 258) 10 = .ok (.aload_n 0, 1) := by decide +kernel
theorem D258_11 : decode (mB 258) 11 = .ok (.aload_n 0, 1) := by decide +kernel
theorem D258_12 : decode (mB 258) 12 = .ok (.getfield 146, 3) := by decide +kernel
theorem D258_15 : decode (mB 258) 15 = .ok (.iload_n 1, 1) := by decide +kernel
theorem D258_16 : decode (mB 258) 16 = .ok (.iload_n 2, 1) := by decide +kernel
theorem D258_17 : decode (mB 258) 17 = .ok (.invokevirtual 376, 3) := by decide +kernel
theorem D258_20 : decode (mB 258) 20 = .ok (.invokevirtual 362, 3) := by decide +kernel
theorem D258_23 : decode (mB 258) 23 = .ok (.ireturn, 1) := by decide +kernel
theorem D259_0 : decode (mB 259) 0 = .ok (.aload_n 0, 1) := by decide +kernel
theorem D259_1 : decode (mB 259) 1 = .ok (.aload_n 1, 1) := by decide +kernel
theorem D259_2 : decode (mB 259) 2 = .ok (.iload_n 2, 1) := by decide +kernel
theorem D259_3 : decode (mB 259) 3 = .ok (.iload_n 3, 1) := by decide +kernel
theorem D259_4 : decode (mB 259) 4 = .ok (.invokevirtual 284, 3) := by decide +kernel
theorem D259_7 : decode (mB 259) 7 = .ok (.istore 4, 2) := by decide +kernel
theorem D259_9 : decode (mB 259) 9 = .ok (.iload 4, 2) := by decide +kernel
theorem D259_11 : decode (mB 259) 11 = .ok (.ifCond .ne 25, 3) := by decide +kernel
theorem D259_14 : decode (mB 259) 14 = .ok (.aload_n 1, 1) := by decide +kernel
theorem D259_15 : decode (mB 259) 15 = .ok (.iload_n 2, 1) := by decide +kernel
theorem D259_16 : decode (mB 259) 16 = .ok (.aload_n 1, 1) := by decide +kernel
theorem D259_17 : decode (mB 259) 17 = .ok (.iload_n 2, 1) := by decide +kernel
theorem D259_18 : decode (mB 259) 18 = .ok (.iconst 3, 1) := by decide +kernel
theorem D259_19 : decode (mB 259) 19 = .ok (.invokestatic 220, 3) := by decide +kernel
theorem D259_22 : decode (mB 259) 22 = .ok (.aload_n 1, 1) := by decide +kernel
theorem D259_23 : decode (mB 259) 23 = .ok (.iload_n 2, 1) := by decide +kernel
theorem D259_24 : decode (mB 259) 24 = .ok (.iload_n 3, 1) := by decide +kernel
theorem D259_25 : decode (mB 259) 25 = .ok (.invokestatic 252, 3) := by decide +kernel
theorem D259_28 : decode (mB 259) 28 = .ok (.iadd, 1) := by decide +kernel
theorem D259_29 : decode (mB 259) 29 = .ok (.invokestatic 239, 3) := by decide +kernel
theorem D259_32 : decode (mB 259) 32 = .ok (.iconst 4, 1) := by decide +kernel
theorem D259_33 : decode (mB 259) 33 = .ok (.iadd, 1) := by decide +kernel
theorem D259_34 : decode (mB 259) 34 = .ok (.iconst 1, 1) := by decide +kernel
theorem D259_35 : decode (mB 259) 35 = .ok (.iastore, 1) := by decide +kernel
theorem D259_36 : decode (mB 259) 36 = .ok (.iload 4, 2) := by decide +kernel
theorem D259_38 : decode (mB 259) 38 = .ok (.iconst 1, 1) := by decide +kernel
theorem D259_39 : decode (mB 259) 39 = .ok (.if_icmp .ne 63, 3) := by decide +kernel
theorem D259_42 : decode (mB 259) 42 = .ok (.aload_n 1, 1) := by decide +kernel
theorem D259_43 : decode (mB 259) 43 = .ok (.iload_n 2, 1) := by decide +kernel
theorem D259_44 : decode (mB 259) 44 = .ok (.iload_n 3, 1) := by decide +kernel
theorem D259_45 : decode (mB 259) 45 = .ok (.invokestatic 255, 3) := by decide +kernel
theorem D259_48 : decode (mB 259) 48 = .ok (.istore 5, 2) := by decide +kernel
theorem D259_50 : decode (mB 259) 50 = .ok (.aload_n 1, 1) := by decide +kernel
theorem D259_51 : decode (mB 259) 51 = .ok (.iload_n 2, 1) := by decide +kernel
theorem D259_52 : decode (mB 259) 52 = .ok (.aload_n 1, 1) := by decide +kernel
theorem D259_53 : decode (mB 259) 53 = .ok (.iload 5, 2) := by decide +kernel
theorem D259_55 : decode (mB 259) 55 = .ok (.invokestatic 236, 3) := by decide +kernel
theorem D259_58 : decode (mB 259) 58 = .ok (.iconst 1, 1) := by decide +kernel
theorem D259_59 : decode (mB 259) 59 = .ok (.iadd, 1) := by decide +kernel
theorem D259_60 : decode (mB 259) 60 = .ok (.iconst 0, 1) := by decide +kernel
theorem D259_61 : decode (mB 259) 61 = .ok (.iadd, 1) := by decide +kernel
theorem D259_62 : decode (mB 259) 62 = .ok (.iaload, 1) := by decide +kernel
theorem D259_63 : decode (mB 259) 63 = .ok (.iconst 1, 1) := by decide +kernel
theorem D259_64 : decode (mB 259) 64 = .ok (.iconst 0, 1) := by decide +kernel
theorem D259_65 : decode (mB 259) 65 = .ok (.invokestatic 287, 3) := by decide +kernel
theorem D259_68 : decode (mB 259) 68 = .ok (.aload_n 1, 1) := by decide +kernel
theorem D259_69 : decode (mB 259) 69 = .ok (.iload 5, 2) := by decide +kernel
theorem D259_71 : decode (mB 259) 71 = .ok (.invokestatic 242, 3) := by decide +kernel
theorem D259_74 : decode (mB 259) 74 = .ok (.ifCond .eq 22, 3) := by decide +kernel
theorem D259_77 : decode (mB 259) 77 = .ok (.aload_n 1, 1) := by decide +kernel
theorem D259_78 : decode (mB 259) 78 = .ok (.iload_n 2, 1) := by decide +kernel
theorem D259_79 : decode (mB 259) 79 = .ok (.aload_n 1, 1) := by decide +kernel
theorem D259_80 : decode (mB 259) 80 = .ok (.iload 5, 2) := by decide +kernel
theorem D259_82 : decode (mB 259) 82 = .ok (.invokestatic 236, 3) := by decide +kernel
theorem D259_85 : decode (mB 259) 85 = .ok (.bipush 6, 2) := by decide +kernel
theorem D259_87 : decode (mB 259) 87 = .ok (.iadd, 1) := by decide +kernel
theorem D259_88 : decode (mB 259) 88 = .ok (.iconst 0, 1) := by decide +kernel
theorem D259_89 : decode (mB 259) 89 = .ok (.iadd, 1) := by decide +kernel
theorem D259_90 : decode (mB 259) 90 = .ok (.iaload, 1) := by decide +kernel
theorem D259_91 : decode (mB 259) 91 = .ok (.iconst 1, 1) := by decide +kernel
theorem D259_92 : decode (mB 259) 92 = .ok (.iconst 0, 1) := by decide +kernel
theorem D259_93 : decode (mB 259) 93 = .ok (.invokestatic 287, 3) := by decide +kernel
theorem D259_96 : decode (mB 259) 96 = .ok (.aload_n 1, 1) := by decide +kernel
theorem D259_97 : decode (mB 259) 97 = .ok (.iload 5, 2) := by decide +kernel
theorem D259_99 : decode (mB 259) 99 = .ok (.invokestatic 291, 3) := by decide +kernel
theorem D259_102 : decode (mB 259) 102 = .ok (.iload 4, 2) := by decide +kernel
theorem D259_104 : decode (mB 259) 104 = .ok (.ireturn, 1) := by decide +kernel
theorem D260_0 : decode (mB 260) 0 = .ok (.aload_n 0, 1) := by decide +kernel
theorem D260_1 : decode (mB 260) 1 = .ok (.iload_n 2, 1) := by decide +kernel
theorem D260_2 : decode (mB 260) 2 = .ok (.invokevirtual 212, 3) := by decide +kernel
theorem D260_5 : decode (mB 260) 5 = .ok (.ifCond .eq 15, 3) := by decide +kernel
theorem D260_8 : decode (mB 260) 8 = .ok (.iload_n 3, 1) := by decide +kernel
theorem D260_9 : decode (mB 260) 9 = .ok (.i2l, 1) := by decide +kernel
theorem D260_10 : decode (mB 260) 10 = .ok (.lconst 0, 1) := by decide +kernel
theorem D260_11 : decode (mB 260) 11 = .ok (.ldc2_w 282, 3) := by decide +kernel
theorem D260_14 : decode (mB 260) 14 = .ok (.invokestatic 21, 3) := by decide +kernel
theorem D260_17 : decode (mB 260) 17 = .ok (.ifCond .ne 5, 3) := by decide +kernel
theorem D260_20 : decode (mB 260) 20 = .ok (.iconst (-1), 1) := by decide +kernel
theorem D260_21 : decode (mB 260) 21 = .ok (.ireturn, 1) := by decide +kernel
theorem D260_22 : decode (mB 260) 22 = .ok (.aload_n 1, 1) := by decide +kernel
theorem D260_23 : decode (mB 260) 23 = .ok (.iload_n 2, 1) := by decide +kernel
theorem D260_24 : decode (mB 260) 24 = .ok (.iload_n 3, 1) := by decide +kernel
theorem D260_25 : decode (mB 260) 25 = .ok (.invokestatic 252, 3) := by decide +kernel
theorem D260_28 : decode (mB 260) 28 = .ok (.istore 4, 2) := by decide +kernel
theorem D260_30 : decode (mB 260) 30 = .ok (.iload 4, 2) := by decide +kernel
theorem D260_32 : decode (mB 260) 32 = .ok (.ifCond .lt 31, 3) := by decide +kernel
theorem D260_35 : decode (mB 260) 35 = .ok (.aload_n 1, 1) := by decide +kernel
theorem D260_36 : decode (mB 260) 36 = .ok (.iload_n 2, 1) := by decide +kernel
theorem D260_37 : decode (mB 260) 37 = .ok (.aload_n 1, 1) := by decide +kernel
theorem D260_38 : decode (mB 260) 38 = .ok (.iload_n 2, 1) := by decide +kernel
theorem D260_39 : decode (mB 260) 39 = .ok (.iconst 3, 1) := by decide +kernel
theorem D260_40 : decode (mB 260) 40 = .ok (.invokestatic 220, 3) := by decide +kernel
theorem D260_43 : decode (mB 260) 43 = .ok (.iload 4, 2) := by decide +kernel
theorem D260_45 : decode (mB 260) 45 = .ok (.iadd, 1) := by decide +kernel
theorem D260_46 : decode (mB 260) 46 = .ok (.invokestatic 239, 3) := by decide +kernel
theorem D260_49 : decode (mB 260) 49 = .ok (.iconst 4, 1) := by decide +kernel
theorem D260_50 : decode (mB 260) 50 = .ok (.iadd, 1) := by decide +kernel
theorem D260_51 : decode (mB 260) 51 = .ok (.iaload, 1) := by decide +kernel
theorem D260_52 : decode (mB 260) 52 = .ok (.iconst 1, 1) := by decide +kernel
theorem D260_53 : decode (mB 260) 53 = .ok (.if_icmp .ne 8, 3) := by decide +kernel
theorem D260_56 : decode (mB 260) 56 = .ok (.bipush (-3), 2) := by decide +kernel
theorem D260_58 : decode (mB 260) 58 = .ok (.goto 4, 3) := by decide +kernel
theorem D260_61 : decode (mB 260) 61 = .ok (.iconst 0, 1) := by decide +kernel
theorem D260_62 : decode (mB 260) 62 = .ok (.ireturn, 1) := by decide +kernel
theorem D260_63 : decode (mB 260) 63 = .ok (.aload_n 1, 1) := by decide +kernel
theorem D260_64 : decode (mB 260) 64 = .ok (.iload_n 2, 1) := by decide +kernel
theorem D260_65 : decode (mB 260) 65 = .ok (.iload_n 3, 1) := by decide +kernel
theorem D260_66 : decode (mB 260) 66 = .ok (.invokestatic 255, 3) := by decide +kernel
theorem D260_69 : decode (mB 260) 69 = .ok (.istore 5, 2) := by decide +kernel
theorem D260_71 : decode (mB 260) 71 = .ok (.iload 5, 2) := by decide +kernel
theorem D260_73 : decode (mB 260) 73 = .ok (.ifCond .ge 8, 3) := by decide +kernel
theorem D260_76 : decode (mB 260) 76 = .ok (.bipush (-2), 2) := by decide +kernel
theorem D260_78 : decode (mB 260) 78 = .ok (.goto 23, 3) := by decide +kernel
theorem D260_81 : decode (mB 260) 81 = .ok (.aload_n 1, 1) := by decide +kernel
theorem D260_82 : decode (mB 260) 82 = .ok (.iload 5, 2) := by decide +kernel
theorem D260_84 : decode (mB 260) 84 = .ok (.invokestatic 236, 3) := by decide +kernel
theorem D260_87 : decode (mB 260) 87 = .ok (.bipush 11, 2) := by decide +kernel
theorem D260_89 : decode (mB 260) 89 = .ok (.iadd, 1) := by decide +kernel
theorem D260_90 : decode (mB 260) 90 = .ok (.iaload, 1) := by decide +kernel
theorem D260_91 : decode (mB 260) 91 = .ok (.iconst 2, 1) := by decide +kernel
theorem D260_92 : decode (mB 260) 92 = .ok (.if_icmp .ge 8, 3) := by decide +kernel
theorem D260_95 : decode (mB 260) 95 = .ok (.bipush (-4), 2) := by decide +kernel
theorem D260_97 : decode (mB 260) 97 = .ok (.goto 4, 3) := by decide +kernel
theorem D260_100 : decode (mB 260) 100 = .ok (.iconst 1, 1) := by decide +kernel
theorem D260_101 : decode (mB 260) 101 = .ok (.ireturn, 1) := by decide +kernel
theorem D261_0 : decode (mB 261) 0 = .ok (.aload_n 0, 1) := by decide +kernel
theorem D261_1 : decode (mB 261) 1 = .ok (.iconst 0, 1) := by decide +kernel
theorem D261_2 : decode (mB 261) 2 = .ok (.putfield 3, 3) := by decide +kernel
theorem D261_5 : decode (mB 261) 5 = .ok (.aload_n 0, 1) := by decide +kernel
theorem D261_6 : decode (mB 261) 6 = .ok (.invokevirtual 355, 3) := by decide +kernel
theorem D261_9 : decode (mB 261) 9 = .ok (.aload_n 0, 1) := by decide +kernel
theorem D261_10 : decode (mB 261) 10 = .ok (.aload_n 0, 1) := by decide +kernel
theorem D261_11 : decode (mB 261) 11 = .ok (.aload_n 0, 1) := by decide +kernel
theorem D261_12 : decode (mB 261) 12 = .ok (.getfield 146, 3) := by decide +kernel
theorem D261_15 : decode (mB 261) 15 = .ok (.iconst 1, 1) := by decide +kernel
theorem D261_16 : decode (mB 261) 16 = .ok (.invokevirtual 379, 3) := by decide +kernel
theorem D261_19 : decode (mB 261) 19 = .ok (.invokevirtual 233, 3) := by decide +kernel
theorem D261_22 : decode (mB 261) 22 = .ok (.ireturn, 1) := by decide +kernel
theorem D262_0 : decode (mB 262) 0 = .ok (.iconst 0, 1) := by decide +kernel
theorem D262_1 : decode (mB 262) 1 = .ok (.istore_n 3, 1) := by decide +kernel
theorem D262_2 : decode (mB 262) 2 = .ok (.iconst 0, 1) := by decide +kernel
theorem D262_3 : decode (mB 262) 3 = .ok (.istore 4, 2) := by decide +kernel
theorem D262_5 : decode (mB 262) 5 = .ok (.aload_n 1, 1) := by decide +kernel
theorem D262_6 : decode (mB 262) 6 = .ok (.sipush 814, 3) := by decide +kernel
theorem D262_9 : decode (mB 262) 9 = .ok (.iaload, 1) := by decide +kernel
theorem D262_10 : decode (mB 262) 10 = .ok (.istore 5, 2) := by decide +kernel
theorem D262_12 : decode (mB 262) 12 = .ok (.iconst 0, 1) := by decide +kernel
theorem D262_13 : decode (mB 262) 13 = .ok (.istore 6, 2) := by decide +kernel
theorem D262_15 : decode (mB 262) 15 = .ok (.iload 6, 2) := by decide +kernel
theorem D262_17 : decode (mB 262) 17 = .ok (.aload_n 1, 1) := by decide +kernel
theorem D262_18 : decode (mB 262) 18 = .ok (.sipush 493, 3) := by decide +kernel
theorem D262_21 : decode (mB 262) 21 = .ok (.iaload, 1) := by decide +kernel
theorem D262_22 : decode (mB 262) 22 = .ok (.if_icmp .ge 25, 3) := by decide +kernel
theorem D262_25 : decode (mB 262) 25 = .ok (.iload 4, 2) := by decide +kernel
theorem D262_27 : decode (mB 262) 27 = .ok (.iconst 1, 1) := by decide +kernel
theorem D262_28 : decode (mB 262) 28 = .ok (.aload_n 1, 1) := by decide +kernel
theorem D262_29 : decode (mB 262) 29 = .ok (.iload 6, 2) := by decide +kernel
theorem D262_31 : decode (mB 262) 31 = .ok (.invokestatic 242, 3) := by decide +kernel
theorem D262_34 : decode (mB 262) 34 = .ok (.invokestatic 40, 3) := by decide +kernel
theorem D262_37 : decode (mB 262) 37 = .ok (.iadd, 1) := by decide +kernel
theorem D262_38 : decode (mB 262) 38 = .ok (.iadd, 1) := by decide +kernel
theorem D262_39 : decode (mB 262) 39 = .ok (.istore 4, 2) := by decide +kernel
theorem D262_41 : decode (mB 262) 41 = .ok (.iinc 6 1, 3) := by decide +kernel
theorem D262_44 : decode (mB 262) 44 = .ok (.goto (-29), 3) := by decide +kernel
theorem D262_47 : decode (mB 262) 47 = .ok (.iconst 0, 1) := by decide +kernel
theorem D262_48 : decode (mB 262) 48 = .ok (.istore 6, 2) := by decide +kernel
theorem D262_50 : decode (mB 262) 50 = .ok (.iload 6, 2) := by decide +kernel
theorem D262_52 : decode (mB 262) 52 = .ok (.aload_n 0, 1) := by decide +kernel
theorem D262_53 : decode (mB 262) 53 = .ok (.getfield 198, 3) := by decide +kernel
theorem D262_56 : decode (mB 262) 56 = .ok (.if_icmp .ge 73, 3) := by decide +kernel
theorem D262_59 : decode (mB 262) 59 = .ok (.iload_n 3, 1) := by decide +kernel
theorem D262_60 : decode (mB 262) 60 = .ok (.aload_n 1, 1) := by decide +kernel
theorem D262_61 : decode (mB 262) 61 = .ok (.iload 6, 2) := by decide +kernel
theorem D262_63 : decode (mB 262) 63 = .ok (.iconst 0, 1) := by decide +kernel
theorem D262_64 : decode (mB 262) 64 = .ok (.invokestatic 220, 3) := by decide +kernel
theorem D262_67 : decode (mB 262) 67 = .ok (.aload_n 1, 1) := by decide +kernel
theorem D262_68 : decode (mB 262) 68 = .ok (.iload 6, 2) := by decide +kernel
theorem D262_70 : decode (mB 262) 70 = .ok (.iconst 3, 1) := by decide +kernel
theorem D262_71 : decode (mB 262) 71 = .ok (.invokestatic 220, 3) := by decide +kernel
theorem D262_74 : decode (mB 262) 74 = .ok (.isub, 1) := by decide +kernel
theorem D262_75 : decode (mB 262) 75 = .ok (.iadd, 1) := by decide +kernel
theorem D262_76 : decode (mB 262) 76 = .ok (.istore_n 3, 1) := by decide +kernel
theorem D262_77 : decode (mB 262) 77 = .ok (.iload 5, 2) := by decide +kernel
theorem D262_79 : decode (mB 262) 79 = .ok (.aload_n 1, 1) := by decide +kernel
theorem D262_80 : decode (mB 262) 80 = .ok (.iload 6, 2) := by decide +kernel
theorem D262_82 : decode (mB 262) 82 = .ok (.iconst 5, 1) := by decide +kernel
theorem D262_83 : decode (mB 262) 83 = .ok (.invokestatic 220, 3) := by decide +kernel
theorem D262_86 : decode (mB 262) 86 = .ok (.aload_n 1, 1) := by decide +kernel
theorem D262_87 : decode (mB 262) 87 = .ok (.iload 6, 2) := by decide +kernel
theorem D262_89 : decode (mB 262) 89 = .ok (.bipush 6, 2) := by decide +kernel
theorem D262_91 : decode (mB 262) 91 = .ok (.invokestatic 220, 3) := by decide +kernel
theorem D262_94 : decode (mB 262) 94 = .ok (.isub, 1) := by decide +kernel
theorem D262_95 : decode (mB 262) 95 = .ok (.iadd, 1) := by decide +kernel
theorem D262_96 : decode (mB 262) 96 = .ok (.istore 5, 2) := by decide +kernel
theorem D262_98 : decode (mB 262) 98 = .ok (.iconst 0, 1) := by decide +kernel
theorem D262_99 : decode (mB 262) 99 = .ok (.istore 7, 2) := by decide +kernel
theorem D262_101 : decode (mB 262) 101 = .ok (.iload 7, 2) := by decide +kernel
theorem D262_103 : decode (mB 262) 103 = .ok (.bipush 89, 2) := by decide +kernel
theorem D262_105 : decode (mB 262) 105 = .ok (.if_icmp .ge 18, 3) := by decide +kernel
theorem D262_108 : decode (mB 262) 108 = .ok (.aload_n 1, 1) := by decide +kernel
theorem D262_109 : decode (mB 262) 109 = .ok (.iload 6, 2) := by decide +kernel
theorem D262_111 : decode (mB 262) 111 = .ok (.iload 7, 2) := by decide +kernel
theorem D262_113 : decode (mB 262) 113 = .ok (.iconst 0, 1) := by decide +kernel
theorem D262_114 : decode (mB 262) 114 = .ok (.invokestatic 278, 3) := by decide +kernel
theorem D262_117 : decode (mB 262) 117 = .ok (.iinc 7 1, 3) := by decide +kernel
theorem D262_120 : decode (mB 262) 120 = .ok (.goto (-19), 3) := by decide +kernel
theorem D262_123 : decode (mB 262) 123 = .ok (.iinc 6 1, 3) := by decide +kernel
theorem D262_126 : decode (mB 262) 126 = .ok (.goto (-76), 3) := by decide +kernel
theorem D262_129 : decode (mB 262) 129 = .ok (.aload_n 1, 1) := by decide +kernel
theorem D262_130 : decode (mB 262) 130 = .ok (.sipush 493, 3) := by decide +kernel
theorem D262_133 : decode (mB 262) 133 = .ok (.iconst 0, 1) := by decide +kernel
theorem D262_134 : decode (mB 262) 134 = .ok (.iastore, 1) := by decide +kernel
theorem D262_135 : decode (mB 262) 135 = .ok (.aload_n 1, 1) := by decide +kernel
theorem D262_136 : decode (mB 262) 136 = .ok (.sipush 814, 3) := by decide +kernel
theorem D262_139 : decode (mB 262) 139 = .ok (.iconst 0, 1) := by decide +kernel
theorem D262_140 : decode (mB 262) 140 = .ok (.iastore, 1) := by decide +kernel
theorem D262_141 : decode (mB 262) 141 = .ok (.iconst 0, 1) := by decide +kernel
theorem D262_142 : decode (mB 262) 142 = .ok (.istore 6, 2) := by decide +kernel
theorem D262_144 : decode (mB 262) 144 = .ok (.iload 6, 2) := by decide +kernel
theorem D262_146 : decode (mB 262) 146 = .ok (.iconst 4, 1) := by decide +kernel
theorem D262_147 : decode (mB 262) 147 = .ok (.if_icmp .ge 43, 3) := by decide +kernel
theorem D262_150 : decode (mB 262) 150 = .ok (.aload_n 1, 1) := by decide +kernel
theorem D262_151 : decode (mB 262) 151 = .ok (.sipush 818, 3) := by decide +kernel
theorem D262_154 : decode (mB 262) 154 = .ok (.iload 6, 2) := by decide +kernel
theorem D262_156 : decode (mB 262) 156 = .ok (.iadd, 1) := by decide +kernel
theorem D262_157 : decode (mB 262) 157 = .ok (.aload_n 1, 1) := by decide +kernel
theorem D262_158 : decode (mB 262) 158 = .ok (.sipush 814, 3) := by decide +kernel
theorem D262_161 : decode (mB 262) 161 = .ok (.iload 6, 2) := by decide +kernel
theorem D262_163 : decode (mB 262) 163 = .ok (.iadd, 1) := by decide +kernel
theorem D262_164 : decode (mB 262) 164 = .ok (.iaload, 1) := by decide +kernel
theorem D262_165 : decode (mB 262) 165 = .ok (.iastore, 1) := by decide +kernel
theorem D262_166 : decode (mB 262) 166 = .ok (.aload_n 1, 1) := by decide +kernel
theorem D262_167 : decode (mB 262) 167 = .ok (.sipush 822, 3) := by decide +kernel
theorem D262_170 : decode (mB 262) 170 = .ok (.iload 6, 2) := by decide +kernel
theorem D262_172 : decode (mB 262) 172 = .ok (.iadd, 1) := by decide +kernel
theorem D262_173 : decode (mB 262) 173 = .ok (.iconst 4, 1) := by decide +kernel
theorem D262_174 : decode (mB 262) 174 = .ok (.iastore, 1) := by decide +kernel
theorem D262_175 : decode (mB 262) 175 = .ok (.aload_n 1, 1) := by decide +kernel
theorem D262_176 : decode (mB 262) 176 = .ok (.sipush 840, 3) := by decide +kernel
theorem D262_179 : decode (mB 262) 179 = .ok (.iload 6, 2) := by decide +kernel
theorem D262_181 : decode (mB 262) 181 = .ok (.iadd, 1) := by decide +kernel
theorem D262_182 : decode (mB 262) 182 = .ok (.iconst 0, 1) := by decide +kernel
theorem D262_183 : decode (mB 262) 183 = .ok (.iastore, 1) := by decide +kernel
theorem D262_184 : decode (mB 262) 184 = .ok (.iinc 6 1, 3) := by decide +kernel
theorem D262_187 : decode (mB 262) 187 = .ok (.goto (-43), 3) := by decide +kernel
theorem D262_190 : decode (mB 262) 190 = .ok (.iload_n 2, 1) := by decide +kernel
theorem D262_191 : decode (mB 262) 191 = .ok (.ifCond .eq 28, 3) := by decide +kernel
theorem D262_194 : decode (mB 262) 194 = .ok (.aload_n 0, 1) := by decide +kernel
theorem D262_195 : decode (mB 262) 195 = .ok (.iconst 0, 1) := by decide +kernel
theorem D262_196 : decode (mB 262) 196 = .ok (.putfield 11, 3) := by decide +kernel
theorem D262_199 : decode (mB 262) 199 = .ok (.aload_n 0, 1) := by decide +kernel
theorem D262_200 : decode (mB 262) 200 = .ok (.iload_n 3, 1) := by decide +kernel
theorem D262_201 : decode (mB 262) 201 = .ok (.i2l, 1) := by decide +kernel
theorem D262_202 : decode (mB 262) 202 = .ok (.invokevirtual 345, 3) := by decide +kernel
theorem D262_205 : decode (mB 262) 205 = .ok (.aload_n 0, 1) := by decide +kernel
theorem D262_206 : decode (mB 262) 206 = .ok (.iload 4, 2) := by decide +kernel
theorem D262_208 : decode (mB 262) 208 = .ok (.i2l, 1) := by decide +kernel
theorem D262_209 : decode (mB 262) 209 = .ok (.invokevirtual 345, 3) := by decide +kernel
theorem D262_212 : decode (mB 262) 212 = .ok (.aload_n 0, 1) := by decide +kernel
theorem D262_213 : decode (mB 262) 213 = .ok (.iload 5, 2) := by decide +kernel
theorem D262_215 : decode (mB 262) 215 = .ok (.i2l, 1) := by decide +kernel
theorem D262_216 : decode (mB 262) 216 = .ok (.invokevirtual 345, 3) := by decide +kernel
theorem D262_219 : decode (mB 262) 219 = .ok (.iload_n 3, 1) := by decide +kernel
theorem D262_220 : decode (mB 262) 220 = .ok (.iload 4, 2) := by decide +kernel
theorem D262_222 : decode (mB 262) 222 = .ok (.iadd, 1) := by decide +kernel
theorem D262_223 : decode (mB 262) 223 = .ok (.iload 5, 2) := by decide +kernel
theorem D262_225 : decode (mB 262) 225 = .ok (.iadd, 1) := by decide +kernel
theorem D262_226 : decode (mB 262) 226 = .ok (.ireturn, 1) := by decide +kernel
theorem D263_0 : decode (mB 263) 0 = .ok (.aload_n 0, 1) := by decide +kernel
theorem D263_1 : decode (mB 263) 1 = .ok (.iconst 0, 1) := by decide +kernel
theorem D263_2 : decode (mB 263) 2 = .ok (.putfield 3, 3) := by decide +kernel
theorem D263_5 : decode (mB 263) 5 = .ok (.aload_n 0, 1) := by decide +kernel
theorem D263_6 : decode (mB 263) 6 = .ok (.invokevirtual 355, 3) := by decide +kernel
theorem D263_9 : decode (mB 263) 9 = .ok (.aload_n 0, 1) := by decide +kernel
theorem D263_10 : decode (mB 263) 10 = .ok (.aload_n 0, 1) := by decide +kernel
theorem D263_11 : decode (mB 263) 11 = .ok (.getfield 146, 3) := by decide +kernel
theorem D263_14 : decode (mB 263) 14 = .ok (.iload_n 1, 1) := by decide +kernel
theorem D263_15 : decode (mB 263) 15 = .ok (.iload_n 2, 1) := by decide +kernel
theorem D263_16 : decode (mB 263) 16 = .ok (.invokestatic 383, 3) := by decide +kernel
theorem D263_19 : decode (mB 263) 19 = .ok (.invokevirtual 362, 3) := by decide +kernel
theorem D263_22 : decode (mB 263) 22 = .ok (.ireturn, 1) := by decide +kernel
theorem D264_0 : decode (mB 264) 0 = .ok (.iload_n 1, 1) := by decide +kernel
theorem D264_1 : decode (mB 264) 1 = .ok (.i2l, 1) := by decide +kernel
theorem D264_2 : decode (mB 264) 2 = .ok (.lconst 1, 1) := by decide +kernel
theorem D264_3 : decode (mB 264) 3 = .ok (.ldc2_w 224, 3) := by decide +kernel
theorem D264_6 : decode (mB 264) 6 = .ok (.invokestatic 21, 3) := by decide +kernel
theorem D264_9 : decode (mB 264) 9 = .ok (.ifCond .eq 15, 3) := by decide +kernel
theorem D264_12 : decode (mB 264) 12 = .ok (.iload_n 2, 1) := by decide +kernel
theorem D264_13 : decode (mB 264) 13 = .ok (.i2l, 1) := by decide +kernel
theorem D264_14 : decode (mB 264) 14 = .ok (.lconst 1, 1) := by decide +kernel
theorem D264_15 : decode (mB 264) 15 = .ok (.ldc2_w 270, 3) := by decide +kernel
theorem D264_18 : decode (mB 264) 18 = .ok (.invokestatic 21, 3) := by decide +kernel
theorem D264_21 : decode (mB 264) 21 = .ok (.ifCond .ne 5, 3) := by decide +kernel
theorem D264_24 : decode (mB 264) 24 = .ok (.iconst (-1), 1) := by decide +kernel
theorem D264_25 : decode (mB 264) 25 = .ok (.ireturn, 1) := by decide +kernel
theorem D264_26 : decode (mB 264) 26 = .ok (.aload_n 0, 1) := by decide +kernel
theorem D264_27 : decode (mB 264) 27 = .ok (.sipush 814, 3) := by decide +kernel
theorem D264_30 : decode (mB 264) 30 = .ok (.iload_n 1, 1) := by decide +kernel
theorem D264_31 : decode (mB 264) 31 = .ok (.iadd, 1) := by decide +kernel
theorem D264_32 : decode (mB 264) 32 = .ok (.iaload, 1) := by decide +kernel
theorem D264_33 : decode (mB 264) 33 = .ok (.istore_n 3, 1) := by decide +kernel
theorem D264_34 : decode (mB 264) 34 = .ok (.iload_n 3, 1) := by decide +kernel
theorem D264_35 : decode (mB 264) 35 = .ok (.iload_n 2, 1) := by decide +kernel
theorem D264_36 : decode (mB 264) 36 = .ok (.if_icmp .ne 6, 3) := by decide +kernel
theorem D264_39 : decode (mB 264) 39 = .ok (.bipush (-2), 2) := by decide +kernel
theorem D264_41 : decode (mB 264) 41 = .ok (.ireturn, 1) := by decide +kernel
theorem D264_42 : decode (mB 264) 42 = .ok (.aload_n 0, 1) := by decide +kernel
theorem D264_43 : decode (mB 264) 43 = .ok (.sipush 814, 3) := by decide +kernel
theorem D264_46 : decode (mB 264) 46 = .ok (.iload_n 1, 1) := by decide +kernel
theorem D264_47 : decode (mB 264) 47 = .ok (.iadd, 1) := by decide +kernel
theorem D264_48 : decode (mB 264) 48 = .ok (.iload_n 2, 1) := by decide +kernel
theorem D264_49 : decode (mB 264) 49 = .ok (.iastore, 1) := by decide +kernel
theorem D264_50 : decode (mB 264) 50 = .ok (.aload_n 0, 1) := by decide +kernel
theorem D264_51 : decode (mB 264) 51 = .ok (.sipush 818, 3) := by decide +kernel
theorem D264_54 : decode (mB 264) 54 = .ok (.iload_n 1, 1) := by decide +kernel
theorem D264_55 : decode (mB 264) 55 = .ok (.iadd, 1) := by decide +kernel
theorem D264_56 : decode (mB 264) 56 = .ok (.iload_n 2, 1) := by decide +kernel
theorem D264_57 : decode (mB 264) 57 = .ok (.iastore, 1) := by decide +kernel
theorem D264_58 : decode (mB 264) 58 = .ok (.bipush 10, 2) := by decide +kernel
theorem D264_60 : decode (mB 264) 60 = .ok (.iload_n 3, 1) := by decide +kernel
theorem D264_61 : decode (mB 264) 61 = .ok (.iadd, 1) := by decide +kernel
theorem D264_62 : decode (mB 264) 62 = .ok (.ireturn, 1) := by decide +kernel
theorem D265_0 : decode (mB 265) 0 = .ok (.aload_n 0, 1) := by decide +kernel
theorem D265_1 : decode (mB 265) 1 = .ok (.iconst 0, 1) := by decide +kernel
theorem D265_2 : decode (mB 265) 2 = .ok (.putfield 3, 3) := by decide +kernel
theorem D265_5 : decode (mB 265) 5 = .ok (.aload_n 0, 1) := by decide +kernel
theorem D265_6 : decode (mB 265) 6 = .ok (.invokevirtual 355, 3) := by decide +kernel
theorem D265_9 : decode (mB 265) 9 = .ok (.aload_n 0, 1) := by decide +kernel
theorem D265_10 : decode (mB 265) 10 = .ok (.aload_n 0, 1) := by decide +kernel
theorem D265_11 : decode (mB 265) 11 = .ok (.getfield 146, 3) := by decide +kernel
theorem D265_14 : decode (mB 265) 14 = .ok (.iload_n 1, 1) := by decide +kernel
theorem D265_15 : decode (mB 265) 15 = .ok (.invokestatic 386, 3) := by decide +kernel
theorem D265_18 : decode (mB 265) 18 = .ok (.invokevirtual 362, 3) := by decide +kernel
theorem D265_21 : decode (mB 265) 21 = .ok (.ireturn, 1) := by decide +kernel
theorem D266_0 : decode (mB 266) 0 = .ok (.iload_n 1, 1) := by decide +kernel
theorem D266_1 : decode (mB 266) 1 = .ok (.i2l, 1) := by decide +kernel
theorem D266_2 : decode (mB 266) 2 = .ok (.lconst 1, 1) := by decide +kernel
theorem D266_3 : decode (mB 266) 3 = .ok (.ldc2_w 268, 3) := by decide +kernel
theorem D266_6 : decode (mB 266) 6 = .ok (.invokestatic 21, 3) := by decide +kernel
theorem D266_9 : decode (mB 266) 9 = .ok (.ifCond .ne 5, 3) := by decide +kernel
theorem D266_12 : decode (mB 266) 12 = .ok (.iconst (-1), 1) := by decide +kernel
theorem D266_13 : decode (mB 266) 13 = .ok (.ireturn, 1) := by decide +kernel
theorem D266_14 : decode (mB 266) 14 = .ok (.aload_n 0, 1) := by decide +kernel
theorem D266_15 : decode (mB 266) 15 = .ok (.sipush 826, 3) := by decide +kernel
theorem D266_18 : decode (mB 266) 18 = .ok (.iaload, 1) := by decide +kernel
theorem D266_19 : decode (mB 266) 19 = .ok (.istore_n 2, 1) := by decide +kernel
theorem D266_20 : decode (mB 266) 20 = .ok (.aload_n 0, 1) := by decide +kernel
theorem D266_21 : decode (mB 266) 21 = .ok (.sipush 826, 3) := by decide +kernel
theorem D266_24 : decode (mB 266) 24 = .ok (.iload_n 1, 1) := by decide +kernel
theorem D266_25 : decode (mB 266) 25 = .ok (.iastore, 1) := by decide +kernel
theorem D266_26 : decode (mB 266) 26 = .ok (.iload_n 2, 1) := by decide +kernel
theorem D266_27 : decode (mB 266) 27 = .ok (.iload_n 1, 1) := by decide +kernel
theorem D266_28 : decode (mB 266) 28 = .ok (.if_icmp .ne 8, 3) := by decide +kernel
theorem D266_31 : decode (mB 266) 31 = .ok (.bipush (-2), 2) := by decide +kernel
theorem D266_33 : decode (mB 266) 33 = .ok (.goto 7, 3) := by decide +kernel
theorem D266_36 : decode (mB 266) 36 = .ok (.bipush 10, 2) := by decide +kernel
theorem D266_38 : decode (mB 266) 38 = .ok (.iload_n 2, 1) := by decide +kernel
theorem D266_39 : decode (mB 266) 39 = .ok (.iadd, 1) := by decide +kernel
theorem D266_40 : decode (mB 266) 40 = .ok (.ireturn, 1) := by decide +kernel
theorem D267_0 : decode (mB 267) 0 = .ok (.aload_n 0, 1) := by decide +kernel
theorem D267_1 : decode (mB 267) 1 = .ok (.iconst 0, 1) := by decide +kernel
theorem D267_2 : decode (mB 267) 2 = .ok (.putfield 3, 3) := by decide +kernel
theorem D267_5 : decode (mB 267) 5 = .ok (.aload_n 0, 1) := by decide +kernel
theorem D267_6 : decode (mB 267) 6 = .ok (.bipush 80, 2) := by decide +kernel
theorem D267_8 : decode (mB 267) 8 = .ok (.invokevirtual 98, 3) := by decide +kernel
theorem D267_11 : decode (mB 267) 11 = .ok (.pop, 1) := by decide +kernel
theorem D267_12 : decode (mB 267) 12 = .ok (.aload_n 0, 1) := by decide +kernel
theorem D267_13 : decode (mB 267) 13 = .ok (.iconst 0, 1) := by decide +kernel
theorem D267_14 : decode (mB 267) 14 = .ok (.putfield 389, 3) := by decide +kernel
theorem D267_17 : decode (mB 267) 17 = .ok (.aload_n 0, 1) := by decide +kernel
theorem D267_18 : decode (mB 267) 18 = .ok (.getfield 25, 3) := by decide +kernel
theorem D267_21 : decode (mB 267) 21 = .ok (.aload_n 0, 1) := by decide +kernel
theorem D267_22 : decode (mB 267) 22 = .ok (.getfield 37, 3) := by decide +kernel
theorem D267_25 : decode (mB 267) 25 = .ok (.if_icmp .ge 17, 3) := by decide +kernel
theorem D267_28 : decode (mB 267) 28 = .ok (.aload_n 0, 1) := by decide +kernel
theorem D267_29 : decode (mB 267) 29 = .ok (.invokevirtual 397, 3) := by decide +kernel
theorem D267_32 : decode (mB 267) 32 = .ok (.ifCond .ne (-15), 3) := by decide +kernel
theorem D267_35 : decode (mB 267) 35 = .ok (.iconst (-1), 1) := by decide +kernel
theorem D267_36 : decode (mB 267) 36 = .ok (.aload_n 0, 1) := by decide +kernel
theorem D267_37 : decode (mB 267) 37 = .ok (.getfield 25, 3) := by decide +kernel
theorem D267_40 : decode (mB 267) 40 = .ok (.isub, 1) := by decide +kernel
theorem D267_41 : decode (mB 267) 41 = .ok (.ireturn, 1) := by decide +kernel
theorem D267_42 : decode (mB 267) 42 = .ok (.aload_n 0, 1) := by decide +kernel
theorem D267_43 : decode (mB 267) 43 = .ok (.invokevirtual 355, 3) := by decide +kernel
theorem D267_46 : decode (mB 267) 46 = .ok (.iconst 0, 1) := by decide +kernel
theorem D267_47 : decode (mB 267) 47 = .ok (.istore_n 1, 1) := by decide +kernel
theorem D267_48 : decode (mB 267) 48 = .ok (.iload_n 1, 1) := by decide +kernel
theorem D267_49 : decode (mB 267) 49 = .ok (.aload_n 0, 1) := by decide +kernel
theorem D267_50 : decode (mB 267) 50 = .ok (.getfield 389, 3) := by decide +kernel
theorem D267_53 : decode (mB 267) 53 = .ok (.if_icmp .ge 17, 3) := by decide +kernel
theorem D267_56 : decode (mB 267) 56 = .ok (.aload_n 0, 1) := by decide +kernel
theorem D267_57 : decode (mB 267) 57 = .ok (.iload_n 1, 1) := by decide +kernel
theorem D267_58 : decode (mB 267) 58 = .ok (.invokevirtual 400, 3) := by decide +kernel
theorem D267_61 : decode (mB 267) 61 = .ok (.ifCond .lt 9, 3) := by decide +kernel
theorem D267_64 : decode (mB 267) 64 = .ok (.iinc 1 1, 3) := by decide +kernel
theorem D267_67 : decode (mB 267) 67 = .ok (.goto (-19), 3) := by decide +kernel
theorem D267_70 : decode (mB 267) 70 = .ok (.aload_n 0, 1) := by decide +kernel
theorem D267_71 : decode (mB 267) 71 = .ok (.iconst 0, 1) := by decide +kernel
theorem D267_72 : decode (mB 267) 72 = .ok (.putfield 11, 3) := by decide +kernel
theorem D267_75 : decode (mB 267) 75 = .ok (.aload_n 0, 1) := by decide +kernel
theorem D267_76 : decode (mB 267) 76 = .ok (.iload_n 1, 1) := by decide +kernel
theorem D267_77 : decode (mB 267) 77 = .ok (.aload_n 0, 1) := by decide +kernel
theorem D267_78 : decode (mB 267) 78 = .ok (.getfield 389, 3) := by decide +kernel
theorem D267_81 : decode (mB 267) 81 = .ok (.if_icmp .ge 7, 3) := by decide +kernel
theorem D267_84 : decode (mB 267) 84 = .ok (.iconst 1, 1) := by decide +kernel
theorem D267_85 : decode (mB 267) 85 = .ok (.goto 4, 3) := by decide +kernel
theorem D267_88 : decode (mB 267) 88 = .ok (.iconst 0, 1) := by decide +kernel
theorem D267_89 : decode (mB 267) 89 = .ok (.invokestatic 40, 3) := by decide +kernel
theorem D267_92 : decode (mB 267) 92 = .ok (.i2l, 1) := by decide +kernel
theorem D267_93 : decode (mB 267) 93 = .ok (.invokevirtual 345, 3) := by decide +kernel
theorem D267_96 : decode (mB 267) 96 = .ok (.aload_n 0, 1) := by decide +kernel
theorem D267_97 : decode (mB 267) 97 = .ok (.aload_n 0, 1) := by decide +kernel
theorem D267_98 : decode (mB 267) 98 = .ok (.getfield 146, 3) := by decide +kernel
theorem D267_101 : decode (mB 267) 101 = .ok (.sipush 827, 3) := by decide +kernel
theorem D267_104 : decode (mB 267) 104 = .ok (.iaload, 1) := by decide +kernel
theorem D267_105 : decode (mB 267) 105 = .ok (.i2l, 1) := by decide +kernel
theorem D267_106 : decode (mB 267) 106 = .ok (.invokevirtual 345, 3) := by decide +kernel
theorem D267_109 : decode (mB 267) 109 = .ok (.iload_n 1, 1) := by decide +kernel
theorem D267_110 : decode (mB 267) 110 = .ok (.ifCond .le 11, 3) := by decide +kernel
theorem D267_113 : decode (mB 267) 113 = .ok (.aload_n 0, 1) := by decide +kernel
theorem D267_114 : decode (mB 267) 114 = .ok (.iload_n 1, 1) := by decide +kernel
theorem D267_115 : decode (mB 267) 115 = .ok (.invokevirtual 233, 3) := by decide +kernel
theorem D267_118 : decode (mB 267) 118 = .ok (.goto 4, 3) := by decide +kernel
theorem D267_121 : decode (mB 267) 121 = .ok (.iconst 0, 1) := by decide +kernel
theorem D267_122 : decode (mB 267) 122 = .ok (.ireturn, 1) := by decide +kernel
theorem D268_0 : decode (mB 268) 0 = .ok (.aload_n 0, 1) := by decide +kernel
theorem D268_1 : decode (mB 268) 1 = .ok (.getfield 389, 3) := by decide +kernel
theorem D268_4 : decode (mB 268) 4 = .ok (.istore_n 1, 1) := by decide +kernel
theorem D268_5 : decode (mB 268) 5 = .ok (.aload_n 0, 1) := by decide +kernel
theorem D268_6 : decode (mB 268) 6 = .ok (.getfield 155, 3) := by decide +kernel
theorem D268_9 : decode (mB 268) 9 = .ok (.iload_n 1, 1) := by decide +kernel
theorem D268_10 : decode (mB 268) 10 = .ok (.aload_n 0, 1) := by decide +kernel
theorem D268_11 : decode (mB 268) 11 = .ok (.ldc_w 392, 3) := by decide +kernel
theorem D268_14 : decode (mB 268) 14 = .ok (.invokevirtual 85, 3) := by decide +kernel
theorem D268_17 : decode (mB 268) 17 = .ok (.iastore, 1) := by decide +kernel
theorem D268_18 : decode (mB 268) 18 = .ok (.aload_n 0, 1) := by decide +kernel
theorem D268_19 : decode (mB 268) 19 = .ok (.dup, 1) := by decide +kernel
theorem D268_20 : decode (mB 268) 20 = .ok (.getfield 389, 3) := by decide +kernel
theorem D268_23 : decode (mB 268) 23 = .ok (.iconst 1, 1) := by decide +kernel
theorem D268_24 : decode (mB 268) 24 = .ok (.iadd, 1) := by decide +kernel
theorem D268_25 : decode (mB 268) 25 = .ok (.putfield 389, 3) := by decide +kernel
theorem D268_28 : decode (mB 268) 28 = .ok (.aload_n 0, 1) := by decide +kernel
theorem D268_29 : decode (mB 268) 29 = .ok (.getfield 155, 3) := by decide +kernel
theorem D268_32 : decode (mB 268) 32 = .ok (.iload_n 1, 1) := by decide +kernel
theorem D268_33 : decode (mB 268) 33 = .ok (.iaload, 1) := by decide +kernel
theorem D268_34 : decode (mB 268) 34 = .ok (.ifCond .gt 18, 3) := by decide +kernel
theorem D268_37 : decode (mB 268) 37 = .ok (.aload_n 0, 1) := by decide +kernel
theorem D268_38 : decode (mB 268) 38 = .ok (.getfield 155, 3) := by decide +kernel
theorem D268_41 : decode (mB 268) 41 = .ok (.iload_n 1, 1) := by decide +kernel
theorem D268_42 : decode (mB 268) 42 = .ok (.iaload, 1) := by decide +kernel
theorem D268_43 : decode (mB 268) 43 = .ok (.ifCond .ne 7, 3) := by decide +kernel
theorem D268_46 : decode (mB 268) 46 = .ok (.iconst 1, 1) := by decide +kernel
theorem D268_47 : decode (mB 268) 47 = .ok (.goto 4, 3) := by decide +kernel
theorem D268_50 : decode (mB 268) 50 = .ok (.iconst 0, 1) := by decide +kernel
theorem D268_51 : decode (mB 268) 51 = .ok (.ireturn, 1) := by decide +kernel
theorem D268_52 : decode (mB 268) 52 = .ok (.aload_n 0, 1) := by decide +kernel
theorem D268_53 : decode (mB 268) 53 = .ok (.getfield 158, 3) := by decide +kernel
theorem D268_56 : decode (mB 268) 56 = .ok (.iload_n 1, 1) := by decide +kernel
theorem D268_57 : decode (mB 268) 57 = .ok (.aload_n 0, 1) := by decide +kernel
theorem D268_58 : decode (mB 268) 58 = .ok (.iconst 1, 1) := by decide +kernel
theorem D268_59 : decode (mB 268) 59 = .ok (.invokevirtual 62, 3) := by decide +kernel
theorem D268_62 : decode (mB 268) 62 = .ok (.iastore, 1) := by decide +kernel
theorem D268_63 : decode (mB 268) 63 = .ok (.aload_n 0, 1) := by decide +kernel
theorem D268_64 : decode (mB 268) 64 = .ok (.getfield 158, 3) := by decide +kernel
theorem D268_67 : decode (mB 268) 67 = .ok (.iload_n 1, 1) := by decide +kernel
theorem D268_68 : decode (mB 268) 68 = .ok (.iaload, 1) := by decide +kernel
theorem D268_69 : decode (mB 268) 69 = .ok (.ifCond .lt 13, 3) := by decide +kernel
theorem D268_72 : decode (mB 268) 72 = .ok (.aload_n 0, 1) := by decide +kernel
theorem D268_73 : decode (mB 268) 73 = .ok (.getfield 155, 3) := by decide +kernel
theorem D268_76 : decode (mB 268) 76 = .ok (.iload_n 1, 1) := by decide +kernel
theorem D268_77 : decode (mB 268) 77 = .ok (.iaload, 1) := by decide +kernel
theorem D268_78 : decode (mB 268) 78 = .ok (.iconst 4, 1) := by decide +kernel
theorem D268_79 : decode (mB 268) 79 = .ok (.if_icmp .ge 18, 3) := by decide +kernel
theorem D268_82 : decode (mB 268) 82 = .ok (.aload_n 0, 1) := by decide +kernel
theorem D268_83 : decode (mB 268) 83 = .ok (.getfield 158, 3) := by decide +kernel
theorem D268_86 : decode (mB 268) 86 = .ok (.iload_n 1, 1) := by decide +kernel
theorem D268_87 : decode (mB 268) 87 = .ok (.iaload, 1) := by decide +kernel
theorem D268_88 : decode (mB 268) 88 = .ok (.ifCond .lt 7, 3) := by decide +kernel
theorem D268_91 : decode (mB 268) 91 = .ok (.iconst 1, 1) := by decide +kernel
theorem D268_92 : decode (mB 268) 92 = .ok (.goto 4, 3) := by decide +kernel
theorem D268_95 : decode (mB 268) 95 = .ok (.iconst 0, 1) := by decide +kernel
theorem D268_96 : decode (mB 268) 96 = .ok (.ireturn, 1) := by decide +kernel
theorem D268_97 : decode (mB 268) 97 = .ok (.aload_n 0, 1) := by decide +kernel
theorem D268_98 : decode (mB 268) 98 = .ok (.getfield 161, 3) := by decide +kernel
theorem D268_101 : decode (mB 268) 101 = .ok (.iload_n 1, 1) := by decide +kernel
theorem D268_102 : decode (mB 268) 102 = .ok (.aload_n 0, 1) := by decide +kernel
theorem D268_103 : decode (mB 268) 103 = .ok (.getfield 155, 3) := by decide +kernel
theorem D268_106 : decode (mB 268) 106 = .ok (.iload_n 1, 1) := by decide +kernel
theorem D268_107 : decode (mB 268) 107 = .ok (.iaload, 1) := by decide +kernel
theorem D268_108 : decode (mB 268) 108 = .ok (.iconst 4, 1) := by decide +kernel
theorem D268_109 : decode (mB 268) 109 = .ok (.if_icmp .ne 10, 3) := by decide +kernel
theorem D268_112 : decode (mB 268) 112 = .ok (.aload_n 0, 1) := by decide +kernel
theorem D268_113 : decode (mB 268) 113 = .ok (.invokevirtual 394, 3) := by decide +kernel
theorem D268_116 : decode (mB 268) 116 = .ok (.goto 9, 3) := by decide +kernel
theorem D268_119 : decode (mB 268) 119 = .ok (.aload_n 0, 1) := by decide +kernel
theorem D268_120 : decode (mB 268) 120 = .ok (.iconst 0, 1) := by decide +kernel
theorem D268_121 : decode (mB 268) 121 = .ok (.iconst 4, 1) := by decide +kernel
theorem D268_122 : decode (mB 268) 122 = .ok (.invokevirtual 201, 3) := by decide +kernel
theorem D268_125 : decode (mB 268) 125 = .ok (.iastore, 1) := by decide +kernel
theorem D268_126 : decode (mB 268) 126 = .ok (.aload_n 0, 1) := by decide +kernel
theorem D268_127 : decode (mB 268) 127 = .ok (.getfield 161, 3) := by decide +kernel
theorem D268_130 : decode (mB 268) 130 = .ok (.iload_n 1, 1) := by decide +kernel
theorem D268_131 : decode (mB 268) 131 = .ok (.iaload, 1) := by decide +kernel
theorem D268_132 : decode (mB 268) 132 = .ok (.ifCond .lt 13, 3) := by decide +kernel
theorem D268_135 : decode (mB 268) 135 = .ok (.aload_n 0, 1) := by decide +kernel
theorem D268_136 : decode (mB 268) 136 = .ok (.getfield 155, 3) := by decide +kernel
theorem D268_139 : decode (mB 268) 139 = .ok (.iload_n 1, 1) := by decide +kernel
theorem D268_140 : decode (mB 268) 140 = .ok (.iaload, 1) := by decide +kernel
theorem D268_141 : decode (mB 268) 141 = .ok (.iconst 4, 1) := by decide +kernel
theorem D268_142 : decode (mB 268) 142 = .ok (.if_icmp .ne 18, 3) := by decide +kernel
theorem D268_145 : decode (mB 268) 145 = .ok (.aload_n 0, 1) := by decide +kernel
theorem D268_146 : decode (mB 268) 146 = .ok (.getfield 161, 3) := by decide +kernel
theorem D268_149 : decode (mB 268) 149 = .ok (.iload_n 1, 1) := by decide +kernel
theorem D268_150 : decode (mB 268) 150 = .ok (.iaload, 1) := by decide +kernel
theorem D268_151 : decode (mB 268) 151 = .ok (.ifCond .lt 7, 3) := by decide +kernel
theorem D268_154 : decode (mB 268) 154 = .ok (.iconst 1, 1) := by decide +kernel
theorem D268_155 : decode (mB 268) 155 = .ok (.goto 4, 3) := by decide +kernel
theorem D268_158 : decode (mB 268) 158 = .ok (.iconst 0, 1) := by decide +kernel
theorem D268_159 : decode (mB 268) 159 = .ok (.ireturn, 1) := by decide +kernel
theorem D268_160 : decode (mB 268) 160 = .ok (.aload_n 0, 1) := by decide +kernel
theorem D268_161 : decode (mB 268) 161 = .ok (.getfield 164, 3) := by decide +kernel
theorem D268_164 : decode (mB 268) 164 = .ok (.iload_n 1, 1) := by decide +kernel
theorem D268_165 : decode (mB 268) 165 = .ok (.aload_n 0, 1) := by decide +kernel
theorem D268_166 : decode (mB 268) 166 = .ok (.iconst 1, 1) := by decide +kernel
theorem D268_167 : decode (mB 268) 167 = .ok (.invokevirtual 62, 3) := by decide +kernel
theorem D268_170 : decode (mB 268) 170 = .ok (.iastore, 1) := by decide +kernel
theorem D268_171 : decode (mB 268) 171 = .ok (.aload_n 0, 1) := by decide +kernel
theorem D268_172 : decode (mB 268) 172 = .ok (.getfield 167, 3) := by decide +kernel
theorem D268_175 : decode (mB 268) 175 = .ok (.iload_n 1, 1) := by decide +kernel
theorem D268_176 : decode (mB 268) 176 = .ok (.aload_n 0, 1) := by decide +kernel
theorem D268_177 : decode (mB 268) 177 = .ok (.getfield 164, 3) := by decide +kernel
theorem D268_180 : decode (mB 268) 180 = .ok (.iload_n 1, 1) := by decide +kernel
theorem D268_181 : decode (mB 268) 181 = .ok (.iaload, 1) := by decide +kernel
theorem D268_182 : decode (mB 268) 182 = .ok (.ifCond .ge 7, 3) := by decide +kernel
theorem D268_185 : decode (mB 268) 185 = .ok (.iconst (-1), 1) := by decide +kernel
theorem D268_186 : decode (mB 268) 186 = .ok (.goto 7, 3) := by decide +kernel
theorem D268_189 : decode (mB 268) 189 = .ok (.aload_n 0, 1) := by decide +kernel
theorem D268_190 : decode (mB 268) 190 = .ok (.invokevirtual 394, 3) := by decide +kernel
theorem D268_193 : decode (mB 268) 193 = .ok (.iastore, 1) := by decide +kernel
theorem D268_194 : decode (mB 268) 194 = .ok (.aload_n 0, 1) := by decide +kernel
theorem D268_195 : decode (mB 268) 195 = .ok (.getfield 167, 3) := by decide +kernel
theorem D268_198 : decode (mB 268) 198 = .ok (.iload_n 1, 1) := by decide +kernel
theorem D268_199 : decode (mB 268) 199 = .ok (.iaload, 1) := by decide +kernel
theorem D268_200 : decode (mB 268) 200 = .ok (.ifCond .lt 7, 3) := by decide +kernel
theorem D268_203 : decode (mB 268) 203 = .ok (.iconst 1, 1) := by decide +kernel
theorem D268_204 : decode (mB 268) 204 = .ok (.goto 4, 3) := by decide +kernel
theorem D268_207 : decode (mB 268) 207 = .ok (.iconst 0, 1) := by decide +kernel
theorem D268_208 : decode (mB 268) 208 = .ok (.ireturn, 1) := by decide +kernel
theorem D269_0 : decode (mB 269) 0 = .ok (.aload_n 0, 1) := by decide +kernel
theorem D269_1 : decode (mB 269) 1 = .ok (.iconst 1, 1) := by decide +kernel
theorem D269_2 : decode (mB 269) 2 = .ok (.invokevirtual 62, 3) := by decide +kernel
theorem D269_5 : decode (mB 269) 5 = .ok (.istore_n 1, 1) := by decide +kernel
theorem D269_6 : decode (mB 269) 6 = .ok (.iload_n 1, 1) := by decide +kernel
theorem D269_7 : decode (mB 269) 7 = .ok (.ifCond .ge 7, 3) := by decide +kernel
theorem D269_10 : decode (mB 269) 10 = .ok (.iconst (-1), 1) := by decide +kernel
theorem D269_11 : decode (mB 269) 11 = .ok (.goto 8, 3) := by decide +kernel
theorem D269_14 : decode (mB 269) 14 = .ok (.aload_n 0, 1) := by decide +kernel
theorem D269_15 : decode (mB 269) 15 = .ok (.iconst 1, 1) := by decide +kernel
theorem D269_16 : decode (mB 269) 16 = .ok (.invokevirtual 62, 3) := by decide +kernel
theorem D269_19 : decode (mB 269) 19 = .ok (.istore_n 2, 1) := by decide +kernel
theorem D269_20 : decode (mB 269) 20 = .ok (.iload_n 2, 1) := by decide +kernel
theorem D269_21 : decode (mB 269) 21 = .ok (.ifCond .ge 7, 3) := by decide +kernel
theorem D269_24 : decode (mB 269) 24 = .ok (.iconst (-1), 1) := by decide +kernel
theorem D269_25 : decode (mB 269) 25 = .ok (.goto 9, 3) := by decide +kernel
theorem D269_28 : decode (mB 269) 28 = .ok (.bipush 10, 2) := by decide +kernel
theorem D269_30 : decode (mB 269) 30 = .ok (.iload_n 1, 1) := by decide +kernel
theorem D269_31 : decode (mB 269) 31 = .ok (.imul, 1) := by decide +kernel
theorem D269_32 : decode (mB 269) 32 = .ok (.iload_n 2, 1) := by decide +kernel
theorem D269_33 : decode (mB 269) 33 = .ok (.iadd, 1) := by decide +kernel
theorem D269_34 : decode (mB 269) 34 = .ok (.ireturn, 1) := by decide +kernel
theorem D270_0 : decode (mB 270) 0 = .ok (.aload_n 0, 1) := by decide +kernel
theorem D270_1 : decode (mB 270) 1 = .ok (.getfield 158, 3) := by decide +kernel
theorem D270_4 : decode (mB 270) 4 = .ok (.iload_n 1, 1) := by decide +kernel
theorem D270_5 : decode (mB 270) 5 = .ok (.iaload, 1) := by decide +kernel
theorem D270_6 : decode (mB 270) 6 = .ok (.istore_n 2, 1) := by decide +kernel
theorem D270_7 : decode (mB 270) 7 = .ok (.aload_n 0, 1) := by decide +kernel
theorem D270_8 : decode (mB 270) 8 = .ok (.getfield 155, 3) := by decide +kernel
theorem D270_11 : decode (mB 270) 11 = .ok (.iload_n 1, 1) := by decide +kernel
theorem D270_12 : decode (mB 270) 12 = .ok (.iaload, 1) := by decide +kernel
theorem D270_13 : decode (mB 270) 13 = .ok (.tableswitch 92 0 4 #[35, 45, 55, 66, 76], 35) := by decide +kernel
theorem D270_48 : decode (mB 270) 48 = .ok (.aload_n 0, 1) := by decide +kernel
theorem D270_49 : decode (mB 270) 49 = .ok (.aload_n 0, 1) := by decide +kernel
theorem D270_50 : decode (mB 270) 50 = .ok (.getfield 146, 3) := by decide +kernel
theorem D270_53 : decode (mB 270) 53 = .ok (.iconst 0, 1) := by decide +kernel
theorem D270_54 : decode (mB 270) 54 = .ok (.invokevirtual 379, 3) := by decide +kernel
theorem D270_57 : decode (mB 270) 57 = .ok (.ireturn, 1) := by decide +kernel
theorem D270_58 : decode (mB 270) 58 = .ok (.aload_n 0, 1) := by decide +kernel
theorem D270_59 : decode (mB 270) 59 = .ok (.aload_n 0, 1) := by decide +kernel
theorem D270_60 : decode (mB 270) 60 = .ok (.getfield 146, 3) := by decide +kernel
theorem D270_63 : decode (mB 270) 63 = .ok (.iload_n 2, 1) := by decide +kernel
theorem D270_64 : decode (mB 270) 64 = .ok (.invokevirtual 365, 3) := by decide +kernel
theorem D270_67 : decode (mB 270) 67 = .ok (.ireturn, 1) := by decide +kernel
theorem D270_68 : decode (mB 270) 68 = .ok (.aload_n 0, 1) := by decide +kernel
theorem D270_69 : decode (mB 270) 69 = .ok (.aload_n 0, 1) := by decide +kernel
theorem D270_70 : decode (mB 270) 70 = .ok (.getfield 146, 3) := by decide +kernel
theorem D270_73 : decode (mB 270) 73 = .ok (.iload_n 2, 1) := by decide +kernel
theorem D270_74 : decode (mB 270) 74 = .ok (.invokevirtual 370, 3) := by decide +kernel
theorem D270_77 : decode (mB 270) 77 = .ok (.iconst 0, 1) := by decide +kernel
theorem D270_78 : decode (mB 270) 78 = .ok (.ireturn, 1) := by decide +kernel
theorem D270_79 : decode (mB 270) 79 = .ok (.aload_n 0, 1) := by decide +kernel
theorem D270_80 : decode (mB 270) 80 = .ok (.aload_n 0, 1) := by decide +kernel
theorem D270_81 : decode (mB 270) 81 = .ok (.getfield 146, 3) := by decide +kernel
theorem D270_84 : decode (mB 270) 84 = .ok (.iload_n 2, 1) := by decide +kernel
theorem D270_85 : decode (mB 270) 85 = .ok (.invokevirtual 373, 3) := by decide +kernel
theorem D270_88 : decode (mB 270) 88 = .ok (.ireturn, 1) := by decide +kernel
theorem D270_89 : decode (mB 270) 89 = .ok (.aload_n 0, 1) := by decide +kernel
theorem D270_90 : decode (mB 270) 90 = .ok (.aload_n 0, 1) := by decide +kernel
theorem D270_91 : decode (mB 270) 91 = .ok (.getfield 146, 3) := by decide +kernel
theorem D270_94 : decode (mB 270) 94 = .ok (.iload_n 2, 1) := by decide +kernel
theorem D270_95 : decode (mB 270) 95 = .ok (.aload_n 0, 1) := by decide +kernel
theorem D270_96 : decode (mB 270) 96 = .ok (.getfield 161, 3) := by decide +kernel
theorem D270_99 : decode (mB 270) 99 = .ok (.iload_n 1, 1) := by decide +kernel
theorem D270_100 : decode (mB 270) 100 = .ok (.iaload, 1) := by decide +kernel
theorem D270_101 : decode (mB 270) 101 = .ok (.invokevirtual 376, 3) := by decide +kernel
theorem D270_104 : decode (mB 270) 104 = .ok (.ireturn, 1) := by decide +kernel
theorem D270_105 : decode (mB 270) 105 = .ok (.aload_n 0, 1) := by decide +kernel
theorem D270_106 : decode (mB 270) 106 = .ok (.aload_n 0, 1) := by decide +kernel
theorem D270_107 : decode (mB 270) 107 = .ok (.getfield 146, 3) := by decide +kernel
theorem D270_110 : decode (mB 270) 110 = .ok (.iload_n 2, 1) := by decide +kernel
theorem D270_111 : decode (mB 270) 111 = .ok (.aload_n 0, 1) := by decide +kernel
theorem D270_112 : decode (mB 270) 112 = .ok (.getfield 161, 3) := by decide +kernel
theorem D270_115 : decode (mB 270) 115 = .ok (.iload_n 1, 1) := by decide +kernel
theorem D270_116 : decode (mB 270) 116 = .ok (.iaload, 1) := by decide +kernel
theorem D270_117 : decode (mB 270) 117 = .ok (.aload_n 0, 1) := by decide +kernel
theorem D270_118 : decode (mB 270) 118 = .ok (.getfield 164, 3) := by decide +kernel
theorem D270_121 : decode (mB 270) 121 = .ok (.iload_n 1, 1) := by decide +kernel
theorem D270_122 : decode (mB 270) 122 = .ok (.iaload, 1) := by decide +kernel
theorem D270_123 : decode (mB 270) 123 = .ok (.aload_n 0, 1) := by decide +kernel
theorem D270_124 : decode (mB 270) 124 = .ok (.getfield 167, 3) := by decide +kernel
theorem D270_127 : decode (mB 270) 127 = .ok (.iload_n 1, 1) := by decide +kernel
theorem D270_128 : decode (mB 270) 128 = .ok (.iaload, 1) := by decide +kernel
theorem D270_129 : decode (mB 270) 129 = .ok (.invokevirtual 358, 3) := by decide +kernel
theorem D270_132 : decode (mB 270) 132 = .ok (.ireturn, 1) := by decide +kernel
theorem D271_0 : decode (mB 271) 0 = .ok (.aload_n 0, 1) := by decide +kernel
theorem D271_1 : decode (mB 271) 1 = .ok (.iconst 0, 1) := by decide +kernel
theorem D271_2 : decode (mB 271) 2 = .ok (.putfield 3, 3) := by decide +kernel
theorem D271_5 : decode (mB 271) 5 = .ok (.aload_n 0, 1) := by decide +kernel
theorem D271_6 : decode (mB 271) 6 = .ok (.iload_n 1, 1) := by decide +kernel
theorem D271_7 : decode (mB 271) 7 = .ok (.invokevirtual 212, 3) := by decide +kernel
theorem D271_10 : decode (mB 271) 10 = .ok (.ifCond .ne 5, 3) := by decide +kernel
theorem D271_13 : decode (mB 271) 13 = .ok (.iconst (-1), 1) := by decide +kernel
theorem D271_14 : decode (mB 271) 14 = .ok (.ireturn, 1) := by decide +kernel
theorem D271_15 : decode (mB 271) 15 = .ok (.aload_n 0, 1) := by decide +kernel
theorem D271_16 : decode (mB 271) 16 = .ok (.iconst 0, 1) := by decide +kernel
theorem D271_17 : decode (mB 271) 17 = .ok (.putfield 11, 3) := by decide +kernel
theorem D271_20 : decode (mB 271) 20 = .ok (.aload_n 0, 1) := by decide +kernel
theorem D271_21 : decode (mB 271) 21 = .ok (.getfield 146, 3) := by decide +kernel
theorem D271_24 : decode (mB 271) 24 = .ok (.iload_n 1, 1) := by decide +kernel
theorem D271_25 : decode (mB 271) 25 = .ok (.iconst 3, 1) := by decide +kernel
theorem D271_26 : decode (mB 271) 26 = .ok (.invokestatic 220, 3) := by decide +kernel
theorem D271_29 : decode (mB 271) 29 = .ok (.istore_n 2, 1) := by decide +kernel
theorem D271_30 : decode (mB 271) 30 = .ok (.iload_n 2, 1) := by decide +kernel
theorem D271_31 : decode (mB 271) 31 = .ok (.aload_n 0, 1) := by decide +kernel
theorem D271_32 : decode (mB 271) 32 = .ok (.getfield 146, 3) := by decide +kernel
theorem D271_35 : decode (mB 271) 35 = .ok (.iload_n 1, 1) := by decide +kernel
theorem D271_36 : decode (mB 271) 36 = .ok (.iconst 0, 1) := by decide +kernel
theorem D271_37 : decode (mB 271) 37 = .ok (.invokestatic 220, 3) := by decide +kernel
theorem D271_40 : decode (mB 271) 40 = .ok (.if_icmp .ge 42, 3) := by decide +kernel
theorem D271_43 : decode (mB 271) 43 = .ok (.aload_n 0, 1) := by decide +kernel
theorem D271_44 : decode (mB 271) 44 = .ok (.bipush 10, 2) := by decide +kernel
theorem D271_46 : decode (mB 271) 46 = .ok (.aload_n 0, 1) := by decide +kernel
theorem D271_47 : decode (mB 271) 47 = .ok (.getfield 146, 3) := by decide +kernel
theorem D271_50 : decode (mB 271) 50 = .ok (.iload_n 1, 1) := by decide +kernel
theorem D271_51 : decode (mB 271) 51 = .ok (.iload_n 2, 1) := by decide +kernel
theorem D271_52 : decode (mB 271) 52 = .ok (.invokestatic 239, 3) := by decide +kernel
theorem D271_55 : decode (mB 271) 55 = .ok (.iconst 0, 1) := by decide +kernel
theorem D271_56 : decode (mB 271) 56 = .ok (.iadd, 1) := by decide +kernel
theorem D271_57 : decode (mB 271) 57 = .ok (.iaload, 1) := by decide +kernel
theorem D271_58 : decode (mB 271) 58 = .ok (.imul, 1) := by decide +kernel
theorem D271_59 : decode (mB 271) 59 = .ok (.aload_n 0, 1) := by decide +kernel
theorem D271_60 : decode (mB 271) 60 = .ok (.getfield 146, 3) := by decide +kernel
theorem D271_63 : decode (mB 271) 63 = .ok (.iload_n 1, 1) := by decide +kernel
theorem D271_64 : decode (mB 271) 64 = .ok (.iload_n 2, 1) := by decide +kernel
theorem D271_65 : decode (mB 271) 65 = .ok (.invokestatic 239, 3) := by decide +kernel
theorem D271_68 : decode (mB 271) 68 = .ok (.iconst 1, 1) := by decide +kernel
theorem D271_69 : decode (mB 271) 69 = .ok (.iadd, 1) := by decide +kernel
theorem D271_70 : decode (mB 271) 70 = .ok (.iaload, 1) := by decide +kernel
theorem D271_71 : decode (mB 271) 71 = .ok (.iadd, 1) := by decide +kernel
theorem D271_72 : decode (mB 271) 72 = .ok (.i2l, 1) := by decide +kernel
theorem D271_73 : decode (mB 271) 73 = .ok (.invokevirtual 345, 3) := by decide +kernel
theorem D271_76 : decode (mB 271) 76 = .ok (.iinc 2 1, 3) := by decide +kernel
theorem D271_79 : decode (mB 271) 79 = .ok (.goto (-49), 3) := by decide +kernel
theorem D271_82 : decode (mB 271) 82 = .ok (.aload_n 0, 1) := by decide +kernel
theorem D271_83 : decode (mB 271) 83 = .ok (.getfield 11, 3) := by decide +kernel
theorem D271_86 : decode (mB 271) 86 = .ok (.ireturn, 1) := by decide +kernel
theorem D272_0 : decode (mB 272) 0 = .ok (.aload_n 0, 1) := by decide +kernel
theorem D272_1 : decode (mB 272) 1 = .ok (.iconst 0, 1) := by decide +kernel
theorem D272_2 : decode (mB 272) 2 = .ok (.putfield 3, 3) := by decide +kernel
theorem D272_5 : decode (mB 272) 5 = .ok (.aload_n 0, 1) := by decide +kernel
theorem D272_6 : decode (mB 272) 6 = .ok (.iconst 0, 1) := by decide +kernel
theorem D272_7 : decode (mB 272) 7 = .ok (.putfield 11, 3) := by decide +kernel
theorem D272_10 : decode (mB 272) 10 = .ok (.iconst 0, 1) := by decide +kernel
theorem D272_11 : decode (mB 272) 11 = .ok (.istore_n 1, 1) := by decide +kernel
theorem D272_12 : decode (mB 272) 12 = .ok (.iload_n 1, 1) := by decide +kernel
theorem D272_13 : decode (mB 272) 13 = .ok (.aload_n 0, 1) := by decide +kernel
theorem D272_14 : decode (mB 272) 14 = .ok (.getfield 146, 3) := by decide +kernel
theorem D272_17 : decode (mB 272) 17 = .ok (.sipush 493, 3) := by decide +kernel
theorem D272_20 : decode (mB 272) 20 = .ok (.iaload, 1) := by decide +kernel
theorem D272_21 : decode (mB 272) 21 = .ok (.if_icmp .ge 55, 3) := by decide +kernel
theorem D272_24 : decode (mB 272) 24 = .ok (.iload_n 1, 1) := by decide +kernel
theorem D272_25 : decode (mB 272) 25 = .ok (.invokestatic 236, 3) := by decide +kernel
theorem D272_28 : decode (mB 272) 28 = .ok (.istore_n 2, 1) := by decide +kernel
theorem D272_29 : decode (mB 272) 29 = .ok (.aload_n 0, 1) := by decide +kernel
theorem D272_30 : decode (mB 272) 30 = .ok (.sipush 1000, 3) := by decide +kernel
theorem D272_33 : decode (mB 272) 33 = .ok (.aload_n 0, 1) := by decide +kernel
theorem D272_34 : decode (mB 272) 34 = .ok (.getfield 146, 3) := by decide +kernel
theorem D272_37 : decode (mB 272) 37 = .ok (.iload_n 2, 1) := by decide +kernel
theorem D272_38 : decode (mB 272) 38 = .ok (.iconst 0, 1) := by decide +kernel
theorem D272_39 : decode (mB 272) 39 = .ok (.iadd, 1) := by decide +kernel
theorem D272_40 : decode (mB 272) 40 = .ok (.iaload, 1) := by decide +kernel
theorem D272_41 : decode (mB 272) 41 = .ok (.imul, 1) := by decide +kernel
theorem D272_42 : decode (mB 272) 42 = .ok (.bipush 10, 2) := by decide +kernel
theorem D272_44 : decode (mB 272) 44 = .ok (.aload_n 0, 1) := by decide +kernel
theorem D272_45 : decode (mB 272) 45 = .ok (.getfield 146, 3) := by decide +kernel
theorem D272_48 : decode (mB 272) 48 = .ok (.iload_n 2, 1) := by decide +kernel
theorem D272_49 : decode (mB 272) 49 = .ok (.iconst 1, 1) := by decide +kernel
theorem D272_50 : decode (mB 272) 50 = .ok (.iadd, 1) := by decide +kernel
theorem D272_51 : decode (mB 272) 51 = .ok (.iconst 0, 1) := by decide +kernel
theorem D272_52 : decode (mB 272) 52 = .ok (.iadd, 1) := by decide +kernel
theorem D272_53 : decode (mB 272) 53 = .ok (.iaload, 1) := by decide +kernel
theorem D272_54 : decode (mB 272) 54 = .ok (.imul, 1) := by decide +kernel
theorem D272_55 : decode (mB 272) 55 = .ok (.iadd, 1) := by decide +kernel
theorem D272_56 : decode (mB 272) 56 = .ok (.aload_n 0, 1) := by decide +kernel
theorem D272_57 : decode (mB 272) 57 = .ok (.getfield 146, 3) := by decide +kernel
theorem D272_60 : decode (mB 272) 60 = .ok (.iload_n 2, 1) := by decide +kernel
theorem D272_61 : decode (mB 272) 61 = .ok (.bipush 11, 2) := by decide +kernel
theorem D272_63 : decode (mB 272) 63 = .ok (.iadd, 1) := by decide +kernel
theorem D272_64 : decode (mB 272) 64 = .ok (.iaload, 1) := by decide +kernel
theorem D272_65 : decode (mB 272) 65 = .ok (.iadd, 1) := by decide +kernel
theorem D272_66 : decode (mB 272) 66 = .ok (.i2l, 1) := by decide +kernel
theorem D272_67 : decode (mB 272) 67 = .ok (.invokevirtual 345, 3) := by decide +kernel
theorem D272_70 : decode (mB 272) 70 = .ok (.iinc 1 1, 3) := by decide +kernel
theorem D272_73 : decode (mB 272) 73 = .ok (.goto (-61), 3) := by decide +kernel
theorem D272_76 : decode (mB 272) 76 = .ok (.aload_n 0, 1) := by decide +kernel
theorem D272_77 : decode (mB 272) 77 = .ok (.getfield 11, 3) := by decide +kernel
theorem D272_80 : decode (mB 272) 80 = .ok (.ireturn, 1) := by decide +kernel
theorem D273_0 : decode (mB 273) 0 = .ok (.aload_n 0, 1) := by decide +kernel
theorem D273_1 : decode (mB 273) 1 = .ok (.iconst 0, 1) := by decide +kernel
theorem D273_2 : decode (mB 273) 2 = .ok (.putfield 3, 3) := by decide +kernel
theorem D273_5 : decode (mB 273) 5 = .ok (.aload_n 0, 1) := by decide +kernel
theorem D273_6 : decode (mB 273) 6 = .ok (.iconst 0, 1) := by decide +kernel
theorem D273_7 : decode (mB 273) 7 = .ok (.putfield 11, 3) := by decide +kernel
theorem D273_10 : decode (mB 273) 10 = .ok (.iconst 0, 1) := by decide +kernel
theorem D273_11 : decode (mB 273) 11 = .ok (.istore_n 1, 1) := by decide +kernel
theorem D273_12 : decode (mB 273) 12 = .ok (.iload_n 1, 1) := by decide +kernel
theorem D273_13 : decode (mB 273) 13 = .ok (.aload_n 0, 1) := by decide +kernel
theorem D273_14 : decode (mB 273) 14 = .ok (.getfield 146, 3) := by decide +kernel
theorem D273_17 : decode (mB 273) 17 = .ok (.sipush 814, 3) := by decide +kernel
theorem D273_20 : decode (mB 273) 20 = .ok (.iaload, 1) := by decide +kernel
theorem D273_21 : decode (mB 273) 21 = .ok (.if_icmp .ge 58, 3) := by decide +kernel
theorem D273_24 : decode (mB 273) 24 = .ok (.iload_n 1, 1) := by decide +kernel
theorem D273_25 : decode (mB 273) 25 = .ok (.bipush 12, 2) := by decide +kernel
theorem D273_27 : decode (mB 273) 27 = .ok (.if_icmp .ge 52, 3) := by decide +kernel
theorem D273_30 : decode (mB 273) 30 = .ok (.iload_n 1, 1) := by decide +kernel
theorem D273_31 : decode (mB 273) 31 = .ok (.invokestatic 246, 3) := by decide +kernel
theorem D273_34 : decode (mB 273) 34 = .ok (.istore_n 2, 1) := by decide +kernel
theorem D273_35 : decode (mB 273) 35 = .ok (.aload_n 0, 1) := by decide +kernel
theorem D273_36 : decode (mB 273) 36 = .ok (.sipush 1000, 3) := by decide +kernel
theorem D273_39 : decode (mB 273) 39 = .ok (.aload_n 0, 1) := by decide +kernel
theorem D273_40 : decode (mB 273) 40 = .ok (.getfield 146, 3) := by decide +kernel
theorem D273_43 : decode (mB 273) 43 = .ok (.iload_n 2, 1) := by decide +kernel
theorem D273_44 : decode (mB 273) 44 = .ok (.iconst 0, 1) := by decide +kernel
theorem D273_45 : decode (mB 273) 45 = .ok (.iadd, 1) := by decide +kernel
theorem D273_46 : decode (mB 273) 46 = .ok (.iaload, 1) := by decide +kernel
theorem D273_47 : decode (mB 273) 47 = .ok (.imul, 1) := by decide +kernel
theorem D273_48 : decode (mB 273) 48 = .ok (.bipush 10, 2) := by decide +kernel
theorem D273_50 : decode (mB 273) 50 = .ok (.aload_n 0, 1) := by decide +kernel
theorem D273_51 : decode (mB 273) 51 = .ok (.getfield 146, 3) := by decide +kernel
theorem D273_54 : decode (mB 273) 54 = .ok (.iload_n 2, 1) := by decide +kernel
theorem D273_55 : decode (mB 273) 55 = .ok (.iconst 1, 1) := by decide +kernel
theorem D273_56 : decode (mB 273) 56 = .ok (.iadd, 1) := by decide +kernel
theorem D273_57 : decode (mB 273) 57 = .ok (.iaload, 1) := by decide +kernel
theorem D273_58 : decode (mB 273) 58 = .ok (.imul, 1) := by decide +kernel
theorem D273_59 : decode (mB 273) 59 = .ok (.iadd, 1) := by decide +kernel
theorem D273_60 : decode (mB 273) 60 = .ok (.aload_n 0, 1) := by decide +kernel
theorem D273_61 : decode (mB 273) 61 = .ok (.getfield 146, 3) := by decide +kernel
theorem D273_64 : decode (mB 273) 64 = .ok (.iload_n 2, 1) := by decide +kernel
theorem D273_65 : decode (mB 273) 65 = .ok (.iconst 2, 1) := by decide +kernel
theorem D273_66 : decode (mB 273) 66 = .ok (.iadd, 1) := by decide +kernel
theorem D273_67 : decode (mB 273) 67 = .ok (.iaload, 1) := by decide +kernel
theorem D273_68 : decode (mB 273) 68 = .ok (.iadd, 1) := by decide +kernel
theorem D273_69 : decode (mB 273) 69 = .ok (.i2l, 1) := by decide +kernel
theorem D273_70 : decode (mB 273) 70 = .ok (.invokevirtual 345, 3) := by decide +kernel
theorem D273_73 : decode (mB 273) 73 = .ok (.iinc 1 1, 3) := by decide +kernel
theorem D273_76 : decode (mB 273) 76 = .ok (.goto (-64), 3) := by decide +kernel
theorem D273_79 : decode (mB 273) 79 = .ok (.aload_n 0, 1) := by decide +kernel
theorem D273_80 : decode (mB 273) 80 = .ok (.getfield 146, 3) := by decide +kernel
theorem D273_83 : decode (mB 273) 83 = .ok (.sipush 814, 3) := by decide +kernel
theorem D273_86 : decode (mB 273) 86 = .ok (.iaload, 1) := by decide +kernel
theorem D273_87 : decode (mB 273) 87 = .ok (.ireturn, 1) := by decide +kernel
theorem D274_0 : decode (mB 274) 0 = .ok (.aload_n 0, 1) := by decide +kernel
theorem D274_1 : decode (mB 274) 1 = .ok (.iconst 0, 1) := by decide +kernel
theorem D274_2 : decode (mB 274) 2 = .ok (.putfield 3, 3) := by decide +kernel
theorem D274_5 : decode (mB 274) 5 = .ok (.aload_n 0, 1) := by decide +kernel
theorem D274_6 : decode (mB 274) 6 = .ok (.iload_n 1, 1) := by decide +kernel
theorem D274_7 : decode (mB 274) 7 = .ok (.invokevirtual 212, 3) := by decide +kernel
theorem D274_10 : decode (mB 274) 10 = .ok (.ifCond .ne 5, 3) := by decide +kernel
theorem D274_13 : decode (mB 274) 13 = .ok (.iconst (-1), 1) := by decide +kernel
theorem D274_14 : decode (mB 274) 14 = .ok (.ireturn, 1) := by decide +kernel
theorem D274_15 : decode (mB 274) 15 = .ok (.iconst 0, 1) := by decide +kernel
theorem D274_16 : decode (mB 274) 16 = .ok (.istore_n 2, 1) := by decide +kernel
theorem D274_17 : decode (mB 274) 17 = .ok (.iconst 0, 1) := by decide +kernel
theorem D274_18 : decode (mB 274) 18 = .ok (.istore_n 3, 1) := by decide +kernel
theorem D274_19 : decode (mB 274) 19 = .ok (.iload_n 3, 1) := by decide +kernel
theorem D274_20 : decode (mB 274) 20 = .ok (.aload_n 0, 1) := by decide +kernel
theorem D274_21 : decode (mB 274) 21 = .ok (.getfield 137, 3) := by decide +kernel
theorem D274_24 : decode (mB 274) 24 = .ok (.iload_n 1, 1) := by decide +kernel
theorem D274_25 : decode (mB 274) 25 = .ok (.iaload, 1) := by decide +kernel
theorem D274_26 : decode (mB 274) 26 = .ok (.if_icmp .ge 72, 3) := by decide +kernel
theorem D274_29 : decode (mB 274) 29 = .ok (.aload_n 0, 1) := by decide +kernel
theorem D274_30 : decode (mB 274) 30 = .ok (.getfield 146, 3) := by decide +kernel
theorem D274_33 : decode (mB 274) 33 = .ok (.iload_n 1, 1) := by decide +kernel
theorem D274_34 : decode (mB 274) 34 = .ok (.iconst 5, 1) := by decide +kernel
theorem D274_35 : decode (mB 274) 35 = .ok (.invokestatic 220, 3) := by decide +kernel
theorem D274_38 : decode (mB 274) 38 = .ok (.iconst 1, 1) := by decide +kernel
theorem D274_39 : decode (mB 274) 39 = .ok (.isub, 1) := by decide +kernel
theorem D274_40 : decode (mB 274) 40 = .ok (.istore 4, 2) := by decide +kernel
theorem D274_42 : decode (mB 274) 42 = .ok (.iload 4, 2) := by decide +kernel
theorem D274_44 : decode (mB 274) 44 = .ok (.ifCond .lt 22, 3) := by decide +kernel
theorem D274_47 : decode (mB 274) 47 = .ok (.iload 4, 2) := by decide +kernel
theorem D274_49 : decode (mB 274) 49 = .ok (.aload_n 0, 1) := by decide +kernel
theorem D274_50 : decode (mB 274) 50 = .ok (.getfield 137, 3) := by decide +kernel
theorem D274_53 : decode (mB 274) 53 = .ok (.iload_n 1, 1) := by decide +kernel
theorem D274_54 : decode (mB 274) 54 = .ok (.iaload, 1) := by decide +kernel
theorem D274_55 : decode (mB 274) 55 = .ok (.irem, 1) := by decide +kernel
theorem D274_56 : decode (mB 274) 56 = .ok (.iload_n 3, 1) := by decide +kernel
theorem D274_57 : decode (mB 274) 57 = .ok (.if_icmp .eq 9, 3) := by decide +kernel
theorem D274_60 : decode (mB 274) 60 = .ok (.iinc 4 (-1), 3) := by decide +kernel
theorem D274_63 : decode (mB 274) 63 = .ok (.goto (-21), 3) := by decide +kernel
theorem D274_66 : decode (mB 274) 66 = .ok (.iload_n 2, 1) := by decide +kernel
theorem D274_67 : decode (mB 274) 67 = .ok (.iload 4, 2) := by decide +kernel
theorem D274_69 : decode (mB 274) 69 = .ok (.ifCond .lt 20, 3) := by decide +kernel
theorem D274_72 : decode (mB 274) 72 = .ok (.aload_n 0, 1) := by decide +kernel
theorem D274_73 : decode (mB 274) 73 = .ok (.iload_n 1, 1) := by decide +kernel
theorem D274_74 : decode (mB 274) 74 = .ok (.iload 4, 2) := by decide +kernel
theorem D274_76 : decode (mB 274) 76 = .ok (.invokevirtual 403, 3) := by decide +kernel
theorem D274_79 : decode (mB 274) 79 = .ok (.iconst 1, 1) := by decide +kernel
theorem D274_80 : decode (mB 274) 80 = .ok (.if_icmp .ne 9, 3) := by decide +kernel
theorem D274_83 : decode (mB 274) 83 = .ok (.iconst 1, 1) := by decide +kernel
theorem D274_84 : decode (mB 274) 84 = .ok (.iload_n 3, 1) := by decide +kernel
theorem D274_85 : decode (mB 274) 85 = .ok (.ishl, 1) := by decide +kernel
theorem D274_86 : decode (mB 274) 86 = .ok (.goto 4, 3) := by decide +kernel
theorem D274_89 : decode (mB 274) 89 = .ok (.iconst 0, 1) := by decide +kernel
theorem D274_90 : decode (mB 274) 90 = .ok (.ior, 1) := by decide +kernel
theorem D274_91 : decode (mB 274) 91 = .ok (.istore_n 2, 1) := by decide +kernel
theorem D274_92 : decode (mB 274) 92 = .ok (.iinc 3 1, 3) := by decide +kernel
theorem D274_95 : decode (mB 274) 95 = .ok (.goto (-76), 3) := by decide +kernel
theorem D274_98 : decode (mB 274) 98 = .ok (.aload_n 0, 1) := by decide +kernel
theorem D274_99 : decode (mB 274) 99 = .ok (.iconst 0, 1) := by decide +kernel
theorem D274_100 : decode (mB 274) 100 = .ok (.putfield 11, 3) := by decide +kernel
theorem D274_103 : decode (mB 274) 103 = .ok (.aload_n 0, 1) := by decide +kernel
theorem D274_104 : decode (mB 274) 104 = .ok (.aload_n 0, 1) := by decide +kernel
theorem D274_105 : decode (mB 274) 105 = .ok (.getfield 146, 3) := by decide +kernel
theorem D274_108 : decode (mB 274) 108 = .ok (.iload_n 1, 1) := by decide +kernel
theorem D274_109 : decode (mB 274) 109 = .ok (.bipush 6, 2) := by decide +kernel
theorem D274_111 : decode (mB 274) 111 = .ok (.invokestatic 220, 3) := by decide +kernel
theorem D274_114 : decode (mB 274) 114 = .ok (.aload_n 0, 1) := by decide +kernel
theorem D274_115 : decode (mB 274) 115 = .ok (.getfield 137, 3) := by decide +kernel
theorem D274_118 : decode (mB 274) 118 = .ok (.iload_n 1, 1) := by decide +kernel
theorem D274_119 : decode (mB 274) 119 = .ok (.iaload, 1) := by decide +kernel
theorem D274_120 : decode (mB 274) 120 = .ok (.irem, 1) := by decide +kernel
theorem D274_121 : decode (mB 274) 121 = .ok (.i2l, 1) := by decide +kernel
theorem D274_122 : decode (mB 274) 122 = .ok (.invokevirtual 345, 3) := by decide +kernel
theorem D274_125 : decode (mB 274) 125 = .ok (.aload_n 0, 1) := by decide +kernel
theorem D274_126 : decode (mB 274) 126 = .ok (.aload_n 0, 1) := by decide +kernel
theorem D274_127 : decode (mB 274) 127 = .ok (.iload_n 1, 1) := by decide +kernel
theorem D274_128 : decode (mB 274) 128 = .ok (.aload_n 0, 1) := by decide +kernel
theorem D274_129 : decode (mB 274) 129 = .ok (.getfield 146, 3) := by decide +kernel
theorem D274_132 : decode (mB 274) 132 = .ok (.iload_n 1, 1) := by decide +kernel
theorem D274_133 : decode (mB 274) 133 = .ok (.bipush 6, 2) := by decide +kernel
theorem D274_135 : decode (mB 274) 135 = .ok (.invokestatic 220, 3) := by decide +kernel
theorem D274_138 : decode (mB 274) 138 = .ok (.invokevirtual 403, 3) := by decide +kernel
theorem D274_141 : decode (mB 274) 141 = .ok (.i2l, 1) := by decide +kernel
theorem D274_142 : decode (mB 274) 142 = .ok (.invokevirtual 345, 3) := by decide +kernel
theorem D274_145 : decode (mB 274) 145 = .ok (.iload_n 2, 1) := by decide +kernel
theorem D274_146 : decode (mB 274) 146 = .ok (.ireturn, 1) := by decide +kernel
theorem D275_0 : decode (mB 275) 0 = .ok (.iload_n 2, 1) := by decide +kernel
theorem D275_1 : decode (mB 275) 1 = .ok (.aload_n 0, 1) := by decide +kernel
theorem D275_2 : decode (mB 275) 2 = .ok (.getfield 137, 3) := by decide +kernel
theorem D275_5 : decode (mB 275) 5 = .ok (.iload_n 1, 1) := by decide +kernel
theorem D275_6 : decode (mB 275) 6 = .ok (.iaload, 1) := by decide +kernel
theorem D275_7 : decode (mB 275) 7 = .ok (.idiv, 1) := by decide +kernel
theorem D275_8 : decode (mB 275) 8 = .ok (.iconst 2, 1) := by decide +kernel
theorem D275_9 : decode (mB 275) 9 = .ok (.irem, 1) := by decide +kernel
theorem D275_10 : decode (mB 275) 10 = .ok (.ifCond .ne 7, 3) := by decide +kernel
theorem D275_13 : decode (mB 275) 13 = .ok (.iconst 1, 1) := by decide +kernel
theorem D275_14 : decode (mB 275) 14 = .ok (.goto 4, 3) := by decide +kernel
theorem D275_17 : decode (mB 275) 17 = .ok (.iconst 0, 1) := by decide +kernel
theorem D275_18 : decode (mB 275) 18 = .ok (.invokestatic 40, 3) := by decide +kernel
theorem D275_21 : decode (mB 275) 21 = .ok (.ireturn, 1) := by decide +kernel
theorem D276_0 : decode (mB 276) 0 = .ok (.aload_n 0, 1) := by decide +kernel
theorem D276_1 : decode (mB 276) 1 = .ok (.iconst 0, 1) := by decide +kernel
theorem D276_2 : decode (mB 276) 2 = .ok (.putfield 3, 3) := by decide +kernel
theorem D276_5 : decode (mB 276) 5 = .ok (.aload_n 0, 1) := by decide +kernel
theorem D276_6 : decode (mB 276) 6 = .ok (.iload_n 1, 1) := by decide +kernel
theorem D276_7 : decode (mB 276) 7 = .ok (.invokevirtual 212, 3) := by decide +kernel
theorem D276_10 : decode (mB 276) 10 = .ok (.ifCond .ne 5, 3) := by decide +kernel
theorem D276_13 : decode (mB 276) 13 = .ok (.iconst (-1), 1) := by decide +kernel
theorem D276_14 : decode (mB 276) 14 = .ok (.ireturn, 1) := by decide +kernel
theorem D276_15 : decode (mB 276) 15 = .ok (.aload_n 0, 1) := by decide +kernel
theorem D276_16 : decode (mB 276) 16 = .ok (.getfield 134, 3) := by decide +kernel
theorem D276_19 : decode (mB 276) 19 = .ok (.iload_n 1, 1) := by decide +kernel
theorem D276_20 : decode (mB 276) 20 = .ok (.iaload, 1) := by decide +kernel
theorem D276_21 : decode (mB 276) 21 = .ok (.iconst 1, 1) := by decide +kernel
theorem D276_22 : decode (mB 276) 22 = .ok (.isub, 1) := by decide +kernel
theorem D276_23 : decode (mB 276) 23 = .ok (.aload_n 0, 1) := by decide +kernel
theorem D276_24 : decode (mB 276) 24 = .ok (.getfield 146, 3) := by decide +kernel
theorem D276_27 : decode (mB 276) 27 = .ok (.iload_n 1, 1) := by decide +kernel
theorem D276_28 : decode (mB 276) 28 = .ok (.iconst 0, 1) := by decide +kernel
theorem D276_29 : decode (mB 276) 29 = .ok (.invokestatic 220, 3) := by decide +kernel
theorem D276_32 : decode (mB 276) 32 = .ok (.isub, 1) := by decide +kernel
theorem D276_33 : decode (mB 276) 33 = .ok (.aload_n 0, 1) := by decide +kernel
theorem D276_34 : decode (mB 276) 34 = .ok (.getfield 146, 3) := by decide +kernel
theorem D276_37 : decode (mB 276) 37 = .ok (.iload_n 1, 1) := by decide +kernel
theorem D276_38 : decode (mB 276) 38 = .ok (.iconst 4, 1) := by decide +kernel
theorem D276_39 : decode (mB 276) 39 = .ok (.invokestatic 220, 3) := by decide +kernel
theorem D276_42 : decode (mB 276) 42 = .ok (.iadd, 1) := by decide +kernel
theorem D276_43 : decode (mB 276) 43 = .ok (.istore_n 2, 1) := by decide +kernel
theorem D276_44 : decode (mB 276) 44 = .ok (.iconst 0, 1) := by decide +kernel
theorem D276_45 : decode (mB 276) 45 = .ok (.istore_n 3, 1) := by decide +kernel
theorem D276_46 : decode (mB 276) 46 = .ok (.iconst 0, 1) := by decide +kernel
theorem D276_47 : decode (mB 276) 47 = .ok (.istore 4, 2) := by decide +kernel
theorem D276_49 : decode (mB 276) 49 = .ok (.iload 4, 2) := by decide +kernel
theorem D276_51 : decode (mB 276) 51 = .ok (.bipush 16, 2) := by decide +kernel
theorem D276_53 : decode (mB 276) 53 = .ok (.if_icmp .ge 33, 3) := by decide +kernel
theorem D276_56 : decode (mB 276) 56 = .ok (.iload_n 3, 1) := by decide +kernel
theorem D276_57 : decode (mB 276) 57 = .ok (.aload_n 0, 1) := by decide +kernel
theorem D276_58 : decode (mB 276) 58 = .ok (.getfield 146, 3) := by decide +kernel
theorem D276_61 : decode (mB 276) 61 = .ok (.iload_n 1, 1) := by decide +kernel
theorem D276_62 : decode (mB 276) 62 = .ok (.iload 4, 2) := by decide +kernel
theorem D276_64 : decode (mB 276) 64 = .ok (.invokestatic 265, 3) := by decide +kernel
theorem D276_67 : decode (mB 276) 67 = .ok (.ifCond .ne 7, 3) := by decide +kernel
theorem D276_70 : decode (mB 276) 70 = .ok (.iconst 1, 1) := by decide +kernel
theorem D276_71 : decode (mB 276) 71 = .ok (.goto 4, 3) := by decide +kernel
theorem D276_74 : decode (mB 276) 74 = .ok (.iconst 0, 1) := by decide +kernel
theorem D276_75 : decode (mB 276) 75 = .ok (.invokestatic 40, 3) := by decide +kernel
theorem D276_78 : decode (mB 276) 78 = .ok (.iadd, 1) := by decide +kernel
theorem D276_79 : decode (mB 276) 79 = .ok (.istore_n 3, 1) := by decide +kernel
theorem D276_80 : decode (mB 276) 80 = .ok (.iinc 4 1, 3) := by decide +kernel
theorem D276_83 : decode (mB 276) 83 = .ok (.goto (-34), 3) := by decide +kernel
theorem D276_86 : decode (mB 276) 86 = .ok (.aload_n 0, 1) := by decide +kernel
theorem D276_87 : decode (mB 276) 87 = .ok (.iconst 0, 1) := by decide +kernel
theorem D276_88 : decode (mB 276) 88 = .ok (.putfield 11, 3) := by decide +kernel
theorem D276_91 : decode (mB 276) 91 = .ok (.aload_n 0, 1) := by decide +kernel
theorem D276_92 : decode (mB 276) 92 = .ok (.iload_n 2, 1) := by decide +kernel
theorem D276_93 : decode (mB 276) 93 = .ok (.i2l, 1) := by decide +kernel
theorem D276_94 : decode (mB 276) 94 = .ok (.invokevirtual 345, 3) := by decide +kernel
theorem D276_97 : decode (mB 276) 97 = .ok (.aload_n 0, 1) := by decide +kernel
theorem D276_98 : decode (mB 276) 98 = .ok (.iload_n 3, 1) := by decide +kernel
theorem D276_99 : decode (mB 276) 99 = .ok (.i2l, 1) := by decide +kernel
theorem D276_100 : decode (mB 276) 100 = .ok (.invokevirtual 345, 3) := by decide +kernel
theorem D276_103 : decode (mB 276) 103 = .ok (.iload_n 2, 1) := by decide +kernel
theorem D276_104 : decode (mB 276) 104 = .ok (.iload_n 3, 1) := by decide +kernel
theorem D276_105 : decode (mB 276) 105 = .ok (.invokestatic 31, 3) := by decide +kernel
theorem D276_108 : decode (mB 276) 108 = .ok (.ireturn, 1) := by decide +kernel
theorem D277_0 : decode (mB 277) 0 = .ok (.aload_n 0, 1) := by decide +kernel
theorem D277_1 : decode (mB 277) 1 = .ok (.iconst 0, 1) := by decide +kernel
theorem D277_2 : decode (mB 277) 2 = .ok (.putfield 3, 3) := by decide +kernel
theorem D277_5 : decode (mB 277) 5 = .ok (.iload_n 1, 1) := by decide +kernel
theorem D277_6 : decode (mB 277) 6 = .ok (.i2l, 1) := by decide +kernel
theorem D277_7 : decode (mB 277) 7 = .ok (.lconst 0, 1) := by decide +kernel
theorem D277_8 : decode (mB 277) 8 = .ok (.ldc2_w 270, 3) := by decide +kernel
theorem D277_11 : decode (mB 277) 11 = .ok (.invokestatic 21, 3) := by decide +kernel
theorem D277_14 : decode (mB 277) 14 = .ok (.ifCond .ne 5, 3) := by decide +kernel
theorem D277_17 : decode (mB 277) 17 = .ok (.iconst (-1), 1) := by decide +kernel
theorem D277_18 : decode (mB 277) 18 = .ok (.ireturn, 1) := by decide +kernel
theorem D277_19 : decode (mB 277) 19 = .ok (.iconst 0, 1) := by decide +kernel
theorem D277_20 : decode (mB 277) 20 = .ok (.istore_n 2, 1) := by decide +kernel
theorem D277_21 : decode (mB 277) 21 = .ok (.iconst 0, 1) := by decide +kernel
theorem D277_22 : decode (mB 277) 22 = .ok (.istore_n 3, 1) := by decide +kernel
theorem D277_23 : decode (mB 277) 23 = .ok (.iload_n 3, 1) := by decide +kernel
theorem D277_24 : decode (mB 277) 24 = .ok (.aload_n 0, 1) := by decide +kernel
theorem D277_25 : decode (mB 277) 25 = .ok (.getfield 198, 3) := by decide +kernel
theorem D277_28 : decode (mB 277) 28 = .ok (.if_icmp .ge 60, 3) := by decide +kernel
theorem D277_31 : decode (mB 277) 31 = .ok (.aload_n 0, 1) := by decide +kernel
theorem D277_32 : decode (mB 277) 32 = .ok (.getfield 146, 3) := by decide +kernel
theorem D277_35 : decode (mB 277) 35 = .ok (.iload_n 3, 1) := by decide +kernel
theorem D277_36 : decode (mB 277) 36 = .ok (.iconst 3, 1) := by decide +kernel
theorem D277_37 : decode (mB 277) 37 = .ok (.invokestatic 220, 3) := by decide +kernel
theorem D277_40 : decode (mB 277) 40 = .ok (.istore 4, 2) := by decide +kernel
theorem D277_42 : decode (mB 277) 42 = .ok (.iload 4, 2) := by decide +kernel
theorem D277_44 : decode (mB 277) 44 = .ok (.aload_n 0, 1) := by decide +kernel
theorem D277_45 : decode (mB 277) 45 = .ok (.getfield 146, 3) := by decide +kernel
theorem D277_48 : decode (mB 277) 48 = .ok (.iload_n 3, 1) := by decide +kernel
theorem D277_49 : decode (mB 277) 49 = .ok (.iconst 0, 1) := by decide +kernel
theorem D277_50 : decode (mB 277) 50 = .ok (.invokestatic 220, 3) := by decide +kernel
theorem D277_53 : decode (mB 277) 53 = .ok (.if_icmp .ge 29, 3) := by decide +kernel
theorem D277_56 : decode (mB 277) 56 = .ok (.iload_n 2, 1) := by decide +kernel
theorem D277_57 : decode (mB 277) 57 = .ok (.aload_n 0, 1) := by decide +kernel
theorem D277_58 : decode (mB 277) 58 = .ok (.getfield 146, 3) := by decide +kernel
theorem D277_61 : decode (mB 277) 61 = .ok (.iload_n 3, 1) := by decide +kernel
theorem D277_62 : decode (mB 277) 62 = .ok (.iload 4, 2) := by decide +kernel
theorem D277_64 : decode (mB 277) 64 = .ok (.invokestatic 239, 3) := by decide +kernel
theorem D277_67 : decode (mB 277) 67 = .ok (.iload_n 1, 1) := by decide +kernel
theorem D277_68 : decode (mB 277) 68 = .ok (.invokestatic 406, 3) := by decide +kernel
theorem D277_71 : decode (mB 277) 71 = .ok (.invokestatic 40, 3) := by decide +kernel
theorem D277_74 : decode (mB 277) 74 = .ok (.iadd, 1) := by decide +kernel
theorem D277_75 : decode (mB 277) 75 = .ok (.istore_n 2, 1) := by decide +kernel
theorem D277_76 : decode (mB 277) 76 = .ok (.iinc 4 1, 3) := by decide +kernel
theorem D277_79 : decode (mB 277) 79 = .ok (.goto (-37), 3) := by decide +kernel
theorem D277_82 : decode (mB 277) 82 = .ok (.iinc 3 1, 3) := by decide +kernel
theorem D277_85 : decode (mB 277) 85 = .ok (.goto (-62), 3) := by decide +kernel
theorem D277_88 : decode (mB 277) 88 = .ok (.iconst 0, 1) := by decide +kernel
theorem D277_89 : decode (mB 277) 89 = .ok (.istore_n 3, 1) := by decide +kernel
theorem D277_90 : decode (mB 277) 90 = .ok (.iconst 0, 1) := by decide +kernel
theorem D277_91 : decode (mB 277) 91 = .ok (.istore 4, 2) := by decide +kernel
theorem D277_93 : decode (mB 277) 93 = .ok (.iload 4, 2) := by decide +kernel
theorem D277_95 : decode (mB 277) 95 = .ok (.aload_n 0, 1) := by decide +kernel
theorem D277_96 : decode (mB 277) 96 = .ok (.getfield 146, 3) := by decide +kernel
theorem D277_99 : decode (mB 277) 99 = .ok (.sipush 493, 3) := by decide +kernel
theorem D277_102 : decode (mB 277) 102 = .ok (.iaload, 1) := by decide +kernel
theorem D277_103 : decode (mB 277) 103 = .ok (.if_icmp .ge 70, 3) := by decide +kernel
theorem D277_106 : decode (mB 277) 106 = .ok (.iload_n 3, 1) := by decide +kernel
theorem D277_107 : decode (mB 277) 107 = .ok (.aload_n 0, 1) := by decide +kernel
theorem D277_108 : decode (mB 277) 108 = .ok (.getfield 146, 3) := by decide +kernel
theorem D277_111 : decode (mB 277) 111 = .ok (.iload 4, 2) := by decide +kernel
theorem D277_113 : decode (mB 277) 113 = .ok (.invokestatic 236, 3) := by decide +kernel
theorem D277_116 : decode (mB 277) 116 = .ok (.iconst 1, 1) := by decide +kernel
theorem D277_117 : decode (mB 277) 117 = .ok (.iadd, 1) := by decide +kernel
theorem D277_118 : decode (mB 277) 118 = .ok (.iload_n 1, 1) := by decide +kernel
theorem D277_119 : decode (mB 277) 119 = .ok (.invokestatic 406, 3) := by decide +kernel
theorem D277_122 : decode (mB 277) 122 = .ok (.invokestatic 40, 3) := by decide +kernel
theorem D277_125 : decode (mB 277) 125 = .ok (.aload_n 0, 1) := by decide +kernel
theorem D277_126 : decode (mB 277) 126 = .ok (.getfield 146, 3) := by decide +kernel
theorem D277_129 : decode (mB 277) 129 = .ok (.iload 4, 2) := by decide +kernel
theorem D277_131 : decode (mB 277) 131 = .ok (.invokestatic 242, 3) := by decide +kernel
theorem D277_134 : decode (mB 277) 134 = .ok (.ifCond .eq 26, 3) := by decide +kernel
theorem D277_137 : decode (mB 277) 137 = .ok (.aload_n 0, 1) := by decide +kernel
theorem D277_138 : decode (mB 277) 138 = .ok (.getfield 146, 3) := by decide +kernel
theorem D277_141 : decode (mB 277) 141 = .ok (.iload 4, 2) := by decide +kernel
theorem D277_143 : decode (mB 277) 143 = .ok (.invokestatic 236, 3) := by decide +kernel
theorem D277_146 : decode (mB 277) 146 = .ok (.bipush 6, 2) := by decide +kernel
theorem D277_148 : decode (mB 277) 148 = .ok (.iadd, 1) := by decide +kernel
theorem D277_149 : decode (mB 277) 149 = .ok (.iload_n 1, 1) := by decide +kernel
theorem D277_150 : decode (mB 277) 150 = .ok (.invokestatic 406, 3) := by decide +kernel
theorem D277_153 : decode (mB 277) 153 = .ok (.ifCond .eq 7, 3) := by decide +kernel
theorem D277_156 : decode (mB 277) 156 = .ok (.iconst 1, 1) := by decide +kernel
theorem D277_157 : decode (mB 277) 157 = .ok (.goto 4, 3) := by decide +kernel
theorem D277_160 : decode (mB 277) 160 = .ok (.iconst 0, 1) := by decide +kernel
theorem D277_161 : decode (mB 277) 161 = .ok (.invokestatic 40, 3) := by decide +kernel
theorem D277_164 : decode (mB 277) 164 = .ok (.iadd, 1) := by decide +kernel
theorem D277_165 : decode (mB 277) 165 = .ok (.iadd, 1) := by decide +kernel
theorem D277_166 : decode (mB 277) 166 = .ok (.istore_n 3, 1) := by decide +kernel
theorem D277_167 : decode (mB 277) 167 = .ok (.iinc 4 1, 3) := by decide +kernel
theorem D277_170 : decode (mB 277) 170 = .ok (.goto (-77), 3) := by decide +kernel
theorem D277_173 : decode (mB 277) 173 = .ok (.aload_n 0, 1) := by decide +kernel
theorem D277_174 : decode (mB 277) 174 = .ok (.iconst 0, 1) := by decide +kernel
theorem D277_175 : decode (mB 277) 175 = .ok (.putfield 11, 3) := by decide +kernel
theorem D277_178 : decode (mB 277) 178 = .ok (.aload_n 0, 1) := by decide +kernel
theorem D277_179 : decode (mB 277) 179 = .ok (.iload_n 2, 1) := by decide +kernel
theorem D277_180 : decode (mB 277) 180 = .ok (.i2l, 1) := by decide +kernel
theorem D277_181 : decode (mB 277) 181 = .ok (.invokevirtual 345, 3) := by decide +kernel
theorem D277_184 : decode (mB 277) 184 = .ok (.aload_n 0, 1) := by decide +kernel
theorem D277_185 : decode (mB 277) 185 = .ok (.iload_n 3, 1) := by decide +kernel
theorem D277_186 : decode (mB 277) 186 = .ok (.i2l, 1) := by decide +kernel
theorem D277_187 : decode (mB 277) 187 = .ok (.invokevirtual 345, 3) := by decide +kernel
theorem D277_190 : decode (mB 277) 190 = .ok (.aload_n 0, 1) := by decide +kernel
theorem D277_191 : decode (mB 277) 191 = .ok (.getfield 146, 3) := by decide +kernel
theorem D277_194 : decode (mB 277) 194 = .ok (.sipush 828, 3) := by decide +kernel
theorem D277_197 : decode (mB 277) 197 = .ok (.iload_n 1, 1) := by decide +kernel
theorem D277_198 : decode (mB 277) 198 = .ok (.iadd, 1) := by decide +kernel
theorem D277_199 : decode (mB 277) 199 = .ok (.iaload, 1) := by decide +kernel
theorem D277_200 : decode (mB 277) 200 = .ok (.ireturn, 1) := by decide +kernel
theorem D278_0 : decode (mB 278) 0 = .ok (.aload_n 0, 1) := by decide +kernel
theorem D278_1 : decode (mB 278) 1 = .ok (.iload_n 1, 1) := by decide +kernel
theorem D278_2 : decode (mB 278) 2 = .ok (.iconst 1, 1) := by decide +kernel
theorem D278_3 : decode (mB 278) 3 = .ok (.iadd, 1) := by decide +kernel
theorem D278_4 : decode (mB 278) 4 = .ok (.iaload, 1) := by decide +kernel
theorem D278_5 : decode (mB 278) 5 = .ok (.iconst 1, 1) := by decide +kernel
theorem D278_6 : decode (mB 278) 6 = .ok (.if_icmp .eq 12, 3) := by decide +kernel
theorem D278_9 : decode (mB 278) 9 = .ok (.aload_n 0, 1) := by decide +kernel
theorem D278_10 : decode (mB 278) 10 = .ok (.iload_n 1, 1) := by decide +kernel
theorem D278_11 : decode (mB 278) 11 = .ok (.iconst 1, 1) := by decide +kernel
theorem D278_12 : decode (mB 278) 12 = .ok (.iadd, 1) := by decide +kernel
theorem D278_13 : decode (mB 278) 13 = .ok (.iaload, 1) := by decide +kernel
theorem D278_14 : decode (mB 278) 14 = .ok (.iconst 3, 1) := by decide +kernel
theorem D278_15 : decode (mB 278) 15 = .ok (.if_icmp .ne 24, 3) := by decide +kernel
theorem D278_18 : decode (mB 278) 18 = .ok (.aload_n 0, 1) := by decide +kernel
theorem D278_19 : decode (mB 278) 19 = .ok (.iload_n 1, 1) := by decide +kernel
theorem D278_20 : decode (mB 278) 20 = .ok (.iconst 2, 1) := by decide +kernel
theorem D278_21 : decode (mB 278) 21 = .ok (.iadd, 1) := by decide +kernel
theorem D278_22 : decode (mB 278) 22 = .ok (.iaload, 1) := by decide +kernel
theorem D278_23 : decode (mB 278) 23 = .ok (.iload_n 2, 1) := by decide +kernel
theorem D278_24 : decode (mB 278) 24 = .ok (.if_icmp .ne 15, 3) := by decide +kernel
theorem D278_27 : decode (mB 278) 27 = .ok (.aload_n 0, 1) := by decide +kernel
theorem D278_28 : decode (mB 278) 28 = .ok (.iload_n 1, 1) := by decide +kernel
theorem D278_29 : decode (mB 278) 29 = .ok (.iconst 4, 1) := by decide +kernel
theorem D278_30 : decode (mB 278) 30 = .ok (.iadd, 1) := by decide +kernel
theorem D278_31 : decode (mB 278) 31 = .ok (.iaload, 1) := by decide +kernel
theorem D278_32 : decode (mB 278) 32 = .ok (.ifCond .ne 7, 3) := by decide +kernel
theorem D278_35 : decode (mB 278) 35 = .ok (.iconst 1, 1) := by decide +kernel
theorem D278_36 : decode (mB 278) 36 = .ok (.goto 4, 3) := by decide +kernel
theorem D278_39 : decode (mB 278) 39 = .ok (.iconst 0, 1) := by decide +kernel
theorem D278_40 : decode (mB 278) 40 = .ok (.ireturn, 1) := by decide +kernel
theorem D279_0 : decode (mB 279) 0 = .ok (.aload_n 0, 1) := by decide +kernel
theorem D279_1 : decode (mB 279) 1 = .ok (.iconst 0, 1) := by decide +kernel
theorem D279_2 : decode (mB 279) 2 = .ok (.putfield 3, 3) := by decide +kernel
theorem D279_5 : decode (mB 279) 5 = .ok (.aload_n 0, 1) := by decide +kernel
theorem D279_6 : decode (mB 279) 6 = .ok (.aload_n 0, 1) := by decide +kernel
theorem D279_7 : decode (mB 279) 7 = .ok (.getfield 146, 3) := by decide +kernel
theorem D279_10 : decode (mB 279) 10 = .ok (.invokevirtual 335, 3) := by decide +kernel
theorem D279_13 : decode (mB 279) 13 = .ok (.ifCond .ne 6, 3) := by decide +kernel
theorem D279_16 : decode (mB 279) 16 = .ok (.bipush (-2), 2) := by decide +kernel
theorem D279_18 : decode (mB 279) 18 = .ok (.ireturn, 1) := by decide +kernel
theorem D279_19 : decode (mB 279) 19 = .ok (.aload_n 0, 1) := by decide +kernel
theorem D279_20 : decode (mB 279) 20 = .ok (.invokevirtual 409, 3) := by decide +kernel
theorem D279_23 : decode (mB 279) 23 = .ok (.aload_n 0, 1) := by decide +kernel
theorem D279_24 : decode (mB 279) 24 = .ok (.aload_n 0, 1) := by decide +kernel
theorem D279_25 : decode (mB 279) 25 = .ok (.getfield 149, 3) := by decide +kernel
theorem D279_28 : decode (mB 279) 28 = .ok (.invokevirtual 306, 3) := by decide +kernel
theorem D279_31 : decode (mB 279) 31 = .ok (.istore_n 1, 1) := by decide +kernel
theorem D279_32 : decode (mB 279) 32 = .ok (.aload_n 0, 1) := by decide +kernel
theorem D279_33 : decode (mB 279) 33 = .ok (.iconst 0, 1) := by decide +kernel
theorem D279_34 : decode (mB 279) 34 = .ok (.putfield 11, 3) := by decide +kernel
theorem D279_37 : decode (mB 279) 37 = .ok (.aload_n 0, 1) := by decide +kernel
theorem D279_38 : decode (mB 279) 38 = .ok (.aload_n 0, 1) := by decide +kernel
theorem D279_39 : decode (mB 279) 39 = .ok (.getfield 140, 3) := by decide +kernel
theorem D279_42 : decode (mB 279) 42 = .ok (.iload_n 1, 1) := by decide +kernel
theorem D279_43 : decode (mB 279) 43 = .ok (.iaload, 1) := by decide +kernel
theorem D279_44 : decode (mB 279) 44 = .ok (.i2l, 1) := by decide +kernel
theorem D279_45 : decode (mB 279) 45 = .ok (.invokevirtual 345, 3) := by decide +kernel
theorem D279_48 : decode (mB 279) 48 = .ok (.aload_n 0, 1) := by decide +kernel
theorem D279_49 : decode (mB 279) 49 = .ok (.aload_n 0, 1) := by decide +kernel
theorem D279_50 : decode (mB 279) 50 = .ok (.getfield 140, 3) := by decide +kernel
theorem D279_53 : decode (mB 279) 53 = .ok (.iload_n 1, 1) := by decide +kernel
theorem D279_54 : decode (mB 279) 54 = .ok (.iaload, 1) := by decide +kernel
theorem D279_55 : decode (mB 279) 55 = .ok (.ifCond .ne 7, 3) := by decide +kernel
theorem D279_58 : decode (mB 279) 58 = .ok (.lconst 0, 1) := by decide +kernel
theorem D279_59 : decode (mB 279) 59 = .ok (.goto 19, 3) := by decide +kernel
theorem D279_62 : decode (mB 279) 62 = .ok (.aload_n 0, 1) := by decide +kernel
theorem D279_63 : decode (mB 279) 63 = .ok (.getfield 149, 3) := by decide +kernel
theorem D279_66 : decode (mB 279) 66 = .ok (.sipush 818, 3) := by decide +kernel
theorem D279_69 : decode (mB 279) 69 = .ok (.aload_n 0, 1) := by decide +kernel
theorem D279_70 : decode (mB 279) 70 = .ok (.getfield 140, 3) := by decide +kernel
theorem D279_73 : decode (mB 279) 73 = .ok (.iload_n 1, 1) := by decide +kernel
theorem D279_74 : decode (mB 279) 74 = .ok (.iaload, 1) := by decide +kernel
theorem D279_75 : decode (mB 279) 75 = .ok (.iadd, 1) := by decide +kernel
theorem D279_76 : decode (mB 279) 76 = .ok (.iaload, 1) := by decide +kernel
theorem D279_77 : decode (mB 279) 77 = .ok (.i2l, 1) := by decide +kernel
theorem D279_78 : decode (mB 279) 78 = .ok (.invokevirtual 345, 3) := by decide +kernel
theorem D279_81 : decode (mB 279) 81 = .ok (.iload_n 1, 1) := by decide +kernel
theorem D279_82 : decode (mB 279) 82 = .ok (.ireturn, 1) := by decide +kernel
theorem D280_0 : decode (mB 280) 0 = .ok (.iconst 0, 1) := by decide +kernel
theorem D280_1 : decode (mB 280) 1 = .ok (.istore_n 1, 1) := by decide +kernel
theorem D280_2 : decode (mB 280) 2 = .ok (.iload_n 1, 1) := by decide +kernel
theorem D280_3 : decode (mB 280) 3 = .ok (.sipush 844, 3) := by decide +kernel
theorem D280_6 : decode (mB 280) 6 = .ok (.if_icmp .ge 21, 3) := by decide +kernel
theorem D280_9 : decode (mB 280) 9 = .ok (.aload_n 0, 1) := by decide +kernel
theorem D280_10 : decode (mB 280) 10 = .ok (.getfield 149, 3) := by decide +kernel
theorem D280_13 : decode (mB 280) 13 = .ok (.iload_n 1, 1) := by decide +kernel
theorem D280_14 : decode (mB 280) 14 = .ok (.aload_n 0, 1) := by decide +kernel
theorem D280_15 : decode (mB 280) 15 = .ok (.getfield 146, 3) := by decide +kernel
theorem D280_18 : decode (mB 280) 18 = .ok (.iload_n 1, 1) := by decide +kernel
theorem D280_19 : decode (mB 280) 19 = .ok (.iaload, 1) := by decide +kernel
theorem D280_20 : decode (mB 280) 20 = .ok (.iastore, 1) := by decide +kernel
theorem D280_21 : decode (mB 280) 21 = .ok (.iinc 1 1, 3) := by decide +kernel
theorem D280_24 : decode (mB 280) 24 = .ok (.goto (-22), 3) := by decide +kernel
theorem D280_27 : decode (mB 280) 27 = .ok (.return_, 1) := by decide +kernel
theorem D281_0 : decode (mB 281) 0 = .ok (.aload_n 0, 1) := by decide +kernel
theorem D281_1 : decode (mB 281) 1 = .ok (.iconst 0, 1) := by decide +kernel
theorem D281_2 : decode (mB 281) 2 = .ok (.putfield 3, 3) := by decide +kernel
theorem D281_5 : decode (mB 281) 5 = .ok (.iload_n 1, 1) := by decide +kernel
theorem D281_6 : decode (mB 281) 6 = .ok (.i2l, 1) := by decide +kernel
theorem D281_7 : decode (mB 281) 7 = .ok (.lconst 1, 1) := by decide +kernel
theorem D281_8 : decode (mB 281) 8 = .ok (.ldc2_w 368, 3) := by decide +kernel
theorem D281_11 : decode (mB 281) 11 = .ok (.invokestatic 21, 3) := by decide +kernel
theorem D281_14 : decode (mB 281) 14 = .ok (.ifCond .ne 5, 3) := by decide +kernel
theorem D281_17 : decode (mB 281) 17 = .ok (.iconst (-1), 1) := by decide +kernel
theorem D281_18 : decode (mB 281) 18 = .ok (.ireturn, 1) := by decide +kernel
theorem D281_19 : decode (mB 281) 19 = .ok (.aload_n 0, 1) := by decide +kernel
theorem D281_20 : decode (mB 281) 20 = .ok (.aload_n 0, 1) := by decide +kernel
theorem D281_21 : decode (mB 281) 21 = .ok (.getfield 146, 3) := by decide +kernel
theorem D281_24 : decode (mB 281) 24 = .ok (.invokevirtual 335, 3) := by decide +kernel
theorem D281_27 : decode (mB 281) 27 = .ok (.ifCond .ne 6, 3) := by decide +kernel
theorem D281_30 : decode (mB 281) 30 = .ok (.bipush (-2), 2) := by decide +kernel
theorem D281_32 : decode (mB 281) 32 = .ok (.ireturn, 1) := by decide +kernel
theorem D281_33 : decode (mB 281) 33 = .ok (.aload_n 0, 1) := by decide +kernel
theorem D281_34 : decode (mB 281) 34 = .ok (.invokevirtual 409, 3) := by decide +kernel
theorem D281_37 : decode (mB 281) 37 = .ok (.iconst 0, 1) := by decide +kernel
theorem D281_38 : decode (mB 281) 38 = .ok (.istore_n 2, 1) := by decide +kernel
theorem D281_39 : decode (mB 281) 39 = .ok (.iload_n 2, 1) := by decide +kernel
theorem D281_40 : decode (mB 281) 40 = .ok (.iconst 4, 1) := by decide +kernel
theorem D281_41 : decode (mB 281) 41 = .ok (.if_icmp .ge 16, 3) := by decide +kernel
theorem D281_44 : decode (mB 281) 44 = .ok (.aload_n 0, 1) := by decide +kernel
theorem D281_45 : decode (mB 281) 45 = .ok (.getfield 170, 3) := by decide +kernel
theorem D281_48 : decode (mB 281) 48 = .ok (.iload_n 2, 1) := by decide +kernel
theorem D281_49 : decode (mB 281) 49 = .ok (.iconst 0, 1) := by decide +kernel
theorem D281_50 : decode (mB 281) 50 = .ok (.iastore, 1) := by decide +kernel
theorem D281_51 : decode (mB 281) 51 = .ok (.iinc 2 1, 3) := by decide +kernel
theorem D281_54 : decode (mB 281) 54 = .ok (.goto (-15), 3) := by decide +kernel
theorem D281_57 : decode (mB 281) 57 = .ok (.iconst 0, 1) := by decide +kernel
theorem D281_58 : decode (mB 281) 58 = .ok (.istore_n 2, 1) := by decide +kernel
theorem D281_59 : decode (mB 281) 59 = .ok (.iload_n 2, 1) := by decide +kernel
theorem D281_60 : decode (mB 281) 60 = .ok (.iconst 5, 1) := by decide +kernel
theorem D281_61 : decode (mB 281) 61 = .ok (.if_icmp .ge 16, 3) := by decide +kernel
theorem D281_64 : decode (mB 281) 64 = .ok (.aload_n 0, 1) := by decide +kernel
theorem D281_65 : decode (mB 281) 65 = .ok (.getfield 173, 3) := by decide +kernel
theorem D281_68 : decode (mB 281) 68 = .ok (.iload_n 2, 1) := by decide +kernel
theorem D281_69 : decode (mB 281) 69 = .ok (.iconst 0, 1) := by decide +kernel
theorem D281_70 : decode (mB 281) 70 = .ok (.iastore, 1) := by decide +kernel
theorem D281_71 : decode (mB 281) 71 = .ok (.iinc 2 1, 3) := by decide +kernel
theorem D281_74 : decode (mB 281) 74 = .ok (.goto (-15), 3) := by decide +kernel
theorem D281_77 : decode (mB 281) 77 = .ok (.iconst 0, 1) := by decide +kernel
theorem D281_78 : decode (mB 281) 78 = .ok (.istore_n 2, 1) := by decide +kernel
theorem D281_79 : decode (mB 281) 79 = .ok (.iload_n 2, 1) := by decide +kernel
theorem D281_80 : decode (mB 281) 80 = .ok (.iload_n 1, 1) := by decide +kernel
theorem D281_81 : decode (mB 281) 81 = .ok (.if_icmp .ge 43, 3) := by decide +kernel
theorem D281_84 : decode (mB 281) 84 = .ok (.aload_n 0, 1) := by decide +kernel
theorem D281_85 : decode (mB 281) 85 = .ok (.aload_n 0, 1) := by decide +kernel
theorem D281_86 : decode (mB 281) 86 = .ok (.getfield 149, 3) := by decide +kernel
theorem D281_89 : decode (mB 281) 89 = .ok (.invokevirtual 306, 3) := by decide +kernel
theorem D281_92 : decode (mB 281) 92 = .ok (.istore_n 3, 1) := by decide +kernel
theorem D281_93 : decode (mB 281) 93 = .ok (.aload_n 0, 1) := by decide +kernel
theorem D281_94 : decode (mB 281) 94 = .ok (.getfield 170, 3) := by decide +kernel
theorem D281_97 : decode (mB 281) 97 = .ok (.aload_n 0, 1) := by decide +kernel
theorem D281_98 : decode (mB 281) 98 = .ok (.getfield 140, 3) := by decide +kernel
theorem D281_101 : decode (mB 281) 101 = .ok (.iload_n 3, 1) := by decide +kernel
theorem D281_102 : decode (mB 281) 102 = .ok (.iaload, 1) := by decide +kernel
theorem D281_103 : decode (mB 281) 103 = .ok (.dup2, 1) := by decide +kernel
theorem D281_104 : decode (mB 281) 104 = .ok (.iaload, 1) := by decide +kernel
theorem D281_105 : decode (mB 281) 105 = .ok (.iconst 1, 1) := by decide +kernel
theorem D281_106 : decode (mB 281) 106 = .ok (.iadd, 1) := by decide +kernel
theorem D281_107 : decode (mB 281) 107 = .ok (.iastore, 1) := by decide +kernel
theorem D281_108 : decode (mB 281) 108 = .ok (.aload_n 0, 1) := by decide +kernel
theorem D281_109 : decode (mB 281) 109 = .ok (.getfield 173, 3) := by decide +kernel
theorem D281_112 : decode (mB 281) 112 = .ok (.iload_n 3, 1) := by decide +kernel
theorem D281_113 : decode (mB 281) 113 = .ok (.dup2, 1) := by decide +kernel
theorem D281_114 : decode (mB 281) 114 = .ok (.iaload, 1) := by decide +kernel
theorem D281_115 : decode (mB 281) 115 = .ok (.iconst 1, 1) := by decide +kernel
theorem D281_116 : decode (mB 281) 116 = .ok (.iadd, 1) := by decide +kernel
theorem D281_117 : decode (mB 281) 117 = .ok (.iastore, 1) := by decide +kernel
theorem D281_118 : decode (mB 281) 118 = .ok (.iinc 2 1, 3) := by decide +kernel
theorem D281_121 : decode (mB 281) 121 = .ok (.goto (-42), 3) := by decide +kernel
theorem D281_124 : decode (mB 281) 124 = .ok (.aload_n 0, 1) := by decide +kernel
theorem D281_125 : decode (mB 281) 125 = .ok (.iconst 0, 1) := by decide +kernel
theorem D281_126 : decode (mB 281) 126 = .ok (.putfield 11, 3) := by decide +kernel
theorem D281_129 : decode (mB 281) 129 = .ok (.iconst 1, 1) := by decide +kernel
theorem D281_130 : decode (mB 281) 130 = .ok (.istore_n 2, 1) := by decide +kernel
theorem D281_131 : decode (mB 281) 131 = .ok (.iload_n 2, 1) := by decide +kernel
theorem D281_132 : decode (mB 281) 132 = .ok (.iconst 4, 1) := by decide +kernel
theorem D281_133 : decode (mB 281) 133 = .ok (.if_icmp .ge 20, 3) := by decide +kernel
theorem D281_136 : decode (mB 281) 136 = .ok (.aload_n 0, 1) := by decide +kernel
theorem D281_137 : decode (mB 281) 137 = .ok (.aload_n 0, 1) := by decide +kernel
theorem D281_138 : decode (mB 281) 138 = .ok (.getfield 170, 3) := by decide +kernel
theorem D281_141 : decode (mB 281) 141 = .ok (.iload_n 2, 1) := by decide +kernel
theorem D281_142 : decode (mB 281) 142 = .ok (.iaload, 1) := by decide +kernel
theorem D281_143 : decode (mB 281) 143 = .ok (.i2l, 1) := by decide +kernel
theorem D281_144 : decode (mB 281) 144 = .ok (.invokevirtual 345, 3) := by decide +kernel
theorem D281_147 : decode (mB 281) 147 = .ok (.iinc 2 1, 3) := by decide +kernel
theorem D281_150 : decode (mB 281) 150 = .ok (.goto (-19), 3) := by decide +kernel
theorem D281_153 : decode (mB 281) 153 = .ok (.iconst 0, 1) := by decide +kernel
theorem D281_154 : decode (mB 281) 154 = .ok (.istore_n 2, 1) := by decide +kernel
theorem D281_155 : decode (mB 281) 155 = .ok (.iload_n 2, 1) := by decide +kernel
theorem D281_156 : decode (mB 281) 156 = .ok (.iconst 5, 1) := by decide +kernel
theorem D281_157 : decode (mB 281) 157 = .ok (.if_icmp .ge 20, 3) := by decide +kernel
theorem D281_160 : decode (mB 281) 160 = .ok (.aload_n 0, 1) := by decide +kernel
theorem D281_161 : decode (mB 281) 161 = .ok (.aload_n 0, 1) := by decide +kernel
theorem D281_162 : decode (mB 281) 162 = .ok (.getfield 173, 3) := by decide +kernel
theorem D281_165 : decode (mB 281) 165 = .ok (.iload_n 2, 1) := by decide +kernel
theorem D281_166 : decode (mB 281) 166 = .ok (.iaload, 1) := by decide +kernel
theorem D281_167 : decode (mB 281) 167 = .ok (.i2l, 1) := by decide +kernel
theorem D281_168 : decode (mB 281) 168 = .ok (.invokevirtual 345, 3) := by decide +kernel
theorem D281_171 : decode (mB 281) 171 = .ok (.iinc 2 1, 3) := by decide +kernel
theorem D281_174 : decode (mB 281) 174 = .ok (.goto (-19), 3) := by decide +kernel
theorem D281_177 : decode (mB 281) 177 = .ok (.aload_n 0, 1) := by decide +kernel
theorem D281_178 : decode (mB 281) 178 = .ok (.getfield 170, 3) := by decide +kernel
theorem D281_181 : decode (mB 281) 181 = .ok (.iconst 0, 1) := by decide +kernel
theorem D281_182 : decode (mB 281) 182 = .ok (.iaload, 1) := by decide +kernel
theorem D281_183 : decode (mB 281) 183 = .ok (.ireturn, 1) := by decide +kernel
theorem D282_0 : decode (mB 282) 0 = .ok (.aload_n 0, 1) := by decide +kernel
theorem D282_1 : decode (mB 282) 1 = .ok (.iconst 0, 1) := by decide +kernel
theorem D282_2 : decode (mB 282) 2 = .ok (.putfield 3, 3) := by decide +kernel
theorem D282_5 : decode (mB 282) 5 = .ok (.aload_n 0, 1) := by decide +kernel
theorem D282_6 : decode (mB 282) 6 = .ok (.iload_n 1, 1) := by decide +kernel
theorem D282_7 : decode (mB 282) 7 = .ok (.invokevirtual 212, 3) := by decide +kernel
theorem D282_10 : decode (mB 282) 10 = .ok (.ifCond .eq 15, 3) := by decide +kernel
theorem D282_13 : decode (mB 282) 13 = .ok (.iload_n 2, 1) := by decide +kernel
theorem D282_14 : decode (mB 282) 14 = .ok (.i2l, 1) := by decide +kernel
theorem D282_15 : decode (mB 282) 15 = .ok (.lconst 0, 1) := by decide +kernel
theorem D282_16 : decode (mB 282) 16 = .ok (.ldc2_w 282, 3) := by decide +kernel
theorem D282_19 : decode (mB 282) 19 = .ok (.invokestatic 21, 3) := by decide +kernel
theorem D282_22 : decode (mB 282) 22 = .ok (.ifCond .ne 5, 3) := by decide +kernel
theorem D282_25 : decode (mB 282) 25 = .ok (.iconst (-1), 1) := by decide +kernel
theorem D282_26 : decode (mB 282) 26 = .ok (.ireturn, 1) := by decide +kernel
theorem D282_27 : decode (mB 282) 27 = .ok (.aload_n 0, 1) := by decide +kernel
theorem D282_28 : decode (mB 282) 28 = .ok (.getfield 146, 3) := by decide +kernel
theorem D282_31 : decode (mB 282) 31 = .ok (.iload_n 1, 1) := by decide +kernel
theorem D282_32 : decode (mB 282) 32 = .ok (.iload_n 2, 1) := by decide +kernel
theorem D282_33 : decode (mB 282) 33 = .ok (.invokestatic 252, 3) := by decide +kernel
theorem D282_36 : decode (mB 282) 36 = .ok (.ifCond .ge 30, 3) := by decide +kernel
theorem D282_39 : decode (mB 282) 39 = .ok (.aload_n 0, 1) := by decide +kernel
theorem D282_40 : decode (mB 282) 40 = .ok (.getfield 146, 3) := by decide +kernel
theorem D282_43 : decode (mB 282) 43 = .ok (.iload_n 1, 1) := by decide +kernel
theorem D282_44 : decode (mB 282) 44 = .ok (.iload_n 2, 1) := by decide +kernel
theorem D282_45 : decode (mB 282) 45 = .ok (.invokestatic 255, 3) := by decide +kernel
theorem D282_48 : decode (mB 282) 48 = .ok (.ifCond .ge 18, 3) := by decide +kernel
theorem D282_51 : decode (mB 282) 51 = .ok (.aload_n 0, 1) := by decide +kernel
theorem D282_52 : decode (mB 282) 52 = .ok (.getfield 146, 3) := by decide +kernel
theorem D282_55 : decode (mB 282) 55 = .ok (.iload_n 1, 1) := by decide +kernel
theorem D282_56 : decode (mB 282) 56 = .ok (.iload_n 2, 1) := by decide +kernel
theorem D282_57 : decode (mB 282) 57 = .ok (.invokestatic 258, 3) := by decide +kernel
theorem D282_60 : decode (mB 282) 60 = .ok (.ifCond .ge 6, 3) := by decide +kernel
theorem D282_63 : decode (mB 282) 63 = .ok (.bipush (-3), 2) := by decide +kernel
theorem D282_65 : decode (mB 282) 65 = .ok (.ireturn, 1) := by decide +kernel
theorem D282_66 : decode (mB 282) 66 = .ok (.aload_n 0, 1) := by decide +kernel
theorem D282_67 : decode (mB 282) 67 = .ok (.invokevirtual 409, 3) := by decide +kernel
theorem D282_70 : decode (mB 282) 70 = .ok (.iconst 1, 1) := by decide +kernel
theorem D282_71 : decode (mB 282) 71 = .ok (.istore_n 3, 1) := by decide +kernel
theorem D282_72 : decode (mB 282) 72 = .ok (.iload_n 3, 1) := by decide +kernel
theorem D282_73 : decode (mB 282) 73 = .ok (.bipush 99, 2) := by decide +kernel
theorem D282_75 : decode (mB 282) 75 = .ok (.if_icmp .gt 105, 3) := by decide +kernel
theorem D282_78 : decode (mB 282) 78 = .ok (.aload_n 0, 1) := by decide +kernel
theorem D282_79 : decode (mB 282) 79 = .ok (.aload_n 0, 1) := by decide +kernel
theorem D282_80 : decode (mB 282) 80 = .ok (.getfield 149, 3) := by decide +kernel
theorem D282_83 : decode (mB 282) 83 = .ok (.invokevirtual 352, 3) := by decide +kernel
theorem D282_86 : decode (mB 282) 86 = .ok (.aload_n 0, 1) := by decide +kernel
theorem D282_87 : decode (mB 282) 87 = .ok (.getfield 149, 3) := by decide +kernel
theorem D282_90 : decode (mB 282) 90 = .ok (.iload_n 1, 1) := by decide +kernel
theorem D282_91 : decode (mB 282) 91 = .ok (.bipush 6, 2) := by decide +kernel
theorem D282_93 : decode (mB 282) 93 = .ok (.invokestatic 220, 3) := by decide +kernel
theorem D282_96 : decode (mB 282) 96 = .ok (.istore 4, 2) := by decide +kernel
theorem D282_98 : decode (mB 282) 98 = .ok (.iload 4, 2) := by decide +kernel
theorem D282_100 : decode (mB 282) 100 = .ok (.aload_n 0, 1) := by decide +kernel
theorem D282_101 : decode (mB 282) 101 = .ok (.getfield 149, 3) := by decide +kernel
theorem D282_104 : decode (mB 282) 104 = .ok (.iload_n 1, 1) := by decide +kernel
theorem D282_105 : decode (mB 282) 105 = .ok (.iconst 5, 1) := by decide +kernel
theorem D282_106 : decode (mB 282) 106 = .ok (.invokestatic 220, 3) := by decide +kernel
theorem D282_109 : decode (mB 282) 109 = .ok (.if_icmp .ge 65, 3) := by decide +kernel
theorem D282_112 : decode (mB 282) 112 = .ok (.iload_n 1, 1) := by decide +kernel
theorem D282_113 : decode (mB 282) 113 = .ok (.iload 4, 2) := by decide +kernel
theorem D282_115 : decode (mB 282) 115 = .ok (.invokestatic 249, 3) := by decide +kernel
theorem D282_118 : decode (mB 282) 118 = .ok (.istore 5, 2) := by decide +kernel
theorem D282_120 : decode (mB 282) 120 = .ok (.aload_n 0, 1) := by decide +kernel
theorem D282_121 : decode (mB 282) 121 = .ok (.getfield 149, 3) := by decide +kernel
theorem D282_124 : decode (mB 282) 124 = .ok (.iload 5, 2) := by decide +kernel
theorem D282_126 : decode (mB 282) 126 = .ok (.iconst 0, 1) := by decide +kernel
theorem D282_127 : decode (mB 282) 127 = .ok (.iadd, 1) := by decide +kernel
theorem D282_128 : decode (mB 282) 128 = .ok (.iaload, 1) := by decide +kernel
theorem D282_129 : decode (mB 282) 129 = .ok (.iload_n 2, 1) := by decide +kernel
theorem D282_130 : decode (mB 282) 130 = .ok (.if_icmp .ne 38, 3) := by decide +kernel
theorem D282_133 : decode (mB 282) 133 = .ok (.aload_n 0, 1) := by decide +kernel
theorem D282_134 : decode (mB 282) 134 = .ok (.iconst 0, 1) := by decide +kernel
theorem D282_135 : decode (mB 282) 135 = .ok (.putfield 11, 3) := by decide +kernel
theorem D282_138 : decode (mB 282) 138 = .ok (.aload_n 0, 1) := by decide +kernel
theorem D282_139 : decode (mB 282) 139 = .ok (.aload_n 0, 1) := by decide +kernel
theorem D282_140 : decode (mB 282) 140 = .ok (.getfield 149, 3) := by decide +kernel
theorem D282_143 : decode (mB 282) 143 = .ok (.iload 5, 2) := by decide +kernel
theorem D282_145 : decode (mB 282) 145 = .ok (.iconst 1, 1) := by decide +kernel
theorem D282_146 : decode (mB 282) 146 = .ok (.iadd, 1) := by decide +kernel
theorem D282_147 : decode (mB 282) 147 = .ok (.iaload, 1) := by decide +kernel
theorem D282_148 : decode (mB 282) 148 = .ok (.i2l, 1) := by decide +kernel
theorem D282_149 : decode (mB 282) 149 = .ok (.invokevirtual 345, 3) := by decide +kernel
theorem D282_152 : decode (mB 282) 152 = .ok (.aload_n 0, 1) := by decide +kernel
theorem D282_153 : decode (mB 282) 153 = .ok (.aload_n 0, 1) := by decide +kernel
theorem D282_154 : decode (mB 282) 154 = .ok (.getfield 149, 3) := by decide +kernel
theorem D282_157 : decode (mB 282) 157 = .ok (.iload 5, 2) := by decide +kernel
theorem D282_159 : decode (mB 282) 159 = .ok (.iconst 2, 1) := by decide +kernel
theorem D282_160 : decode (mB 282) 160 = .ok (.iadd, 1) := by decide +kernel
theorem D282_161 : decode (mB 282) 161 = .ok (.iaload, 1) := by decide +kernel
theorem D282_162 : decode (mB 282) 162 = .ok (.i2l, 1) := by decide +kernel
theorem D282_163 : decode (mB 282) 163 = .ok (.invokevirtual 345, 3) := by decide +kernel
theorem D282_166 : decode (mB 282) 166 = .ok (.iload_n 3, 1) := by decide +kernel
theorem D282_167 : decode (mB 282) 167 = .ok (.ireturn, 1) := by decide +kernel
theorem D282_168 : decode (mB 282) 168 = .ok (.iinc 4 1, 3) := by decide +kernel
theorem D282_171 : decode (mB 282) 171 = .ok (.goto (-73), 3) := by decide +kernel
theorem D282_174 : decode (mB 282) 174 = .ok (.iinc 3 1, 3) := by decide +kernel
theorem D282_177 : decode (mB 282) 177 = .ok (.goto (-105), 3) := by decide +kernel
theorem D282_180 : decode (mB 282) 180 = .ok (.bipush (-2), 2) := by decide +kernel
theorem D282_182 : decode (mB 282) 182 = .ok (.ireturn, 1) := by decide +kernel
theorem D283_0 : decode (mB 283) 0 = .ok (.aload_n 0, 1) := by decide +kernel
theorem D283_1 : decode (mB 283) 1 = .ok (.iconst 0, 1) := by decide +kernel
theorem D283_2 : decode (mB 283) 2 = .ok (.putfield 3, 3) := by decide +kernel
theorem D283_5 : decode (mB 283) 5 = .ok (.aload_n 0, 1) := by decide +kernel
theorem D283_6 : decode (mB 283) 6 = .ok (.invokevirtual 409, 3) := by decide +kernel
theorem D283_9 : decode (mB 283) 9 = .ok (.aload_n 0, 1) := by decide +kernel
theorem D283_10 : decode (mB 283) 10 = .ok (.aload_n 0, 1) := by decide +kernel
theorem D283_11 : decode (mB 283) 11 = .ok (.getfield 149, 3) := by decide +kernel
theorem D283_14 : decode (mB 283) 14 = .ok (.invokevirtual 421, 3) := by decide +kernel
theorem D283_17 : decode (mB 283) 17 = .ok (.istore_n 1, 1) := by decide +kernel
theorem D283_18 : decode (mB 283) 18 = .ok (.iload_n 1, 1) := by decide +kernel
theorem D283_19 : decode (mB 283) 19 = .ok (.ifCond .ge 6, 3) := by decide +kernel
theorem D283_22 : decode (mB 283) 22 = .ok (.bipush (-2), 2) := by decide +kernel
theorem D283_24 : decode (mB 283) 24 = .ok (.ireturn, 1) := by decide +kernel
theorem D283_25 : decode (mB 283) 25 = .ok (.aload_n 0, 1) := by decide +kernel
theorem D283_26 : decode (mB 283) 26 = .ok (.iconst 0, 1) := by decide +kernel
theorem D283_27 : decode (mB 283) 27 = .ok (.putfield 11, 3) := by decide +kernel
theorem D283_30 : decode (mB 283) 30 = .ok (.aload_n 0, 1) := by decide +kernel
theorem D283_31 : decode (mB 283) 31 = .ok (.aload_n 0, 1) := by decide +kernel
theorem D283_32 : decode (mB 283) 32 = .ok (.getfield 412, 3) := by decide +kernel
theorem D283_35 : decode (mB 283) 35 = .ok (.i2l, 1) := by decide +kernel
theorem D283_36 : decode (mB 283) 36 = .ok (.invokevirtual 345, 3) := by decide +kernel
theorem D283_39 : decode (mB 283) 39 = .ok (.aload_n 0, 1) := by decide +kernel
theorem D283_40 : decode (mB 283) 40 = .ok (.aload_n 0, 1) := by decide +kernel
theorem D283_41 : decode (mB 283) 41 = .ok (.getfield 149, 3) := by decide +kernel
theorem D283_44 : decode (mB 283) 44 = .ok (.invokestatic 229, 3) := by decide +kernel
theorem D283_47 : decode (mB 283) 47 = .ok (.i2l, 1) := by decide +kernel
theorem D283_48 : decode (mB 283) 48 = .ok (.invokevirtual 345, 3) := by decide +kernel
theorem D283_51 : decode (mB 283) 51 = .ok (.iload_n 1, 1) := by decide +kernel
theorem D283_52 : decode (mB 283) 52 = .ok (.ireturn, 1) := by decide +kernel
theorem D284_0 : decode (mB 284) 0 = .ok (.aload_n 0, 1) := by decide +kernel
theorem D284_1 : decode (mB 284) 1 = .ok (.iconst 0, 1) := by decide +kernel
theorem D284_2 : decode (mB 284) 2 = .ok (.putfield 412, 3) := by decide +kernel
theorem D284_5 : decode (mB 284) 5 = .ok (.iconst 0, 1) := by decide +kernel
theorem D284_6 : decode (mB 284) 6 = .ok (.istore_n 2, 1) := by decide +kernel
theorem D284_7 : decode (mB 284) 7 = .ok (.iload_n 2, 1) := by decide +kernel
theorem D284_8 : decode (mB 284) 8 = .ok (.bipush 99, 2) := by decide +kernel
theorem D284_10 : decode (mB 284) 10 = .ok (.if_icmp .gt 35, 3) := by decide +kernel
theorem D284_13 : decode (mB 284) 13 = .ok (.aload_n 0, 1) := by decide +kernel
theorem D284_14 : decode (mB 284) 14 = .ok (.aload_n 1, 1) := by decide +kernel
theorem D284_15 : decode (mB 284) 15 = .ok (.invokevirtual 415, 3) := by decide +kernel
theorem D284_18 : decode (mB 284) 18 = .ok (.ifCond .eq 5, 3) := by decide +kernel
theorem D284_21 : decode (mB 284) 21 = .ok (.iload_n 2, 1) := by decide +kernel
theorem D284_22 : decode (mB 284) 22 = .ok (.ireturn, 1) := by decide +kernel
theorem D284_23 : decode (mB 284) 23 = .ok (.aload_n 0, 1) := by decide +kernel
theorem D284_24 : decode (mB 284) 24 = .ok (.aload_n 1, 1) := by decide +kernel
theorem D284_25 : decode (mB 284) 25 = .ok (.invokevirtual 418, 3) := by decide +kernel
theorem D284_28 : decode (mB 284) 28 = .ok (.iload_n 2, 1) := by decide +kernel
theorem D284_29 : decode (mB 284) 29 = .ok (.bipush 99, 2) := by decide +kernel
theorem D284_31 : decode (mB 284) 31 = .ok (.if_icmp .ge 8, 3) := by decide +kernel
theorem D284_34 : decode (mB 284) 34 = .ok (.aload_n 0, 1) := by decide +kernel
theorem D284_35 : decode (mB 284) 35 = .ok (.aload_n 1, 1) := by decide +kernel
theorem D284_36 : decode (mB 284) 36 = .ok (.invokevirtual 352, 3) := by decide +kernel
theorem D284_39 : decode (mB 284) 39 = .ok (.iinc 2 1, 3) := by decide +kernel
theorem D284_42 : decode (mB 284) 42 = .ok (.goto (-35), 3) := by decide +kernel
theorem D284_45 : decode (mB 284) 45 = .ok (.bipush (-2), 2) := by decide +kernel
theorem D284_47 : decode (mB 284) 47 = .ok (.ireturn, 1) := by decide +kernel
theorem D285_0 : decode (mB 285) 0 = .ok (.aload_n 1, 1) := by decide +kernel
theorem D285_1 : decode (mB 285) 1 = .ok (.sipush 493, 3) := by decide +kernel
theorem D285_4 : decode (mB 285) 4 = .ok (.iaload, 1) := by decide +kernel
theorem D285_5 : decode (mB 285) 5 = .ok (.ifCond .ne 15, 3) := by decide +kernel
theorem D285_8 : decode (mB 285) 8 = .ok (.aload_n 1, 1) := by decide +kernel
theorem D285_9 : decode (mB 285) 9 = .ok (.sipush 814, 3) := by decide +kernel
theorem D285_12 : decode (mB 285) 12 = .ok (.iaload, 1) := by decide +kernel
theorem D285_13 : decode (mB 285) 13 = .ok (.ifCond .ne 7, 3) := by decide +kernel
theorem D285_16 : decode (mB 285) 16 = .ok (.iconst 1, 1) := by decide +kernel
theorem D285_17 : decode (mB 285) 17 = .ok (.goto 4, 3) := by decide +kernel
theorem D285_20 : decode (mB 285) 20 = .ok (.iconst 0, 1) := by decide +kernel
theorem D285_21 : decode (mB 285) 21 = .ok (.istore_n 2, 1) := by decide +kernel
theorem D285_22 : decode (mB 285) 22 = .ok (.iconst 0, 1) := by decide +kernel
theorem D285_23 : decode (mB 285) 23 = .ok (.istore_n 3, 1) := by decide +kernel
theorem D285_24 : decode (mB 285) 24 = .ok (.iload_n 3, 1) := by decide +kernel
theorem D285_25 : decode (mB 285) 25 = .ok (.aload_n 0, 1) := by decide +kernel
theorem D285_26 : decode (mB 285) 26 = .ok (.getfield 198, 3) := by decide +kernel
theorem D285_29 : decode (mB 285) 29 = .ok (.if_icmp .ge 34, 3) := by decide +kernel
theorem D285_32 : decode (mB 285) 32 = .ok (.iload_n 2, 1) := by decide +kernel
theorem D285_33 : decode (mB 285) 33 = .ok (.ifCond .eq 22, 3) := by decide +kernel
theorem D285_36 : decode (mB 285) 36 = .ok (.aload_n 1, 1) := by decide +kernel
theorem D285_37 : decode (mB 285) 37 = .ok (.iload_n 3, 1) := by decide +kernel
theorem D285_38 : decode (mB 285) 38 = .ok (.iconst 1, 1) := by decide +kernel
theorem D285_39 : decode (mB 285) 39 = .ok (.invokestatic 220, 3) := by decide +kernel
theorem D285_42 : decode (mB 285) 42 = .ok (.aload_n 1, 1) := by decide +kernel
theorem D285_43 : decode (mB 285) 43 = .ok (.iload_n 3, 1) := by decide +kernel
theorem D285_44 : decode (mB 285) 44 = .ok (.iconst 3, 1) := by decide +kernel
theorem D285_45 : decode (mB 285) 45 = .ok (.invokestatic 220, 3) := by decide +kernel
theorem D285_48 : decode (mB 285) 48 = .ok (.if_icmp .ne 7, 3) := by decide +kernel
theorem D285_51 : decode (mB 285) 51 = .ok (.iconst 1, 1) := by decide +kernel
theorem D285_52 : decode (mB 285) 52 = .ok (.goto 4, 3) := by decide +kernel
theorem D285_55 : decode (mB 285) 55 = .ok (.iconst 0, 1) := by decide +kernel
theorem D285_56 : decode (mB 285) 56 = .ok (.istore_n 2, 1) := by decide +kernel
theorem D285_57 : decode (mB 285) 57 = .ok (.iinc 3 1, 3) := by decide +kernel
theorem D285_60 : decode (mB 285) 60 = .ok (.goto (-36), 3) := by decide +kernel
theorem D285_63 : decode (mB 285) 63 = .ok (.iload_n 2, 1) := by decide +kernel
theorem D285_64 : decode (mB 285) 64 = .ok (.ireturn, 1) := by decide +kernel
theorem D286_0 : decode (mB 286) 0 = .ok (.iconst 0, 1) := by decide +kernel
theorem D286_1 : decode (mB 286) 1 = .ok (.istore_n 2, 1) := by decide +kernel
theorem D286_2 : decode (mB 286) 2 = .ok (.iload_n 2, 1) := by decide +kernel
theorem D286_3 : decode (mB 286) 3 = .ok (.aload_n 0, 1) := by decide +kernel
theorem D286_4 : decode (mB 286) 4 = .ok (.getfield 198, 3) := by decide +kernel
theorem D286_7 : decode (mB 286) 7 = .ok (.if_icmp .ge 31, 3) := by decide +kernel
theorem D286_10 : decode (mB 286) 10 = .ok (.aload_n 0, 1) := by decide +kernel
theorem D286_11 : decode (mB 286) 11 = .ok (.aload_n 1, 1) := by decide +kernel
theorem D286_12 : decode (mB 286) 12 = .ok (.iload_n 2, 1) := by decide +kernel
theorem D286_13 : decode (mB 286) 13 = .ok (.invokevirtual 373, 3) := by decide +kernel
theorem D286_16 : decode (mB 286) 16 = .ok (.ifCond .lt 16, 3) := by decide +kernel
theorem D286_19 : decode (mB 286) 19 = .ok (.aload_n 0, 1) := by decide +kernel
theorem D286_20 : decode (mB 286) 20 = .ok (.dup, 1) := by decide +kernel
theorem D286_21 : decode (mB 286) 21 = .ok (.getfield 412, 3) := by decide +kernel
theorem D286_24 : decode (mB 286) 24 = .ok (.iconst 1, 1) := by decide +kernel
theorem D286_25 : decode (mB 286) 25 = .ok (.iadd, 1) := by decide +kernel
theorem D286_26 : decode (mB 286) 26 = .ok (.putfield 412, 3) := by decide +kernel
theorem D286_29 : decode (mB 286) 29 = .ok (.goto (-19), 3) := by decide +kernel
theorem D286_32 : decode (mB 286) 32 = .ok (.iinc 2 1, 3) := by decide +kernel
theorem D286_35 : decode (mB 286) 35 = .ok (.goto (-33), 3) := by decide +kernel
theorem D286_38 : decode (mB 286) 38 = .ok (.return_, 1) := by decide +kernel
theorem D287_0 : decode (mB 287) 0 = .ok (.aload_n 0, 1) := by decide +kernel
theorem D287_1 : decode (mB 287) 1 = .ok (.iconst 0, 1) := by decide +kernel
theorem D287_2 : decode (mB 287) 2 = .ok (.putfield 3, 3) := by decide +kernel
theorem D287_5 : decode (mB 287) 5 = .ok (.iload_n 1, 1) := by decide +kernel
theorem D287_6 : decode (mB 287) 6 = .ok (.i2l, 1) := by decide +kernel
theorem D287_7 : decode (mB 287) 7 = .ok (.lconst 0, 1) := by decide +kernel
theorem D287_8 : decode (mB 287) 8 = .ok (.ldc2_w 270, 3) := by decide +kernel
theorem D287_11 : decode (mB 287) 11 = .ok (.invokestatic 21, 3) := by decide +kernel
theorem D287_14 : decode (mB 287) 14 = .ok (.ifCond .ne 5, 3) := by decide +kernel
theorem D287_17 : decode (mB 287) 17 = .ok (.iconst (-1), 1) := by decide +kernel
theorem D287_18 : decode (mB 287) 18 = .ok (.ireturn, 1) := by decide +kernel
theorem D287_19 : decode (mB 287) 19 = .ok (.aload_n 0, 1) := by decide +kernel
theorem D287_20 : decode (mB 287) 20 = .ok (.invokevirtual 409, 3) := by decide +kernel
theorem D287_23 : decode (mB 287) 23 = .ok (.iconst 0, 1) := by decide +kernel
theorem D287_24 : decode (mB 287) 24 = .ok (.istore_n 2, 1) := by decide +kernel
theorem D287_25 : decode (mB 287) 25 = .ok (.iload_n 2, 1) := by decide +kernel
theorem D287_26 : decode (mB 287) 26 = .ok (.aload_n 0, 1) := by decide +kernel
theorem D287_27 : decode (mB 287) 27 = .ok (.getfield 198, 3) := by decide +kernel
theorem D287_30 : decode (mB 287) 30 = .ok (.if_icmp .ge 19, 3) := by decide +kernel
theorem D287_33 : decode (mB 287) 33 = .ok (.aload_n 0, 1) := by decide +kernel
theorem D287_34 : decode (mB 287) 34 = .ok (.aload_n 0, 1) := by decide +kernel
theorem D287_35 : decode (mB 287) 35 = .ok (.getfield 149, 3) := by decide +kernel
theorem D287_38 : decode (mB 287) 38 = .ok (.iload_n 2, 1) := by decide +kernel
theorem D287_39 : decode (mB 287) 39 = .ok (.invokevirtual 365, 3) := by decide +kernel
theorem D287_42 : decode (mB 287) 42 = .ok (.pop, 1) := by decide +kernel
theorem D287_43 : decode (mB 287) 43 = .ok (.iinc 2 1, 3) := by decide +kernel
theorem D287_46 : decode (mB 287) 46 = .ok (.goto (-21), 3) := by decide +kernel
theorem D287_49 : decode (mB 287) 49 = .ok (.aload_n 0, 1) := by decide +kernel
theorem D287_50 : decode (mB 287) 50 = .ok (.aload_n 0, 1) := by decide +kernel
theorem D287_51 : decode (mB 287) 51 = .ok (.getfield 149, 3) := by decide +kernel
theorem D287_54 : decode (mB 287) 54 = .ok (.invokevirtual 421, 3) := by decide +kernel
theorem D287_57 : decode (mB 287) 57 = .ok (.istore_n 2, 1) := by decide +kernel
theorem D287_58 : decode (mB 287) 58 = .ok (.aload_n 0, 1) := by decide +kernel
theorem D287_59 : decode (mB 287) 59 = .ok (.iconst 0, 1) := by decide +kernel
theorem D287_60 : decode (mB 287) 60 = .ok (.putfield 11, 3) := by decide +kernel
theorem D287_63 : decode (mB 287) 63 = .ok (.aload_n 0, 1) := by decide +kernel
theorem D287_64 : decode (mB 287) 64 = .ok (.iload_n 2, 1) := by decide +kernel
theorem D287_65 : decode (mB 287) 65 = .ok (.ifCond .lt 7, 3) := by decide +kernel
theorem D287_68 : decode (mB 287) 68 = .ok (.iconst 1, 1) := by decide +kernel
theorem D287_69 : decode (mB 287) 69 = .ok (.goto 4, 3) := by decide +kernel
theorem D287_72 : decode (mB 287) 72 = .ok (.iconst 0, 1) := by decide +kernel
theorem D287_73 : decode (mB 287) 73 = .ok (.invokestatic 40, 3) := by decide +kernel
theorem D287_76 : decode (mB 287) 76 = .ok (.i2l, 1) := by decide +kernel
theorem D287_77 : decode (mB 287) 77 = .ok (.invokevirtual 345, 3) := by decide +kernel
theorem D287_80 : decode (mB 287) 80 = .ok (.aload_n 0, 1) := by decide +kernel
theorem D287_81 : decode (mB 287) 81 = .ok (.getfield 149, 3) := by decide +kernel
theorem D287_84 : decode (mB 287) 84 = .ok (.sipush 828, 3) := by decide +kernel
theorem D287_87 : decode (mB 287) 87 = .ok (.iload_n 1, 1) := by decide +kernel
theorem D287_88 : decode (mB 287) 88 = .ok (.iadd, 1) := by decide +kernel
theorem D287_89 : decode (mB 287) 89 = .ok (.iaload, 1) := by decide +kernel
theorem D287_90 : decode (mB 287) 90 = .ok (.ireturn, 1) := by decide +kernel
theorem D288_0 : decode (mB 288) 0 = .ok (.aload_n 0, 1) := by decide +kernel
theorem D288_1 : decode (mB 288) 1 = .ok (.iconst 0, 1) := by decide +kernel
theorem D288_2 : decode (mB 288) 2 = .ok (.putfield 3, 3) := by decide +kernel
theorem D288_5 : decode (mB 288) 5 = .ok (.aload_n 0, 1) := by decide +kernel
theorem D288_6 : decode (mB 288) 6 = .ok (.iload_n 1, 1) := by decide +kernel
theorem D288_7 : decode (mB 288) 7 = .ok (.invokevirtual 212, 3) := by decide +kernel
theorem D288_10 : decode (mB 288) 10 = .ok (.ifCond .ne 5, 3) := by decide +kernel
theorem D288_13 : decode (mB 288) 13 = .ok (.iconst (-1), 1) := by decide +kernel
theorem D288_14 : decode (mB 288) 14 = .ok (.ireturn, 1) := by decide +kernel
theorem D288_15 : decode (mB 288) 15 = .ok (.aload_n 0, 1) := by decide +kernel
theorem D288_16 : decode (mB 288) 16 = .ok (.invokevirtual 409, 3) := by decide +kernel
theorem D288_19 : decode (mB 288) 19 = .ok (.aload_n 0, 1) := by decide +kernel
theorem D288_20 : decode (mB 288) 20 = .ok (.aload_n 0, 1) := by decide +kernel
theorem D288_21 : decode (mB 288) 21 = .ok (.getfield 149, 3) := by decide +kernel
theorem D288_24 : decode (mB 288) 24 = .ok (.iload_n 1, 1) := by decide +kernel
theorem D288_25 : decode (mB 288) 25 = .ok (.invokevirtual 365, 3) := by decide +kernel
theorem D288_28 : decode (mB 288) 28 = .ok (.istore_n 2, 1) := by decide +kernel
theorem D288_29 : decode (mB 288) 29 = .ok (.iload_n 2, 1) := by decide +kernel
theorem D288_30 : decode (mB 288) 30 = .ok (.ifCond .ge 5, 3) := by decide +kernel
theorem D288_33 : decode (mB 288) 33 = .ok (.iload_n 2, 1) := by decide +kernel
theorem D288_34 : decode (mB 288) 34 = .ok (.ireturn, 1) := by decide +kernel
theorem D288_35 : decode (mB 288) 35 = .ok (.aload_n 0, 1) := by decide +kernel
theorem D288_36 : decode (mB 288) 36 = .ok (.iconst 0, 1) := by decide +kernel
theorem D288_37 : decode (mB 288) 37 = .ok (.putfield 11, 3) := by decide +kernel
theorem D288_40 : decode (mB 288) 40 = .ok (.aload_n 0, 1) := by decide +kernel
theorem D288_41 : decode (mB 288) 41 = .ok (.aload_n 0, 1) := by decide +kernel
theorem D288_42 : decode (mB 288) 42 = .ok (.getfield 149, 3) := by decide +kernel
theorem D288_45 : decode (mB 288) 45 = .ok (.iload_n 1, 1) := by decide +kernel
theorem D288_46 : decode (mB 288) 46 = .ok (.iconst 2, 1) := by decide +kernel
theorem D288_47 : decode (mB 288) 47 = .ok (.invokestatic 220, 3) := by decide +kernel
theorem D288_50 : decode (mB 288) 50 = .ok (.aload_n 0, 1) := by decide +kernel
theorem D288_51 : decode (mB 288) 51 = .ok (.getfield 146, 3) := by decide +kernel
theorem D288_54 : decode (mB 288) 54 = .ok (.iload_n 1, 1) := by decide +kernel
theorem D288_55 : decode (mB 288) 55 = .ok (.iconst 2, 1) := by decide +kernel
theorem D288_56 : decode (mB 288) 56 = .ok (.invokestatic 220, 3) := by decide +kernel
theorem D288_59 : decode (mB 288) 59 = .ok (.isub, 1) := by decide +kernel
theorem D288_60 : decode (mB 288) 60 = .ok (.i2l, 1) := by decide +kernel
theorem D288_61 : decode (mB 288) 61 = .ok (.invokevirtual 345, 3) := by decide +kernel
theorem D288_64 : decode (mB 288) 64 = .ok (.iload_n 2, 1) := by decide +kernel
theorem D288_65 : decode (mB 288) 65 = .ok (.ireturn, 1) := by decide +kernel
theorem D289_0 : decode (mB 289) 0 = .ok (.aload_n 0, 1) := by decide +kernel
theorem D289_1 : decode (mB 289) 1 = .ok (.iconst 0, 1) := by decide +kernel
theorem D289_2 : decode (mB 289) 2 = .ok (.putfield 3, 3) := by decide +kernel
theorem D289_5 : decode (mB 289) 5 = .ok (.aload_n 0, 1) := by decide +kernel
theorem D289_6 : decode (mB 289) 6 = .ok (.iconst 0, 1) := by decide +kernel
theorem D289_7 : decode (mB 289) 7 = .ok (.putfield 11, 3) := by decide +kernel
theorem D289_10 : decode (mB 289) 10 = .ok (.aload_n 0, 1) := by decide +kernel
theorem D289_11 : decode (mB 289) 11 = .ok (.aload_n 0, 1) := by decide +kernel
theorem D289_12 : decode (mB 289) 12 = .ok (.getfield 146, 3) := by decide +kernel
theorem D289_15 : decode (mB 289) 15 = .ok (.sipush 839, 3) := by decide +kernel
theorem D289_18 : decode (mB 289) 18 = .ok (.iaload, 1) := by decide +kernel
theorem D289_19 : decode (mB 289) 19 = .ok (.i2l, 1) := by decide +kernel
theorem D289_20 : decode (mB 289) 20 = .ok (.invokevirtual 345, 3) := by decide +kernel
theorem D289_23 : decode (mB 289) 23 = .ok (.aload_n 0, 1) := by decide +kernel
theorem D289_24 : decode (mB 289) 24 = .ok (.getfield 146, 3) := by decide +kernel
theorem D289_27 : decode (mB 289) 27 = .ok (.sipush 838, 3) := by decide +kernel
theorem D289_30 : decode (mB 289) 30 = .ok (.iaload, 1) := by decide +kernel
theorem D289_31 : decode (mB 289) 31 = .ok (.ireturn, 1) := by decide +kernel
theorem D290_0 : decode (mB 290) 0 = .ok (.aload_n 0, 1) := by decide +kernel
theorem D290_1 : decode (mB 290) 1 = .ok (.iconst 0, 1) := by decide +kernel
theorem D290_2 : decode (mB 290) 2 = .ok (.putfield 3, 3) := by decide +kernel
theorem D290_5 : decode (mB 290) 5 = .ok (.aload_n 0, 1) := by decide +kernel
theorem D290_6 : decode (mB 290) 6 = .ok (.aload_n 0, 1) := by decide +kernel
theorem D290_7 : decode (mB 290) 7 = .ok (.getfield 146, 3) := by decide +kernel
theorem D290_10 : decode (mB 290) 10 = .ok (.iload_n 1, 1) := by decide +kernel
theorem D290_11 : decode (mB 290) 11 = .ok (.iload_n 2, 1) := by decide +kernel
theorem D290_12 : decode (mB 290) 12 = .ok (.invokevirtual 284, 3) := by decide +kernel
theorem D290_15 : decode (mB 290) 15 = .ok (.istore_n 3, 1) := by decide +kernel
theorem D290_16 : decode (mB 290) 16 = .ok (.iload_n 3, 1) := by decide +kernel
theorem D290_17 : decode (mB 290) 17 = .ok (.ifCond .ge 5, 3) := by decide +kernel
theorem D290_20 : decode (mB 290) 20 = .ok (.iload_n 3, 1) := by decide +kernel
theorem D290_21 : decode (mB 290) 21 = .ok (.ireturn, 1) := by decide +kernel
theorem D290_22 : decode (mB 290) 22 = .ok (.aload_n 0, 1) := by decide +kernel
theorem D290_23 : decode (mB 290) 23 = .ok (.iconst 0, 1) := by decide +kernel
theorem D290_24 : decode (mB 290) 24 = .ok (.putfield 11, 3) := by decide +kernel
theorem D290_27 : decode (mB 290) 27 = .ok (.aload_n 0, 1) := by decide +kernel
theorem D290_28 : decode (mB 290) 28 = .ok (.getfield 146, 3) := by decide +kernel
theorem D290_31 : decode (mB 290) 31 = .ok (.iload_n 1, 1) := by decide +kernel
theorem D290_32 : decode (mB 290) 32 = .ok (.iload_n 2, 1) := by decide +kernel
theorem D290_33 : decode (mB 290) 33 = .ok (.invokestatic 255, 3) := by decide +kernel
theorem D290_36 : decode (mB 290) 36 = .ok (.istore 4, 2) := by decide +kernel
theorem D290_38 : decode (mB 290) 38 = .ok (.aload_n 0, 1) := by decide +kernel
theorem D290_39 : decode (mB 290) 39 = .ok (.iload_n 3, 1) := by decide +kernel
theorem D290_40 : decode (mB 290) 40 = .ok (.ifCond .ne 7, 3) := by decide +kernel
theorem D290_43 : decode (mB 290) 43 = .ok (.lconst 0, 1) := by decide +kernel
theorem D290_44 : decode (mB 290) 44 = .ok (.goto 17, 3) := by decide +kernel
theorem D290_47 : decode (mB 290) 47 = .ok (.aload_n 0, 1) := by decide +kernel
theorem D290_48 : decode (mB 290) 48 = .ok (.getfield 146, 3) := by decide +kernel
theorem D290_51 : decode (mB 290) 51 = .ok (.iload 4, 2) := by decide +kernel
theorem D290_53 : decode (mB 290) 53 = .ok (.invokestatic 236, 3) := by decide +kernel
theorem D290_56 : decode (mB 290) 56 = .ok (.bipush 11, 2) := by decide +kernel
theorem D290_58 : decode (mB 290) 58 = .ok (.iadd, 1) := by decide +kernel
theorem D290_59 : decode (mB 290) 59 = .ok (.iaload, 1) := by decide +kernel
theorem D290_60 : decode (mB 290) 60 = .ok (.i2l, 1) := by decide +kernel
theorem D290_61 : decode (mB 290) 61 = .ok (.invokevirtual 345, 3) := by decide +kernel
theorem D290_64 : decode (mB 290) 64 = .ok (.aload_n 0, 1) := by decide +kernel
theorem D290_65 : decode (mB 290) 65 = .ok (.iload_n 3, 1) := by decide +kernel
theorem D290_66 : decode (mB 290) 66 = .ok (.ifCond .ne 16, 3) := by decide +kernel
theorem D290_69 : decode (mB 290) 69 = .ok (.aload_n 0, 1) := by decide +kernel
theorem D290_70 : decode (mB 290) 70 = .ok (.getfield 146, 3) := by decide +kernel
theorem D290_73 : decode (mB 290) 73 = .ok (.iload_n 1, 1) := by decide +kernel
theorem D290_74 : decode (mB 290) 74 = .ok (.iload_n 2, 1) := by decide +kernel
theorem D290_75 : decode (mB 290) 75 = .ok (.invokestatic 252, 3) := by decide +kernel
theorem D290_78 : decode (mB 290) 78 = .ok (.i2l, 1) := by decide +kernel
theorem D290_79 : decode (mB 290) 79 = .ok (.goto 6, 3) := by decide +kernel
theorem D290_82 : decode (mB 290) 82 = .ok (.iload 4, 2) := by decide +kernel
theorem D290_84 : decode (mB 290) 84 = .ok (.i2l, 1) := by decide +kernel
theorem D290_85 : decode (mB 290) 85 = .ok (.invokevirtual 345, 3) := by decide +kernel
theorem D290_88 : decode (mB 290) 88 = .ok (.iload_n 3, 1) := by decide +kernel
theorem D290_89 : decode (mB 290) 89 = .ok (.ireturn, 1) := by decide +kernel
theorem D291_0 : decode (mB 291) 0 = .ok (.aload_n 0, 1) := by decide +kernel
theorem D291_1 : decode (mB 291) 1 = .ok (.iconst 0, 1) := by decide +kernel
theorem D291_2 : decode (mB 291) 2 = .ok (.putfield 3, 3) := by decide +kernel
theorem D291_5 : decode (mB 291) 5 = .ok (.aload_n 0, 1) := by decide +kernel
theorem D291_6 : decode (mB 291) 6 = .ok (.iconst 0, 1) := by decide +kernel
theorem D291_7 : decode (mB 291) 7 = .ok (.putfield 11, 3) := by decide +kernel
theorem D291_10 : decode (mB 291) 10 = .ok (.iconst 1, 1) := by decide +kernel
theorem D291_11 : decode (mB 291) 11 = .ok (.istore_n 1, 1) := by decide +kernel
theorem D291_12 : decode (mB 291) 12 = .ok (.iload_n 1, 1) := by decide +kernel
theorem D291_13 : decode (mB 291) 13 = .ok (.iconst 4, 1) := by decide +kernel
theorem D291_14 : decode (mB 291) 14 = .ok (.if_icmp .ge 24, 3) := by decide +kernel
theorem D291_17 : decode (mB 291) 17 = .ok (.aload_n 0, 1) := by decide +kernel
theorem D291_18 : decode (mB 291) 18 = .ok (.aload_n 0, 1) := by decide +kernel
theorem D291_19 : decode (mB 291) 19 = .ok (.getfield 146, 3) := by decide +kernel
theorem D291_22 : decode (mB 291) 22 = .ok (.sipush 840, 3) := by decide +kernel
theorem D291_25 : decode (mB 291) 25 = .ok (.iload_n 1, 1) := by decide +kernel
theorem D291_26 : decode (mB 291) 26 = .ok (.iadd, 1) := by decide +kernel
theorem D291_27 : decode (mB 291) 27 = .ok (.iaload, 1) := by decide +kernel
theorem D291_28 : decode (mB 291) 28 = .ok (.i2l, 1) := by decide +kernel
theorem D291_29 : decode (mB 291) 29 = .ok (.invokevirtual 345, 3) := by decide +kernel
theorem D291_32 : decode (mB 291) 32 = .ok (.iinc 1 1, 3) := by decide +kernel
theorem D291_35 : decode (mB 291) 35 = .ok (.goto (-23), 3) := by decide +kernel
theorem D291_38 : decode (mB 291) 38 = .ok (.aload_n 0, 1) := by decide +kernel
theorem D291_39 : decode (mB 291) 39 = .ok (.aload_n 0, 1) := by decide +kernel
theorem D291_40 : decode (mB 291) 40 = .ok (.getfield 146, 3) := by decide +kernel
theorem D291_43 : decode (mB 291) 43 = .ok (.sipush 840, 3) := by decide +kernel
theorem D291_46 : decode (mB 291) 46 = .ok (.iaload, 1) := by decide +kernel
theorem D291_47 : decode (mB 291) 47 = .ok (.i2l, 1) := by decide +kernel
theorem D291_48 : decode (mB 291) 48 = .ok (.invokevirtual 345, 3) := by decide +kernel
theorem D291_51 : decode (mB 291) 51 = .ok (.aload_n 0, 1) := by decide +kernel
theorem D291_52 : decode (mB 291) 52 = .ok (.getfield 146, 3) := by decide +kernel
theorem D291_55 : decode (mB 291) 55 = .ok (.invokestatic 332, 3) := by decide +kernel
theorem D291_58 : decode (mB 291) 58 = .ok (.aload_n 0, 1) := by decide +kernel
theorem D291_59 : decode (mB 291) 59 = .ok (.getfield 146, 3) := by decide +kernel
theorem D291_62 : decode (mB 291) 62 = .ok (.sipush 840, 3) := by decide +kernel
theorem D291_65 : decode (mB 291) 65 = .ok (.iaload, 1) := by decide +kernel
theorem D291_66 : decode (mB 291) 66 = .ok (.isub, 1) := by decide +kernel
theorem D291_67 : decode (mB 291) 67 = .ok (.ireturn, 1) := by decide +kernel
theorem D292_0 : decode (mB 292) 0 = .ok (.aload_n 0, 1) := by decide +kernel
theorem D292_1 : decode (mB 292) 1 = .ok (.iconst 0, 1) := by decide +kernel
theorem D292_2 : decode (mB 292) 2 = .ok (.putfield 3, 3) := by decide +kernel
theorem D292_5 : decode (mB 292) 5 = .ok (.iload_n 1, 1) := by decide +kernel
theorem D292_6 : decode (mB 292) 6 = .ok (.i2l, 1) := by decide +kernel
theorem D292_7 : decode (mB 292) 7 = .ok (.lconst 0, 1) := by decide +kernel
theorem D292_8 : decode (mB 292) 8 = .ok (.ldc2_w 224, 3) := by decide +kernel
theorem D292_11 : decode (mB 292) 11 = .ok (.invokestatic 21, 3) := by decide +kernel
theorem D292_14 : decode (mB 292) 14 = .ok (.ifCond .eq 26, 3) := by decide +kernel
theorem D292_17 : decode (mB 292) 17 = .ok (.iload_n 2, 1) := by decide +kernel
theorem D292_18 : decode (mB 292) 18 = .ok (.i2l, 1) := by decide +kernel
theorem D292_19 : decode (mB 292) 19 = .ok (.lconst 0, 1) := by decide +kernel
theorem D292_20 : decode (mB 292) 20 = .ok (.iload_n 1, 1) := by decide +kernel
theorem D292_21 : decode (mB 292) 21 = .ok (.invokestatic 424, 3) := by decide +kernel
theorem D292_24 : decode (mB 292) 24 = .ok (.i2l, 1) := by decide +kernel
theorem D292_25 : decode (mB 292) 25 = .ok (.invokestatic 21, 3) := by decide +kernel
theorem D292_28 : decode (mB 292) 28 = .ok (.ifCond .eq 12, 3) := by decide +kernel
theorem D292_31 : decode (mB 292) 31 = .ok (.aload_n 0, 1) := by decide +kernel
theorem D292_32 : decode (mB 292) 32 = .ok (.getfield 427, 3) := by decide +kernel
theorem D292_35 : decode (mB 292) 35 = .ok (.bipush 12, 2) := by decide +kernel
theorem D292_37 : decode (mB 292) 37 = .ok (.if_icmp .ne 5, 3) := by decide +kernel
theorem D292_40 : decode (mB 292) 40 = .ok (.iconst (-1), 1) := by decide +kernel
theorem D292_41 : decode (mB 292) 41 = .ok (.ireturn, 1) := by decide +kernel
theorem D292_42 : decode (mB 292) 42 = .ok (.aload_n 0, 1) := by decide +kernel
theorem D292_43 : decode (mB 292) 43 = .ok (.getfield 176, 3) := by decide +kernel
theorem D292_46 : decode (mB 292) 46 = .ok (.aload_n 0, 1) := by decide +kernel
theorem D292_47 : decode (mB 292) 47 = .ok (.getfield 427, 3) := by decide +kernel
theorem D292_50 : decode (mB 292) 50 = .ok (.iload_n 1, 1) := by decide +kernel
theorem D292_51 : decode (mB 292) 51 = .ok (.iastore, 1) := by decide +kernel
theorem D292_52 : decode (mB 292) 52 = .ok (.aload_n 0, 1) := by decide +kernel
theorem D292_53 : decode (mB 292) 53 = .ok (.getfield 179, 3) := by decide +kernel
theorem D292_56 : decode (mB 292) 56 = .ok (.aload_n 0, 1) := by decide +kernel
theorem D292_57 : decode (mB 292) 57 = .ok (.getfield 427, 3) := by decide +kernel
theorem D292_60 : decode (mB 292) 60 = .ok (.iload_n 2, 1) := by decide +kernel
theorem D292_61 : decode (mB 292) 61 = .ok (.iastore, 1) := by decide +kernel
theorem D292_62 : decode (mB 292) 62 = .ok (.aload_n 0, 1) := by decide +kernel
theorem D292_63 : decode (mB 292) 63 = .ok (.dup, 1) := by decide +kernel
theorem D292_64 : decode (mB 292) 64 = .ok (.getfield 427, 3) := by decide +kernel
theorem D292_67 : decode (mB 292) 67 = .ok (.iconst 1, 1) := by decide +kernel
theorem D292_68 : decode (mB 292) 68 = .ok (.iadd, 1) := by decide +kernel
theorem D292_69 : decode (mB 292) 69 = .ok (.putfield 427, 3) := by decide +kernel
theorem D292_72 : decode (mB 292) 72 = .ok (.aload_n 0, 1) := by decide +kernel
theorem D292_73 : decode (mB 292) 73 = .ok (.getfield 427, 3) := by decide +kernel
theorem D292_76 : decode (mB 292) 76 = .ok (.ireturn, 1) := by decide +kernel
theorem D293_0 : decode (mB 293) 0 = .ok (.iload_n 0, 1) := by decide +kernel
theorem D293_1 : decode (mB 293) 1 = .ok (.iconst 2, 1) := by decide +kernel
theorem D293_2 : decode (mB 293) 2 = .ok (.if_icmp .ne 8, 3) := by decide +kernel
theorem D293_5 : decode (mB 293) 5 = .ok (.bipush 9, 2) := by decide +kernel
theorem D293_7 : decode (mB 293) 7 = .ok (.goto 13, 3) := by decide +kernel
theorem D293_10 : decode (mB 293) 10 = .ok (.iload_n 0, 1) := by decide +kernel
theorem D293_11 : decode (mB 293) 11 = .ok (.iconst 3, 1) := by decide +kernel
theorem D293_12 : decode (mB 293) 12 = .ok (.if_icmp .ne 7, 3) := by decide +kernel
theorem D293_15 : decode (mB 293) 15 = .ok (.iconst 1, 1) := by decide +kernel
theorem D293_16 : decode (mB 293) 16 = .ok (.goto 4, 3) := by decide +kernel
theorem D293_19 : decode (mB 293) 19 = .ok (.iconst 4, 1) := by decide +kernel
theorem D293_20 : decode (mB 293) 20 = .ok (.ireturn, 1) := by decide +kernel
theorem D294_0 : decode (mB 294) 0 = .ok (.aload_n 0, 1) := by decide +kernel
theorem D294_1 : decode (mB 294) 1 = .ok (.iconst 0, 1) := by decide +kernel
theorem D294_2 : decode (mB 294) 2 = .ok (.putfield 3, 3) := by decide +kernel
theorem D294_5 : decode (mB 294) 5 = .ok (.aload_n 0, 1) := by decide +kernel
theorem D294_6 : decode (mB 294) 6 = .ok (.getfield 427, 3) := by decide +kernel
theorem D294_9 : decode (mB 294) 9 = .ok (.istore_n 1, 1) := by decide +kernel
theorem D294_10 : decode (mB 294) 10 = .ok (.aload_n 0, 1) := by decide +kernel
theorem D294_11 : decode (mB 294) 11 = .ok (.iconst 0, 1) := by decide +kernel
theorem D294_12 : decode (mB 294) 12 = .ok (.putfield 427, 3) := by decide +kernel
theorem D294_15 : decode (mB 294) 15 = .ok (.iload_n 1, 1) := by decide +kernel
theorem D294_16 : decode (mB 294) 16 = .ok (.ireturn, 1) := by decide +kernel
theorem D295_0 : decode (mB 295) 0 = .ok (.aload_n 0, 1) := by decide +kernel
theorem D295_1 : decode (mB 295) 1 = .ok (.iconst 0, 1) := by decide +kernel
theorem D295_2 : decode (mB 295) 2 = .ok (.putfield 3, 3) := by decide +kernel
theorem D295_5 : decode (mB 295) 5 = .ok (.iconst 0, 1) := by decide +kernel
theorem D295_6 : decode (mB 295) 6 = .ok (.istore_n 1, 1) := by decide +kernel
theorem D295_7 : decode (mB 295) 7 = .ok (.aload_n 0, 1) := by decide +kernel
theorem D295_8 : decode (mB 295) 8 = .ok (.iconst 0, 1) := by decide +kernel
theorem D295_9 : decode (mB 295) 9 = .ok (.putfield 11, 3) := by decide +kernel
theorem D295_12 : decode (mB 295) 12 = .ok (.iconst 0, 1) := by decide +kernel
theorem D295_13 : decode (mB 295) 13 = .ok (.istore_n 2, 1) := by decide +kernel
theorem D295_14 : decode (mB 295) 14 = .ok (.iload_n 2, 1) := by decide +kernel
theorem D295_15 : decode (mB 295) 15 = .ok (.aload_n 0, 1) := by decide +kernel
theorem D295_16 : decode (mB 295) 16 = .ok (.getfield 198, 3) := by decide +kernel
theorem D295_19 : decode (mB 295) 19 = .ok (.if_icmp .ge 60, 3) := by decide +kernel
theorem D295_22 : decode (mB 295) 22 = .ok (.iconst 0, 1) := by decide +kernel
theorem D295_23 : decode (mB 295) 23 = .ok (.istore_n 3, 1) := by decide +kernel
theorem D295_24 : decode (mB 295) 24 = .ok (.iload_n 3, 1) := by decide +kernel
theorem D295_25 : decode (mB 295) 25 = .ok (.bipush 16, 2) := by decide +kernel
theorem D295_27 : decode (mB 295) 27 = .ok (.if_icmp .ge 46, 3) := by decide +kernel
theorem D295_30 : decode (mB 295) 30 = .ok (.aload_n 0, 1) := by decide +kernel
theorem D295_31 : decode (mB 295) 31 = .ok (.iload_n 2, 1) := by decide +kernel
theorem D295_32 : decode (mB 295) 32 = .ok (.iload_n 3, 1) := by decide +kernel
theorem D295_33 : decode (mB 295) 33 = .ok (.invokevirtual 437, 3) := by decide +kernel
theorem D295_36 : decode (mB 295) 36 = .ok (.istore 4, 2) := by decide +kernel
theorem D295_38 : decode (mB 295) 38 = .ok (.iload 4, 2) := by decide +kernel
theorem D295_40 : decode (mB 295) 40 = .ok (.ifCond .eq 19, 3) := by decide +kernel
theorem D295_43 : decode (mB 295) 43 = .ok (.iload_n 1, 1) := by decide +kernel
theorem D295_44 : decode (mB 295) 44 = .ok (.ifCond .ne 15, 3) := by decide +kernel
theorem D295_47 : decode (mB 295) 47 = .ok (.aload_n 0, 1) := by decide +kernel
theorem D295_48 : decode (mB 295) 48 = .ok (.iload_n 2, 1) := by decide +kernel
theorem D295_49 : decode (mB 295) 49 = .ok (.i2l, 1) := by decide +kernel
theorem D295_50 : decode (mB 295) 50 = .ok (.invokevirtual 345, 3) := by decide +kernel
theorem D295_53 : decode (mB 295) 53 = .ok (.aload_n 0, 1) := by decide +kernel
theorem D295_54 : decode (mB 295) 54 = .ok (.iload_n 3, 1) := by decide +kernel
theorem D295_55 : decode (mB 295) 55 = .ok (.i2l, 1) := by decide +kernel
theorem D295_56 : decode (mB 295) 56 = .ok (.invokevirtual 345, 3) := by decide +kernel
theorem D295_59 : decode (mB 295) 59 = .ok (.iload_n 1, 1) := by decide +kernel
theorem D295_60 : decode (mB 295) 60 = .ok (.iload 4, 2) := by decide +kernel
theorem D295_62 : decode (mB 295) 62 = .ok (.invokestatic 40, 3) := by decide +kernel
theorem D295_65 : decode (mB 295) 65 = .ok (.iadd, 1) := by decide +kernel
theorem D295_66 : decode (mB 295) 66 = .ok (.istore_n 1, 1) := by decide +kernel
theorem D295_67 : decode (mB 295) 67 = .ok (.iinc 3 1, 3) := by decide +kernel
theorem D295_70 : decode (mB 295) 70 = .ok (.goto (-46), 3) := by decide +kernel
theorem D295_73 : decode (mB 295) 73 = .ok (.iinc 2 1, 3) := by decide +kernel
theorem D295_76 : decode (mB 295) 76 = .ok (.goto (-62), 3) := by decide +kernel
theorem D295_79 : decode (mB 295) 79 = .ok (.iload_n 1, 1) := by decide +kernel
theorem D295_80 : decode (mB 295) 80 = .ok (.ireturn, 1) := by decide +kernel
theorem D296_0 : decode (mB 296) 0 = .ok (.aload_n 0, 1) := by decide +kernel
theorem D296_1 : decode (mB 296) 1 = .ok (.iload_n 1, 1) := by decide +kernel
theorem D296_2 : decode (mB 296) 2 = .ok (.iload_n 2, 1) := by decide +kernel
theorem D296_3 : decode (mB 296) 3 = .ok (.invokevirtual 430, 3) := by decide +kernel
theorem D296_6 : decode (mB 296) 6 = .ok (.ifCond .lt 7, 3) := by decide +kernel
theorem D296_9 : decode (mB 296) 9 = .ok (.iconst 1, 1) := by decide +kernel
theorem D296_10 : decode (mB 296) 10 = .ok (.goto 4, 3) := by decide +kernel
theorem D296_13 : decode (mB 296) 13 = .ok (.iconst 0, 1) := by decide +kernel
theorem D296_14 : decode (mB 296) 14 = .ok (.istore_n 3, 1) := by decide +kernel
theorem D296_15 : decode (mB 296) 15 = .ok (.iconst 0, 1) := by decide +kernel
theorem D296_16 : decode (mB 296) 16 = .ok (.istore 4, 2) := by decide +kernel
theorem D296_18 : decode (mB 296) 18 = .ok (.iload 4, 2) := by decide +kernel
theorem D296_20 : decode (mB 296) 20 = .ok (.aload_n 0, 1) := by decide +kernel
theorem D296_21 : decode (mB 296) 21 = .ok (.getfield 427, 3) := by decide +kernel
theorem D296_24 : decode (mB 296) 24 = .ok (.if_icmp .ge 34, 3) := by decide +kernel
theorem D296_27 : decode (mB 296) 27 = .ok (.iload_n 3, 1) := by decide +kernel
theorem D296_28 : decode (mB 296) 28 = .ok (.ifCond .eq 30, 3) := by decide +kernel
theorem D296_31 : decode (mB 296) 31 = .ok (.aload_n 0, 1) := by decide +kernel
theorem D296_32 : decode (mB 296) 32 = .ok (.iload_n 1, 1) := by decide +kernel
theorem D296_33 : decode (mB 296) 33 = .ok (.iload_n 2, 1) := by decide +kernel
theorem D296_34 : decode (mB 296) 34 = .ok (.aload_n 0, 1) := by decide +kernel
theorem D296_35 : decode (mB 296) 35 = .ok (.getfield 176, 3) := by decide +kernel
theorem D296_38 : decode (mB 296) 38 = .ok (.iload 4, 2) := by decide +kernel
theorem D296_40 : decode (mB 296) 40 = .ok (.iaload, 1) := by decide +kernel
theorem D296_41 : decode (mB 296) 41 = .ok (.aload_n 0, 1) := by decide +kernel
theorem D296_42 : decode (mB 296) 42 = .ok (.getfield 179, 3) := by decide +kernel
theorem D296_45 : decode (mB 296) 45 = .ok (.iload 4, 2) := by decide +kernel
theorem D296_47 : decode (mB 296) 47 = .ok (.iaload, 1) := by decide +kernel
theorem D296_48 : decode (mB 296) 48 = .ok (.invokevirtual 433, 3) := by decide +kernel
theorem D296_51 : decode (mB 296) 51 = .ok (.istore_n 3, 1) := by decide +kernel
theorem D296_52 : decode (mB 296) 52 = .ok (.iinc 4 1, 3) := by decide +kernel
theorem D296_55 : decode (mB 296) 55 = .ok (.goto (-37), 3) := by decide +kernel
theorem D296_58 : decode (mB 296) 58 = .ok (.iload_n 3, 1) := by decide +kernel
theorem D296_59 : decode (mB 296) 59 = .ok (.ireturn, 1) := by decide +kernel
theorem D297_0 : decode (mB 297) 0 = .ok (.aload_n 0, 1) := by decide +kernel
theorem D297_1 : decode (mB 297) 1 = .ok (.getfield 146, 3) := by decide +kernel
theorem D297_4 : decode (mB 297) 4 = .ok (.iload_n 1, 1) := by decide +kernel
theorem D297_5 : decode (mB 297) 5 = .ok (.iload_n 2, 1) := by decide +kernel
theorem D297_6 : decode (mB 297) 6 = .ok (.invokestatic 252, 3) := by decide +kernel
theorem D297_9 : decode (mB 297) 9 = .ok (.istore_n 3, 1) := by decide +kernel
theorem D297_10 : decode (mB 297) 10 = .ok (.iload_n 3, 1) := by decide +kernel
theorem D297_11 : decode (mB 297) 11 = .ok (.ifCond .lt 19, 3) := by decide +kernel
theorem D297_14 : decode (mB 297) 14 = .ok (.iload_n 1, 1) := by decide +kernel
theorem D297_15 : decode (mB 297) 15 = .ok (.aload_n 0, 1) := by decide +kernel
theorem D297_16 : decode (mB 297) 16 = .ok (.getfield 146, 3) := by decide +kernel
theorem D297_19 : decode (mB 297) 19 = .ok (.iload_n 1, 1) := by decide +kernel
theorem D297_20 : decode (mB 297) 20 = .ok (.iconst 3, 1) := by decide +kernel
theorem D297_21 : decode (mB 297) 21 = .ok (.invokestatic 220, 3) := by decide +kernel
theorem D297_24 : decode (mB 297) 24 = .ok (.iload_n 3, 1) := by decide +kernel
theorem D297_25 : decode (mB 297) 25 = .ok (.iadd, 1) := by decide +kernel
theorem D297_26 : decode (mB 297) 26 = .ok (.invokestatic 239, 3) := by decide +kernel
theorem D297_29 : decode (mB 297) 29 = .ok (.ireturn, 1) := by decide +kernel
theorem D297_30 : decode (mB 297) 30 = .ok (.aload_n 0, 1) := by decide +kernel
theorem D297_31 : decode (mB 297) 31 = .ok (.getfield 146, 3) := by decide +kernel
theorem D297_34 : decode (mB 297) 34 = .ok (.iload_n 1, 1) := by decide +kernel
theorem D297_35 : decode (mB 297) 35 = .ok (.iload_n 2, 1) := by decide +kernel
theorem D297_36 : decode (mB 297) 36 = .ok (.invokestatic 255, 3) := by decide +kernel
theorem D297_39 : decode (mB 297) 39 = .ok (.istore 4, 2) := by decide +kernel
theorem D297_41 : decode (mB 297) 41 = .ok (.iload 4, 2) := by decide +kernel
theorem D297_43 : decode (mB 297) 43 = .ok (.ifCond .ge 5, 3) := by decide +kernel
theorem D297_46 : decode (mB 297) 46 = .ok (.iconst (-1), 1) := by decide +kernel
theorem D297_47 : decode (mB 297) 47 = .ok (.ireturn, 1) := by decide +kernel
theorem D297_48 : decode (mB 297) 48 = .ok (.iload 4, 2) := by decide +kernel
theorem D297_50 : decode (mB 297) 50 = .ok (.invokestatic 236, 3) := by decide +kernel
theorem D297_53 : decode (mB 297) 53 = .ok (.iconst 1, 1) := by decide +kernel
theorem D297_54 : decode (mB 297) 54 = .ok (.iadd, 1) := by decide +kernel
theorem D297_55 : decode (mB 297) 55 = .ok (.istore 5, 2) := by decide +kernel
theorem D297_57 : decode (mB 297) 57 = .ok (.aload_n 0, 1) := by decide +kernel
theorem D297_58 : decode (mB 297) 58 = .ok (.getfield 146, 3) := by decide +kernel
theorem D297_61 : decode (mB 297) 61 = .ok (.iload 5, 2) := by decide +kernel
theorem D297_63 : decode (mB 297) 63 = .ok (.iconst 0, 1) := by decide +kernel
theorem D297_64 : decode (mB 297) 64 = .ok (.iadd, 1) := by decide +kernel
theorem D297_65 : decode (mB 297) 65 = .ok (.iaload, 1) := by decide +kernel
theorem D297_66 : decode (mB 297) 66 = .ok (.iload_n 2, 1) := by decide +kernel
theorem D297_67 : decode (mB 297) 67 = .ok (.if_icmp .ne 8, 3) := by decide +kernel
theorem D297_70 : decode (mB 297) 70 = .ok (.iload 5, 2) := by decide +kernel
theorem D297_72 : decode (mB 297) 72 = .ok (.goto 11, 3) := by decide +kernel
theorem D297_75 : decode (mB 297) 75 = .ok (.iload 4, 2) := by decide +kernel
theorem D297_77 : decode (mB 297) 77 = .ok (.invokestatic 236, 3) := by decide +kernel
theorem D297_80 : decode (mB 297) 80 = .ok (.bipush 6, 2) := by decide +kernel
theorem D297_82 : decode (mB 297) 82 = .ok (.iadd, 1) := by decide +kernel
theorem D297_83 : decode (mB 297) 83 = .ok (.ireturn, 1) := by decide +kernel
theorem D298_0 : decode (mB 298) 0 = .ok (.aload_n 0, 1) := by decide +kernel
theorem D298_1 : decode (mB 298) 1 = .ok (.iload_n 1, 1) := by decide +kernel
theorem D298_2 : decode (mB 298) 2 = .ok (.iload_n 2, 1) := by decide +kernel
theorem D298_3 : decode (mB 298) 3 = .ok (.invokevirtual 430, 3) := by decide +kernel
theorem D298_6 : decode (mB 298) 6 = .ok (.istore 5, 2) := by decide +kernel
theorem D298_8 : decode (mB 298) 8 = .ok (.iload_n 3, 1) := by decide +kernel
theorem D298_9 : decode (mB 298) 9 = .ok (.tableswitch 79 0 2 #[27, 39, 59], 27) := by decide +kernel
theorem D298_36 : decode (mB 298) 36 = .ok (.iload_n 1, 1) := by decide +kernel
theorem D298_37 : decode (mB 298) 37 = .ok (.iload 4, 2) := by decide +kernel
theorem D298_39 : decode (mB 298) 39 = .ok (.if_icmp .ne 7, 3) := by decide +kernel
theorem D298_42 : decode (mB 298) 42 = .ok (.iconst 1, 1) := by decide +kernel
theorem D298_43 : decode (mB 298) 43 = .ok (.goto 4, 3) := by decide +kernel
theorem D298_46 : decode (mB 298) 46 = .ok (.iconst 0, 1) := by decide +kernel
theorem D298_47 : decode (mB 298) 47 = .ok (.ireturn, 1) := by decide +kernel
theorem D298_48 : decode (mB 298) 48 = .ok (.aload_n 0, 1) := by decide +kernel
theorem D298_49 : decode (mB 298) 49 = .ok (.getfield 146, 3) := by decide +kernel
theorem D298_52 : decode (mB 298) 52 = .ok (.iload 5, 2) := by decide +kernel
theorem D298_54 : decode (mB 298) 54 = .ok (.iconst 1, 1) := by decide +kernel
theorem D298_55 : decode (mB 298) 55 = .ok (.iadd, 1) := by decide +kernel
theorem D298_56 : decode (mB 298) 56 = .ok (.iaload, 1) := by decide +kernel
theorem D298_57 : decode (mB 298) 57 = .ok (.iload 4, 2) := by decide +kernel
theorem D298_59 : decode (mB 298) 59 = .ok (.if_icmp .ne 7, 3) := by decide +kernel
theorem D298_62 : decode (mB 298) 62 = .ok (.iconst 1, 1) := by decide +kernel
theorem D298_63 : decode (mB 298) 63 = .ok (.goto 4, 3) := by decide +kernel
theorem D298_66 : decode (mB 298) 66 = .ok (.iconst 0, 1) := by decide +kernel
theorem D298_67 : decode (mB 298) 67 = .ok (.ireturn, 1) := by decide +kernel
theorem D298_68 : decode (mB 298) 68 = .ok (.aload_n 0, 1) := by decide +kernel
theorem D298_69 : decode (mB 298) 69 = .ok (.getfield 146, 3) := by decide +kernel
theorem D298_72 : decode (mB 298) 72 = .ok (.iload 5, 2) := by decide +kernel
theorem D298_74 : decode (mB 298) 74 = .ok (.iconst 2, 1) := by decide +kernel
theorem D298_75 : decode (mB 298) 75 = .ok (.iadd, 1) := by decide +kernel
theorem D298_76 : decode (mB 298) 76 = .ok (.iaload, 1) := by decide +kernel
theorem D298_77 : decode (mB 298) 77 = .ok (.iload 4, 2) := by decide +kernel
theorem D298_79 : decode (mB 298) 79 = .ok (.if_icmp .ne 7, 3) := by decide +kernel
theorem D298_82 : decode (mB 298) 82 = .ok (.iconst 1, 1) := by decide +kernel
theorem D298_83 : decode (mB 298) 83 = .ok (.goto 4, 3) := by decide +kernel
theorem D298_86 : decode (mB 298) 86 = .ok (.iconst 0, 1) := by decide +kernel
theorem D298_87 : decode (mB 298) 87 = .ok (.ireturn, 1) := by decide +kernel
theorem D298_88 : decode (mB 298) 88 = .ok (.iload 5, 2) := by decide +kernel
theorem D298_90 : decode (mB 298) 90 = .ok (.sipush 445, 3) := by decide +kernel
theorem D298_93 : decode (mB 298) 93 = .ok (.if_icmp .lt 7, 3) := by decide +kernel
theorem D298_96 : decode (mB 298) 96 = .ok (.iconst 1, 1) := by decide +kernel
theorem D298_97 : decode (mB 298) 97 = .ok (.goto 4, 3) := by decide +kernel
theorem D298_100 : decode (mB 298) 100 = .ok (.iconst 0, 1) := by decide +kernel
theorem D298_101 : decode (mB 298) 101 = .ok (.invokestatic 40, 3) := by decide +kernel
theorem D298_104 : decode (mB 298) 104 = .ok (.iload 4, 2) := by decide +kernel
theorem D298_106 : decode (mB 298) 106 = .ok (.if_icmp .ne 7, 3) := by decide +kernel
theorem D298_109 : decode (mB 298) 109 = .ok (.iconst 1, 1) := by decide +kernel
theorem D298_110 : decode (mB 298) 110 = .ok (.goto 4, 3) := by decide +kernel
theorem D298_113 : decode (mB 298) 113 = .ok (.iconst 0, 1) := by decide +kernel
theorem D298_114 : decode (mB 298) 114 = .ok (.ireturn, 1) := by decide +kernel
theorem D299_0 : decode (mB 299) 0 = .ok (.aload_n 0, 1) := by decide +kernel
theorem D299_1 : decode (mB 299) 1 = .ok (.iconst 0, 1) := by decide +kernel
theorem D299_2 : decode (mB 299) 2 = .ok (.putfield 3, 3) := by decide +kernel
theorem D299_5 : decode (mB 299) 5 = .ok (.iconst 0, 1) := by decide +kernel
theorem D299_6 : decode (mB 299) 6 = .ok (.istore_n 1, 1) := by decide +kernel
theorem D299_7 : decode (mB 299) 7 = .ok (.iconst 0, 1) := by decide +kernel
theorem D299_8 : decode (mB 299) 8 = .ok (.istore_n 2, 1) := by decide +kernel
theorem D299_9 : decode (mB 299) 9 = .ok (.iload_n 2, 1) := by decide +kernel
theorem D299_10 : decode (mB 299) 10 = .ok (.aload_n 0, 1) := by decide +kernel
theorem D299_11 : decode (mB 299) 11 = .ok (.getfield 198, 3) := by decide +kernel
theorem D299_14 : decode (mB 299) 14 = .ok (.if_icmp .ge 35, 3) := by decide +kernel
theorem D299_17 : decode (mB 299) 17 = .ok (.iconst 0, 1) := by decide +kernel
theorem D299_18 : decode (mB 299) 18 = .ok (.istore_n 3, 1) := by decide +kernel
theorem D299_19 : decode (mB 299) 19 = .ok (.iload_n 3, 1) := by decide +kernel
theorem D299_20 : decode (mB 299) 20 = .ok (.bipush 16, 2) := by decide +kernel
theorem D299_22 : decode (mB 299) 22 = .ok (.if_icmp .ge 21, 3) := by decide +kernel
theorem D299_25 : decode (mB 299) 25 = .ok (.iload_n 1, 1) := by decide +kernel
theorem D299_26 : decode (mB 299) 26 = .ok (.aload_n 0, 1) := by decide +kernel
theorem D299_27 : decode (mB 299) 27 = .ok (.iload_n 2, 1) := by decide +kernel
theorem D299_28 : decode (mB 299) 28 = .ok (.iload_n 3, 1) := by decide +kernel
theorem D299_29 : decode (mB 299) 29 = .ok (.invokevirtual 437, 3) := by decide +kernel
theorem D299_32 : decode (mB 299) 32 = .ok (.invokestatic 40, 3) := by decide +kernel
theorem D299_35 : decode (mB 299) 35 = .ok (.iadd, 1) := by decide +kernel
theorem D299_36 : decode (mB 299) 36 = .ok (.istore_n 1, 1) := by decide +kernel
theorem D299_37 : decode (mB 299) 37 = .ok (.iinc 3 1, 3) := by decide +kernel
theorem D299_40 : decode (mB 299) 40 = .ok (.goto (-21), 3) := by decide +kernel
theorem D299_43 : decode (mB 299) 43 = .ok (.iinc 2 1, 3) := by decide +kernel
theorem D299_46 : decode (mB 299) 46 = .ok (.goto (-37), 3) := by decide +kernel
theorem D299_49 : decode (mB 299) 49 = .ok (.iload_n 1, 1) := by decide +kernel
theorem D299_50 : decode (mB 299) 50 = .ok (.ifCond .ne 6, 3) := by decide +kernel
theorem D299_53 : decode (mB 299) 53 = .ok (.bipush (-2), 2) := by decide +kernel
theorem D299_55 : decode (mB 299) 55 = .ok (.ireturn, 1) := by decide +kernel
theorem D299_56 : decode (mB 299) 56 = .ok (.iconst (-1), 1) := by decide +kernel
theorem D299_57 : decode (mB 299) 57 = .ok (.istore_n 2, 1) := by decide +kernel
theorem D299_58 : decode (mB 299) 58 = .ok (.ldc_w 441, 3) := by decide +kernel
theorem D299_61 : decode (mB 299) 61 = .ok (.istore_n 3, 1) := by decide +kernel
theorem D299_62 : decode (mB 299) 62 = .ok (.iconst 0, 1) := by decide +kernel
theorem D299_63 : decode (mB 299) 63 = .ok (.istore 4, 2) := by decide +kernel
theorem D299_65 : decode (mB 299) 65 = .ok (.iload 4, 2) := by decide +kernel
theorem D299_67 : decode (mB 299) 67 = .ok (.iconst 4, 1) := by decide +kernel
theorem D299_68 : decode (mB 299) 68 = .ok (.if_icmp .ge 75, 3) := by decide +kernel
theorem D299_71 : decode (mB 299) 71 = .ok (.iconst 0, 1) := by decide +kernel
theorem D299_72 : decode (mB 299) 72 = .ok (.istore 5, 2) := by decide +kernel
theorem D299_74 : decode (mB 299) 74 = .ok (.iload 5, 2) := by decide +kernel
theorem D299_76 : decode (mB 299) 76 = .ok (.iload 4, 2) := by decide +kernel
theorem D299_78 : decode (mB 299) 78 = .ok (.invokestatic 424, 3) := by decide +kernel
theorem D299_81 : decode (mB 299) 81 = .ok (.if_icmp .gt 56, 3) := by decide +kernel
theorem D299_84 : decode (mB 299) 84 = .ok (.aload_n 0, 1) := by decide +kernel
theorem D299_85 : decode (mB 299) 85 = .ok (.iload 4, 2) := by decide +kernel
theorem D299_87 : decode (mB 299) 87 = .ok (.iload 5, 2) := by decide +kernel
theorem D299_89 : decode (mB 299) 89 = .ok (.invokevirtual 442, 3) := by decide +kernel
theorem D299_92 : decode (mB 299) 92 = .ok (.istore 6, 2) := by decide +kernel
theorem D299_94 : decode (mB 299) 94 = .ok (.iload 6, 2) := by decide +kernel
theorem D299_96 : decode (mB 299) 96 = .ok (.iload_n 1, 1) := by decide +kernel
theorem D299_97 : decode (mB 299) 97 = .ok (.iload 6, 2) := by decide +kernel
theorem D299_99 : decode (mB 299) 99 = .ok (.isub, 1) := by decide +kernel
theorem D299_100 : decode (mB 299) 100 = .ok (.invokestatic 226, 3) := by decide +kernel
theorem D299_103 : decode (mB 299) 103 = .ok (.istore 7, 2) := by decide +kernel
theorem D299_105 : decode (mB 299) 105 = .ok (.iload 7, 2) := by decide +kernel
theorem D299_107 : decode (mB 299) 107 = .ok (.iload_n 3, 1) := by decide +kernel
theorem D299_108 : decode (mB 299) 108 = .ok (.if_icmp .ge 14, 3) := by decide +kernel
theorem D299_111 : decode (mB 299) 111 = .ok (.bipush 10, 2) := by decide +kernel
theorem D299_113 : decode (mB 299) 113 = .ok (.iload 4, 2) := by decide +kernel
theorem D299_115 : decode (mB 299) 115 = .ok (.imul, 1) := by decide +kernel
theorem D299_116 : decode (mB 299) 116 = .ok (.iload 5, 2) := by decide +kernel
theorem D299_118 : decode (mB 299) 118 = .ok (.iadd, 1) := by decide +kernel
theorem D299_119 : decode (mB 299) 119 = .ok (.goto 4, 3) := by decide +kernel
theorem D299_122 : decode (mB 299) 122 = .ok (.iload_n 2, 1) := by decide +kernel
theorem D299_123 : decode (mB 299) 123 = .ok (.istore_n 2, 1) := by decide +kernel
theorem D299_124 : decode (mB 299) 124 = .ok (.iload_n 3, 1) := by decide +kernel
theorem D299_125 : decode (mB 299) 125 = .ok (.iload 7, 2) := by decide +kernel
theorem D299_127 : decode (mB 299) 127 = .ok (.invokestatic 31, 3) := by decide +kernel
theorem D299_130 : decode (mB 299) 130 = .ok (.istore_n 3, 1) := by decide +kernel
theorem D299_131 : decode (mB 299) 131 = .ok (.iinc 5 1, 3) := by decide +kernel
theorem D299_134 : decode (mB 299) 134 = .ok (.goto (-60), 3) := by decide +kernel
theorem D299_137 : decode (mB 299) 137 = .ok (.iinc 4 1, 3) := by decide +kernel
theorem D299_140 : decode (mB 299) 140 = .ok (.goto (-75), 3) := by decide +kernel
theorem D299_143 : decode (mB 299) 143 = .ok (.aload_n 0, 1) := by decide +kernel
theorem D299_144 : decode (mB 299) 144 = .ok (.iconst 0, 1) := by decide +kernel
theorem D299_145 : decode (mB 299) 145 = .ok (.putfield 11, 3) := by decide +kernel
theorem D299_148 : decode (mB 299) 148 = .ok (.aload_n 0, 1) := by decide +kernel
theorem D299_149 : decode (mB 299) 149 = .ok (.iload_n 3, 1) := by decide +kernel
theorem D299_150 : decode (mB 299) 150 = .ok (.i2l, 1) := by decide +kernel
theorem D299_151 : decode (mB 299) 151 = .ok (.invokevirtual 345, 3) := by decide +kernel
theorem D299_154 : decode (mB 299) 154 = .ok (.iload_n 2, 1) := by decide +kernel
theorem D299_155 : decode (mB 299) 155 = .ok (.ireturn, 1) := by decide +kernel
theorem D300_0 : decode (mB 300) 0 = .ok (.iconst 0, 1) := by decide +kernel
theorem D300_1 : decode (mB 300) 1 = .ok (.istore_n 3, 1) := by decide +kernel
theorem D300_2 : decode (mB 300) 2 = .ok (.iconst 0, 1) := by decide +kernel
theorem D300_3 : decode (mB 300) 3 = .ok (.istore 4, 2) := by decide +kernel
theorem D300_5 : decode (mB 300) 5 = .ok (.iload 4, 2) := by decide +kernel
theorem D300_7 : decode (mB 300) 7 = .ok (.aload_n 0, 1) := by decide +kernel
theorem D300_8 : decode (mB 300) 8 = .ok (.getfield 198, 3) := by decide +kernel
theorem D300_11 : decode (mB 300) 11 = .ok (.if_icmp .ge 60, 3) := by decide +kernel
theorem D300_14 : decode (mB 300) 14 = .ok (.iconst 0, 1) := by decide +kernel
theorem D300_15 : decode (mB 300) 15 = .ok (.istore 5, 2) := by decide +kernel
theorem D300_17 : decode (mB 300) 17 = .ok (.iload 5, 2) := by decide +kernel
theorem D300_19 : decode (mB 300) 19 = .ok (.bipush 16, 2) := by decide +kernel
theorem D300_21 : decode (mB 300) 21 = .ok (.if_icmp .ge 44, 3) := by decide +kernel
theorem D300_24 : decode (mB 300) 24 = .ok (.iload_n 3, 1) := by decide +kernel
theorem D300_25 : decode (mB 300) 25 = .ok (.aload_n 0, 1) := by decide +kernel
theorem D300_26 : decode (mB 300) 26 = .ok (.iload 4, 2) := by decide +kernel
theorem D300_28 : decode (mB 300) 28 = .ok (.iload 5, 2) := by decide +kernel
theorem D300_30 : decode (mB 300) 30 = .ok (.invokevirtual 437, 3) := by decide +kernel
theorem D300_33 : decode (mB 300) 33 = .ok (.ifCond .eq 20, 3) := by decide +kernel
theorem D300_36 : decode (mB 300) 36 = .ok (.aload_n 0, 1) := by decide +kernel
theorem D300_37 : decode (mB 300) 37 = .ok (.iload 4, 2) := by decide +kernel
theorem D300_39 : decode (mB 300) 39 = .ok (.iload 5, 2) := by decide +kernel
theorem D300_41 : decode (mB 300) 41 = .ok (.iload_n 1, 1) := by decide +kernel
theorem D300_42 : decode (mB 300) 42 = .ok (.iload_n 2, 1) := by decide +kernel
theorem D300_43 : decode (mB 300) 43 = .ok (.invokevirtual 433, 3) := by decide +kernel
theorem D300_46 : decode (mB 300) 46 = .ok (.ifCond .eq 7, 3) := by decide +kernel
theorem D300_49 : decode (mB 300) 49 = .ok (.iconst 1, 1) := by decide +kernel
theorem D300_50 : decode (mB 300) 50 = .ok (.goto 4, 3) := by decide +kernel
theorem D300_53 : decode (mB 300) 53 = .ok (.iconst 0, 1) := by decide +kernel
theorem D300_54 : decode (mB 300) 54 = .ok (.invokestatic 40, 3) := by decide +kernel
theorem D300_57 : decode (mB 300) 57 = .ok (.iadd, 1) := by decide +kernel
theorem D300_58 : decode (mB 300) 58 = .ok (.istore_n 3, 1) := by decide +kernel
theorem D300_59 : decode (mB 300) 59 = .ok (.iinc 5 1, 3) := by decide +kernel
theorem D300_62 : decode (mB 300) 62 = .ok (.goto (-45), 3) := by decide +kernel
theorem D300_65 : decode (mB 300) 65 = .ok (.iinc 4 1, 3) := by decide +kernel
theorem D300_68 : decode (mB 300) 68 = .ok (.goto (-63), 3) := by decide +kernel
theorem D300_71 : decode (mB 300) 71 = .ok (.iload_n 3, 1) := by decide +kernel
theorem D300_72 : decode (mB 300) 72 = .ok (.ireturn, 1) := by decide +kernel
theorem D301_0 : decode (mB 301) 0 = .ok (.aload_n 0, 1) := by decide +kernel
theorem D301_1 : decode (mB 301) 1 = .ok (.iconst 0, 1) := by decide +kernel
theorem D301_2 : decode (mB 301) 2 = .ok (.putfield 3, 3) := by decide +kernel
theorem D301_5 : decode (mB 301) 5 = .ok (.iload_n 1, 1) := by decide +kernel
theorem D301_6 : decode (mB 301) 6 = .ok (.i2l, 1) := by decide +kernel
theorem D301_7 : decode (mB 301) 7 = .ok (.ldc2_w 445, 3) := by decide +kernel
theorem D301_10 : decode (mB 301) 10 = .ok (.ldc2_w 447, 3) := by decide +kernel
theorem D301_13 : decode (mB 301) 13 = .ok (.invokestatic 21, 3) := by decide +kernel
theorem D301_16 : decode (mB 301) 16 = .ok (.ifCond .eq 28, 3) := by decide +kernel
theorem D301_19 : decode (mB 301) 19 = .ok (.iload_n 2, 1) := by decide +kernel
theorem D301_20 : decode (mB 301) 20 = .ok (.i2l, 1) := by decide +kernel
theorem D301_21 : decode (mB 301) 21 = .ok (.lconst 0, 1) := by decide +kernel
theorem D301_22 : decode (mB 301) 22 = .ok (.iload_n 1, 1) := by decide +kernel
theorem D301_23 : decode (mB 301) 23 = .ok (.iconst 1, 1) := by decide +kernel
theorem D301_24 : decode (mB 301) 24 = .ok (.isub, 1) := by decide +kernel
theorem D301_25 : decode (mB 301) 25 = .ok (.i2l, 1) := by decide +kernel
theorem D301_26 : decode (mB 301) 26 = .ok (.invokestatic 21, 3) := by decide +kernel
theorem D301_29 : decode (mB 301) 29 = .ok (.ifCond .eq 15, 3) := by decide +kernel
theorem D301_32 : decode (mB 301) 32 = .ok (.iload_n 3, 1) := by decide +kernel
theorem D301_33 : decode (mB 301) 33 = .ok (.i2l, 1) := by decide +kernel
theorem D301_34 : decode (mB 301) 34 = .ok (.lconst 1, 1) := by decide +kernel
theorem D301_35 : decode (mB 301) 35 = .ok (.ldc2_w 270, 3) := by decide +kernel
theorem D301_38 : decode (mB 301) 38 = .ok (.invokestatic 21, 3) := by decide +kernel
theorem D301_41 : decode (mB 301) 41 = .ok (.ifCond .ne 5, 3) := by decide +kernel
theorem D301_44 : decode (mB 301) 44 = .ok (.iconst (-1), 1) := by decide +kernel
theorem D301_45 : decode (mB 301) 45 = .ok (.ireturn, 1) := by decide +kernel
theorem D301_46 : decode (mB 301) 46 = .ok (.iload_n 1, 1) := by decide +kernel
theorem D301_47 : decode (mB 301) 47 = .ok (.iconst 1, 1) := by decide +kernel
theorem D301_48 : decode (mB 301) 48 = .ok (.isub, 1) := by decide +kernel
theorem D301_49 : decode (mB 301) 49 = .ok (.istore 4, 2) := by decide +kernel
theorem D301_51 : decode (mB 301) 51 = .ok (.iload 4, 2) := by decide +kernel
theorem D301_53 : decode (mB 301) 53 = .ok (.ifCond .lt 72, 3) := by decide +kernel
theorem D301_56 : decode (mB 301) 56 = .ok (.aload_n 0, 1) := by decide +kernel
theorem D301_57 : decode (mB 301) 57 = .ok (.getfield 182, 3) := by decide +kernel
theorem D301_60 : decode (mB 301) 60 = .ok (.iload 4, 2) := by decide +kernel
theorem D301_62 : decode (mB 301) 62 = .ok (.iconst 0, 1) := by decide +kernel
theorem D301_63 : decode (mB 301) 63 = .ok (.iastore, 1) := by decide +kernel
theorem D301_64 : decode (mB 301) 64 = .ok (.iload_n 3, 1) := by decide +kernel
theorem D301_65 : decode (mB 301) 65 = .ok (.iload_n 1, 1) := by decide +kernel
theorem D301_66 : decode (mB 301) 66 = .ok (.iconst 1, 1) := by decide +kernel
theorem D301_67 : decode (mB 301) 67 = .ok (.isub, 1) := by decide +kernel
theorem D301_68 : decode (mB 301) 68 = .ok (.iload 4, 2) := by decide +kernel
theorem D301_70 : decode (mB 301) 70 = .ok (.isub, 1) := by decide +kernel
theorem D301_71 : decode (mB 301) 71 = .ok (.invokestatic 31, 3) := by decide +kernel
theorem D301_74 : decode (mB 301) 74 = .ok (.istore 5, 2) := by decide +kernel
theorem D301_76 : decode (mB 301) 76 = .ok (.iload 5, 2) := by decide +kernel
theorem D301_78 : decode (mB 301) 78 = .ok (.ifCond .le 41, 3) := by decide +kernel
theorem D301_81 : decode (mB 301) 81 = .ok (.aload_n 0, 1) := by decide +kernel
theorem D301_82 : decode (mB 301) 82 = .ok (.getfield 182, 3) := by decide +kernel
theorem D301_85 : decode (mB 301) 85 = .ok (.iload 4, 2) := by decide +kernel
theorem D301_87 : decode (mB 301) 87 = .ok (.aload_n 0, 1) := by decide +kernel
theorem D301_88 : decode (mB 301) 88 = .ok (.getfield 182, 3) := by decide +kernel
theorem D301_91 : decode (mB 301) 91 = .ok (.iload 4, 2) := by decide +kernel
theorem D301_93 : decode (mB 301) 93 = .ok (.iload 5, 2) := by decide +kernel
theorem D301_95 : decode (mB 301) 95 = .ok (.iadd, 1) := by decide +kernel
theorem D301_96 : decode (mB 301) 96 = .ok (.iaload, 1) := by decide +kernel
theorem D301_97 : decode (mB 301) 97 = .ok (.ifCond .ne 8, 3) := by decide +kernel
theorem D301_100 : decode (mB 301) 100 = .ok (.iload 5, 2) := by decide +kernel
theorem D301_102 : decode (mB 301) 102 = .ok (.goto 10, 3) := by decide +kernel
theorem D301_105 : decode (mB 301) 105 = .ok (.aload_n 0, 1) := by decide +kernel
theorem D301_106 : decode (mB 301) 106 = .ok (.getfield 182, 3) := by decide +kernel
theorem D301_109 : decode (mB 301) 109 = .ok (.iload 4, 2) := by decide +kernel
theorem D301_111 : decode (mB 301) 111 = .ok (.iaload, 1) := by decide +kernel
theorem D301_112 : decode (mB 301) 112 = .ok (.iastore, 1) := by decide +kernel
theorem D301_113 : decode (mB 301) 113 = .ok (.iinc 5 (-1), 3) := by decide +kernel
theorem D301_116 : decode (mB 301) 116 = .ok (.goto (-40), 3) := by decide +kernel
theorem D301_119 : decode (mB 301) 119 = .ok (.iinc 4 (-1), 3) := by decide +kernel
theorem D301_122 : decode (mB 301) 122 = .ok (.goto (-71), 3) := by decide +kernel
theorem D301_125 : decode (mB 301) 125 = .ok (.aload_n 0, 1) := by decide +kernel
theorem D301_126 : decode (mB 301) 126 = .ok (.getfield 182, 3) := by decide +kernel
theorem D301_129 : decode (mB 301) 129 = .ok (.iload_n 2, 1) := by decide +kernel
theorem D301_130 : decode (mB 301) 130 = .ok (.iaload, 1) := by decide +kernel
theorem D301_131 : decode (mB 301) 131 = .ok (.ireturn, 1) := by decide +kernel
theorem D302_0 : decode (mB 302) 0 = .ok (.aload_n 0, 1) := by decide +kernel
theorem D302_1 : decode (mB 302) 1 = .ok (.iconst 0, 1) := by decide +kernel
theorem D302_2 : decode (mB 302) 2 = .ok (.putfield 3, 3) := by decide +kernel
theorem D302_5 : decode (mB 302) 5 = .ok (.aload_n 0, 1) := by decide +kernel
theorem D302_6 : decode (mB 302) 6 = .ok (.invokevirtual 111, 3) := by decide +kernel
theorem D302_9 : decode (mB 302) 9 = .ok (.istore_n 1, 1) := by decide +kernel
theorem D302_10 : decode (mB 302) 10 = .ok (.iload_n 1, 1) := by decide +kernel
theorem D302_11 : decode (mB 302) 11 = .ok (.ifCond .ge 11, 3) := by decide +kernel
theorem D302_14 : decode (mB 302) 14 = .ok (.iload_n 1, 1) := by decide +kernel
theorem D302_15 : decode (mB 302) 15 = .ok (.iconst 1, 1) := by decide +kernel
theorem D302_16 : decode (mB 302) 16 = .ok (.iadd, 1) := by decide +kernel
theorem D302_17 : decode (mB 302) 17 = .ok (.sipush 1000, 3) := by decide +kernel
theorem D302_20 : decode (mB 302) 20 = .ok (.isub, 1) := by decide +kernel
theorem D302_21 : decode (mB 302) 21 = .ok (.ireturn, 1) := by decide +kernel
theorem D302_22 : decode (mB 302) 22 = .ok (.aload_n 0, 1) := by decide +kernel
theorem D302_23 : decode (mB 302) 23 = .ok (.invokevirtual 449, 3) := by decide +kernel
theorem D302_26 : decode (mB 302) 26 = .ok (.istore_n 2, 1) := by decide +kernel
theorem D302_27 : decode (mB 302) 27 = .ok (.aload_n 0, 1) := by decide +kernel
theorem D302_28 : decode (mB 302) 28 = .ok (.getfield 105, 3) := by decide +kernel
theorem D302_31 : decode (mB 302) 31 = .ok (.istore_n 3, 1) := by decide +kernel
theorem D302_32 : decode (mB 302) 32 = .ok (.iconst 0, 1) := by decide +kernel
theorem D302_33 : decode (mB 302) 33 = .ok (.istore 4, 2) := by decide +kernel
theorem D302_35 : decode (mB 302) 35 = .ok (.iload 4, 2) := by decide +kernel
theorem D302_37 : decode (mB 302) 37 = .ok (.aload_n 0, 1) := by decide +kernel
theorem D302_38 : decode (mB 302) 38 = .ok (.getfield 105, 3) := by decide +kernel
theorem D302_41 : decode (mB 302) 41 = .ok (.if_icmp .ge 23, 3) := by decide +kernel
theorem D302_44 : decode (mB 302) 44 = .ok (.aload_n 0, 1) := by decide +kernel
theorem D302_45 : decode (mB 302) 45 = .ok (.getfield 185, 3) := by decide +kernel
theorem D302_48 : decode (mB 302) 48 = .ok (.iload 4, 2) := by decide +kernel
theorem D302_50 : decode (mB 302) 50 = .ok (.aload_n 0, 1) := by decide +kernel
theorem D302_51 : decode (mB 302) 51 = .ok (.getfield 108, 3) := by decide +kernel
theorem D302_54 : decode (mB 302) 54 = .ok (.iload 4, 2) := by decide +kernel
theorem D302_56 : decode (mB 302) 56 = .ok (.iaload, 1) := by decide +kernel
theorem D302_57 : decode (mB 302) 57 = .ok (.iastore, 1) := by decide +kernel
theorem D302_58 : decode (mB 302) 58 = .ok (.iinc 4 1, 3) := by decide +kernel
theorem D302_61 : decode (mB 302) 61 = .ok (.goto (-26), 3) := by decide +kernel
theorem D302_64 : decode (mB 302) 64 = .ok (.aload_n 0, 1) := by decide +kernel
theorem D302_65 : decode (mB 302) 65 = .ok (.aload_n 0, 1) := by decide +kernel
theorem D302_66 : decode (mB 302) 66 = .ok (.getfield 66, 3) := by decide +kernel
theorem D302_69 : decode (mB 302) 69 = .ok (.aload_n 0, 1) := by decide +kernel
theorem D302_70 : decode (mB 302) 70 = .ok (.getfield 69, 3) := by decide +kernel
theorem D302_73 : decode (mB 302) 73 = .ok (.invokevirtual 114, 3) := by decide +kernel
theorem D302_76 : decode (mB 302) 76 = .ok (.aload_n 0, 1) := by decide +kernel
theorem D302_77 : decode (mB 302) 77 = .ok (.invokevirtual 449, 3) := by decide +kernel
theorem D302_80 : decode (mB 302) 80 = .ok (.istore 4, 2) := by decide +kernel
theorem D302_82 : decode (mB 302) 82 = .ok (.aload_n 0, 1) := by decide +kernel
theorem D302_83 : decode (mB 302) 83 = .ok (.aload_n 0, 1) := by decide +kernel
theorem D302_84 : decode (mB 302) 84 = .ok (.getfield 185, 3) := by decide +kernel
theorem D302_87 : decode (mB 302) 87 = .ok (.iload_n 3, 1) := by decide +kernel
theorem D302_88 : decode (mB 302) 88 = .ok (.invokevirtual 114, 3) := by decide +kernel
theorem D302_91 : decode (mB 302) 91 = .ok (.aload_n 0, 1) := by decide +kernel
theorem D302_92 : decode (mB 302) 92 = .ok (.iconst 0, 1) := by decide +kernel
theorem D302_93 : decode (mB 302) 93 = .ok (.putfield 11, 3) := by decide +kernel
theorem D302_96 : decode (mB 302) 96 = .ok (.aload_n 0, 1) := by decide +kernel
theorem D302_97 : decode (mB 302) 97 = .ok (.iload 4, 2) := by decide +kernel
theorem D302_99 : decode (mB 302) 99 = .ok (.i2l, 1) := by decide +kernel
theorem D302_100 : decode (mB 302) 100 = .ok (.invokevirtual 345, 3) := by decide +kernel
theorem D302_103 : decode (mB 302) 103 = .ok (.aload_n 0, 1) := by decide +kernel
theorem D302_104 : decode (mB 302) 104 = .ok (.iload_n 2, 1) := by decide +kernel
theorem D302_105 : decode (mB 302) 105 = .ok (.i2l, 1) := by decide +kernel
theorem D302_106 : decode (mB 302) 106 = .ok (.invokevirtual 345, 3) := by decide +kernel
theorem D302_109 : decode (mB 302) 109 = .ok (.iload 4, 2) := by decide +kernel
theorem D302_111 : decode (mB 302) 111 = .ok (.iload_n 2, 1) := by decide +kernel
theorem D302_112 : decode (mB 302) 112 = .ok (.isub, 1) := by decide +kernel
theorem D302_113 : decode (mB 302) 113 = .ok (.ireturn, 1) := by decide +kernel
theorem D303_0 : decode (mB 303) 0 = .ok (.aload_n 0, 1) := by decide +kernel
theorem D303_1 : decode (mB 303) 1 = .ok (.invokevirtual 409, 3) := by decide +kernel
theorem D303_4 : decode (mB 303) 4 = .ok (.aload_n 0, 1) := by decide +kernel
theorem D303_5 : decode (mB 303) 5 = .ok (.aload_n 0, 1) := by decide +kernel
theorem D303_6 : decode (mB 303) 6 = .ok (.getfield 149, 3) := by decide +kernel
theorem D303_9 : decode (mB 303) 9 = .ok (.invokevirtual 421, 3) := by decide +kernel
theorem D303_12 : decode (mB 303) 12 = .ok (.istore_n 1, 1) := by decide +kernel
theorem D303_13 : decode (mB 303) 13 = .ok (.iload_n 1, 1) := by decide +kernel
theorem D303_14 : decode (mB 303) 14 = .ok (.ifCond .ge 8, 3) := by decide +kernel
theorem D303_17 : decode (mB 303) 17 = .ok (.bipush 100, 2) := by decide +kernel
theorem D303_19 : decode (mB 303) 19 = .ok (.goto 4, 3) := by decide +kernel
theorem D303_22 : decode (mB 303) 22 = .ok (.iload_n 1, 1) := by decide +kernel
theorem D303_23 : decode (mB 303) 23 = .ok (.ireturn, 1) := by decide +kernel
theorem D304_0 : decode (mB 304) 0 = .ok (.aload_n 0, 1) := by decide +kernel
theorem D304_1 : decode (mB 304) 1 = .ok (.iconst 0, 1) := by decide +kernel
theorem D304_2 : decode (mB 304) 2 = .ok (.putfield 3, 3) := by decide +kernel
theorem D304_5 : decode (mB 304) 5 = .ok (.iload_n 2, 1) := by decide +kernel
theorem D304_6 : decode (mB 304) 6 = .ok (.i2l, 1) := by decide +kernel
theorem D304_7 : decode (mB 304) 7 = .ok (.lconst 1, 1) := by decide +kernel
theorem D304_8 : decode (mB 304) 8 = .ok (.ldc2_w 447, 3) := by decide +kernel
theorem D304_11 : decode (mB 304) 11 = .ok (.invokestatic 21, 3) := by decide +kernel
theorem D304_14 : decode (mB 304) 14 = .ok (.ifCond .ne 5, 3) := by decide +kernel
theorem D304_17 : decode (mB 304) 17 = .ok (.iconst (-1), 1) := by decide +kernel
theorem D304_18 : decode (mB 304) 18 = .ok (.ireturn, 1) := by decide +kernel
theorem D304_19 : decode (mB 304) 19 = .ok (.aload_n 0, 1) := by decide +kernel
theorem D304_20 : decode (mB 304) 20 = .ok (.iload_n 1, 1) := by decide +kernel
theorem D304_21 : decode (mB 304) 21 = .ok (.putfield 452, 3) := by decide +kernel
theorem D304_24 : decode (mB 304) 24 = .ok (.aload_n 0, 1) := by decide +kernel
theorem D304_25 : decode (mB 304) 25 = .ok (.invokevirtual 409, 3) := by decide +kernel
theorem D304_28 : decode (mB 304) 28 = .ok (.iconst 0, 1) := by decide +kernel
theorem D304_29 : decode (mB 304) 29 = .ok (.istore_n 3, 1) := by decide +kernel
theorem D304_30 : decode (mB 304) 30 = .ok (.iconst 0, 1) := by decide +kernel
theorem D304_31 : decode (mB 304) 31 = .ok (.istore 4, 2) := by decide +kernel
theorem D304_33 : decode (mB 304) 33 = .ok (.iload 4, 2) := by decide +kernel
theorem D304_35 : decode (mB 304) 35 = .ok (.iload_n 2, 1) := by decide +kernel
theorem D304_36 : decode (mB 304) 36 = .ok (.if_icmp .ge 44, 3) := by decide +kernel
theorem D304_39 : decode (mB 304) 39 = .ok (.aload_n 0, 1) := by decide +kernel
theorem D304_40 : decode (mB 304) 40 = .ok (.bipush 6, 2) := by decide +kernel
theorem D304_42 : decode (mB 304) 42 = .ok (.invokevirtual 456, 3) := by decide +kernel
theorem D304_45 : decode (mB 304) 45 = .ok (.istore 5, 2) := by decide +kernel
theorem D304_47 : decode (mB 304) 47 = .ok (.aload_n 0, 1) := by decide +kernel
theorem D304_48 : decode (mB 304) 48 = .ok (.getfield 198, 3) := by decide +kernel
theorem D304_51 : decode (mB 304) 51 = .ok (.ifCond .le 23, 3) := by decide +kernel
theorem D304_54 : decode (mB 304) 54 = .ok (.iload_n 3, 1) := by decide +kernel
theorem D304_55 : decode (mB 304) 55 = .ok (.aload_n 0, 1) := by decide +kernel
theorem D304_56 : decode (mB 304) 56 = .ok (.iload 5, 2) := by decide +kernel
theorem D304_58 : decode (mB 304) 58 = .ok (.aload_n 0, 1) := by decide +kernel
theorem D304_59 : decode (mB 304) 59 = .ok (.aload_n 0, 1) := by decide +kernel
theorem D304_60 : decode (mB 304) 60 = .ok (.getfield 198, 3) := by decide +kernel
theorem D304_63 : decode (mB 304) 63 = .ok (.invokevirtual 456, 3) := by decide +kernel
theorem D304_66 : decode (mB 304) 66 = .ok (.invokevirtual 459, 3) := by decide +kernel
theorem D304_69 : decode (mB 304) 69 = .ok (.invokestatic 40, 3) := by decide +kernel
theorem D304_72 : decode (mB 304) 72 = .ok (.iadd, 1) := by decide +kernel
theorem D304_73 : decode (mB 304) 73 = .ok (.istore_n 3, 1) := by decide +kernel
theorem D304_74 : decode (mB 304) 74 = .ok (.iinc 4 1, 3) := by decide +kernel
theorem D304_77 : decode (mB 304) 77 = .ok (.goto (-44), 3) := by decide +kernel
theorem D304_80 : decode (mB 304) 80 = .ok (.aload_n 0, 1) := by decide +kernel
theorem D304_81 : decode (mB 304) 81 = .ok (.iconst 0, 1) := by decide +kernel
theorem D304_82 : decode (mB 304) 82 = .ok (.putfield 11, 3) := by decide +kernel
theorem D304_85 : decode (mB 304) 85 = .ok (.aload_n 0, 1) := by decide +kernel
theorem D304_86 : decode (mB 304) 86 = .ok (.aload_n 0, 1) := by decide +kernel
theorem D304_87 : decode (mB 304) 87 = .ok (.getfield 149, 3) := by decide +kernel
theorem D304_90 : decode (mB 304) 90 = .ok (.invokestatic 332, 3) := by decide +kernel
theorem D304_93 : decode (mB 304) 93 = .ok (.aload_n 0, 1) := by decide +kernel
theorem D304_94 : decode (mB 304) 94 = .ok (.getfield 146, 3) := by decide +kernel
theorem D304_97 : decode (mB 304) 97 = .ok (.invokestatic 332, 3) := by decide +kernel
theorem D304_100 : decode (mB 304) 100 = .ok (.isub, 1) := by decide +kernel
theorem D304_101 : decode (mB 304) 101 = .ok (.i2l, 1) := by decide +kernel
theorem D304_102 : decode (mB 304) 102 = .ok (.invokevirtual 345, 3) := by decide +kernel
theorem D304_105 : decode (mB 304) 105 = .ok (.aload_n 0, 1) := by decide +kernel
theorem D304_106 : decode (mB 304) 106 = .ok (.aload_n 0, 1) := by decide +kernel
theorem D304_107 : decode (mB 304) 107 = .ok (.getfield 149, 3) := by decide +kernel
theorem D304_110 : decode (mB 304) 110 = .ok (.invokestatic 229, 3) := by decide +kernel
theorem D304_113 : decode (mB 304) 113 = .ok (.i2l, 1) := by decide +kernel
theorem D304_114 : decode (mB 304) 114 = .ok (.invokevirtual 345, 3) := by decide +kernel
theorem D304_117 : decode (mB 304) 117 = .ok (.aload_n 0, 1) := by decide +kernel
theorem D304_118 : decode (mB 304) 118 = .ok (.aload_n 0, 1) := by decide +kernel
theorem D304_119 : decode (mB 304) 119 = .ok (.getfield 149, 3) := by decide +kernel
theorem D304_122 : decode (mB 304) 122 = .ok (.sipush 827, 3) := by decide +kernel
theorem D304_125 : decode (mB 304) 125 = .ok (.iaload, 1) := by decide +kernel
theorem D304_126 : decode (mB 304) 126 = .ok (.i2l, 1) := by decide +kernel
theorem D304_127 : decode (mB 304) 127 = .ok (.invokevirtual 345, 3) := by decide +kernel
theorem D304_130 : decode (mB 304) 130 = .ok (.iload_n 3, 1) := by decide +kernel
theorem D304_131 : decode (mB 304) 131 = .ok (.ireturn, 1) := by decide +kernel
theorem D305_0 : decode (mB 305) 0 = .ok (.aload_n 0, 1) := by decide +kernel
theorem D305_1 : decode (mB 305) 1 = .ok (.aload_n 0, 1) := by decide +kernel
theorem D305_2 : decode (mB 305) 2 = .ok (.getfield 452, 3) := by decide +kernel
theorem D305_5 : decode (mB 305) 5 = .ok (.ldc_w 455, 3) := by decide +kernel
theorem D305_8 : decode (mB 305) 8 = .ok (.imul, 1) := by decide +kernel
theorem D305_9 : decode (mB 305) 9 = .ok (.sipush 12345, 3) := by decide +kernel
theorem D305_12 : decode (mB 305) 12 = .ok (.iadd, 1) := by decide +kernel
theorem D305_13 : decode (mB 305) 13 = .ok (.putfield 452, 3) := by decide +kernel
theorem D305_16 : decode (mB 305) 16 = .ok (.aload_n 0, 1) := by decide +kernel
theorem D305_17 : decode (mB 305) 17 = .ok (.getfield 452, 3) := by decide +kernel
theorem D305_20 : decode (mB 305) 20 = .ok (.bipush 16, 2) := by decide +kernel
theorem D305_22 : decode (mB 305) 22 = .ok (.iushr, 1) := by decide +kernel
theorem D305_23 : decode (mB 305) 23 = .ok (.iload_n 1, 1) := by decide +kernel
theorem D305_24 : decode (mB 305) 24 = .ok (.irem, 1) := by decide +kernel
theorem D305_25 : decode (mB 305) 25 = .ok (.ireturn, 1) := by decide +kernel
theorem D306_0 : decode (mB 306) 0 = .ok (.iload_n 1, 1) := by decide +kernel
theorem D306_1 : decode (mB 306) 1 = .ok (.tableswitch 89 2 5 #[31, 43, 53, 71], 31) := by decide +kernel
theorem D306_32 : decode (mB 306) 32 = .ok (.aload_n 0, 1) := by decide +kernel
theorem D306_33 : decode (mB 306) 33 = .ok (.aload_n 0, 1) := by decide +kernel
theorem D306_34 : decode (mB 306) 34 = .ok (.getfield 149, 3) := by decide +kernel
theorem D306_37 : decode (mB 306) 37 = .ok (.iload_n 2, 1) := by decide +kernel
theorem D306_38 : decode (mB 306) 38 = .ok (.invokevirtual 365, 3) := by decide +kernel
theorem D306_41 : decode (mB 306) 41 = .ok (.pop, 1) := by decide +kernel
theorem D306_42 : decode (mB 306) 42 = .ok (.iconst 0, 1) := by decide +kernel
theorem D306_43 : decode (mB 306) 43 = .ok (.ireturn, 1) := by decide +kernel
theorem D306_44 : decode (mB 306) 44 = .ok (.aload_n 0, 1) := by decide +kernel
theorem D306_45 : decode (mB 306) 45 = .ok (.aload_n 0, 1) := by decide +kernel
theorem D306_46 : decode (mB 306) 46 = .ok (.getfield 149, 3) := by decide +kernel
theorem D306_49 : decode (mB 306) 49 = .ok (.invokevirtual 352, 3) := by decide +kernel
theorem D306_52 : decode (mB 306) 52 = .ok (.iconst 0, 1) := by decide +kernel
theorem D306_53 : decode (mB 306) 53 = .ok (.ireturn, 1) := by decide +kernel
theorem D306_54 : decode (mB 306) 54 = .ok (.aload_n 0, 1) := by decide +kernel
theorem D306_55 : decode (mB 306) 55 = .ok (.aload_n 0, 1) := by decide +kernel
theorem D306_56 : decode (mB 306) 56 = .ok (.getfield 149, 3) := by decide +kernel
theorem D306_59 : decode (mB 306) 59 = .ok (.iload_n 2, 1) := by decide +kernel
theorem D306_60 : decode (mB 306) 60 = .ok (.invokevirtual 373, 3) := by decide +kernel
theorem D306_63 : decode (mB 306) 63 = .ok (.ifCond .lt 7, 3) := by decide +kernel
theorem D306_66 : decode (mB 306) 66 = .ok (.iconst 1, 1) := by decide +kernel
theorem D306_67 : decode (mB 306) 67 = .ok (.goto 4, 3) := by decide +kernel
theorem D306_70 : decode (mB 306) 70 = .ok (.iconst 0, 1) := by decide +kernel
theorem D306_71 : decode (mB 306) 71 = .ok (.ireturn, 1) := by decide +kernel
theorem D306_72 : decode (mB 306) 72 = .ok (.aload_n 0, 1) := by decide +kernel
theorem D306_73 : decode (mB 306) 73 = .ok (.aload_n 0, 1) := by decide +kernel
theorem D306_74 : decode (mB 306) 74 = .ok (.getfield 149, 3) := by decide +kernel
theorem D306_77 : decode (mB 306) 77 = .ok (.iload_n 2, 1) := by decide +kernel
theorem D306_78 : decode (mB 306) 78 = .ok (.aload_n 0, 1) := by decide +kernel
theorem D306_79 : decode (mB 306) 79 = .ok (.bipush 16, 2) := by decide +kernel
theorem D306_81 : decode (mB 306) 81 = .ok (.invokevirtual 456, 3) := by decide +kernel
theorem D306_84 : decode (mB 306) 84 = .ok (.invokevirtual 376, 3) := by decide +kernel
theorem D306_87 : decode (mB 306) 87 = .ok (.pop, 1) := by decide +kernel
theorem D306_88 : decode (mB 306) 88 = .ok (.iconst 0, 1) := by decide +kernel
theorem D306_89 : decode (mB 306) 89 = .ok (.ireturn, 1) := by decide +kernel
theorem D306_90 : decode (mB 306) 90 = .ok (.aload_n 0, 1) := by decide +kernel
theorem D306_91 : decode (mB 306) 91 = .ok (.iconst 5, 1) := by decide +kernel
theorem D306_92 : decode (mB 306) 92 = .ok (.invokevirtual 456, 3) := by decide +kernel
theorem D306_95 : decode (mB 306) 95 = .ok (.istore_n 3, 1) := by decide +kernel
theorem D306_96 : decode (mB 306) 96 = .ok (.aload_n 0, 1) := by decide +kernel
theorem D306_97 : decode (mB 306) 97 = .ok (.bipush 10, 2) := by decide +kernel
theorem D306_99 : decode (mB 306) 99 = .ok (.invokevirtual 456, 3) := by decide +kernel
theorem D306_102 : decode (mB 306) 102 = .ok (.istore 4, 2) := by decide +kernel
theorem D306_104 : decode (mB 306) 104 = .ok (.aload_n 0, 1) := by decide +kernel
theorem D306_105 : decode (mB 306) 105 = .ok (.aload_n 0, 1) := by decide +kernel
theorem D306_106 : decode (mB 306) 106 = .ok (.getfield 149, 3) := by decide +kernel
theorem D306_109 : decode (mB 306) 109 = .ok (.iload_n 2, 1) := by decide +kernel
theorem D306_110 : decode (mB 306) 110 = .ok (.iload_n 3, 1) := by decide +kernel
theorem D306_111 : decode (mB 306) 111 = .ok (.iload 4, 2) := by decide +kernel
theorem D306_113 : decode (mB 306) 113 = .ok (.aload_n 0, 1) := by decide +kernel
theorem D306_114 : decode (mB 306) 114 = .ok (.bipush 100, 2) := by decide +kernel
theorem D306_116 : decode (mB 306) 116 = .ok (.invokevirtual 456, 3) := by decide +kernel
theorem D306_119 : decode (mB 306) 119 = .ok (.invokevirtual 358, 3) := by decide +kernel
theorem D306_122 : decode (mB 306) 122 = .ok (.pop, 1) := by decide +kernel
theorem D306_123 : decode (mB 306) 123 = .ok (.iconst 0, 1) := by decide +kernel
theorem D306_124 : decode (mB 306) 124 = .ok (.ireturn, 1) := by decide +kernel
theorem D307_0 : decode (mB 307) 0 = .ok (.aload_n 0, 1) := by decide +kernel
theorem D307_1 : decode (mB 307) 1 = .ok (.iconst 0, 1) := by decide +kernel
theorem D307_2 : decode (mB 307) 2 = .ok (.putfield 3, 3) := by decide +kernel
theorem D307_5 : decode (mB 307) 5 = .ok (.iload_n 1, 1) := by decide +kernel
theorem D307_6 : decode (mB 307) 6 = .ok (.i2l, 1) := by decide +kernel
theorem D307_7 : decode (mB 307) 7 = .ok (.lconst 0, 1) := by decide +kernel
theorem D307_8 : decode (mB 307) 8 = .ok (.lconst 1, 1) := by decide +kernel
theorem D307_9 : decode (mB 307) 9 = .ok (.invokestatic 21, 3) := by decide +kernel
theorem D307_12 : decode (mB 307) 12 = .ok (.ifCond .ne 5, 3) := by decide +kernel
theorem D307_15 : decode (mB 307) 15 = .ok (.iconst 0, 1) := by decide +kernel
theorem D307_16 : decode (mB 307) 16 = .ok (.ireturn, 1) := by decide +kernel
theorem D307_17 : decode (mB 307) 17 = .ok (.aload_n 0, 1) := by decide +kernel
theorem D307_18 : decode (mB 307) 18 = .ok (.getfield 188, 3) := by decide +kernel
theorem D307_21 : decode (mB 307) 21 = .ok (.iload_n 1, 1) := by decide +kernel
theorem D307_22 : decode (mB 307) 22 = .ok (.iconst 1, 1) := by decide +kernel
theorem D307_23 : decode (mB 307) 23 = .ok (.bastore, 1) := by decide +kernel
theorem D307_24 : decode (mB 307) 24 = .ok (.aload_n 0, 1) := by decide +kernel
theorem D307_25 : decode (mB 307) 25 = .ok (.getfield 192, 3) := by decide +kernel
theorem D307_28 : decode (mB 307) 28 = .ok (.iload_n 1, 1) := by decide +kernel
theorem D307_29 : decode (mB 307) 29 = .ok (.aload_n 0, 1) := by decide +kernel
theorem D307_30 : decode (mB 307) 30 = .ok (.getfield 209, 3) := by decide +kernel
theorem D307_33 : decode (mB 307) 33 = .ok (.iastore, 1) := by decide +kernel
theorem D307_34 : decode (mB 307) 34 = .ok (.iconst 0, 1) := by decide +kernel
theorem D307_35 : decode (mB 307) 35 = .ok (.istore_n 2, 1) := by decide +kernel
theorem D307_36 : decode (mB 307) 36 = .ok (.iload_n 2, 1) := by decide +kernel
theorem D307_37 : decode (mB 307) 37 = .ok (.sipush 844, 3) := by decide +kernel
theorem D307_40 : decode (mB 307) 40 = .ok (.if_icmp .ge 27, 3) := by decide +kernel
theorem D307_43 : decode (mB 307) 43 = .ok (.aload_n 0, 1) := by decide +kernel
theorem D307_44 : decode (mB 307) 44 = .ok (.getfield 195, 3) := by decide +kernel
theorem D307_47 : decode (mB 307) 47 = .ok (.sipush 844, 3) := by decide +kernel
theorem D307_50 : decode (mB 307) 50 = .ok (.iload_n 1, 1) := by decide +kernel
theorem D307_51 : decode (mB 307) 51 = .ok (.imul, 1) := by decide +kernel
theorem D307_52 : decode (mB 307) 52 = .ok (.iload_n 2, 1) := by decide +kernel
theorem D307_53 : decode (mB 307) 53 = .ok (.iadd, 1) := by decide +kernel
theorem D307_54 : decode (mB 307) 54 = .ok (.aload_n 0, 1) := by decide +kernel
theorem D307_55 : decode (mB 307) 55 = .ok (.getfield 146, 3) := by decide +kernel
theorem D307_58 : decode (mB 307) 58 = .ok (.iload_n 2, 1) := by decide +kernel
theorem D307_59 : decode (mB 307) 59 = .ok (.iaload, 1) := by decide +kernel
theorem D307_60 : decode (mB 307) 60 = .ok (.iastore, 1) := by decide +kernel
theorem D307_61 : decode (mB 307) 61 = .ok (.iinc 2 1, 3) := by decide +kernel
theorem D307_64 : decode (mB 307) 64 = .ok (.goto (-28), 3) := by decide +kernel
theorem D307_67 : decode (mB 307) 67 = .ok (.iconst 1, 1) := by decide +kernel
theorem D307_68 : decode (mB 307) 68 = .ok (.ireturn, 1) := by decide +kernel
theorem D308_0 : decode (mB 308) 0 = .ok (.aload_n 0, 1) := by decide +kernel
theorem D308_1 : decode (mB 308) 1 = .ok (.iconst 0, 1) := by decide +kernel
theorem D308_2 : decode (mB 308) 2 = .ok (.putfield 3, 3) := by decide +kernel
theorem D308_5 : decode (mB 308) 5 = .ok (.iload_n 1, 1) := by decide +kernel
theorem D308_6 : decode (mB 308) 6 = .ok (.i2l, 1) := by decide +kernel
theorem D308_7 : decode (mB 308) 7 = .ok (.lconst 0, 1) := by decide +kernel
theorem D308_8 : decode (mB 308) 8 = .ok (.lconst 1, 1) := by decide +kernel
theorem D308_9 : decode (mB 308) 9 = .ok (.invokestatic 21, 3) := by decide +kernel
theorem D308_12 : decode (mB 308) 12 = .ok (.ifCond .eq 25, 3) := by decide +kernel
theorem D308_15 : decode (mB 308) 15 = .ok (.aload_n 0, 1) := by decide +kernel
theorem D308_16 : decode (mB 308) 16 = .ok (.getfield 188, 3) := by decide +kernel
theorem D308_19 : decode (mB 308) 19 = .ok (.iload_n 1, 1) := by decide +kernel
theorem D308_20 : decode (mB 308) 20 = .ok (.baload, 1) := by decide +kernel
theorem D308_21 : decode (mB 308) 21 = .ok (.ifCond .eq 16, 3) := by decide +kernel
theorem D308_24 : decode (mB 308) 24 = .ok (.aload_n 0, 1) := by decide +kernel
theorem D308_25 : decode (mB 308) 25 = .ok (.getfield 192, 3) := by decide +kernel
theorem D308_28 : decode (mB 308) 28 = .ok (.iload_n 1, 1) := by decide +kernel
theorem D308_29 : decode (mB 308) 29 = .ok (.iaload, 1) := by decide +kernel
theorem D308_30 : decode (mB 308) 30 = .ok (.aload_n 0, 1) := by decide +kernel
theorem D308_31 : decode (mB 308) 31 = .ok (.getfield 209, 3) := by decide +kernel
theorem D308_34 : decode (mB 308) 34 = .ok (.if_icmp .eq 5, 3) := by decide +kernel
theorem D308_37 : decode (mB 308) 37 = .ok (.iconst 0, 1) := by decide +kernel
theorem D308_38 : decode (mB 308) 38 = .ok (.ireturn, 1) := by decide +kernel
theorem D308_39 : decode (mB 308) 39 = .ok (.iconst 0, 1) := by decide +kernel
theorem D308_40 : decode (mB 308) 40 = .ok (.istore_n 2, 1) := by decide +kernel
theorem D308_41 : decode (mB 308) 41 = .ok (.iload_n 2, 1) := by decide +kernel
theorem D308_42 : decode (mB 308) 42 = .ok (.sipush 844, 3) := by decide +kernel
theorem D308_45 : decode (mB 308) 45 = .ok (.if_icmp .ge 27, 3) := by decide +kernel
theorem D308_48 : decode (mB 308) 48 = .ok (.aload_n 0, 1) := by decide +kernel
theorem D308_49 : decode (mB 308) 49 = .ok (.getfield 146, 3) := by decide +kernel
theorem D308_52 : decode (mB 308) 52 = .ok (.iload_n 2, 1) := by decide +kernel
theorem D308_53 : decode (mB 308) 53 = .ok (.aload_n 0, 1) := by decide +kernel
theorem D308_54 : decode (mB 308) 54 = .ok (.getfield 195, 3) := by decide +kernel
theorem D308_57 : decode (mB 308) 57 = .ok (.sipush 844, 3) := by decide +kernel
theorem D308_60 : decode (mB 308) 60 = .ok (.iload_n 1, 1) := by decide +kernel
theorem D308_61 : decode (mB 308) 61 = .ok (.imul, 1) := by decide +kernel
theorem D308_62 : decode (mB 308) 62 = .ok (.iload_n 2, 1) := by decide +kernel
theorem D308_63 : decode (mB 308) 63 = .ok (.iadd, 1) := by decide +kernel
theorem D308_64 : decode (mB 308) 64 = .ok (.iaload, 1) := by decide +kernel
theorem D308_65 : decode (mB 308) 65 = .ok (.iastore, 1) := by decide +kernel
theorem D308_66 : decode (mB 308) 66 = .ok (.iinc 2 1, 3) := by decide +kernel
theorem D308_69 : decode (mB 308) 69 = .ok (.goto (-28), 3) := by decide +kernel
theorem D308_72 : decode (mB 308) 72 = .ok (.aload_n 0, 1) := by decide +kernel
theorem D308_73 : decode (mB 308) 73 = .ok (.iconst 0, 1) := by decide +kernel
theorem D308_74 : decode (mB 308) 74 = .ok (.putfield 206, 3) := by decide +kernel
theorem D308_77 : decode (mB 308) 77 = .ok (.iconst 1, 1) := by decide +kernel
theorem D308_78 : decode (mB 308) 78 = .ok (.ireturn, 1) := by decide +kernel
theorem D309_0 : decode (mB 309) 0 = .ok (.aload_n 0, 1) := by decide +kernel
theorem D309_1 : decode (mB 309) 1 = .ok (.iconst 0, 1) := by decide +kernel
theorem D309_2 : decode (mB 309) 2 = .ok (.putfield 3, 3) := by decide +kernel
theorem D309_5 : decode (mB 309) 5 = .ok (.iconst 0, 1) := by decide +kernel
theorem D309_6 : decode (mB 309) 6 = .ok (.istore_n 2, 1) := by decide +kernel
theorem D309_7 : decode (mB 309) 7 = .ok (.iconst 0, 1) := by decide +kernel
theorem D309_8 : decode (mB 309) 8 = .ok (.istore_n 3, 1) := by decide +kernel
theorem D309_9 : decode (mB 309) 9 = .ok (.iconst 0, 1) := by decide +kernel
theorem D309_10 : decode (mB 309) 10 = .ok (.istore 4, 2) := by decide +kernel
theorem D309_12 : decode (mB 309) 12 = .ok (.iload 4, 2) := by decide +kernel
theorem D309_14 : decode (mB 309) 14 = .ok (.aload_n 0, 1) := by decide +kernel
theorem D309_15 : decode (mB 309) 15 = .ok (.getfield 198, 3) := by decide +kernel
theorem D309_18 : decode (mB 309) 18 = .ok (.if_icmp .ge 58, 3) := by decide +kernel
theorem D309_21 : decode (mB 309) 21 = .ok (.iload_n 2, 1) := by decide +kernel
theorem D309_22 : decode (mB 309) 22 = .ok (.aload_n 0, 1) := by decide +kernel
theorem D309_23 : decode (mB 309) 23 = .ok (.getfield 146, 3) := by decide +kernel
theorem D309_26 : decode (mB 309) 26 = .ok (.iload 4, 2) := by decide +kernel
theorem D309_28 : decode (mB 309) 28 = .ok (.iconst 0, 1) := by decide +kernel
theorem D309_29 : decode (mB 309) 29 = .ok (.invokestatic 220, 3) := by decide +kernel
theorem D309_32 : decode (mB 309) 32 = .ok (.aload_n 0, 1) := by decide +kernel
theorem D309_33 : decode (mB 309) 33 = .ok (.getfield 146, 3) := by decide +kernel
theorem D309_36 : decode (mB 309) 36 = .ok (.iload 4, 2) := by decide +kernel
theorem D309_38 : decode (mB 309) 38 = .ok (.iconst 3, 1) := by decide +kernel
theorem D309_39 : decode (mB 309) 39 = .ok (.invokestatic 220, 3) := by decide +kernel
theorem D309_42 : decode (mB 309) 42 = .ok (.isub, 1) := by decide +kernel
theorem D309_43 : decode (mB 309) 43 = .ok (.iadd, 1) := by decide +kernel
theorem D309_44 : decode (mB 309) 44 = .ok (.istore_n 2, 1) := by decide +kernel
theorem D309_45 : decode (mB 309) 45 = .ok (.iload_n 3, 1) := by decide +kernel
theorem D309_46 : decode (mB 309) 46 = .ok (.aload_n 0, 1) := by decide +kernel
theorem D309_47 : decode (mB 309) 47 = .ok (.getfield 146, 3) := by decide +kernel
theorem D309_50 : decode (mB 309) 50 = .ok (.iload 4, 2) := by decide +kernel
theorem D309_52 : decode (mB 309) 52 = .ok (.iconst 5, 1) := by decide +kernel
theorem D309_53 : decode (mB 309) 53 = .ok (.invokestatic 220, 3) := by decide +kernel
theorem D309_56 : decode (mB 309) 56 = .ok (.aload_n 0, 1) := by decide +kernel
theorem D309_57 : decode (mB 309) 57 = .ok (.getfield 146, 3) := by decide +kernel
theorem D309_60 : decode (mB 309) 60 = .ok (.iload 4, 2) := by decide +kernel
theorem D309_62 : decode (mB 309) 62 = .ok (.bipush 6, 2) := by decide +kernel
theorem D309_64 : decode (mB 309) 64 = .ok (.invokestatic 220, 3) := by decide +kernel
theorem D309_67 : decode (mB 309) 67 = .ok (.isub, 1) := by decide +kernel
theorem D309_68 : decode (mB 309) 68 = .ok (.iadd, 1) := by decide +kernel
theorem D309_69 : decode (mB 309) 69 = .ok (.istore_n 3, 1) := by decide +kernel
theorem D309_70 : decode (mB 309) 70 = .ok (.iinc 4 1, 3) := by decide +kernel
theorem D309_73 : decode (mB 309) 73 = .ok (.goto (-61), 3) := by decide +kernel
theorem D309_76 : decode (mB 309) 76 = .ok (.iload_n 1, 1) := by decide +kernel
theorem D309_77 : decode (mB 309) 77 = .ok (.tableswitch 136 0 11 #[63, 68, 70, 79, 88, 90, 99, 108, 116, 121, 126, 131], 63) := by decide +kernel
theorem D309_140 : decode (mB 309) 140 = .ok (.aload_n 0, 1) := by decide +kernel
theorem D309_141 : decode (mB 309) 141 = .ok (.getfield 198, 3) := by decide +kernel
theorem D309_144 : decode (mB 309) 144 = .ok (.ireturn, 1) := by decide +kernel
theorem D309_145 : decode (mB 309) 145 = .ok (.iload_n 2, 1) := by decide +kernel
theorem D309_146 : decode (mB 309) 146 = .ok (.ireturn, 1) := by decide +kernel
theorem D309_147 : decode (mB 309) 147 = .ok (.aload_n 0, 1) := by decide +kernel
theorem D309_148 : decode (mB 309) 148 = .ok (.getfield 146, 3) := by decide +kernel
theorem D309_151 : decode (mB 309) 151 = .ok (.sipush 493, 3) := by decide +kernel
theorem D309_154 : decode (mB 309) 154 = .ok (.iaload, 1) := by decide +kernel
theorem D309_155 : decode (mB 309) 155 = .ok (.ireturn, 1) := by decide +kernel
theorem D309_156 : decode (mB 309) 156 = .ok (.aload_n 0, 1) := by decide +kernel
theorem D309_157 : decode (mB 309) 157 = .ok (.getfield 146, 3) := by decide +kernel
theorem D309_160 : decode (mB 309) 160 = .ok (.sipush 814, 3) := by decide +kernel
theorem D309_163 : decode (mB 309) 163 = .ok (.iaload, 1) := by decide +kernel
theorem D309_164 : decode (mB 309) 164 = .ok (.ireturn, 1) := by decide +kernel
theorem D309_165 : decode (mB 309) 165 = .ok (.iload_n 3, 1) := by decide +kernel
theorem D309_166 : decode (mB 309) 166 = .ok (.ireturn, 1) := by decide +kernel
theorem D309_167 : decode (mB 309) 167 = .ok (.aload_n 0, 1) := by decide +kernel
theorem D309_168 : decode (mB 309) 168 = .ok (.getfield 146, 3) := by decide +kernel
theorem D309_171 : decode (mB 309) 171 = .ok (.sipush 827, 3) := by decide +kernel
theorem D309_174 : decode (mB 309) 174 = .ok (.iaload, 1) := by decide +kernel
theorem D309_175 : decode (mB 309) 175 = .ok (.ireturn, 1) := by decide +kernel
theorem D309_176 : decode (mB 309) 176 = .ok (.aload_n 0, 1) := by decide +kernel
theorem D309_177 : decode (mB 309) 177 = .ok (.getfield 146, 3) := by decide +kernel
theorem D309_180 : decode (mB 309) 180 = .ok (.sipush 826, 3) := by decide +kernel
theorem D309_183 : decode (mB 309) 183 = .ok (.iaload, 1) := by decide +kernel
theorem D309_184 : decode (mB 309) 184 = .ok (.ireturn, 1) := by decide +kernel
theorem D309_185 : decode (mB 309) 185 = .ok (.aload_n 0, 1) := by decide +kernel
theorem D309_186 : decode (mB 309) 186 = .ok (.getfield 146, 3) := by decide +kernel
theorem D309_189 : decode (mB 309) 189 = .ok (.invokestatic 229, 3) := by decide +kernel
theorem D309_192 : decode (mB 309) 192 = .ok (.ireturn, 1) := by decide +kernel
theorem D309_193 : decode (mB 309) 193 = .ok (.aload_n 0, 1) := by decide +kernel
theorem D309_194 : decode (mB 309) 194 = .ok (.getfield 427, 3) := by decide +kernel
theorem D309_197 : decode (mB 309) 197 = .ok (.ireturn, 1) := by decide +kernel
theorem D309_198 : decode (mB 309) 198 = .ok (.aload_n 0, 1) := by decide +kernel
theorem D309_199 : decode (mB 309) 199 = .ok (.getfield 206, 3) := by decide +kernel
theorem D309_202 : decode (mB 309) 202 = .ok (.ireturn, 1) := by decide +kernel
theorem D309_203 : decode (mB 309) 203 = .ok (.aload_n 0, 1) := by decide +kernel
theorem D309_204 : decode (mB 309) 204 = .ok (.getfield 11, 3) := by decide +kernel
theorem D309_207 : decode (mB 309) 207 = .ok (.ireturn, 1) := by decide +kernel
theorem D309_208 : decode (mB 309) 208 = .ok (.aload_n 0, 1) := by decide +kernel
theorem D309_209 : decode (mB 309) 209 = .ok (.getfield 14, 3) := by decide +kernel
theorem D309_212 : decode (mB 309) 212 = .ok (.ireturn, 1) := by decide +kernel
theorem D309_213 : decode (mB 309) 213 = .ok (.bipush (-100), 2) := by decide +kernel
theorem D309_215 : decode (mB 309) 215 = .ok (.ireturn, 1) := by decide +kernel
theorem D310_0 : decode (mB 310) 0 = .ok (.aload_n 0, 1) := by decide +kernel
theorem D310_1 : decode (mB 310) 1 = .ok (.iconst 0, 1) := by decide +kernel
theorem D310_2 : decode (mB 310) 2 = .ok (.putfield 3, 3) := by decide +kernel
theorem D310_5 : decode (mB 310) 5 = .ok (.iload_n 1, 1) := by decide +kernel
theorem D310_6 : decode (mB 310) 6 = .ok (.i2l, 1) := by decide +kernel
theorem D310_7 : decode (mB 310) 7 = .ok (.lconst 0, 1) := by decide +kernel
theorem D310_8 : decode (mB 310) 8 = .ok (.aload_n 0, 1) := by decide +kernel
theorem D310_9 : decode (mB 310) 9 = .ok (.getfield 11, 3) := by decide +kernel
theorem D310_12 : decode (mB 310) 12 = .ok (.iconst 1, 1) := by decide +kernel
theorem D310_13 : decode (mB 310) 13 = .ok (.isub, 1) := by decide +kernel
theorem D310_14 : decode (mB 310) 14 = .ok (.i2l, 1) := by decide +kernel
theorem D310_15 : decode (mB 310) 15 = .ok (.invokestatic 21, 3) := by decide +kernel
theorem D310_18 : decode (mB 310) 18 = .ok (.ifCond .ne 10, 3) := by decide +kernel
theorem D310_21 : decode (mB 310) 21 = .ok (.aload_n 0, 1) := by decide +kernel
theorem D310_22 : decode (mB 310) 22 = .ok (.iconst 1, 1) := by decide +kernel
theorem D310_23 : decode (mB 310) 23 = .ok (.putfield 3, 3) := by decide +kernel
theorem D310_26 : decode (mB 310) 26 = .ok (.lconst 0, 1) := by decide +kernel
theorem D310_27 : decode (mB 310) 27 = .ok (.lreturn, 1) := by decide +kernel
theorem D310_28 : decode (mB 310) 28 = .ok (.aload_n 0, 1) := by decide +kernel
theorem D310_29 : decode (mB 310) 29 = .ok (.getfield 7, 3) := by decide +kernel
theorem D310_32 : decode (mB 310) 32 = .ok (.iload_n 1, 1) := by decide +kernel
theorem D310_33 : decode (mB 310) 33 = .ok (.laload, 1) := by decide +kernel
theorem D310_34 : decode (mB 310) 34 = .ok (.lreturn, 1) := by decide +kernel
theorem E250_0 {d : Nat} {a1 a2 : Int} {S : SS} {I : II}  : ev (d + 1) 250 0 [(2, 427), (2, a1), (0, a2), uU] [] S I = (ev d 212 0 [(2, a1), (0, a2), (0, 3)] [] S I).bind (fun q => ev (d + 1) 250 7 [(2, 427), (2, a1), (0, a2), uU] (psh q.1 [(0, a2)]) q.2.1 q.2.2) := by
  refine (sx_iload_n D250_0 rfl).trans ?_
  refine (sx_aload_n D250_1 rfl).trans ?_
  refine (sx_iload_n D250_2 rfl).trans ?_
  refine (sx_iconst D250_3).trans ?_
  exact sx_stat (ag := [(2, a1), (0, a2), (0, 3)]) (r := [(0, a2)]) (al' := [(2, a1), (0, a2), (0, 3)]) (np := 3) (nl := 3) (q := (0, 212, 1526)) D250_4 (by decide +kernel) (by decide) mP_212 mL_212 (Nat.le_of_ble_eq_true rfl) rfl rfl (by simp [cat]) rfl rfl
theorem E250_7 {d : Nat} {a1 a2 s0 s1 : Int} {S : SS} {I : II}  : ev (d + 1) 250 7 [(2, 427), (2, a1), (0, a2), uU] [(0, s1), (0, s0)] S I = (ev d 222 0 [(0, s0), (0, s1)] [] S I).bind (fun q => ev (d + 1) 250 10 [(2, 427), (2, a1), (0, a2), uU] (psh q.1 []) q.2.1 q.2.2) := by
  exact sx_stat (ag := [(0, s0), (0, s1)]) (r := []) (al' := [(0, s0), (0, s1)]) (np := 2) (nl := 2) (q := (0, 222, 1566)) D250_7 (by decide +kernel) (by decide) mP_222 mL_222 (Nat.le_of_ble_eq_true rfl) rfl rfl (by simp [cat]) rfl rfl
theorem E250_10 {d : Nat} {a1 a2 s0 : Int} {S : SS} {I : II}  : ev (d + 1) 250 10 [(2, 427), (2, a1), (0, a2), uU] [(0, s0)] S I = (ev d 212 0 [(2, a1), (0, a2), (0, 3)] [] S I).bind (fun q => ev (d + 1) 250 20 [(2, 427), (2, a1), (0, a2), (0, s0)] (psh q.1 [(0, 3), (0, a2), (2, a1)]) q.2.1 q.2.2) := by
  refine (sx_istore_n (al' := [(2, 427), (2, a1), (0, a2), (0, s0)]) D250_10 (Nat.le_of_ble_eq_true rfl) rfl rfl).trans ?_
  refine (sx_aload_n D250_11 rfl).trans ?_
  refine (sx_iload_n D250_12 rfl).trans ?_
  refine (sx_iconst D250_13).trans ?_
  refine (sx_aload_n D250_14 rfl).trans ?_
  refine (sx_iload_n D250_15 rfl).trans ?_
  refine (sx_iconst D250_16).trans ?_
  exact sx_stat (ag := [(2, a1), (0, a2), (0, 3)]) (r := [(0, 3), (0, a2), (2, a1)]) (al' := [(2, a1), (0, a2), (0, 3)]) (np := 3) (nl := 3) (q := (0, 212, 1526)) D250_17 (by decide +kernel) (by decide) mP_212 mL_212 (Nat.le_of_ble_eq_true rfl) rfl rfl (by simp [cat]) rfl rfl
theorem E250_20 {d : Nat} {a1 a2 a3 s0 s1 s2 s3 : Int} {S : SS} {I : II}  : ev (d + 1) 250 20 [(2, 427), (2, a1), (0, a2), (0, a3)] [(0, s3), (0, s2), (0, s1), (2, s0)] S I = (ev d 230 0 [(2, s0), (0, s1), (0, s2), (0, s3 + 1)] [] S I).bind (fun q => ev (d + 1) 250 25 [(2, 427), (2, a1), (0, a2), (0, a3)] (psh q.1 []) q.2.1 q.2.2) := by
  refine (sx_iconst D250_20).trans ?_
  refine (sx_iadd D250_21).trans ?_
  exact sx_stat (ag := [(2, s0), (0, s1), (0, s2), (0, s3 + 1)]) (r := []) (al' := [(2, s0), (0, s1), (0, s2), (0, s3 + 1)]) (np := 4) (nl := 4) (q := (0, 230, 1590)) D250_22 (by decide +kernel) (by decide) mP_230 mL_230 (Nat.le_of_ble_eq_true rfl) rfl rfl (by simp [cat]) rfl rfl
theorem E250_25 {d : Nat} {a1 a2 a3 ln1 : Int} {S : SS} {I : II} (h0 : MA S 427) (h1 : KA S a1 20 ln1) : ev d 250 25 [(2, 427), (2, a1), (0, a2), (0, a3)] [] S I = gdR (0 ≤ w a2 ∧ w a2 < 5) (gdR (0 ≤ w (840 + (I 436 (w a2))) ∧ w (840 + (I 436 (w a2))) < ln1) (gdR (0 ≤ w (840 + (I 436 (w a2))) ∧ w (840 + (I 436 (w a2))) < ln1) (some ((0, a3), S, (up2 I a1 (w (840 + (I 436 (w a2)))) ((I a1 (w (840 + (I 436 (w a2))))) + 1)))))) := by
  refine (sx_aload_n D250_25 rfl).trans ?_
  refine (sx_sipush D250_26 (by decide)).trans ?_
  refine (sx_aload_n D250_29 rfl).trans ?_
  refine (sx_gfR (q := (9, 18, 0, 1386)) (b := 436) D250_30 (by decide +kernel) (by decide +kernel) (by decide) (MA_o h0) (MA_g18 h0)).trans ?_
  refine (sx_iload_n D250_33 rfl).trans ?_
  refine (sx_ia D250_34 (MA_k18 h0) rfl).trans (gdR_to fun g1 => ?_)
  refine (sx_iadd D250_35).trans ?_
  refine (sx_dup2 D250_36 (by decide) (by decide)).trans ?_
  refine (sx_ia D250_37 h1 rfl).trans (gdR_to fun g2 => ?_)
  refine (sx_iconst D250_38).trans ?_
  refine (sx_iadd D250_39).trans ?_
  refine (sx_is D250_40 h1).trans (gdR_to fun g3 => ?_)
  refine (sx_iload_n D250_41 rfl).trans ?_
  exact sx_ireturn D250_42 (by decide +kernel)
theorem E251_0 {d : Nat} {a1 a2 a3 ln1 : Int} {S : SS} {I : II} (h0 : MA S 427) (h1 : KA S a1 20 ln1) (h2 : a1 = 438 ∨ a1 = 439) : ev (d + 1) 251 0 [(2, 427), (2, a1), (0, a2), (0, a3)] [] S I = gdR (0 ≤ w (a3 + 1) ∧ w (a3 + 1) < ln1) (gdR (0 ≤ w (a3 + 2) ∧ w (a3 + 2) < ln1) (gdR (0 ≤ w (a3 + 3) ∧ w (a3 + 3) < ln1) (gdR (0 ≤ w a2 ∧ w a2 < 5) (gdR (0 ≤ w 493 ∧ w 493 < ln1) (gdR (0 ≤ w 827 ∧ w 827 < ln1) ((ev d 252 0 [(2, 427), uU, uU, uU] [] S (up2 (up2 (up2 (up2 (up2 (up2 (up2 I 433 0 (I a1 (w (a3 + 1)))) 433 1 (I a1 (w (a3 + 2)))) 433 2 (I a1 (w (a3 + 3)))) 433 3 a2) 433 4 (I 436 (w a2))) 433 5 (I a1 (w 493))) 433 6 (iRem (I a1 (w 827)) 7))).bind (fun q => ev (d + 1) 251 85 [(2, 427), (2, a1), (0, a2), (0, a3)] (psh q.1 [(0, 9), (0, 1)]) q.2.1 q.2.2))))))) := by
  refine (sx_aload_n D251_0 rfl).trans ?_
  refine (sx_gfR (q := (9, 13, 0, 1381)) (b := 433) D251_1 (by decide +kernel) (by decide +kernel) (by decide) (MA_o h0) (MA_g13 h0)).trans ?_
  refine (sx_iconst D251_4).trans ?_
  refine (sx_aload_n D251_5 rfl).trans ?_
  refine (sx_iload_n D251_6 rfl).trans ?_
  refine (sx_iconst D251_7).trans ?_
  refine (sx_iadd D251_8).trans ?_
  refine (sx_ia D251_9 h1 rfl).trans (gdR_to fun g1 => ?_)
  refine (sx_isK (j := 0) D251_10 (MA_k13 h0) (w_small (by decide) (by decide)) (by decide) (by decide)).trans ?_
  refine (sx_aload_n D251_11 rfl).trans ?_
  refine (sx_gfR (q := (9, 13, 0, 1381)) (b := 433) D251_12 (by decide +kernel) (by decide +kernel) (by decide) (MA_o h0) (MA_g13 h0)).trans ?_
  refine (sx_iconst D251_15).trans ?_
  refine (sx_aload_n D251_16 rfl).trans ?_
  refine (sx_iload_n D251_17 rfl).trans ?_
  refine (sx_iconst D251_18).trans ?_
  refine (sx_iadd D251_19).trans ?_
  refine (sx_ia D251_20 h1 (up2_cell (by omega))).trans (gdR_to fun g2 => ?_)
  refine (sx_isK (j := 1) D251_21 (MA_k13 h0) (w_small (by decide) (by decide)) (by decide) (by decide)).trans ?_
  refine (sx_aload_n D251_22 rfl).trans ?_
  refine (sx_gfR (q := (9, 13, 0, 1381)) (b := 433) D251_23 (by decide +kernel) (by decide +kernel) (by decide) (MA_o h0) (MA_g13 h0)).trans ?_
  refine (sx_iconst D251_26).trans ?_
  refine (sx_aload_n D251_27 rfl).trans ?_
  refine (sx_iload_n D251_28 rfl).trans ?_
  refine (sx_iconst D251_29).trans ?_
  refine (sx_iadd D251_30).trans ?_
  refine (sx_ia D251_31 h1 ((up2_cell (by omega)).trans (up2_cell (by omega)))).trans (gdR_to fun g3 => ?_)
  refine (sx_isK (j := 2) D251_32 (MA_k13 h0) (w_small (by decide) (by decide)) (by decide) (by decide)).trans ?_
  refine (sx_aload_n D251_33 rfl).trans ?_
  refine (sx_gfR (q := (9, 13, 0, 1381)) (b := 433) D251_34 (by decide +kernel) (by decide +kernel) (by decide) (MA_o h0) (MA_g13 h0)).trans ?_
  refine (sx_iconst D251_37).trans ?_
  refine (sx_iload_n D251_38 rfl).trans ?_
  refine (sx_isK (j := 3) D251_39 (MA_k13 h0) (w_small (by decide) (by decide)) (by decide) (by decide)).trans ?_
  refine (sx_aload_n D251_40 rfl).trans ?_
  refine (sx_gfR (q := (9, 13, 0, 1381)) (b := 433) D251_41 (by decide +kernel) (by decide +kernel) (by decide) (MA_o h0) (MA_g13 h0)).trans ?_
  refine (sx_iconst D251_44).trans ?_
  refine (sx_aload_n D251_45 rfl).trans ?_
  refine (sx_gfR (q := (9, 18, 0, 1386)) (b := 436) D251_46 (by decide +kernel) (by decide +kernel) (by decide) (MA_o h0) (MA_g18 h0)).trans ?_
  refine (sx_iload_n D251_49 rfl).trans ?_
  refine (sx_ia D251_50 (MA_k18 h0) ((up2_cell (by omega)).trans ((up2_cell (by omega)).trans ((up2_cell (by omega)).trans (up2_cell (by omega)))))).trans (gdR_to fun g4 => ?_)
  refine (sx_isK (j := 4) D251_51 (MA_k13 h0) (w_small (by decide) (by decide)) (by decide) (by decide)).trans ?_
  refine (sx_aload_n D251_52 rfl).trans ?_
  refine (sx_gfR (q := (9, 13, 0, 1381)) (b := 433) D251_53 (by decide +kernel) (by decide +kernel) (by decide) (MA_o h0) (MA_g13 h0)).trans ?_
  refine (sx_iconst D251_56).trans ?_
  refine (sx_aload_n D251_57 rfl).trans ?_
  refine (sx_sipush D251_58 (by decide)).trans ?_
  refine (sx_ia D251_61 h1 ((up2_cell (by omega)).trans ((up2_cell (by omega)).trans ((up2_cell (by omega)).trans ((up2_cell (by omega)).trans (up2_cell (by omega))))))).trans (gdR_to fun g5 => ?_)
  refine (sx_isK (j := 5) D251_62 (MA_k13 h0) (w_small (by decide) (by decide)) (by decide) (by decide)).trans ?_
  refine (sx_aload_n D251_63 rfl).trans ?_
  refine (sx_gfR (q := (9, 13, 0, 1381)) (b := 433) D251_64 (by decide +kernel) (by decide +kernel) (by decide) (MA_o h0) (MA_g13 h0)).trans ?_
  refine (sx_bipush D251_67 (by decide)).trans ?_
  refine (sx_aload_n D251_69 rfl).trans ?_
  refine (sx_sipush D251_70 (by decide)).trans ?_
  refine (sx_ia D251_73 h1 ((up2_cell (by omega)).trans ((up2_cell (by omega)).trans ((up2_cell (by omega)).trans ((up2_cell (by omega)).trans ((up2_cell (by omega)).trans (up2_cell (by omega)))))))).trans (gdR_to fun g6 => ?_)
  refine (sx_bipush D251_74 (by decide)).trans ?_
  refine ((sx_irem D251_76).trans (gdR_pos (by decide))).trans ?_
  refine (sx_isK (j := 6) D251_77 (MA_k13 h0) (w_small (by decide) (by decide)) (by decide) (by decide)).trans ?_
  refine (sx_iconst D251_78).trans ?_
  refine (sx_bipush D251_79 (by decide)).trans ?_
  refine (sx_aload_n D251_81 rfl).trans ?_
  exact sx_virt (c := 11) (ag := [(2, 427)]) (r := [(0, 9), (0, 1)]) (al' := [(2, 427), uU, uU, uU]) (np := 0) (nl := 4) (q := (1, 252, 1673)) D251_82 (by decide +kernel) (by decide) mP_252 mL_252 mC_252 (Nat.le_of_ble_eq_true rfl) rfl rfl (by simp [cat]) (by decide) (MA_o h0) rfl rfl
theorem E251_85 {d : Nat} {a1 a2 a3 s0 s1 s2 : Int} {S : SS} {I : II}  : ev d 251 85 [(2, 427), (2, a1), (0, a2), (0, a3)] [(0, s2), (0, s1), (0, s0)] S I = some ((0, if w s0 < (if w s2 < w s1 then w s2 else w s1) then (if w s2 < w s1 then w s2 else w s1) else w s0), S, I) := by
  refine (sx_min (q := (13, 0, 1315)) D251_85 (by decide +kernel) rfl (by simp [cat]) rfl rfl).trans ?_
  refine (sx_max (q := (12, 0, 1534)) D251_88 (by decide +kernel) rfl (by simp [cat]) rfl (w_ite (w_toInt _) (w_toInt _))).trans ?_
  exact sx_ireturn D251_91 (by decide +kernel)
theorem E252_0 {d : Nat} {S : SS} {I : II}  : ev d 252 0 [(2, 427), uU, uU, uU] [] S I = ev d 252 4 [(2, 427), (0, 0), (0, 0), uU] [] S I := by
  refine (sx_iconst D252_0).trans ?_
  refine (sx_istore_n (al' := [(2, 427), (0, 0), uU, uU]) D252_1 (Nat.le_of_ble_eq_true rfl) rfl rfl).trans ?_
  refine (sx_iconst D252_2).trans ?_
  refine (sx_istore_n (al' := [(2, 427), (0, 0), (0, 0), uU]) D252_3 (Nat.le_of_ble_eq_true rfl) rfl rfl).trans ?_
  exact rfl
theorem E252_4 {d : Nat} {a1 a2 : Int} {a3 : AV} {S : SS} {I : II} (h0 : MA S 427) : ev (d + 1) 252 4 [(2, 427), (0, a1), (0, a2), a3] [] S I = if w a2 < w (I 427 10) then (gdR (0 ≤ w a2 ∧ w a2 < 80) (if w (I 430 (w a2)) = 3000 then (gdR (0 ≤ w (a1 - 1) ∧ w (a1 - 1) < 80) (gdR (0 ≤ w (a1 - 1) ∧ w (a1 - 1) < 80) (ev (d + 1) 252 119 [(2, 427), (0, a1), (0, a2), (0, I 430 (w a2))] [] S (up2 I 432 (w (a1 - 1)) (-(I 432 (w (a1 - 1)))))))) else (if w (I 430 (w a2)) < 2000 then (if w (I 430 (w a2)) < 1000 then (ev (d + 1) 252 115 [(2, 427), (0, a1), (0, a2), (0, I 430 (w a2))] [(0, I 430 (w a2)), (0, a1), (2, 432)] S I) else (gdR (0 ≤ w ((I 430 (w a2)) - 1000) ∧ w ((I 430 (w a2)) - 1000) < 7) (ev (d + 1) 252 115 [(2, 427), (0, a1), (0, a2), (0, I 430 (w a2))] [(0, I 433 (w ((I 430 (w a2)) - 1000))), (0, a1), (2, 432)] S I))) else (gdR (0 ≤ w ((a1 + (-1)) - 1) ∧ w ((a1 + (-1)) - 1) < 80) (gdR (0 ≤ w (a1 + (-1)) ∧ w (a1 + (-1)) < 80) ((ev d 253 0 [(0, (I 430 (w a2)) - 2000), (0, I 432 (w ((a1 + (-1)) - 1))), (0, I 432 (w (a1 + (-1))))] [] S I).bind (fun q => ev (d + 1) 252 85 [(2, 427), (0, a1 + (-1)), (0, a2), (0, I 430 (w a2))] (psh q.1 [(0, (a1 + (-1)) - 1), (2, 432)]) q.2.1 q.2.2))))))) else (if w (I 427 10) = 0 then (if 0 < w (I 433 0) then (ev (d + 1) 252 147 [(2, 427), (0, a1), (0, a2), a3] [(0, 1), (0, 1)] S I) else (ev (d + 1) 252 147 [(2, 427), (0, a1), (0, a2), a3] [(0, 0), (0, 1)] S I)) else (ev (d + 1) 252 160 [(2, 427), (0, a1), (0, a2), a3] [(0, I 432 0)] S I)) := by
  refine (sx_iload_n D252_4 rfl).trans ?_
  refine (sx_aload_n D252_5 rfl).trans ?_
  refine (sx_gfI (q := (9, 10, 0, 1378)) (j := 10) D252_6 (by decide +kernel) (by decide +kernel) (by decide) (MA_o h0) rfl rfl).trans ?_
  refine sx_if_ge (pc' := 125) D252_9 (by decide) (by decide) ?_ ?_ rfl rfl
  · refine (sx_aload_n D252_12 rfl).trans ?_
    refine (sx_gfR (q := (9, 8, 0, 1376)) (b := 430) D252_13 (by decide +kernel) (by decide +kernel) (by decide) (MA_o h0) (MA_g8 h0)).trans ?_
    refine (sx_iload_n D252_16 rfl).trans ?_
    refine (sx_ia D252_17 (MA_k8 h0) rfl).trans (gdR_to fun g1 => ?_)
    refine (sx_istore_n (al' := [(2, 427), (0, a1), (0, a2), (0, I 430 (w a2))]) D252_18 (Nat.le_of_ble_eq_true rfl) rfl rfl).trans ?_
    refine (sx_iload_n D252_19 rfl).trans ?_
    refine (sx_sipush D252_20 (by decide)).trans ?_
    refine sx_if_ne (pc' := 46) D252_23 (by decide) (by decide) ?_ ?_ rfl (w_small (by decide) (by decide))
    · refine (sx_aload_n D252_26 rfl).trans ?_
      refine (sx_gfR (q := (9, 12, 0, 1380)) (b := 432) D252_27 (by decide +kernel) (by decide +kernel) (by decide) (MA_o h0) (MA_g12 h0)).trans ?_
      refine (sx_iload_n D252_30 rfl).trans ?_
      refine (sx_iconst D252_31).trans ?_
      refine (sx_isub D252_32).trans ?_
      refine (sx_aload_n D252_33 rfl).trans ?_
      refine (sx_gfR (q := (9, 12, 0, 1380)) (b := 432) D252_34 (by decide +kernel) (by decide +kernel) (by decide) (MA_o h0) (MA_g12 h0)).trans ?_
      refine (sx_iload_n D252_37 rfl).trans ?_
      refine (sx_iconst D252_38).trans ?_
      refine (sx_isub D252_39).trans ?_
      refine (sx_ia D252_40 (MA_k12 h0) rfl).trans (gdR_to fun g2 => ?_)
      refine (sx_ineg D252_41).trans ?_
      refine (sx_is D252_42 (MA_k12 h0)).trans (gdR_to fun g3 => ?_)
      refine (sx_goto (pc' := 119) D252_43 (by decide) (by decide)).trans ?_
      exact rfl
    · refine (sx_iload_n D252_46 rfl).trans ?_
      refine (sx_sipush D252_47 (by decide)).trans ?_
      refine sx_if_lt (pc' := 89) D252_50 (by decide) (by decide) ?_ ?_ rfl (w_small (by decide) (by decide))
      · refine (sx_aload_n D252_89 rfl).trans ?_
        refine (sx_gfR (q := (9, 12, 0, 1380)) (b := 432) D252_90 (by decide +kernel) (by decide +kernel) (by decide) (MA_o h0) (MA_g12 h0)).trans ?_
        refine (sx_iload_n D252_93 rfl).trans ?_
        refine (sx_iload_n D252_94 rfl).trans ?_
        refine (sx_sipush D252_95 (by decide)).trans ?_
        refine sx_if_lt (pc' := 114) D252_98 (by decide) (by decide) ?_ ?_ rfl (w_small (by decide) (by decide))
        · refine (sx_iload_n D252_114 rfl).trans ?_
          exact rfl
        · refine (sx_aload_n D252_101 rfl).trans ?_
          refine (sx_gfR (q := (9, 13, 0, 1381)) (b := 433) D252_102 (by decide +kernel) (by decide +kernel) (by decide) (MA_o h0) (MA_g13 h0)).trans ?_
          refine (sx_iload_n D252_105 rfl).trans ?_
          refine (sx_sipush D252_106 (by decide)).trans ?_
          refine (sx_isub D252_109).trans ?_
          refine (sx_ia D252_110 (MA_k13 h0) rfl).trans (gdR_to fun g4 => ?_)
          refine (sx_goto (pc' := 115) D252_111 (by decide) (by decide)).trans ?_
          exact rfl
      · refine (sx_iinc (al' := [(2, 427), (0, a1 + (-1)), (0, a2), (0, I 430 (w a2))]) D252_53 rfl rfl).trans ?_
        refine (sx_aload_n D252_56 rfl).trans ?_
        refine (sx_gfR (q := (9, 12, 0, 1380)) (b := 432) D252_57 (by decide +kernel) (by decide +kernel) (by decide) (MA_o h0) (MA_g12 h0)).trans ?_
        refine (sx_iload_n D252_60 rfl).trans ?_
        refine (sx_iconst D252_61).trans ?_
        refine (sx_isub D252_62).trans ?_
        refine (sx_iload_n D252_63 rfl).trans ?_
        refine (sx_sipush D252_64 (by decide)).trans ?_
        refine (sx_isub D252_67).trans ?_
        refine (sx_aload_n D252_68 rfl).trans ?_
        refine (sx_gfR (q := (9, 12, 0, 1380)) (b := 432) D252_69 (by decide +kernel) (by decide +kernel) (by decide) (MA_o h0) (MA_g12 h0)).trans ?_
        refine (sx_iload_n D252_72 rfl).trans ?_
        refine (sx_iconst D252_73).trans ?_
        refine (sx_isub D252_74).trans ?_
        refine (sx_ia D252_75 (MA_k12 h0) rfl).trans (gdR_to fun g5 => ?_)
        refine (sx_aload_n D252_76 rfl).trans ?_
        refine (sx_gfR (q := (9, 12, 0, 1380)) (b := 432) D252_77 (by decide +kernel) (by decide +kernel) (by decide) (MA_o h0) (MA_g12 h0)).trans ?_
        refine (sx_iload_n D252_80 rfl).trans ?_
        refine (sx_ia D252_81 (MA_k12 h0) rfl).trans (gdR_to fun g6 => ?_)
        exact sx_stat (ag := [(0, (I 430 (w a2)) - 2000), (0, I 432 (w ((a1 + (-1)) - 1))), (0, I 432 (w (a1 + (-1))))]) (r := [(0, (a1 + (-1)) - 1), (2, 432)]) (al' := [(0, (I 430 (w a2)) - 2000), (0, I 432 (w ((a1 + (-1)) - 1))), (0, I 432 (w (a1 + (-1))))]) (np := 3) (nl := 3) (q := (0, 253, 1677)) D252_82 (by decide +kernel) (by decide) mP_253 mL_253 (Nat.le_of_ble_eq_true rfl) rfl rfl (by simp [cat]) rfl rfl
  · refine (sx_aload_n D252_125 rfl).trans ?_
    refine (sx_gfI (q := (9, 10, 0, 1378)) (j := 10) D252_126 (by decide +kernel) (by decide +kernel) (by decide) (MA_o h0) rfl rfl).trans ?_
    refine sx_i0_ne (pc' := 154) D252_129 (by decide) (by decide) ?_ ?_ rfl
    · refine (sx_iconst D252_132).trans ?_
      refine (sx_aload_n D252_133 rfl).trans ?_
      refine (sx_gfR (q := (9, 13, 0, 1381)) (b := 433) D252_134 (by decide +kernel) (by decide +kernel) (by decide) (MA_o h0) (MA_g13 h0)).trans ?_
      refine (sx_iconst D252_137).trans ?_
      refine (sx_iaK (j := 0) D252_138 (MA_k13 h0) (w_small (by decide) (by decide)) (by decide) (by decide) rfl).trans ?_
      refine sx_i0_le (pc' := 146) D252_139 (by decide) (by decide) ?_ ?_ rfl
      · refine (sx_iconst D252_142).trans ?_
        refine (sx_goto (pc' := 147) D252_143 (by decide) (by decide)).trans ?_
        exact rfl
      · refine (sx_iconst D252_146).trans ?_
        exact rfl
    · refine (sx_aload_n D252_154 rfl).trans ?_
      refine (sx_gfR (q := (9, 12, 0, 1380)) (b := 432) D252_155 (by decide +kernel) (by decide +kernel) (by decide) (MA_o h0) (MA_g12 h0)).trans ?_
      refine (sx_iconst D252_158).trans ?_
      refine (sx_iaK (j := 0) D252_159 (MA_k12 h0) (w_small (by decide) (by decide)) (by decide) (by decide) rfl).trans ?_
      exact rfl
theorem E252_85 {d : Nat} {a1 a2 a3 s0 s1 s2 ln0 : Int} {S : SS} {I : II} (h0 : KA S s0 20 ln0) : ev d 252 85 [(2, 427), (0, a1), (0, a2), (0, a3)] [(0, s2), (0, s1), (2, s0)] S I = gdR (0 ≤ w s1 ∧ w s1 < ln0) (ev d 252 119 [(2, 427), (0, a1), (0, a2), (0, a3)] [] S (up2 I s0 (w s1) s2)) := by
  refine (sx_is D252_85 h0).trans (gdR_to fun g1 => ?_)
  refine (sx_goto (pc' := 119) D252_86 (by decide) (by decide)).trans ?_
  exact rfl
theorem E252_115 {d : Nat} {a1 a2 a3 s0 s1 s2 ln0 : Int} {S : SS} {I : II} (h0 : KA S s0 20 ln0) : ev d 252 115 [(2, 427), (0, a1), (0, a2), (0, a3)] [(0, s2), (0, s1), (2, s0)] S I = gdR (0 ≤ w s1 ∧ w s1 < ln0) (ev d 252 119 [(2, 427), (0, a1 + 1), (0, a2), (0, a3)] [] S (up2 I s0 (w s1) s2)) := by
  refine (sx_is D252_115 h0).trans (gdR_to fun g1 => ?_)
  refine (sx_iinc (al' := [(2, 427), (0, a1 + 1), (0, a2), (0, a3)]) D252_116 rfl rfl).trans ?_
  exact rfl
theorem E252_119 {d : Nat} {a1 a2 a3 : Int} {S : SS} {I : II}  : ev d 252 119 [(2, 427), (0, a1), (0, a2), (0, a3)] [] S I = ev d 252 4 [(2, 427), (0, a1), (0, a2 + 1), (0, a3)] [] S I := by
  refine (sx_iinc (al' := [(2, 427), (0, a1), (0, a2 + 1), (0, a3)]) D252_119 rfl rfl).trans ?_
  refine (sx_goto (pc' := 4) D252_122 (by decide) (by decide)).trans ?_
  exact rfl
theorem E252_147 {d : Nat} {a1 a2 s0 s1 : Int} {a3 : AV} {S : SS} {I : II}  : ev (d + 1) 252 147 [(2, 427), (0, a1), (0, a2), a3] [(0, s1), (0, s0)] S I = (ev d 199 0 [(0, s1)] [] S I).bind (fun q => ev (d + 1) 252 150 [(2, 427), (0, a1), (0, a2), a3] (psh q.1 [(0, s0)]) q.2.1 q.2.2) := by
  exact sx_stat (ag := [(0, s1)]) (r := [(0, s0)]) (al' := [(0, s1)]) (np := 1) (nl := 1) (q := (0, 199, 1328)) D252_147 (by decide +kernel) (by decide) mP_199 mL_199 (Nat.le_of_ble_eq_true rfl) rfl rfl (by simp [cat]) rfl rfl
theorem E252_150 {d : Nat} {a1 a2 s0 s1 : Int} {a3 : AV} {S : SS} {I : II}  : ev d 252 150 [(2, 427), (0, a1), (0, a2), a3] [(0, s1), (0, s0)] S I = ev d 252 160 [(2, 427), (0, a1), (0, a2), a3] [(0, s0 + s1)] S I := by
  refine (sx_iadd D252_150).trans ?_
  refine (sx_goto (pc' := 160) D252_151 (by decide) (by decide)).trans ?_
  exact rfl
theorem E252_160 {d : Nat} {a1 a2 s0 : Int} {a3 : AV} {S : SS} {I : II}  : ev d 252 160 [(2, 427), (0, a1), (0, a2), a3] [(0, s0)] S I = some ((0, s0), S, I) := by
  exact sx_ireturn D252_160 (by decide +kernel)
theorem E253_0 {d : Nat} {a0 a1 a2 : Int} {S : SS} {I : II}  : ev d 253 0 [(0, a0), (0, a1), (0, a2)] [] S I = if w a0 = 0 then (if w a1 < w a2 then (ev d 253 50 [(0, a0), (0, a1), (0, a2)] [(0, 1)] S I) else (ev d 253 50 [(0, a0), (0, a1), (0, a2)] [(0, 0)] S I)) else (if w a0 = 1 then (if w a2 < w a1 then (ev d 253 64 [(0, a0), (0, a1), (0, a2)] [(0, 1)] S I) else (ev d 253 64 [(0, a0), (0, a1), (0, a2)] [(0, 0)] S I)) else (if w a0 = 2 then (if w a1 = w a2 then (ev d 253 78 [(0, a0), (0, a1), (0, a2)] [(0, 1)] S I) else (ev d 253 78 [(0, a0), (0, a1), (0, a2)] [(0, 0)] S I)) else (if w a0 = 3 then (some ((0, a1 + a2), S, I)) else (if w a0 = 4 then (some ((0, a1 - a2), S, I)) else (if w a0 = 5 then (some ((0, a1 * a2), S, I)) else (if w a2 = 0 then (ev d 253 105 [(0, a0), (0, a1), (0, a2)] [(0, 0)] S I) else (gdR (w a2 ≠ 0) (ev d 253 105 [(0, a0), (0, a1), (0, a2)] [(0, iDiv a1 a2)] S I)))))))) := by
  refine (sx_iload_n D253_0 rfl).trans ?_
  refine ite_go (c := w a0 = 0) (fun x1 => ?_) (fun x1 => ?_)
  · refine (sx_tsw (pc' := 40) D253_1 ((rfl).trans x1) (by decide) rfl (by decide) (by decide)).trans ?_
    refine (sx_iload_n D253_40 rfl).trans ?_
    refine (sx_iload_n D253_41 rfl).trans ?_
    refine sx_if_ge (pc' := 49) D253_42 (by decide) (by decide) ?_ ?_ rfl rfl
    · refine (sx_iconst D253_45).trans ?_
      refine (sx_goto (pc' := 50) D253_46 (by decide) (by decide)).trans ?_
      exact rfl
    · refine (sx_iconst D253_49).trans ?_
      exact rfl
  refine ite_go (c := w a0 = 1) (fun x2 => ?_) (fun x2 => ?_)
  · refine (sx_tsw (pc' := 54) D253_1 ((rfl).trans x2) (by decide) rfl (by decide) (by decide)).trans ?_
    refine (sx_iload_n D253_54 rfl).trans ?_
    refine (sx_iload_n D253_55 rfl).trans ?_
    refine sx_if_le (pc' := 63) D253_56 (by decide) (by decide) ?_ ?_ rfl rfl
    · refine (sx_iconst D253_59).trans ?_
      refine (sx_goto (pc' := 64) D253_60 (by decide) (by decide)).trans ?_
      exact rfl
    · refine (sx_iconst D253_63).trans ?_
      exact rfl
  refine ite_go (c := w a0 = 2) (fun x3 => ?_) (fun x3 => ?_)
  · refine (sx_tsw (pc' := 68) D253_1 ((rfl).trans x3) (by decide) rfl (by decide) (by decide)).trans ?_
    refine (sx_iload_n D253_68 rfl).trans ?_
    refine (sx_iload_n D253_69 rfl).trans ?_
    refine sx_if_ne (pc' := 77) D253_70 (by decide) (by decide) ?_ ?_ rfl rfl
    · refine (sx_iconst D253_73).trans ?_
      refine (sx_goto (pc' := 78) D253_74 (by decide) (by decide)).trans ?_
      exact rfl
    · refine (sx_iconst D253_77).trans ?_
      exact rfl
  refine ite_go (c := w a0 = 3) (fun x4 => ?_) (fun x4 => ?_)
  · refine (sx_tsw (pc' := 82) D253_1 ((rfl).trans x4) (by decide) rfl (by decide) (by decide)).trans ?_
    refine (sx_iload_n D253_82 rfl).trans ?_
    refine (sx_iload_n D253_83 rfl).trans ?_
    refine (sx_iadd D253_84).trans ?_
    exact sx_ireturn D253_85 (by decide +kernel)
  refine ite_go (c := w a0 = 4) (fun x5 => ?_) (fun x5 => ?_)
  · refine (sx_tsw (pc' := 86) D253_1 ((rfl).trans x5) (by decide) rfl (by decide) (by decide)).trans ?_
    refine (sx_iload_n D253_86 rfl).trans ?_
    refine (sx_iload_n D253_87 rfl).trans ?_
    refine (sx_isub D253_88).trans ?_
    exact sx_ireturn D253_89 (by decide +kernel)
  refine ite_go (c := w a0 = 5) (fun x6 => ?_) (fun x6 => ?_)
  · refine (sx_tsw (pc' := 90) D253_1 ((rfl).trans x6) (by decide) rfl (by decide) (by decide)).trans ?_
    refine (sx_iload_n D253_90 rfl).trans ?_
    refine (sx_iload_n D253_91 rfl).trans ?_
    refine (sx_imul D253_92).trans ?_
    exact sx_ireturn D253_93 (by decide +kernel)
  refine (sx_tsd (pc' := 94) D253_1 (show w a0 < 0 ∨ 5 < w a0 by rw [show w a0 = w a0 from rfl]; omega) (by decide) (by decide)).trans ?_
  refine (sx_iload_n D253_94 rfl).trans ?_
  refine sx_i0_ne (pc' := 102) D253_95 (by decide) (by decide) ?_ ?_ rfl
  · refine (sx_iconst D253_98).trans ?_
    refine (sx_goto (pc' := 105) D253_99 (by decide) (by decide)).trans ?_
    exact rfl
  · refine (sx_iload_n D253_102 rfl).trans ?_
    refine (sx_iload_n D253_103 rfl).trans ?_
    refine (sx_idiv D253_104).trans (gdR_to fun g7 => ?_)
    exact rfl
theorem E253_50 {d : Nat} {a0 a1 a2 s0 : Int} {S : SS} {I : II}  : ev (d + 1) 253 50 [(0, a0), (0, a1), (0, a2)] [(0, s0)] S I = (ev d 199 0 [(0, s0)] [] S I).bind (fun q => ev (d + 1) 253 53 [(0, a0), (0, a1), (0, a2)] (psh q.1 []) q.2.1 q.2.2) := by
  exact sx_stat (ag := [(0, s0)]) (r := []) (al' := [(0, s0)]) (np := 1) (nl := 1) (q := (0, 199, 1328)) D253_50 (by decide +kernel) (by decide) mP_199 mL_199 (Nat.le_of_ble_eq_true rfl) rfl rfl (by simp [cat]) rfl rfl
theorem E253_53 {d : Nat} {a0 a1 a2 s0 : Int} {S : SS} {I : II}  : ev d 253 53 [(0, a0), (0, a1), (0, a2)] [(0, s0)] S I = some ((0, s0), S, I) := by
  exact sx_ireturn D253_53 (by decide +kernel)
theorem E253_64 {d : Nat} {a0 a1 a2 s0 : Int} {S : SS} {I : II}  : ev (d + 1) 253 64 [(0, a0), (0, a1), (0, a2)] [(0, s0)] S I = (ev d 199 0 [(0, s0)] [] S I).bind (fun q => ev (d + 1) 253 67 [(0, a0), (0, a1), (0, a2)] (psh q.1 []) q.2.1 q.2.2) := by
  exact sx_stat (ag := [(0, s0)]) (r := []) (al' := [(0, s0)]) (np := 1) (nl := 1) (q := (0, 199, 1328)) D253_64 (by decide +kernel) (by decide) mP_199 mL_199 (Nat.le_of_ble_eq_true rfl) rfl rfl (by simp [cat]) rfl rfl
theorem E253_67 {d : Nat} {a0 a1 a2 s0 : Int} {S : SS} {I : II}  : ev d 253 67 [(0, a0), (0, a1), (0, a2)] [(0, s0)] S I = some ((0, s0), S, I) := by
  exact sx_ireturn D253_67 (by decide +kernel)
theorem E253_78 {d : Nat} {a0 a1 a2 s0 : Int} {S : SS} {I : II}  : ev (d + 1) 253 78 [(0, a0), (0, a1), (0, a2)] [(0, s0)] S I = (ev d 199 0 [(0, s0)] [] S I).bind (fun q => ev (d + 1) 253 81 [(0, a0), (0, a1), (0, a2)] (psh q.1 []) q.2.1 q.2.2) := by
  exact sx_stat (ag := [(0, s0)]) (r := []) (al' := [(0, s0)]) (np := 1) (nl := 1) (q := (0, 199, 1328)) D253_78 (by decide +kernel) (by decide) mP_199 mL_199 (Nat.le_of_ble_eq_true rfl) rfl rfl (by simp [cat]) rfl rfl
theorem E253_81 {d : Nat} {a0 a1 a2 s0 : Int} {S : SS} {I : II}  : ev d 253 81 [(0, a0), (0, a1), (0, a2)] [(0, s0)] S I = some ((0, s0), S, I) := by
  exact sx_ireturn D253_81 (by decide +kernel)
theorem E253_105 {d : Nat} {a0 a1 a2 s0 : Int} {S : SS} {I : II}  : ev d 253 105 [(0, a0), (0, a1), (0, a2)] [(0, s0)] S I = some ((0, s0), S, I) := by
  exact sx_ireturn D253_105 (by decide +kernel)
theorem E254_0 {d : Nat} {a0 a1 a2 : Int} {S : SS} {I : II}  : ev d 254 0 [(2, a0), (0, a1), (0, a2), uU] [] S I = ev d 254 2 [(2, a0), (0, a1), (0, a2), (0, 0)] [] S I := by
  refine (sx_iconst D254_0).trans ?_
  refine (sx_istore_n (al' := [(2, a0), (0, a1), (0, a2), (0, 0)]) D254_1 (Nat.le_of_ble_eq_true rfl) rfl rfl).trans ?_
  exact rfl
theorem E254_2 {d : Nat} {a0 a1 a2 a3 ln0 : Int} {S : SS} {I : II} (h0 : KA S a0 20 ln0) : ev d 254 2 [(2, a0), (0, a1), (0, a2), (0, a3)] [] S I = if w a3 < 5 then (gdR (0 ≤ w (a2 + a3) ∧ w (a2 + a3) < ln0) (gdR (0 ≤ w (a1 + a3) ∧ w (a1 + a3) < ln0) (ev d 254 2 [(2, a0), (0, a1), (0, a2), (0, a3 + 1)] [] S (up2 I a0 (w (a1 + a3)) (I a0 (w (a2 + a3))))))) else (some (uU, S, I)) := by
  refine (sx_iload_n D254_2 rfl).trans ?_
  refine (sx_iconst D254_3).trans ?_
  refine sx_if_ge (pc' := 23) D254_4 (by decide) (by decide) ?_ ?_ rfl (w_small (by decide) (by decide))
  · refine (sx_aload_n D254_7 rfl).trans ?_
    refine (sx_iload_n D254_8 rfl).trans ?_
    refine (sx_iload_n D254_9 rfl).trans ?_
    refine (sx_iadd D254_10).trans ?_
    refine (sx_aload_n D254_11 rfl).trans ?_
    refine (sx_iload_n D254_12 rfl).trans ?_
    refine (sx_iload_n D254_13 rfl).trans ?_
    refine (sx_iadd D254_14).trans ?_
    refine (sx_ia D254_15 h0 rfl).trans (gdR_to fun g1 => ?_)
    refine (sx_is D254_16 h0).trans (gdR_to fun g2 => ?_)
    refine (sx_iinc (al' := [(2, a0), (0, a1), (0, a2), (0, a3 + 1)]) D254_17 rfl rfl).trans ?_
    refine (sx_goto (pc' := 2) D254_20 (by decide) (by decide)).trans ?_
    exact rfl
  · exact sx_return D254_23 (by decide +kernel)
theorem E255_0 {d : Nat} {a1 : Int} {S : SS} {I : II} (h0 : MA S 427) : ev d 255 0 [(2, 427), (1, a1), uU] [] S I = gdR (0 ≤ w (I 427 1) ∧ w (I 427 1) < 24) (some (uU, S, (up2 (up2 I 428 (w (I 427 1)) a1) 427 1 ((I 427 1) + 1)))) := by
  refine (sx_aload_n D255_0 rfl).trans ?_
  refine (sx_gfR (q := (9, 2, 0, 1370)) (b := 428) D255_1 (by decide +kernel) (by decide +kernel) (by decide) (MA_o h0) (MA_g2 h0)).trans ?_
  refine (sx_aload_n D255_4 rfl).trans ?_
  refine (sx_gfI (q := (9, 1, 0, 1369)) (j := 1) D255_5 (by decide +kernel) (by decide +kernel) (by decide) (MA_o h0) rfl rfl).trans ?_
  refine (sx_lload_n D255_8 rfl).trans ?_
  refine (sx_js D255_9 (MA_k2 h0)).trans (gdR_to fun g1 => ?_)
  refine (sx_aload_n D255_10 rfl).trans ?_
  refine (sx_dup D255_11 (by decide)).trans ?_
  refine (sx_gfI (q := (9, 1, 0, 1369)) (j := 1) D255_12 (by decide +kernel) (by decide +kernel) (by decide) (MA_o h0) rfl (up2_cell (by omega))).trans ?_
  refine (sx_iconst D255_15).trans ?_
  refine (sx_iadd D255_16).trans ?_
  refine (sx_pfI (q := (9, 1, 0, 1369)) (j := 1) D255_17 (by decide +kernel) (by decide) (by decide) (MA_o h0) rfl).trans ?_
  exact sx_return D255_20 (by decide +kernel)
theorem E256_0 {d : Nat} {a1 : Int} {S : SS} {I : II} (h0 : MA S 427) : ev (d + 1) 256 0 [(2, 427), (0, a1), uU] [] S I = (ev d 217 0 [(2, 427), uU] [] S (up2 I 427 0 0)).bind (fun q => ev (d + 1) 256 9 [(2, 427), (0, a1), uU] (psh q.1 []) q.2.1 q.2.2) := by
  refine (sx_aload_n D256_0 rfl).trans ?_
  refine (sx_iconst D256_1).trans ?_
  refine (sx_pfI (q := (9, 0, 0, 1368)) (j := 0) D256_2 (by decide +kernel) (by decide) (by decide) (MA_o h0) rfl).trans ?_
  refine (sx_aload_n D256_5 rfl).trans ?_
  exact sx_virt (c := 11) (ag := [(2, 427)]) (r := []) (al' := [(2, 427), uU]) (np := 0) (nl := 2) (q := (1, 217, 1546)) D256_6 (by decide +kernel) (by decide) mP_217 mL_217 mC_217 (Nat.le_of_ble_eq_true rfl) rfl rfl (by simp [cat]) (by decide) (MA_o h0) rfl rfl
theorem E256_9 {d : Nat} {a1 : Int} {S : SS} {I : II} (h0 : MA S 427) : ev (d + 1) 256 9 [(2, 427), (0, a1), uU] [] S I = (ev d 257 0 [(2, 427), (2, 438), (0, a1), uU] [] S I).bind (fun q => ev (d + 1) 256 18 [(2, 427), (0, a1), uU] (psh q.1 []) q.2.1 q.2.2) := by
  refine (sx_aload_n D256_9 rfl).trans ?_
  refine (sx_aload_n D256_10 rfl).trans ?_
  refine (sx_gfR (q := (9, 20, 0, 1388)) (b := 438) D256_11 (by decide +kernel) (by decide +kernel) (by decide) (MA_o h0) (MA_g20 h0)).trans ?_
  refine (sx_iload_n D256_14 rfl).trans ?_
  exact sx_virt (c := 11) (ag := [(2, 427), (2, 438), (0, a1)]) (r := []) (al' := [(2, 427), (2, 438), (0, a1), uU]) (np := 2) (nl := 4) (q := (1, 257, 1691)) D256_15 (by decide +kernel) (by decide) mP_257 mL_257 mC_257 (Nat.le_of_ble_eq_true rfl) rfl rfl (by simp [cat]) (by decide) (MA_o h0) rfl rfl
theorem E256_18 {d : Nat} {a1 s0 : Int} {S : SS} {I : II} (h0 : MA S 427) : ev (d + 1) 256 18 [(2, 427), (0, a1), uU] [(0, s0)] S I = if w s0 < 0 then (some ((0, s0), S, I)) else (gdR (0 ≤ w (s0 + 2) ∧ w (s0 + 2) < 844) ((ev d 255 0 [(2, 427), (1, w (I 438 (w (s0 + 2)))), uU] [] S (up2 I 427 1 0)).bind (fun q => ev (d + 1) 256 43 [(2, 427), (0, a1), (0, s0)] (psh q.1 []) q.2.1 q.2.2))) := by
  refine (sx_istore_n (al' := [(2, 427), (0, a1), (0, s0)]) D256_18 (Nat.le_of_ble_eq_true rfl) rfl rfl).trans ?_
  refine (sx_iload_n D256_19 rfl).trans ?_
  refine sx_i0_ge (pc' := 25) D256_20 (by decide) (by decide) ?_ ?_ rfl
  · refine (sx_iload_n D256_23 rfl).trans ?_
    exact sx_ireturn D256_24 (by decide +kernel)
  · refine (sx_aload_n D256_25 rfl).trans ?_
    refine (sx_iconst D256_26).trans ?_
    refine (sx_pfI (q := (9, 1, 0, 1369)) (j := 1) D256_27 (by decide +kernel) (by decide) (by decide) (MA_o h0) rfl).trans ?_
    refine (sx_aload_n D256_30 rfl).trans ?_
    refine (sx_aload_n D256_31 rfl).trans ?_
    refine (sx_gfR (q := (9, 20, 0, 1388)) (b := 438) D256_32 (by decide +kernel) (by decide +kernel) (by decide) (MA_o h0) (MA_g20 h0)).trans ?_
    refine (sx_iload_n D256_35 rfl).trans ?_
    refine (sx_iconst D256_36).trans ?_
    refine (sx_iadd D256_37).trans ?_
    refine (sx_ia D256_38 (MA_k20 h0) (up2_cell (by omega))).trans (gdR_to fun g1 => ?_)
    refine (sx_i2l D256_39).trans ?_
    exact sx_virt (c := 11) (ag := [(2, 427), (1, w (I 438 (w (s0 + 2))))]) (r := []) (al' := [(2, 427), (1, w (I 438 (w (s0 + 2)))), uU]) (np := 1) (nl := 3) (q := (1, 255, 1683)) D256_40 (by decide +kernel) (by decide) mP_255 mL_255 mC_255 (Nat.le_of_ble_eq_true rfl) rfl rfl (by simp [cat]) (by decide) (MA_o h0) rfl rfl
theorem E256_43 {d : Nat} {a1 a2 : Int} {S : SS} {I : II} (h0 : MA S 427) : ev (d + 1) 256 43 [(2, 427), (0, a1), (0, a2)] [] S I = gdR (0 ≤ w (a2 + 3) ∧ w (a2 + 3) < 844) ((ev d 255 0 [(2, 427), (1, w (I 438 (w (a2 + 3)))), uU] [] S I).bind (fun q => ev (d + 1) 256 56 [(2, 427), (0, a1), (0, a2)] (psh q.1 []) q.2.1 q.2.2)) := by
  refine (sx_aload_n D256_43 rfl).trans ?_
  refine (sx_aload_n D256_44 rfl).trans ?_
  refine (sx_gfR (q := (9, 20, 0, 1388)) (b := 438) D256_45 (by decide +kernel) (by decide +kernel) (by decide) (MA_o h0) (MA_g20 h0)).trans ?_
  refine (sx_iload_n D256_48 rfl).trans ?_
  refine (sx_iconst D256_49).trans ?_
  refine (sx_iadd D256_50).trans ?_
  refine (sx_ia D256_51 (MA_k20 h0) rfl).trans (gdR_to fun g1 => ?_)
  refine (sx_i2l D256_52).trans ?_
  exact sx_virt (c := 11) (ag := [(2, 427), (1, w (I 438 (w (a2 + 3))))]) (r := []) (al' := [(2, 427), (1, w (I 438 (w (a2 + 3)))), uU]) (np := 1) (nl := 3) (q := (1, 255, 1683)) D256_53 (by decide +kernel) (by decide) mP_255 mL_255 mC_255 (Nat.le_of_ble_eq_true rfl) rfl rfl (by simp [cat]) (by decide) (MA_o h0) rfl rfl
theorem E256_56 {d : Nat} {a1 a2 : Int} {S : SS} {I : II} (h0 : MA S 427) : ev (d + 1) 256 56 [(2, 427), (0, a1), (0, a2)] [] S I = gdR (0 ≤ w (a2 + 4) ∧ w (a2 + 4) < 844) ((ev d 255 0 [(2, 427), (1, w (I 438 (w (a2 + 4)))), uU] [] S I).bind (fun q => ev (d + 1) 256 69 [(2, 427), (0, a1), (0, a2)] (psh q.1 []) q.2.1 q.2.2)) := by
  refine (sx_aload_n D256_56 rfl).trans ?_
  refine (sx_aload_n D256_57 rfl).trans ?_
  refine (sx_gfR (q := (9, 20, 0, 1388)) (b := 438) D256_58 (by decide +kernel) (by decide +kernel) (by decide) (MA_o h0) (MA_g20 h0)).trans ?_
  refine (sx_iload_n D256_61 rfl).trans ?_
  refine (sx_iconst D256_62).trans ?_
  refine (sx_iadd D256_63).trans ?_
  refine (sx_ia D256_64 (MA_k20 h0) rfl).trans (gdR_to fun g1 => ?_)
  refine (sx_i2l D256_65).trans ?_
  exact sx_virt (c := 11) (ag := [(2, 427), (1, w (I 438 (w (a2 + 4))))]) (r := []) (al' := [(2, 427), (1, w (I 438 (w (a2 + 4)))), uU]) (np := 1) (nl := 3) (q := (1, 255, 1683)) D256_66 (by decide +kernel) (by decide) mP_255 mL_255 mC_255 (Nat.le_of_ble_eq_true rfl) rfl rfl (by simp [cat]) (by decide) (MA_o h0) rfl rfl
theorem E256_69 {d : Nat} {a1 a2 : Int} {S : SS} {I : II} (h0 : MA S 427) : ev (d + 1) 256 69 [(2, 427), (0, a1), (0, a2)] [] S I = gdR (0 ≤ w (a2 + 0) ∧ w (a2 + 0) < 844) (gdR (0 ≤ w (a2 + 1) ∧ w (a2 + 1) < 844) ((ev d 232 0 [(2, 427), (0, (10 * (I 438 (w (a2 + 0)))) + (I 438 (w (a2 + 1)))), uU] [] S I).bind (fun q => ev (d + 1) 256 93 [(2, 427), (0, a1), (0, a2)] (psh q.1 []) q.2.1 q.2.2))) := by
  refine (sx_aload_n D256_69 rfl).trans ?_
  refine (sx_bipush D256_70 (by decide)).trans ?_
  refine (sx_aload_n D256_72 rfl).trans ?_
  refine (sx_gfR (q := (9, 20, 0, 1388)) (b := 438) D256_73 (by decide +kernel) (by decide +kernel) (by decide) (MA_o h0) (MA_g20 h0)).trans ?_
  refine (sx_iload_n D256_76 rfl).trans ?_
  refine (sx_iconst D256_77).trans ?_
  refine (sx_iadd D256_78).trans ?_
  refine (sx_ia D256_79 (MA_k20 h0) rfl).trans (gdR_to fun g1 => ?_)
  refine (sx_imul D256_80).trans ?_
  refine (sx_aload_n D256_81 rfl).trans ?_
  refine (sx_gfR (q := (9, 20, 0, 1388)) (b := 438) D256_82 (by decide +kernel) (by decide +kernel) (by decide) (MA_o h0) (MA_g20 h0)).trans ?_
  refine (sx_iload_n D256_85 rfl).trans ?_
  refine (sx_iconst D256_86).trans ?_
  refine (sx_iadd D256_87).trans ?_
  refine (sx_ia D256_88 (MA_k20 h0) rfl).trans (gdR_to fun g2 => ?_)
  refine (sx_iadd D256_89).trans ?_
  exact sx_virt (c := 11) (ag := [(2, 427), (0, (10 * (I 438 (w (a2 + 0)))) + (I 438 (w (a2 + 1))))]) (r := []) (al' := [(2, 427), (0, (10 * (I 438 (w (a2 + 0)))) + (I 438 (w (a2 + 1)))), uU]) (np := 1) (nl := 3) (q := (1, 232, 1597)) D256_90 (by decide +kernel) (by decide) mP_232 mL_232 mC_232 (Nat.le_of_ble_eq_true rfl) rfl rfl (by simp [cat]) (by decide) (MA_o h0) rfl rfl
theorem E256_93 {d : Nat} {a1 a2 s0 : Int} {S : SS} {I : II}  : ev d 256 93 [(2, 427), (0, a1), (0, a2)] [(0, s0)] S I = some ((0, s0), S, I) := by
  exact sx_ireturn D256_93 (by decide +kernel)
theorem E257_0 {d : Nat} {a1 a2 : Int} {S : SS} {I : II} (h0 : MA S 427) : ev (d + 1) 257 0 [(2, 427), (2, a1), (0, a2), uU] [] S I = (ev d 210 0 [(2, 427), (0, a2)] [] S I).bind (fun q => ev (d + 1) 257 5 [(2, 427), (2, a1), (0, a2), uU] (psh q.1 []) q.2.1 q.2.2) := by
  refine (sx_aload_n D257_0 rfl).trans ?_
  refine (sx_iload_n D257_1 rfl).trans ?_
  exact sx_virt (c := 11) (ag := [(2, 427), (0, a2)]) (r := []) (al' := [(2, 427), (0, a2)]) (np := 1) (nl := 2) (q := (1, 210, 1517)) D257_2 (by decide +kernel) (by decide) mP_210 mL_210 mC_210 (Nat.le_of_ble_eq_true rfl) rfl rfl (by simp [cat]) (by decide) (MA_o h0) rfl rfl
theorem E257_5 {d : Nat} {a1 a2 s0 : Int} {S : SS} {I : II}  : ev (d + 1) 257 5 [(2, 427), (2, a1), (0, a2), uU] [(0, s0)] S I = if w s0 = 0 then (some ((0, (-1)), S, I)) else ((ev d 212 0 [(2, a1), (0, a2), (0, 6)] [] S I).bind (fun q => ev (d + 1) 257 17 [(2, 427), (2, a1), (0, a2), uU] (psh q.1 []) q.2.1 q.2.2)) := by
  refine sx_i0_ne (pc' := 10) D257_5 (by decide) (by decide) ?_ ?_ rfl
  · refine (sx_iconst D257_8).trans ?_
    exact sx_ireturn D257_9 (by decide +kernel)
  · refine (sx_aload_n D257_10 rfl).trans ?_
    refine (sx_iload_n D257_11 rfl).trans ?_
    refine (sx_bipush D257_12 (by decide)).trans ?_
    exact sx_stat (ag := [(2, a1), (0, a2), (0, 6)]) (r := []) (al' := [(2, a1), (0, a2), (0, 6)]) (np := 3) (nl := 3) (q := (0, 212, 1526)) D257_14 (by decide +kernel) (by decide) mP_212 mL_212 (Nat.le_of_ble_eq_true rfl) rfl rfl (by simp [cat]) rfl rfl
theorem E257_17 {d : Nat} {a1 a2 s0 : Int} {S : SS} {I : II}  : ev (d + 1) 257 17 [(2, 427), (2, a1), (0, a2), uU] [(0, s0)] S I = (ev d 212 0 [(2, a1), (0, a2), (0, 5)] [] S I).bind (fun q => ev (d + 1) 257 23 [(2, 427), (2, a1), (0, a2), uU] (psh q.1 [(0, s0)]) q.2.1 q.2.2) := by
  refine (sx_aload_n D257_17 rfl).trans ?_
  refine (sx_iload_n D257_18 rfl).trans ?_
  refine (sx_iconst D257_19).trans ?_
  exact sx_stat (ag := [(2, a1), (0, a2), (0, 5)]) (r := [(0, s0)]) (al' := [(2, a1), (0, a2), (0, 5)]) (np := 3) (nl := 3) (q := (0, 212, 1526)) D257_20 (by decide +kernel) (by decide) mP_212 mL_212 (Nat.le_of_ble_eq_true rfl) rfl rfl (by simp [cat]) rfl rfl
theorem E257_23 {d : Nat} {a1 a2 s0 s1 : Int} {S : SS} {I : II}  : ev (d + 1) 257 23 [(2, 427), (2, a1), (0, a2), uU] [(0, s1), (0, s0)] S I = if w s0 = w s1 then (some ((0, (-2)), S, I)) else ((ev d 212 0 [(2, a1), (0, a2), (0, 6)] [] S I).bind (fun q => ev (d + 1) 257 37 [(2, 427), (2, a1), (0, a2), uU] (psh q.1 [(0, a2)]) q.2.1 q.2.2)) := by
  refine sx_if_ne (pc' := 29) D257_23 (by decide) (by decide) ?_ ?_ rfl rfl
  · refine (sx_bipush D257_26 (by decide)).trans ?_
    exact sx_ireturn D257_28 (by decide +kernel)
  · refine (sx_iload_n D257_29 rfl).trans ?_
    refine (sx_aload_n D257_30 rfl).trans ?_
    refine (sx_iload_n D257_31 rfl).trans ?_
    refine (sx_bipush D257_32 (by decide)).trans ?_
    exact sx_stat (ag := [(2, a1), (0, a2), (0, 6)]) (r := [(0, a2)]) (al' := [(2, a1), (0, a2), (0, 6)]) (np := 3) (nl := 3) (q := (0, 212, 1526)) D257_34 (by decide +kernel) (by decide) mP_212 mL_212 (Nat.le_of_ble_eq_true rfl) rfl rfl (by simp [cat]) rfl rfl
theorem E257_37 {d : Nat} {a1 a2 s0 s1 : Int} {S : SS} {I : II}  : ev (d + 1) 257 37 [(2, 427), (2, a1), (0, a2), uU] [(0, s1), (0, s0)] S I = (ev d 229 0 [(0, s0), (0, s1)] [] S I).bind (fun q => ev (d + 1) 257 40 [(2, 427), (2, a1), (0, a2), uU] (psh q.1 []) q.2.1 q.2.2) := by
  exact sx_stat (ag := [(0, s0), (0, s1)]) (r := []) (al' := [(0, s0), (0, s1)]) (np := 2) (nl := 2) (q := (0, 229, 1587)) D257_37 (by decide +kernel) (by decide) mP_229 mL_229 (Nat.le_of_ble_eq_true rfl) rfl rfl (by simp [cat]) rfl rfl
theorem E257_40 {d : Nat} {a1 a2 s0 : Int} {S : SS} {I : II}  : ev (d + 1) 257 40 [(2, 427), (2, a1), (0, a2), uU] [(0, s0)] S I = (ev d 212 0 [(2, a1), (0, a2), (0, 6)] [] S I).bind (fun q => ev (d + 1) 257 52 [(2, 427), (2, a1), (0, a2), (0, s0)] (psh q.1 [(0, 6), (0, a2), (2, a1)]) q.2.1 q.2.2) := by
  refine (sx_istore_n (al' := [(2, 427), (2, a1), (0, a2), (0, s0)]) D257_40 (Nat.le_of_ble_eq_true rfl) rfl rfl).trans ?_
  refine (sx_aload_n D257_41 rfl).trans ?_
  refine (sx_iload_n D257_42 rfl).trans ?_
  refine (sx_bipush D257_43 (by decide)).trans ?_
  refine (sx_aload_n D257_45 rfl).trans ?_
  refine (sx_iload_n D257_46 rfl).trans ?_
  refine (sx_bipush D257_47 (by decide)).trans ?_
  exact sx_stat (ag := [(2, a1), (0, a2), (0, 6)]) (r := [(0, 6), (0, a2), (2, a1)]) (al' := [(2, a1), (0, a2), (0, 6)]) (np := 3) (nl := 3) (q := (0, 212, 1526)) D257_49 (by decide +kernel) (by decide) mP_212 mL_212 (Nat.le_of_ble_eq_true rfl) rfl rfl (by simp [cat]) rfl rfl
theorem E257_52 {d : Nat} {a1 a2 a3 s0 s1 s2 s3 : Int} {S : SS} {I : II}  : ev (d + 1) 257 52 [(2, 427), (2, a1), (0, a2), (0, a3)] [(0, s3), (0, s2), (0, s1), (2, s0)] S I = (ev d 230 0 [(2, s0), (0, s1), (0, s2), (0, s3 + 1)] [] S I).bind (fun q => ev (d + 1) 257 57 [(2, 427), (2, a1), (0, a2), (0, a3)] (psh q.1 []) q.2.1 q.2.2) := by
  refine (sx_iconst D257_52).trans ?_
  refine (sx_iadd D257_53).trans ?_
  exact sx_stat (ag := [(2, s0), (0, s1), (0, s2), (0, s3 + 1)]) (r := []) (al' := [(2, s0), (0, s1), (0, s2), (0, s3 + 1)]) (np := 4) (nl := 4) (q := (0, 230, 1590)) D257_54 (by decide +kernel) (by decide) mP_230 mL_230 (Nat.le_of_ble_eq_true rfl) rfl rfl (by simp [cat]) rfl rfl
theorem E257_57 {d : Nat} {a1 a2 a3 ln0 : Int} {S : SS} {I : II} (h0 : KA S a1 20 ln0) : ev (d + 1) 257 57 [(2, 427), (2, a1), (0, a2), (0, a3)] [] S I = gdR (0 ≤ w (a3 + 3) ∧ w (a3 + 3) < ln0) ((ev d 230 0 [(2, a1), (0, a2), (0, 4), (0, I a1 (w (a3 + 3)))] [] S I).bind (fun q => ev (d + 1) 257 68 [(2, 427), (2, a1), (0, a2), (0, a3)] (psh q.1 []) q.2.1 q.2.2)) := by
  refine (sx_aload_n D257_57 rfl).trans ?_
  refine (sx_iload_n D257_58 rfl).trans ?_
  refine (sx_iconst D257_59).trans ?_
  refine (sx_aload_n D257_60 rfl).trans ?_
  refine (sx_iload_n D257_61 rfl).trans ?_
  refine (sx_iconst D257_62).trans ?_
  refine (sx_iadd D257_63).trans ?_
  refine (sx_ia D257_64 h0 rfl).trans (gdR_to fun g1 => ?_)
  exact sx_stat (ag := [(2, a1), (0, a2), (0, 4), (0, I a1 (w (a3 + 3)))]) (r := []) (al' := [(2, a1), (0, a2), (0, 4), (0, I a1 (w (a3 + 3)))]) (np := 4) (nl := 4) (q := (0, 230, 1590)) D257_65 (by decide +kernel) (by decide) mP_230 mL_230 (Nat.le_of_ble_eq_true rfl) rfl rfl (by simp [cat]) rfl rfl
theorem E257_68 {d : Nat} {a1 a2 a3 : Int} {S : SS} {I : II}  : ev d 257 68 [(2, 427), (2, a1), (0, a2), (0, a3)] [] S I = some ((0, a3), S, I) := by
  refine (sx_iload_n D257_68 rfl).trans ?_
  exact sx_ireturn D257_69 (by decide +kernel)
theorem E258_0 {d : Nat} {a1 a2 : Int} {S : SS} {I : II} (h0 : MA S 427) : ev (d + 1) 258 0 [(2, 427), (0, a1), (0, a2)] [] S I = (ev d 217 0 [(2, 427), uU] [] S (up2 I 427 0 0)).bind (fun q => ev (d + 1) 258 9 [(2, 427), (0, a1), (0, a2)] (psh q.1 []) q.2.1 q.2.2) := by
  refine (sx_aload_n D258_0 rfl).trans ?_
  refine (sx_iconst D258_1).trans ?_
  refine (sx_pfI (q := (9, 0, 0, 1368)) (j := 0) D258_2 (by decide +kernel) (by decide) (by decide) (MA_o h0) rfl).trans ?_
  refine (sx_aload_n D258_5 rfl).trans ?_
  exact sx_virt (c := 11) (ag := [(2, 427)]) (r := []) (al' := [(2, 427), uU]) (np := 0) (nl := 2) (q := (1, 217, 1546)) D258_6 (by decide +kernel) (by decide) mP_217 mL_217 mC_217 (Nat.le_of_ble_eq_true rfl) rfl rfl (by simp [cat]) (by decide) (MA_o h0) rfl rfl
theorem E258_9 {d : Nat} {a1 a2 : Int} {S : SS} {I : II} (h0 : MA S 427) : ev (d + 1) 258 9 [(2, 427), (0, a1), (0, a2)] [] S I = (ev d 259 0 [(2, 427), (2, 438), (0, a1), (0, a2), uU, uU] [] S I).bind (fun q => ev (d + 1) 258 20 [(2, 427), (0, a1), (0, a2)] (psh q.1 [(2, 427)]) q.2.1 q.2.2) := by
  refine (sx_aload_n D258_9 rfl).trans ?_
  refine (sx_aload_n D258_10 rfl).trans ?_
  refine (sx_aload_n D258_11 rfl).trans ?_
  refine (sx_gfR (q := (9, 20, 0, 1388)) (b := 438) D258_12 (by decide +kernel) (by decide +kernel) (by decide) (MA_o h0) (MA_g20 h0)).trans ?_
  refine (sx_iload_n D258_15 rfl).trans ?_
  refine (sx_iload_n D258_16 rfl).trans ?_
  exact sx_virt (c := 11) (ag := [(2, 427), (2, 438), (0, a1), (0, a2)]) (r := [(2, 427)]) (al' := [(2, 427), (2, 438), (0, a1), (0, a2), uU, uU]) (np := 3) (nl := 6) (q := (1, 259, 1699)) D258_17 (by decide +kernel) (by decide) mP_259 mL_259 mC_259 (Nat.le_of_ble_eq_true rfl) rfl rfl (by simp [cat]) (by decide) (MA_o h0) rfl rfl
theorem E258_20 {d : Nat} {a1 a2 s1 : Int} {S : SS} {I : II} (h0 : MA S 427) : ev (d + 1) 258 20 [(2, 427), (0, a1), (0, a2)] [(0, s1), (2, 427)] S I = (ev d 231 0 [(2, 427), (0, s1)] [] S I).bind (fun q => ev (d + 1) 258 23 [(2, 427), (0, a1), (0, a2)] (psh q.1 []) q.2.1 q.2.2) := by
  exact sx_virt (c := 11) (ag := [(2, 427), (0, s1)]) (r := []) (al' := [(2, 427), (0, s1)]) (np := 1) (nl := 2) (q := (1, 231, 1593)) D258_20 (by decide +kernel) (by decide) mP_231 mL_231 mC_231 (Nat.le_of_ble_eq_true rfl) rfl rfl (by simp [cat]) (by decide) (MA_o h0) rfl rfl
theorem E258_23 {d : Nat} {a1 a2 s0 : Int} {S : SS} {I : II}  : ev d 258 23 [(2, 427), (0, a1), (0, a2)] [(0, s0)] S I = some ((0, s0), S, I) := by
  exact sx_ireturn D258_23 (by decide +kernel)
theorem E259_0 {d : Nat} {a1 a2 a3 : Int} {S : SS} {I : II} (h0 : MA S 427) : ev (d + 1) 259 0 [(2, 427), (2, a1), (0, a2), (0, a3), uU, uU] [] S I = (ev d 260 0 [(2, 427), (2, a1), (0, a2), (0, a3), uU, uU] [] S I).bind (fun q => ev (d + 1) 259 7 [(2, 427), (2, a1), (0, a2), (0, a3), uU, uU] (psh q.1 []) q.2.1 q.2.2) := by
  refine (sx_aload_n D259_0 rfl).trans ?_
  refine (sx_aload_n D259_1 rfl).trans ?_
  refine (sx_iload_n D259_2 rfl).trans ?_
  refine (sx_iload_n D259_3 rfl).trans ?_
  exact sx_virt (c := 11) (ag := [(2, 427), (2, a1), (0, a2), (0, a3)]) (r := []) (al' := [(2, 427), (2, a1), (0, a2), (0, a3), uU, uU]) (np := 3) (nl := 6) (q := (1, 260, 1703)) D259_4 (by decide +kernel) (by decide) mP_260 mL_260 mC_260 (Nat.le_of_ble_eq_true rfl) rfl rfl (by simp [cat]) (by decide) (MA_o h0) rfl rfl
theorem E259_7 {d : Nat} {a1 a2 a3 s0 : Int} {S : SS} {I : II}  : ev (d + 1) 259 7 [(2, 427), (2, a1), (0, a2), (0, a3), uU, uU] [(0, s0)] S I = if w s0 = 0 then ((ev d 212 0 [(2, a1), (0, a2), (0, 3)] [] S I).bind (fun q => ev (d + 1) 259 22 [(2, 427), (2, a1), (0, a2), (0, a3), (0, s0), uU] (psh q.1 [(0, a2), (2, a1)]) q.2.1 q.2.2)) else (ev (d + 1) 259 36 [(2, 427), (2, a1), (0, a2), (0, a3), (0, s0), uU] [] S I) := by
  refine (sx_istore (al' := [(2, 427), (2, a1), (0, a2), (0, a3), (0, s0), uU]) D259_7 (Nat.le_of_ble_eq_true rfl) rfl rfl).trans ?_
  refine (sx_iload D259_9 rfl).trans ?_
  refine sx_i0_ne (pc' := 36) D259_11 (by decide) (by decide) ?_ ?_ rfl
  · refine (sx_aload_n D259_14 rfl).trans ?_
    refine (sx_iload_n D259_15 rfl).trans ?_
    refine (sx_aload_n D259_16 rfl).trans ?_
    refine (sx_iload_n D259_17 rfl).trans ?_
    refine (sx_iconst D259_18).trans ?_
    exact sx_stat (ag := [(2, a1), (0, a2), (0, 3)]) (r := [(0, a2), (2, a1)]) (al' := [(2, a1), (0, a2), (0, 3)]) (np := 3) (nl := 3) (q := (0, 212, 1526)) D259_19 (by decide +kernel) (by decide) mP_212 mL_212 (Nat.le_of_ble_eq_true rfl) rfl rfl (by simp [cat]) rfl rfl
  · exact rfl
theorem E259_22 {d : Nat} {a1 a2 a3 a4 s0 s1 s2 : Int} {S : SS} {I : II}  : ev (d + 1) 259 22 [(2, 427), (2, a1), (0, a2), (0, a3), (0, a4), uU] [(0, s2), (0, s1), (2, s0)] S I = (ev d 221 0 [(2, a1), (0, a2), (0, a3), uU] [] S I).bind (fun q => ev (d + 1) 259 28 [(2, 427), (2, a1), (0, a2), (0, a3), (0, a4), uU] (psh q.1 [(0, s2), (0, s1), (2, s0)]) q.2.1 q.2.2) := by
  refine (sx_aload_n D259_22 rfl).trans ?_
  refine (sx_iload_n D259_23 rfl).trans ?_
  refine (sx_iload_n D259_24 rfl).trans ?_
  exact sx_stat (ag := [(2, a1), (0, a2), (0, a3)]) (r := [(0, s2), (0, s1), (2, s0)]) (al' := [(2, a1), (0, a2), (0, a3), uU]) (np := 3) (nl := 4) (q := (0, 221, 1563)) D259_25 (by decide +kernel) (by decide) mP_221 mL_221 (Nat.le_of_ble_eq_true rfl) rfl rfl (by simp [cat]) rfl rfl
theorem E259_28 {d : Nat} {a1 a2 a3 a4 s0 s1 s2 s3 : Int} {S : SS} {I : II}  : ev (d + 1) 259 28 [(2, 427), (2, a1), (0, a2), (0, a3), (0, a4), uU] [(0, s3), (0, s2), (0, s1), (2, s0)] S I = (ev d 222 0 [(0, s1), (0, s2 + s3)] [] S I).bind (fun q => ev (d + 1) 259 32 [(2, 427), (2, a1), (0, a2), (0, a3), (0, a4), uU] (psh q.1 [(2, s0)]) q.2.1 q.2.2) := by
  refine (sx_iadd D259_28).trans ?_
  exact sx_stat (ag := [(0, s1), (0, s2 + s3)]) (r := [(2, s0)]) (al' := [(0, s1), (0, s2 + s3)]) (np := 2) (nl := 2) (q := (0, 222, 1566)) D259_29 (by decide +kernel) (by decide) mP_222 mL_222 (Nat.le_of_ble_eq_true rfl) rfl rfl (by simp [cat]) rfl rfl
theorem E259_32 {d : Nat} {a1 a2 a3 a4 s0 s1 ln0 : Int} {S : SS} {I : II} (h0 : KA S s0 20 ln0) : ev d 259 32 [(2, 427), (2, a1), (0, a2), (0, a3), (0, a4), uU] [(0, s1), (2, s0)] S I = gdR (0 ≤ w (s1 + 4) ∧ w (s1 + 4) < ln0) (ev d 259 36 [(2, 427), (2, a1), (0, a2), (0, a3), (0, a4), uU] [] S (up2 I s0 (w (s1 + 4)) 1)) := by
  refine (sx_iconst D259_32).trans ?_
  refine (sx_iadd D259_33).trans ?_
  refine (sx_iconst D259_34).trans ?_
  refine (sx_is D259_35 h0).trans (gdR_to fun g1 => ?_)
  exact rfl
theorem E259_36 {d : Nat} {a1 a2 a3 a4 : Int} {S : SS} {I : II}  : ev (d + 1) 259 36 [(2, 427), (2, a1), (0, a2), (0, a3), (0, a4), uU] [] S I = if w a4 = 1 then ((ev d 223 0 [(2, a1), (0, a2), (0, a3), uU, uU] [] S I).bind (fun q => ev (d + 1) 259 48 [(2, 427), (2, a1), (0, a2), (0, a3), (0, a4), uU] (psh q.1 []) q.2.1 q.2.2)) else (ev (d + 1) 259 102 [(2, 427), (2, a1), (0, a2), (0, a3), (0, a4), uU] [] S I) := by
  refine (sx_iload D259_36 rfl).trans ?_
  refine (sx_iconst D259_38).trans ?_
  refine sx_if_ne (pc' := 102) D259_39 (by decide) (by decide) ?_ ?_ rfl (w_small (by decide) (by decide))
  · refine (sx_aload_n D259_42 rfl).trans ?_
    refine (sx_iload_n D259_43 rfl).trans ?_
    refine (sx_iload_n D259_44 rfl).trans ?_
    exact sx_stat (ag := [(2, a1), (0, a2), (0, a3)]) (r := []) (al' := [(2, a1), (0, a2), (0, a3), uU, uU]) (np := 3) (nl := 5) (q := (0, 223, 1569)) D259_45 (by decide +kernel) (by decide) mP_223 mL_223 (Nat.le_of_ble_eq_true rfl) rfl rfl (by simp [cat]) rfl rfl
  · exact rfl
theorem E259_48 {d : Nat} {a1 a2 a3 a4 s0 : Int} {S : SS} {I : II}  : ev (d + 1) 259 48 [(2, 427), (2, a1), (0, a2), (0, a3), (0, a4), uU] [(0, s0)] S I = (ev d 224 0 [(0, s0)] [] S I).bind (fun q => ev (d + 1) 259 58 [(2, 427), (2, a1), (0, a2), (0, a3), (0, a4), (0, s0)] (psh q.1 [(2, a1), (0, a2), (2, a1)]) q.2.1 q.2.2) := by
  refine (sx_istore (al' := [(2, 427), (2, a1), (0, a2), (0, a3), (0, a4), (0, s0)]) D259_48 (Nat.le_of_ble_eq_true rfl) rfl rfl).trans ?_
  refine (sx_aload_n D259_50 rfl).trans ?_
  refine (sx_iload_n D259_51 rfl).trans ?_
  refine (sx_aload_n D259_52 rfl).trans ?_
  refine (sx_iload D259_53 rfl).trans ?_
  exact sx_stat (ag := [(0, s0)]) (r := [(2, a1), (0, a2), (2, a1)]) (al' := [(0, s0)]) (np := 1) (nl := 1) (q := (0, 224, 1572)) D259_55 (by decide +kernel) (by decide) mP_224 mL_224 (Nat.le_of_ble_eq_true rfl) rfl rfl (by simp [cat]) rfl rfl
theorem E259_58 {d : Nat} {a1 a2 a3 a4 a5 s0 s1 s2 s3 ln0 : Int} {S : SS} {I : II} (h0 : KA S s2 20 ln0) : ev (d + 1) 259 58 [(2, 427), (2, a1), (0, a2), (0, a3), (0, a4), (0, a5)] [(0, s3), (2, s2), (0, s1), (2, s0)] S I = gdR (0 ≤ w ((s3 + 1) + 0) ∧ w ((s3 + 1) + 0) < ln0) ((ev d 239 0 [(2, s0), (0, s1), (0, I s2 (w ((s3 + 1) + 0))), (0, 1), (0, 0), uU] [] S I).bind (fun q => ev (d + 1) 259 68 [(2, 427), (2, a1), (0, a2), (0, a3), (0, a4), (0, a5)] (psh q.1 []) q.2.1 q.2.2)) := by
  refine (sx_iconst D259_58).trans ?_
  refine (sx_iadd D259_59).trans ?_
  refine (sx_iconst D259_60).trans ?_
  refine (sx_iadd D259_61).trans ?_
  refine (sx_ia D259_62 h0 rfl).trans (gdR_to fun g1 => ?_)
  refine (sx_iconst D259_63).trans ?_
  refine (sx_iconst D259_64).trans ?_
  exact sx_stat (ag := [(2, s0), (0, s1), (0, I s2 (w ((s3 + 1) + 0))), (0, 1), (0, 0)]) (r := []) (al' := [(2, s0), (0, s1), (0, I s2 (w ((s3 + 1) + 0))), (0, 1), (0, 0), uU]) (np := 5) (nl := 6) (q := (0, 239, 1626)) D259_65 (by decide +kernel) (by decide) mP_239 mL_239 (Nat.le_of_ble_eq_true rfl) rfl rfl (by simp [cat]) rfl rfl
theorem E259_68 {d : Nat} {a1 a2 a3 a4 a5 : Int} {S : SS} {I : II}  : ev (d + 1) 259 68 [(2, 427), (2, a1), (0, a2), (0, a3), (0, a4), (0, a5)] [] S I = (ev d 225 0 [(2, a1), (0, a5)] [] S I).bind (fun q => ev (d + 1) 259 74 [(2, 427), (2, a1), (0, a2), (0, a3), (0, a4), (0, a5)] (psh q.1 []) q.2.1 q.2.2) := by
  refine (sx_aload_n D259_68 rfl).trans ?_
  refine (sx_iload D259_69 rfl).trans ?_
  exact sx_stat (ag := [(2, a1), (0, a5)]) (r := []) (al' := [(2, a1), (0, a5)]) (np := 2) (nl := 2) (q := (0, 225, 1575)) D259_71 (by decide +kernel) (by decide) mP_225 mL_225 (Nat.le_of_ble_eq_true rfl) rfl rfl (by simp [cat]) rfl rfl
theorem E259_74 {d : Nat} {a1 a2 a3 a4 a5 s0 : Int} {S : SS} {I : II}  : ev (d + 1) 259 74 [(2, 427), (2, a1), (0, a2), (0, a3), (0, a4), (0, a5)] [(0, s0)] S I = if w s0 = 0 then (ev (d + 1) 259 96 [(2, 427), (2, a1), (0, a2), (0, a3), (0, a4), (0, a5)] [] S I) else ((ev d 224 0 [(0, a5)] [] S I).bind (fun q => ev (d + 1) 259 85 [(2, 427), (2, a1), (0, a2), (0, a3), (0, a4), (0, a5)] (psh q.1 [(2, a1), (0, a2), (2, a1)]) q.2.1 q.2.2)) := by
  refine sx_i0_eq (pc' := 96) D259_74 (by decide) (by decide) ?_ ?_ rfl
  · exact rfl
  · refine (sx_aload_n D259_77 rfl).trans ?_
    refine (sx_iload_n D259_78 rfl).trans ?_
    refine (sx_aload_n D259_79 rfl).trans ?_
    refine (sx_iload D259_80 rfl).trans ?_
    exact sx_stat (ag := [(0, a5)]) (r := [(2, a1), (0, a2), (2, a1)]) (al' := [(0, a5)]) (np := 1) (nl := 1) (q := (0, 224, 1572)) D259_82 (by decide +kernel) (by decide) mP_224 mL_224 (Nat.le_of_ble_eq_true rfl) rfl rfl (by simp [cat]) rfl rfl
theorem E259_85 {d : Nat} {a1 a2 a3 a4 a5 s0 s1 s2 s3 ln0 : Int} {S : SS} {I : II} (h0 : KA S s2 20 ln0) : ev (d + 1) 259 85 [(2, 427), (2, a1), (0, a2), (0, a3), (0, a4), (0, a5)] [(0, s3), (2, s2), (0, s1), (2, s0)] S I = gdR (0 ≤ w ((s3 + 6) + 0) ∧ w ((s3 + 6) + 0) < ln0) ((ev d 239 0 [(2, s0), (0, s1), (0, I s2 (w ((s3 + 6) + 0))), (0, 1), (0, 0), uU] [] S I).bind (fun q => ev (d + 1) 259 96 [(2, 427), (2, a1), (0, a2), (0, a3), (0, a4), (0, a5)] (psh q.1 []) q.2.1 q.2.2)) := by
  refine (sx_bipush D259_85 (by decide)).trans ?_
  refine (sx_iadd D259_87).trans ?_
  refine (sx_iconst D259_88).trans ?_
  refine (sx_iadd D259_89).trans ?_
  refine (sx_ia D259_90 h0 rfl).trans (gdR_to fun g1 => ?_)
  refine (sx_iconst D259_91).trans ?_
  refine (sx_iconst D259_92).trans ?_
  exact sx_stat (ag := [(2, s0), (0, s1), (0, I s2 (w ((s3 + 6) + 0))), (0, 1), (0, 0)]) (r := []) (al' := [(2, s0), (0, s1), (0, I s2 (w ((s3 + 6) + 0))), (0, 1), (0, 0), uU]) (np := 5) (nl := 6) (q := (0, 239, 1626)) D259_93 (by decide +kernel) (by decide) mP_239 mL_239 (Nat.le_of_ble_eq_true rfl) rfl rfl (by simp [cat]) rfl rfl
theorem E259_96 {d : Nat} {a1 a2 a3 a4 a5 : Int} {S : SS} {I : II}  : ev (d + 1) 259 96 [(2, 427), (2, a1), (0, a2), (0, a3), (0, a4), (0, a5)] [] S I = (ev d 240 0 [(2, a1), (0, a5), uU] [] S I).bind (fun q => ev (d + 1) 259 102 [(2, 427), (2, a1), (0, a2), (0, a3), (0, a4), (0, a5)] (psh q.1 []) q.2.1 q.2.2) := by
  refine (sx_aload_n D259_96 rfl).trans ?_
  refine (sx_iload D259_97 rfl).trans ?_
  exact sx_stat (ag := [(2, a1), (0, a5)]) (r := []) (al' := [(2, a1), (0, a5), uU]) (np := 2) (nl := 3) (q := (0, 240, 1629)) D259_99 (by decide +kernel) (by decide) mP_240 mL_240 (Nat.le_of_ble_eq_true rfl) rfl rfl (by simp [cat]) rfl rfl
theorem E259_102 {d : Nat} {a1 a2 a3 a4 : Int} {a5 : AV} {S : SS} {I : II}  : ev d 259 102 [(2, 427), (2, a1), (0, a2), (0, a3), (0, a4), a5] [] S I = some ((0, a4), S, I) := by
  refine (sx_iload D259_102 rfl).trans ?_
  exact sx_ireturn D259_104 (by decide +kernel)
theorem E260_0 {d : Nat} {a1 a2 a3 : Int} {S : SS} {I : II} (h0 : MA S 427) : ev (d + 1) 260 0 [(2, 427), (2, a1), (0, a2), (0, a3), uU, uU] [] S I = (ev d 210 0 [(2, 427), (0, a2)] [] S I).bind (fun q => ev (d + 1) 260 5 [(2, 427), (2, a1), (0, a2), (0, a3), uU, uU] (psh q.1 []) q.2.1 q.2.2) := by
  refine (sx_aload_n D260_0 rfl).trans ?_
  refine (sx_iload_n D260_1 rfl).trans ?_
  exact sx_virt (c := 11) (ag := [(2, 427), (0, a2)]) (r := []) (al' := [(2, 427), (0, a2)]) (np := 1) (nl := 2) (q := (1, 210, 1517)) D260_2 (by decide +kernel) (by decide) mP_210 mL_210 mC_210 (Nat.le_of_ble_eq_true rfl) rfl rfl (by simp [cat]) (by decide) (MA_o h0) rfl rfl
theorem E260_5 {d : Nat} {a1 a2 a3 s0 : Int} {S : SS} {I : II}  : ev (d + 1) 260 5 [(2, 427), (2, a1), (0, a2), (0, a3), uU, uU] [(0, s0)] S I = if w s0 = 0 then (ev (d + 1) 260 20 [(2, 427), (2, a1), (0, a2), (0, a3), uU, uU] [] S I) else ((ev d 192 0 [(1, w a3), uU, (1, 0), uU, (1, 15), uU] [] S I).bind (fun q => ev (d + 1) 260 17 [(2, 427), (2, a1), (0, a2), (0, a3), uU, uU] (psh q.1 []) q.2.1 q.2.2)) := by
  refine sx_i0_eq (pc' := 20) D260_5 (by decide) (by decide) ?_ ?_ rfl
  · exact rfl
  · refine (sx_iload_n D260_8 rfl).trans ?_
    refine (sx_i2l D260_9).trans ?_
    refine (sx_lconst D260_10).trans ?_
    refine (sx_ldc2_w (q := (15, 1707)) D260_11 (by decide +kernel)).trans ?_
    exact sx_stat (ag := [(1, w a3), (1, 0), (1, 15)]) (r := []) (al' := [(1, w a3), uU, (1, 0), uU, (1, 15), uU]) (np := 3) (nl := 6) (q := (0, 192, 1299)) D260_14 (by decide +kernel) (by decide) mP_192 mL_192 (Nat.le_of_ble_eq_true rfl) rfl rfl (by simp [cat]) rfl rfl
theorem E260_17 {d : Nat} {a1 a2 a3 s0 : Int} {S : SS} {I : II}  : ev (d + 1) 260 17 [(2, 427), (2, a1), (0, a2), (0, a3), uU, uU] [(0, s0)] S I = if w s0 = 0 then (ev (d + 1) 260 20 [(2, 427), (2, a1), (0, a2), (0, a3), uU, uU] [] S I) else ((ev d 221 0 [(2, a1), (0, a2), (0, a3), uU] [] S I).bind (fun q => ev (d + 1) 260 28 [(2, 427), (2, a1), (0, a2), (0, a3), uU, uU] (psh q.1 []) q.2.1 q.2.2)) := by
  refine sx_i0_ne (pc' := 22) D260_17 (by decide) (by decide) ?_ ?_ rfl
  · exact rfl
  · refine (sx_aload_n D260_22 rfl).trans ?_
    refine (sx_iload_n D260_23 rfl).trans ?_
    refine (sx_iload_n D260_24 rfl).trans ?_
    exact sx_stat (ag := [(2, a1), (0, a2), (0, a3)]) (r := []) (al' := [(2, a1), (0, a2), (0, a3), uU]) (np := 3) (nl := 4) (q := (0, 221, 1563)) D260_25 (by decide +kernel) (by decide) mP_221 mL_221 (Nat.le_of_ble_eq_true rfl) rfl rfl (by simp [cat]) rfl rfl
theorem E260_20 {d : Nat} {a1 a2 a3 : Int} {S : SS} {I : II}  : ev d 260 20 [(2, 427), (2, a1), (0, a2), (0, a3), uU, uU] [] S I = some ((0, (-1)), S, I) := by
  refine (sx_iconst D260_20).trans ?_
  exact sx_ireturn D260_21 (by decide +kernel)
theorem E260_28 {d : Nat} {a1 a2 a3 s0 : Int} {S : SS} {I : II}  : ev (d + 1) 260 28 [(2, 427), (2, a1), (0, a2), (0, a3), uU, uU] [(0, s0)] S I = if w s0 < 0 then ((ev d 223 0 [(2, a1), (0, a2), (0, a3), uU, uU] [] S I).bind (fun q => ev (d + 1) 260 69 [(2, 427), (2, a1), (0, a2), (0, a3), (0, s0), uU] (psh q.1 []) q.2.1 q.2.2)) else ((ev d 212 0 [(2, a1), (0, a2), (0, 3)] [] S I).bind (fun q => ev (d + 1) 260 43 [(2, 427), (2, a1), (0, a2), (0, a3), (0, s0), uU] (psh q.1 [(0, a2), (2, a1)]) q.2.1 q.2.2)) := by
  refine (sx_istore (al' := [(2, 427), (2, a1), (0, a2), (0, a3), (0, s0), uU]) D260_28 (Nat.le_of_ble_eq_true rfl) rfl rfl).trans ?_
  refine (sx_iload D260_30 rfl).trans ?_
  refine sx_i0_lt (pc' := 63) D260_32 (by decide) (by decide) ?_ ?_ rfl
  · refine (sx_aload_n D260_63 rfl).trans ?_
    refine (sx_iload_n D260_64 rfl).trans ?_
    refine (sx_iload_n D260_65 rfl).trans ?_
    exact sx_stat (ag := [(2, a1), (0, a2), (0, a3)]) (r := []) (al' := [(2, a1), (0, a2), (0, a3), uU, uU]) (np := 3) (nl := 5) (q := (0, 223, 1569)) D260_66 (by decide +kernel) (by decide) mP_223 mL_223 (Nat.le_of_ble_eq_true rfl) rfl rfl (by simp [cat]) rfl rfl
  · refine (sx_aload_n D260_35 rfl).trans ?_
    refine (sx_iload_n D260_36 rfl).trans ?_
    refine (sx_aload_n D260_37 rfl).trans ?_
    refine (sx_iload_n D260_38 rfl).trans ?_
    refine (sx_iconst D260_39).trans ?_
    exact sx_stat (ag := [(2, a1), (0, a2), (0, 3)]) (r := [(0, a2), (2, a1)]) (al' := [(2, a1), (0, a2), (0, 3)]) (np := 3) (nl := 3) (q := (0, 212, 1526)) D260_40 (by decide +kernel) (by decide) mP_212 mL_212 (Nat.le_of_ble_eq_true rfl) rfl rfl (by simp [cat]) rfl rfl
theorem E260_43 {d : Nat} {a1 a2 a3 a4 s0 s1 s2 : Int} {S : SS} {I : II}  : ev (d + 1) 260 43 [(2, 427), (2, a1), (0, a2), (0, a3), (0, a4), uU] [(0, s2), (0, s1), (2, s0)] S I = (ev d 222 0 [(0, s1), (0, s2 + a4)] [] S I).bind (fun q => ev (d + 1) 260 49 [(2, 427), (2, a1), (0, a2), (0, a3), (0, a4), uU] (psh q.1 [(2, s0)]) q.2.1 q.2.2) := by
  refine (sx_iload D260_43 rfl).trans ?_
  refine (sx_iadd D260_45).trans ?_
  exact sx_stat (ag := [(0, s1), (0, s2 + a4)]) (r := [(2, s0)]) (al' := [(0, s1), (0, s2 + a4)]) (np := 2) (nl := 2) (q := (0, 222, 1566)) D260_46 (by decide +kernel) (by decide) mP_222 mL_222 (Nat.le_of_ble_eq_true rfl) rfl rfl (by simp [cat]) rfl rfl
theorem E260_49 {d : Nat} {a1 a2 a3 a4 s0 s1 ln0 : Int} {S : SS} {I : II} (h0 : KA S s0 20 ln0) : ev d 260 49 [(2, 427), (2, a1), (0, a2), (0, a3), (0, a4), uU] [(0, s1), (2, s0)] S I = gdR (0 ≤ w (s1 + 4) ∧ w (s1 + 4) < ln0) (if w (I s0 (w (s1 + 4))) = 1 then (ev d 260 62 [(2, 427), (2, a1), (0, a2), (0, a3), (0, a4), uU] [(0, (-3))] S I) else (ev d 260 62 [(2, 427), (2, a1), (0, a2), (0, a3), (0, a4), uU] [(0, 0)] S I)) := by
  refine (sx_iconst D260_49).trans ?_
  refine (sx_iadd D260_50).trans ?_
  refine (sx_ia D260_51 h0 rfl).trans (gdR_to fun g1 => ?_)
  refine (sx_iconst D260_52).trans ?_
  refine sx_if_ne (pc' := 61) D260_53 (by decide) (by decide) ?_ ?_ rfl (w_small (by decide) (by decide))
  · refine (sx_bipush D260_56 (by decide)).trans ?_
    refine (sx_goto (pc' := 62) D260_58 (by decide) (by decide)).trans ?_
    exact rfl
  · refine (sx_iconst D260_61).trans ?_
    exact rfl
theorem E260_62 {d : Nat} {a1 a2 a3 a4 s0 : Int} {S : SS} {I : II}  : ev d 260 62 [(2, 427), (2, a1), (0, a2), (0, a3), (0, a4), uU] [(0, s0)] S I = some ((0, s0), S, I) := by
  exact sx_ireturn D260_62 (by decide +kernel)
theorem E260_69 {d : Nat} {a1 a2 a3 a4 s0 : Int} {S : SS} {I : II}  : ev (d + 1) 260 69 [(2, 427), (2, a1), (0, a2), (0, a3), (0, a4), uU] [(0, s0)] S I = if w s0 < 0 then (ev (d + 1) 260 101 [(2, 427), (2, a1), (0, a2), (0, a3), (0, a4), (0, s0)] [(0, (-2))] S I) else ((ev d 224 0 [(0, s0)] [] S I).bind (fun q => ev (d + 1) 260 87 [(2, 427), (2, a1), (0, a2), (0, a3), (0, a4), (0, s0)] (psh q.1 [(2, a1)]) q.2.1 q.2.2)) := by
  refine (sx_istore (al' := [(2, 427), (2, a1), (0, a2), (0, a3), (0, a4), (0, s0)]) D260_69 (Nat.le_of_ble_eq_true rfl) rfl rfl).trans ?_
  refine (sx_iload D260_71 rfl).trans ?_
  refine sx_i0_ge (pc' := 81) D260_73 (by decide) (by decide) ?_ ?_ rfl
  · refine (sx_bipush D260_76 (by decide)).trans ?_
    refine (sx_goto (pc' := 101) D260_78 (by decide) (by decide)).trans ?_
    exact rfl
  · refine (sx_aload_n D260_81 rfl).trans ?_
    refine (sx_iload D260_82 rfl).trans ?_
    exact sx_stat (ag := [(0, s0)]) (r := [(2, a1)]) (al' := [(0, s0)]) (np := 1) (nl := 1) (q := (0, 224, 1572)) D260_84 (by decide +kernel) (by decide) mP_224 mL_224 (Nat.le_of_ble_eq_true rfl) rfl rfl (by simp [cat]) rfl rfl
theorem E260_87 {d : Nat} {a1 a2 a3 a4 a5 s0 s1 ln0 : Int} {S : SS} {I : II} (h0 : KA S s0 20 ln0) : ev d 260 87 [(2, 427), (2, a1), (0, a2), (0, a3), (0, a4), (0, a5)] [(0, s1), (2, s0)] S I = gdR (0 ≤ w (s1 + 11) ∧ w (s1 + 11) < ln0) (if w (I s0 (w (s1 + 11))) < 2 then (ev d 260 101 [(2, 427), (2, a1), (0, a2), (0, a3), (0, a4), (0, a5)] [(0, (-4))] S I) else (ev d 260 101 [(2, 427), (2, a1), (0, a2), (0, a3), (0, a4), (0, a5)] [(0, 1)] S I)) := by
  refine (sx_bipush D260_87 (by decide)).trans ?_
  refine (sx_iadd D260_89).trans ?_
  refine (sx_ia D260_90 h0 rfl).trans (gdR_to fun g1 => ?_)
  refine (sx_iconst D260_91).trans ?_
  refine sx_if_ge (pc' := 100) D260_92 (by decide) (by decide) ?_ ?_ rfl (w_small (by decide) (by decide))
  · refine (sx_bipush D260_95 (by decide)).trans ?_
    refine (sx_goto (pc' := 101) D260_97 (by decide) (by decide)).trans ?_
    exact rfl
  · refine (sx_iconst D260_100).trans ?_
    exact rfl
theorem E260_101 {d : Nat} {a1 a2 a3 a4 a5 s0 : Int} {S : SS} {I : II}  : ev d 260 101 [(2, 427), (2, a1), (0, a2), (0, a3), (0, a4), (0, a5)] [(0, s0)] S I = some ((0, s0), S, I) := by
  exact sx_ireturn D260_101 (by decide +kernel)
theorem E261_0 {d : Nat} {S : SS} {I : II} (h0 : MA S 427) : ev (d + 1) 261 0 [(2, 427)] [] S I = (ev d 217 0 [(2, 427), uU] [] S (up2 I 427 0 0)).bind (fun q => ev (d + 1) 261 9 [(2, 427)] (psh q.1 []) q.2.1 q.2.2) := by
  refine (sx_aload_n D261_0 rfl).trans ?_
  refine (sx_iconst D261_1).trans ?_
  refine (sx_pfI (q := (9, 0, 0, 1368)) (j := 0) D261_2 (by decide +kernel) (by decide) (by decide) (MA_o h0) rfl).trans ?_
  refine (sx_aload_n D261_5 rfl).trans ?_
  exact sx_virt (c := 11) (ag := [(2, 427)]) (r := []) (al' := [(2, 427), uU]) (np := 0) (nl := 2) (q := (1, 217, 1546)) D261_6 (by decide +kernel) (by decide) mP_217 mL_217 mC_217 (Nat.le_of_ble_eq_true rfl) rfl rfl (by simp [cat]) (by decide) (MA_o h0) rfl rfl
theorem E261_9 {d : Nat} {S : SS} {I : II} (h0 : MA S 427) : ev (d + 1) 261 9 [(2, 427)] [] S I = (ev d 262 0 [(2, 427), (2, 438), (0, 1), uU, uU, uU, uU, uU] [] S I).bind (fun q => ev (d + 1) 261 19 [(2, 427)] (psh q.1 [(2, 427)]) q.2.1 q.2.2) := by
  refine (sx_aload_n D261_9 rfl).trans ?_
  refine (sx_aload_n D261_10 rfl).trans ?_
  refine (sx_aload_n D261_11 rfl).trans ?_
  refine (sx_gfR (q := (9, 20, 0, 1388)) (b := 438) D261_12 (by decide +kernel) (by decide +kernel) (by decide) (MA_o h0) (MA_g20 h0)).trans ?_
  refine (sx_iconst D261_15).trans ?_
  exact sx_virt (c := 11) (ag := [(2, 427), (2, 438), (0, 1)]) (r := [(2, 427)]) (al' := [(2, 427), (2, 438), (0, 1), uU, uU, uU, uU, uU]) (np := 2) (nl := 8) (q := (1, 262, 1712)) D261_16 (by decide +kernel) (by decide) mP_262 mL_262 mC_262 (Nat.le_of_ble_eq_true rfl) rfl rfl (by simp [cat]) (by decide) (MA_o h0) rfl rfl
theorem E261_19 {d : Nat} {s1 : Int} {S : SS} {I : II} (h0 : MA S 427) : ev (d + 1) 261 19 [(2, 427)] [(0, s1), (2, 427)] S I = (ev d 232 0 [(2, 427), (0, s1), uU] [] S I).bind (fun q => ev (d + 1) 261 22 [(2, 427)] (psh q.1 []) q.2.1 q.2.2) := by
  exact sx_virt (c := 11) (ag := [(2, 427), (0, s1)]) (r := []) (al' := [(2, 427), (0, s1), uU]) (np := 1) (nl := 3) (q := (1, 232, 1597)) D261_19 (by decide +kernel) (by decide) mP_232 mL_232 mC_232 (Nat.le_of_ble_eq_true rfl) rfl rfl (by simp [cat]) (by decide) (MA_o h0) rfl rfl
theorem E261_22 {d : Nat} {s0 : Int} {S : SS} {I : II}  : ev d 261 22 [(2, 427)] [(0, s0)] S I = some ((0, s0), S, I) := by
  exact sx_ireturn D261_22 (by decide +kernel)
theorem E262_0 {d : Nat} {a1 a2 ln0 : Int} {S : SS} {I : II} (h0 : KA S a1 20 ln0) : ev d 262 0 [(2, 427), (2, a1), (0, a2), uU, uU, uU, uU, uU] [] S I = gdR (0 ≤ w 814 ∧ w 814 < ln0) (ev d 262 15 [(2, 427), (2, a1), (0, a2), (0, 0), (0, 0), (0, I a1 (w 814)), (0, 0), uU] [] S I) := by
  refine (sx_iconst D262_0).trans ?_
  refine (sx_istore_n (al' := [(2, 427), (2, a1), (0, a2), (0, 0), uU, uU, uU, uU]) D262_1 (Nat.le_of_ble_eq_true rfl) rfl rfl).trans ?_
  refine (sx_iconst D262_2).trans ?_
  refine (sx_istore (al' := [(2, 427), (2, a1), (0, a2), (0, 0), (0, 0), uU, uU, uU]) D262_3 (Nat.le_of_ble_eq_true rfl) rfl rfl).trans ?_
  refine (sx_aload_n D262_5 rfl).trans ?_
  refine (sx_sipush D262_6 (by decide)).trans ?_
  refine (sx_ia D262_9 h0 rfl).trans (gdR_to fun g1 => ?_)
  refine (sx_istore (al' := [(2, 427), (2, a1), (0, a2), (0, 0), (0, 0), (0, I a1 (w 814)), uU, uU]) D262_10 (Nat.le_of_ble_eq_true rfl) rfl rfl).trans ?_
  refine (sx_iconst D262_12).trans ?_
  refine (sx_istore (al' := [(2, 427), (2, a1), (0, a2), (0, 0), (0, 0), (0, I a1 (w 814)), (0, 0), uU]) D262_13 (Nat.le_of_ble_eq_true rfl) rfl rfl).trans ?_
  exact rfl
theorem E262_15 {d : Nat} {a1 a2 a3 a4 a5 a6 ln0 : Int} {S : SS} {I : II} (h0 : KA S a1 20 ln0) : ev (d + 1) 262 15 [(2, 427), (2, a1), (0, a2), (0, a3), (0, a4), (0, a5), (0, a6), uU] [] S I = gdR (0 ≤ w 493 ∧ w 493 < ln0) (if w a6 < w (I a1 (w 493)) then ((ev d 225 0 [(2, a1), (0, a6)] [] S I).bind (fun q => ev (d + 1) 262 34 [(2, 427), (2, a1), (0, a2), (0, a3), (0, a4), (0, a5), (0, a6), uU] (psh q.1 [(0, 1), (0, a4)]) q.2.1 q.2.2)) else (ev (d + 1) 262 50 [(2, 427), (2, a1), (0, a2), (0, a3), (0, a4), (0, a5), (0, 0), uU] [] S I)) := by
  refine (sx_iload D262_15 rfl).trans ?_
  refine (sx_aload_n D262_17 rfl).trans ?_
  refine (sx_sipush D262_18 (by decide)).trans ?_
  refine (sx_ia D262_21 h0 rfl).trans (gdR_to fun g1 => ?_)
  refine sx_if_ge (pc' := 47) D262_22 (by decide) (by decide) ?_ ?_ rfl rfl
  · refine (sx_iload D262_25 rfl).trans ?_
    refine (sx_iconst D262_27).trans ?_
    refine (sx_aload_n D262_28 rfl).trans ?_
    refine (sx_iload D262_29 rfl).trans ?_
    exact sx_stat (ag := [(2, a1), (0, a6)]) (r := [(0, 1), (0, a4)]) (al' := [(2, a1), (0, a6)]) (np := 2) (nl := 2) (q := (0, 225, 1575)) D262_31 (by decide +kernel) (by decide) mP_225 mL_225 (Nat.le_of_ble_eq_true rfl) rfl rfl (by simp [cat]) rfl rfl
  · refine (sx_iconst D262_47).trans ?_
    refine (sx_istore (al' := [(2, 427), (2, a1), (0, a2), (0, a3), (0, a4), (0, a5), (0, 0), uU]) D262_48 (Nat.le_of_ble_eq_true rfl) rfl rfl).trans ?_
    exact rfl
theorem E262_34 {d : Nat} {a1 a2 a3 a4 a5 a6 s0 s1 s2 : Int} {S : SS} {I : II}  : ev (d + 1) 262 34 [(2, 427), (2, a1), (0, a2), (0, a3), (0, a4), (0, a5), (0, a6), uU] [(0, s2), (0, s1), (0, s0)] S I = (ev d 199 0 [(0, s2)] [] S I).bind (fun q => ev (d + 1) 262 37 [(2, 427), (2, a1), (0, a2), (0, a3), (0, a4), (0, a5), (0, a6), uU] (psh q.1 [(0, s1), (0, s0)]) q.2.1 q.2.2) := by
  exact sx_stat (ag := [(0, s2)]) (r := [(0, s1), (0, s0)]) (al' := [(0, s2)]) (np := 1) (nl := 1) (q := (0, 199, 1328)) D262_34 (by decide +kernel) (by decide) mP_199 mL_199 (Nat.le_of_ble_eq_true rfl) rfl rfl (by simp [cat]) rfl rfl
theorem E262_37 {d : Nat} {a1 a2 a3 a4 a5 a6 s0 s1 s2 : Int} {S : SS} {I : II}  : ev d 262 37 [(2, 427), (2, a1), (0, a2), (0, a3), (0, a4), (0, a5), (0, a6), uU] [(0, s2), (0, s1), (0, s0)] S I = ev d 262 15 [(2, 427), (2, a1), (0, a2), (0, a3), (0, s0 + (s1 + s2)), (0, a5), (0, a6 + 1), uU] [] S I := by
  refine (sx_iadd D262_37).trans ?_
  refine (sx_iadd D262_38).trans ?_
  refine (sx_istore (al' := [(2, 427), (2, a1), (0, a2), (0, a3), (0, s0 + (s1 + s2)), (0, a5), (0, a6), uU]) D262_39 (Nat.le_of_ble_eq_true rfl) rfl rfl).trans ?_
  refine (sx_iinc (al' := [(2, 427), (2, a1), (0, a2), (0, a3), (0, s0 + (s1 + s2)), (0, a5), (0, a6 + 1), uU]) D262_41 rfl rfl).trans ?_
  refine (sx_goto (pc' := 15) D262_44 (by decide) (by decide)).trans ?_
  exact rfl
theorem E262_50 {d : Nat} {a1 a2 a3 a4 a5 a6 ln1 : Int} {a7 : AV} {S : SS} {I : II} (h0 : MA S 427) (h1 : KA S a1 20 ln1) : ev (d + 1) 262 50 [(2, 427), (2, a1), (0, a2), (0, a3), (0, a4), (0, a5), (0, a6), a7] [] S I = if w a6 < w (I 427 14) then ((ev d 212 0 [(2, a1), (0, a6), (0, 0)] [] S I).bind (fun q => ev (d + 1) 262 67 [(2, 427), (2, a1), (0, a2), (0, a3), (0, a4), (0, a5), (0, a6), a7] (psh q.1 [(0, a3)]) q.2.1 q.2.2)) else (gdR (0 ≤ w 493 ∧ w 493 < ln1) (gdR (0 ≤ w 814 ∧ w 814 < ln1) (ev (d + 1) 262 144 [(2, 427), (2, a1), (0, a2), (0, a3), (0, a4), (0, a5), (0, 0), a7] [] S (up2 (up2 I a1 (w 493) 0) a1 (w 814) 0)))) := by
  refine (sx_iload D262_50 rfl).trans ?_
  refine (sx_aload_n D262_52 rfl).trans ?_
  refine (sx_gfI (q := (9, 14, 0, 1382)) (j := 14) D262_53 (by decide +kernel) (by decide +kernel) (by decide) (MA_o h0) rfl rfl).trans ?_
  refine sx_if_ge (pc' := 129) D262_56 (by decide) (by decide) ?_ ?_ rfl rfl
  · refine (sx_iload_n D262_59 rfl).trans ?_
    refine (sx_aload_n D262_60 rfl).trans ?_
    refine (sx_iload D262_61 rfl).trans ?_
    refine (sx_iconst D262_63).trans ?_
    exact sx_stat (ag := [(2, a1), (0, a6), (0, 0)]) (r := [(0, a3)]) (al' := [(2, a1), (0, a6), (0, 0)]) (np := 3) (nl := 3) (q := (0, 212, 1526)) D262_64 (by decide +kernel) (by decide) mP_212 mL_212 (Nat.le_of_ble_eq_true rfl) rfl rfl (by simp [cat]) rfl rfl
  · refine (sx_aload_n D262_129 rfl).trans ?_
    refine (sx_sipush D262_130 (by decide)).trans ?_
    refine (sx_iconst D262_133).trans ?_
    refine (sx_is D262_134 h1).trans (gdR_to fun g1 => ?_)
    refine (sx_aload_n D262_135 rfl).trans ?_
    refine (sx_sipush D262_136 (by decide)).trans ?_
    refine (sx_iconst D262_139).trans ?_
    refine (sx_is D262_140 h1).trans (gdR_to fun g2 => ?_)
    refine (sx_iconst D262_141).trans ?_
    refine (sx_istore (al' := [(2, 427), (2, a1), (0, a2), (0, a3), (0, a4), (0, a5), (0, 0), a7]) D262_142 (Nat.le_of_ble_eq_true rfl) rfl rfl).trans ?_
    exact rfl
theorem E262_67 {d : Nat} {a1 a2 a3 a4 a5 a6 s0 s1 : Int} {a7 : AV} {S : SS} {I : II}  : ev (d + 1) 262 67 [(2, 427), (2, a1), (0, a2), (0, a3), (0, a4), (0, a5), (0, a6), a7] [(0, s1), (0, s0)] S I = (ev d 212 0 [(2, a1), (0, a6), (0, 3)] [] S I).bind (fun q => ev (d + 1) 262 74 [(2, 427), (2, a1), (0, a2), (0, a3), (0, a4), (0, a5), (0, a6), a7] (psh q.1 [(0, s1), (0, s0)]) q.2.1 q.2.2) := by
  refine (sx_aload_n D262_67 rfl).trans ?_
  refine (sx_iload D262_68 rfl).trans ?_
  refine (sx_iconst D262_70).trans ?_
  exact sx_stat (ag := [(2, a1), (0, a6), (0, 3)]) (r := [(0, s1), (0, s0)]) (al' := [(2, a1), (0, a6), (0, 3)]) (np := 3) (nl := 3) (q := (0, 212, 1526)) D262_71 (by decide +kernel) (by decide) mP_212 mL_212 (Nat.le_of_ble_eq_true rfl) rfl rfl (by simp [cat]) rfl rfl
theorem E262_74 {d : Nat} {a1 a2 a3 a4 a5 a6 s0 s1 s2 : Int} {a7 : AV} {S : SS} {I : II}  : ev (d + 1) 262 74 [(2, 427), (2, a1), (0, a2), (0, a3), (0, a4), (0, a5), (0, a6), a7] [(0, s2), (0, s1), (0, s0)] S I = (ev d 212 0 [(2, a1), (0, a6), (0, 5)] [] S I).bind (fun q => ev (d + 1) 262 86 [(2, 427), (2, a1), (0, a2), (0, s0 + (s1 - s2)), (0, a4), (0, a5), (0, a6), a7] (psh q.1 [(0, a5)]) q.2.1 q.2.2) := by
  refine (sx_isub D262_74).trans ?_
  refine (sx_iadd D262_75).trans ?_
  refine (sx_istore_n (al' := [(2, 427), (2, a1), (0, a2), (0, s0 + (s1 - s2)), (0, a4), (0, a5), (0, a6), a7]) D262_76 (Nat.le_of_ble_eq_true rfl) rfl rfl).trans ?_
  refine (sx_iload D262_77 rfl).trans ?_
  refine (sx_aload_n D262_79 rfl).trans ?_
  refine (sx_iload D262_80 rfl).trans ?_
  refine (sx_iconst D262_82).trans ?_
  exact sx_stat (ag := [(2, a1), (0, a6), (0, 5)]) (r := [(0, a5)]) (al' := [(2, a1), (0, a6), (0, 5)]) (np := 3) (nl := 3) (q := (0, 212, 1526)) D262_83 (by decide +kernel) (by decide) mP_212 mL_212 (Nat.le_of_ble_eq_true rfl) rfl rfl (by simp [cat]) rfl rfl
theorem E262_86 {d : Nat} {a1 a2 a3 a4 a5 a6 s0 s1 : Int} {a7 : AV} {S : SS} {I : II}  : ev (d + 1) 262 86 [(2, 427), (2, a1), (0, a2), (0, a3), (0, a4), (0, a5), (0, a6), a7] [(0, s1), (0, s0)] S I = (ev d 212 0 [(2, a1), (0, a6), (0, 6)] [] S I).bind (fun q => ev (d + 1) 262 94 [(2, 427), (2, a1), (0, a2), (0, a3), (0, a4), (0, a5), (0, a6), a7] (psh q.1 [(0, s1), (0, s0)]) q.2.1 q.2.2) := by
  refine (sx_aload_n D262_86 rfl).trans ?_
  refine (sx_iload D262_87 rfl).trans ?_
  refine (sx_bipush D262_89 (by decide)).trans ?_
  exact sx_stat (ag := [(2, a1), (0, a6), (0, 6)]) (r := [(0, s1), (0, s0)]) (al' := [(2, a1), (0, a6), (0, 6)]) (np := 3) (nl := 3) (q := (0, 212, 1526)) D262_91 (by decide +kernel) (by decide) mP_212 mL_212 (Nat.le_of_ble_eq_true rfl) rfl rfl (by simp [cat]) rfl rfl
theorem E262_94 {d : Nat} {a1 a2 a3 a4 a5 a6 s0 s1 s2 : Int} {a7 : AV} {S : SS} {I : II}  : ev d 262 94 [(2, 427), (2, a1), (0, a2), (0, a3), (0, a4), (0, a5), (0, a6), a7] [(0, s2), (0, s1), (0, s0)] S I = ev d 262 101 [(2, 427), (2, a1), (0, a2), (0, a3), (0, a4), (0, s0 + (s1 - s2)), (0, a6), (0, 0)] [] S I := by
  refine (sx_isub D262_94).trans ?_
  refine (sx_iadd D262_95).trans ?_
  refine (sx_istore (al' := [(2, 427), (2, a1), (0, a2), (0, a3), (0, a4), (0, s0 + (s1 - s2)), (0, a6), a7]) D262_96 (Nat.le_of_ble_eq_true rfl) rfl rfl).trans ?_
  refine (sx_iconst D262_98).trans ?_
  refine (sx_istore (al' := [(2, 427), (2, a1), (0, a2), (0, a3), (0, a4), (0, s0 + (s1 - s2)), (0, a6), (0, 0)]) D262_99 (Nat.le_of_ble_eq_true rfl) rfl rfl).trans ?_
  exact rfl
theorem E262_101 {d : Nat} {a1 a2 a3 a4 a5 a6 a7 : Int} {S : SS} {I : II}  : ev (d + 1) 262 101 [(2, 427), (2, a1), (0, a2), (0, a3), (0, a4), (0, a5), (0, a6), (0, a7)] [] S I = if w a7 < 89 then ((ev d 230 0 [(2, a1), (0, a6), (0, a7), (0, 0)] [] S I).bind (fun q => ev (d + 1) 262 117 [(2, 427), (2, a1), (0, a2), (0, a3), (0, a4), (0, a5), (0, a6), (0, a7)] (psh q.1 []) q.2.1 q.2.2)) else (ev (d + 1) 262 50 [(2, 427), (2, a1), (0, a2), (0, a3), (0, a4), (0, a5), (0, a6 + 1), (0, a7)] [] S I) := by
  refine (sx_iload D262_101 rfl).trans ?_
  refine (sx_bipush D262_103 (by decide)).trans ?_
  refine sx_if_ge (pc' := 123) D262_105 (by decide) (by decide) ?_ ?_ rfl (w_small (by decide) (by decide))
  · refine (sx_aload_n D262_108 rfl).trans ?_
    refine (sx_iload D262_109 rfl).trans ?_
    refine (sx_iload D262_111 rfl).trans ?_
    refine (sx_iconst D262_113).trans ?_
    exact sx_stat (ag := [(2, a1), (0, a6), (0, a7), (0, 0)]) (r := []) (al' := [(2, a1), (0, a6), (0, a7), (0, 0)]) (np := 4) (nl := 4) (q := (0, 230, 1590)) D262_114 (by decide +kernel) (by decide) mP_230 mL_230 (Nat.le_of_ble_eq_true rfl) rfl rfl (by simp [cat]) rfl rfl
  · refine (sx_iinc (al' := [(2, 427), (2, a1), (0, a2), (0, a3), (0, a4), (0, a5), (0, a6 + 1), (0, a7)]) D262_123 rfl rfl).trans ?_
    refine (sx_goto (pc' := 50) D262_126 (by decide) (by decide)).trans ?_
    exact rfl
theorem E262_117 {d : Nat} {a1 a2 a3 a4 a5 a6 a7 : Int} {S : SS} {I : II}  : ev d 262 117 [(2, 427), (2, a1), (0, a2), (0, a3), (0, a4), (0, a5), (0, a6), (0, a7)] [] S I = ev d 262 101 [(2, 427), (2, a1), (0, a2), (0, a3), (0, a4), (0, a5), (0, a6), (0, a7 + 1)] [] S I := by
  refine (sx_iinc (al' := [(2, 427), (2, a1), (0, a2), (0, a3), (0, a4), (0, a5), (0, a6), (0, a7 + 1)]) D262_117 rfl rfl).trans ?_
  refine (sx_goto (pc' := 101) D262_120 (by decide) (by decide)).trans ?_
  exact rfl
theorem E262_144 {d : Nat} {a1 a2 a3 a4 a5 a6 ln0 : Int} {a7 : AV} {S : SS} {I : II} (h0 : KA S a1 20 ln0) (h1 : MA S 427) : ev (d + 1) 262 144 [(2, 427), (2, a1), (0, a2), (0, a3), (0, a4), (0, a5), (0, a6), a7] [] S I = if w a6 < 4 then (gdR (0 ≤ w (814 + a6) ∧ w (814 + a6) < ln0) (gdR (0 ≤ w (818 + a6) ∧ w (818 + a6) < ln0) (gdR (0 ≤ w (822 + a6) ∧ w (822 + a6) < ln0) (gdR (0 ≤ w (840 + a6) ∧ w (840 + a6) < ln0) (ev (d + 1) 262 144 [(2, 427), (2, a1), (0, a2), (0, a3), (0, a4), (0, a5), (0, a6 + 1), a7] [] S (up2 (up2 (up2 I a1 (w (818 + a6)) (I a1 (w (814 + a6)))) a1 (w (822 + a6)) 4) a1 (w (840 + a6)) 0)))))) else (if w a2 = 0 then (ev (d + 1) 262 219 [(2, 427), (2, a1), (0, a2), (0, a3), (0, a4), (0, a5), (0, a6), a7] [] S I) else ((ev d 255 0 [(2, 427), (1, w a3), uU] [] S (up2 I 427 1 0)).bind (fun q => ev (d + 1) 262 205 [(2, 427), (2, a1), (0, a2), (0, a3), (0, a4), (0, a5), (0, a6), a7] (psh q.1 []) q.2.1 q.2.2))) := by
  refine (sx_iload D262_144 rfl).trans ?_
  refine (sx_iconst D262_146).trans ?_
  refine sx_if_ge (pc' := 190) D262_147 (by decide) (by decide) ?_ ?_ rfl (w_small (by decide) (by decide))
  · refine (sx_aload_n D262_150 rfl).trans ?_
    refine (sx_sipush D262_151 (by decide)).trans ?_
    refine (sx_iload D262_154 rfl).trans ?_
    refine (sx_iadd D262_156).trans ?_
    refine (sx_aload_n D262_157 rfl).trans ?_
    refine (sx_sipush D262_158 (by decide)).trans ?_
    refine (sx_iload D262_161 rfl).trans ?_
    refine (sx_iadd D262_163).trans ?_
    refine (sx_ia D262_164 h0 rfl).trans (gdR_to fun g1 => ?_)
    refine (sx_is D262_165 h0).trans (gdR_to fun g2 => ?_)
    refine (sx_aload_n D262_166 rfl).trans ?_
    refine (sx_sipush D262_167 (by decide)).trans ?_
    refine (sx_iload D262_170 rfl).trans ?_
    refine (sx_iadd D262_172).trans ?_
    refine (sx_iconst D262_173).trans ?_
    refine (sx_is D262_174 h0).trans (gdR_to fun g3 => ?_)
    refine (sx_aload_n D262_175 rfl).trans ?_
    refine (sx_sipush D262_176 (by decide)).trans ?_
    refine (sx_iload D262_179 rfl).trans ?_
    refine (sx_iadd D262_181).trans ?_
    refine (sx_iconst D262_182).trans ?_
    refine (sx_is D262_183 h0).trans (gdR_to fun g4 => ?_)
    refine (sx_iinc (al' := [(2, 427), (2, a1), (0, a2), (0, a3), (0, a4), (0, a5), (0, a6 + 1), a7]) D262_184 rfl rfl).trans ?_
    refine (sx_goto (pc' := 144) D262_187 (by decide) (by decide)).trans ?_
    exact rfl
  · refine (sx_iload_n D262_190 rfl).trans ?_
    refine sx_i0_eq (pc' := 219) D262_191 (by decide) (by decide) ?_ ?_ rfl
    · exact rfl
    · refine (sx_aload_n D262_194 rfl).trans ?_
      refine (sx_iconst D262_195).trans ?_
      refine (sx_pfI (q := (9, 1, 0, 1369)) (j := 1) D262_196 (by decide +kernel) (by decide) (by decide) (MA_o h1) rfl).trans ?_
      refine (sx_aload_n D262_199 rfl).trans ?_
      refine (sx_iload_n D262_200 rfl).trans ?_
      refine (sx_i2l D262_201).trans ?_
      exact sx_virt (c := 11) (ag := [(2, 427), (1, w a3)]) (r := []) (al' := [(2, 427), (1, w a3), uU]) (np := 1) (nl := 3) (q := (1, 255, 1683)) D262_202 (by decide +kernel) (by decide) mP_255 mL_255 mC_255 (Nat.le_of_ble_eq_true rfl) rfl rfl (by simp [cat]) (by decide) (MA_o h1) rfl rfl
theorem E262_205 {d : Nat} {a1 a2 a3 a4 a5 a6 : Int} {a7 : AV} {S : SS} {I : II} (h0 : MA S 427) : ev (d + 1) 262 205 [(2, 427), (2, a1), (0, a2), (0, a3), (0, a4), (0, a5), (0, a6), a7] [] S I = (ev d 255 0 [(2, 427), (1, w a4), uU] [] S I).bind (fun q => ev (d + 1) 262 212 [(2, 427), (2, a1), (0, a2), (0, a3), (0, a4), (0, a5), (0, a6), a7] (psh q.1 []) q.2.1 q.2.2) := by
  refine (sx_aload_n D262_205 rfl).trans ?_
  refine (sx_iload D262_206 rfl).trans ?_
  refine (sx_i2l D262_208).trans ?_
  exact sx_virt (c := 11) (ag := [(2, 427), (1, w a4)]) (r := []) (al' := [(2, 427), (1, w a4), uU]) (np := 1) (nl := 3) (q := (1, 255, 1683)) D262_209 (by decide +kernel) (by decide) mP_255 mL_255 mC_255 (Nat.le_of_ble_eq_true rfl) rfl rfl (by simp [cat]) (by decide) (MA_o h0) rfl rfl
theorem E262_212 {d : Nat} {a1 a2 a3 a4 a5 a6 : Int} {a7 : AV} {S : SS} {I : II} (h0 : MA S 427) : ev (d + 1) 262 212 [(2, 427), (2, a1), (0, a2), (0, a3), (0, a4), (0, a5), (0, a6), a7] [] S I = (ev d 255 0 [(2, 427), (1, w a5), uU] [] S I).bind (fun q => ev (d + 1) 262 219 [(2, 427), (2, a1), (0, a2), (0, a3), (0, a4), (0, a5), (0, a6), a7] (psh q.1 []) q.2.1 q.2.2) := by
  refine (sx_aload_n D262_212 rfl).trans ?_
  refine (sx_iload D262_213 rfl).trans ?_
  refine (sx_i2l D262_215).trans ?_
  exact sx_virt (c := 11) (ag := [(2, 427), (1, w a5)]) (r := []) (al' := [(2, 427), (1, w a5), uU]) (np := 1) (nl := 3) (q := (1, 255, 1683)) D262_216 (by decide +kernel) (by decide) mP_255 mL_255 mC_255 (Nat.le_of_ble_eq_true rfl) rfl rfl (by simp [cat]) (by decide) (MA_o h0) rfl rfl
theorem E262_219 {d : Nat} {a1 a2 a3 a4 a5 a6 : Int} {a7 : AV} {S : SS} {I : II}  : ev d 262 219 [(2, 427), (2, a1), (0, a2), (0, a3), (0, a4), (0, a5), (0, a6), a7] [] S I = some ((0, (a3 + a4) + a5), S, I) := by
  refine (sx_iload_n D262_219 rfl).trans ?_
  refine (sx_iload D262_220 rfl).trans ?_
  refine (sx_iadd D262_222).trans ?_
  refine (sx_iload D262_223 rfl).trans ?_
  refine (sx_iadd D262_225).trans ?_
  exact sx_ireturn D262_226 (by decide +kernel)
theorem E263_0 {d : Nat} {a1 a2 : Int} {S : SS} {I : II} (h0 : MA S 427) : ev (d + 1) 263 0 [(2, 427), (0, a1), (0, a2)] [] S I = (ev d 217 0 [(2, 427), uU] [] S (up2 I 427 0 0)).bind (fun q => ev (d + 1) 263 9 [(2, 427), (0, a1), (0, a2)] (psh q.1 []) q.2.1 q.2.2) := by
  refine (sx_aload_n D263_0 rfl).trans ?_
  refine (sx_iconst D263_1).trans ?_
  refine (sx_pfI (q := (9, 0, 0, 1368)) (j := 0) D263_2 (by decide +kernel) (by decide) (by decide) (MA_o h0) rfl).trans ?_
  refine (sx_aload_n D263_5 rfl).trans ?_
  exact sx_virt (c := 11) (ag := [(2, 427)]) (r := []) (al' := [(2, 427), uU]) (np := 0) (nl := 2) (q := (1, 217, 1546)) D263_6 (by decide +kernel) (by decide) mP_217 mL_217 mC_217 (Nat.le_of_ble_eq_true rfl) rfl rfl (by simp [cat]) (by decide) (MA_o h0) rfl rfl
theorem E263_9 {d : Nat} {a1 a2 : Int} {S : SS} {I : II} (h0 : MA S 427) : ev (d + 1) 263 9 [(2, 427), (0, a1), (0, a2)] [] S I = (ev d 264 0 [(2, 438), (0, a1), (0, a2), uU] [] S I).bind (fun q => ev (d + 1) 263 19 [(2, 427), (0, a1), (0, a2)] (psh q.1 [(2, 427)]) q.2.1 q.2.2) := by
  refine (sx_aload_n D263_9 rfl).trans ?_
  refine (sx_aload_n D263_10 rfl).trans ?_
  refine (sx_gfR (q := (9, 20, 0, 1388)) (b := 438) D263_11 (by decide +kernel) (by decide +kernel) (by decide) (MA_o h0) (MA_g20 h0)).trans ?_
  refine (sx_iload_n D263_14 rfl).trans ?_
  refine (sx_iload_n D263_15 rfl).trans ?_
  exact sx_stat (ag := [(2, 438), (0, a1), (0, a2)]) (r := [(2, 427)]) (al' := [(2, 438), (0, a1), (0, a2), uU]) (np := 3) (nl := 4) (q := (0, 264, 1720)) D263_16 (by decide +kernel) (by decide) mP_264 mL_264 (Nat.le_of_ble_eq_true rfl) rfl rfl (by simp [cat]) rfl rfl
theorem E263_19 {d : Nat} {a1 a2 s1 : Int} {S : SS} {I : II} (h0 : MA S 427) : ev (d + 1) 263 19 [(2, 427), (0, a1), (0, a2)] [(0, s1), (2, 427)] S I = (ev d 231 0 [(2, 427), (0, s1)] [] S I).bind (fun q => ev (d + 1) 263 22 [(2, 427), (0, a1), (0, a2)] (psh q.1 []) q.2.1 q.2.2) := by
  exact sx_virt (c := 11) (ag := [(2, 427), (0, s1)]) (r := []) (al' := [(2, 427), (0, s1)]) (np := 1) (nl := 2) (q := (1, 231, 1593)) D263_19 (by decide +kernel) (by decide) mP_231 mL_231 mC_231 (Nat.le_of_ble_eq_true rfl) rfl rfl (by simp [cat]) (by decide) (MA_o h0) rfl rfl
theorem E263_22 {d : Nat} {a1 a2 s0 : Int} {S : SS} {I : II}  : ev d 263 22 [(2, 427), (0, a1), (0, a2)] [(0, s0)] S I = some ((0, s0), S, I) := by
  exact sx_ireturn D263_22 (by decide +kernel)
theorem E264_0 {d : Nat} {a0 a1 a2 : Int} {S : SS} {I : II}  : ev (d + 1) 264 0 [(2, a0), (0, a1), (0, a2), uU] [] S I = (ev d 192 0 [(1, w a1), uU, (1, 1), uU, (1, 3), uU] [] S I).bind (fun q => ev (d + 1) 264 9 [(2, a0), (0, a1), (0, a2), uU] (psh q.1 []) q.2.1 q.2.2) := by
  refine (sx_iload_n D264_0 rfl).trans ?_
  refine (sx_i2l D264_1).trans ?_
  refine (sx_lconst D264_2).trans ?_
  refine (sx_ldc2_w (q := (3, 1533)) D264_3 (by decide +kernel)).trans ?_
  exact sx_stat (ag := [(1, w a1), (1, 1), (1, 3)]) (r := []) (al' := [(1, w a1), uU, (1, 1), uU, (1, 3), uU]) (np := 3) (nl := 6) (q := (0, 192, 1299)) D264_6 (by decide +kernel) (by decide) mP_192 mL_192 (Nat.le_of_ble_eq_true rfl) rfl rfl (by simp [cat]) rfl rfl
theorem E264_9 {d : Nat} {a0 a1 a2 s0 : Int} {S : SS} {I : II}  : ev (d + 1) 264 9 [(2, a0), (0, a1), (0, a2), uU] [(0, s0)] S I = if w s0 = 0 then (ev (d + 1) 264 24 [(2, a0), (0, a1), (0, a2), uU] [] S I) else ((ev d 192 0 [(1, w a2), uU, (1, 1), uU, (1, 9), uU] [] S I).bind (fun q => ev (d + 1) 264 21 [(2, a0), (0, a1), (0, a2), uU] (psh q.1 []) q.2.1 q.2.2)) := by
  refine sx_i0_eq (pc' := 24) D264_9 (by decide) (by decide) ?_ ?_ rfl
  · exact rfl
  · refine (sx_iload_n D264_12 rfl).trans ?_
    refine (sx_i2l D264_13).trans ?_
    refine (sx_lconst D264_14).trans ?_
    refine (sx_ldc2_w (q := (9, 1555)) D264_15 (by decide +kernel)).trans ?_
    exact sx_stat (ag := [(1, w a2), (1, 1), (1, 9)]) (r := []) (al' := [(1, w a2), uU, (1, 1), uU, (1, 9), uU]) (np := 3) (nl := 6) (q := (0, 192, 1299)) D264_18 (by decide +kernel) (by decide) mP_192 mL_192 (Nat.le_of_ble_eq_true rfl) rfl rfl (by simp [cat]) rfl rfl
theorem E264_21 {d : Nat} {a0 a1 a2 s0 ln0 : Int} {S : SS} {I : II} (h0 : KA S a0 20 ln0) : ev d 264 21 [(2, a0), (0, a1), (0, a2), uU] [(0, s0)] S I = if w s0 = 0 then (ev d 264 24 [(2, a0), (0, a1), (0, a2), uU] [] S I) else (gdR (0 ≤ w (814 + a1) ∧ w (814 + a1) < ln0) (if w (I a0 (w (814 + a1))) = w a2 then (some ((0, (-2)), S, I)) else (gdR (0 ≤ w (814 + a1) ∧ w (814 + a1) < ln0) (gdR (0 ≤ w (818 + a1) ∧ w (818 + a1) < ln0) (some ((0, 10 + (I a0 (w (814 + a1)))), S, (up2 (up2 I a0 (w (814 + a1)) a2) a0 (w (818 + a1)) a2))))))) := by
  refine sx_i0_ne (pc' := 26) D264_21 (by decide) (by decide) ?_ ?_ rfl
  · exact rfl
  · refine (sx_aload_n D264_26 rfl).trans ?_
    refine (sx_sipush D264_27 (by decide)).trans ?_
    refine (sx_iload_n D264_30 rfl).trans ?_
    refine (sx_iadd D264_31).trans ?_
    refine (sx_ia D264_32 h0 rfl).trans (gdR_to fun g1 => ?_)
    refine (sx_istore_n (al' := [(2, a0), (0, a1), (0, a2), (0, I a0 (w (814 + a1)))]) D264_33 (Nat.le_of_ble_eq_true rfl) rfl rfl).trans ?_
    refine (sx_iload_n D264_34 rfl).trans ?_
    refine (sx_iload_n D264_35 rfl).trans ?_
    refine sx_if_ne (pc' := 42) D264_36 (by decide) (by decide) ?_ ?_ rfl rfl
    · refine (sx_bipush D264_39 (by decide)).trans ?_
      exact sx_ireturn D264_41 (by decide +kernel)
    · refine (sx_aload_n D264_42 rfl).trans ?_
      refine (sx_sipush D264_43 (by decide)).trans ?_
      refine (sx_iload_n D264_46 rfl).trans ?_
      refine (sx_iadd D264_47).trans ?_
      refine (sx_iload_n D264_48 rfl).trans ?_
      refine (sx_is D264_49 h0).trans (gdR_to fun g2 => ?_)
      refine (sx_aload_n D264_50 rfl).trans ?_
      refine (sx_sipush D264_51 (by decide)).trans ?_
      refine (sx_iload_n D264_54 rfl).trans ?_
      refine (sx_iadd D264_55).trans ?_
      refine (sx_iload_n D264_56 rfl).trans ?_
      refine (sx_is D264_57 h0).trans (gdR_to fun g3 => ?_)
      refine (sx_bipush D264_58 (by decide)).trans ?_
      refine (sx_iload_n D264_60 rfl).trans ?_
      refine (sx_iadd D264_61).trans ?_
      exact sx_ireturn D264_62 (by decide +kernel)
theorem E264_24 {d : Nat} {a0 a1 a2 : Int} {S : SS} {I : II}  : ev d 264 24 [(2, a0), (0, a1), (0, a2), uU] [] S I = some ((0, (-1)), S, I) := by
  refine (sx_iconst D264_24).trans ?_
  exact sx_ireturn D264_25 (by decide +kernel)
theorem E265_0 {d : Nat} {a1 : Int} {S : SS} {I : II} (h0 : MA S 427) : ev (d + 1) 265 0 [(2, 427), (0, a1)] [] S I = (ev d 217 0 [(2, 427), uU] [] S (up2 I 427 0 0)).bind (fun q => ev (d + 1) 265 9 [(2, 427), (0, a1)] (psh q.1 []) q.2.1 q.2.2) := by
  refine (sx_aload_n D265_0 rfl).trans ?_
  refine (sx_iconst D265_1).trans ?_
  refine (sx_pfI (q := (9, 0, 0, 1368)) (j := 0) D265_2 (by decide +kernel) (by decide) (by decide) (MA_o h0) rfl).trans ?_
  refine (sx_aload_n D265_5 rfl).trans ?_
  exact sx_virt (c := 11) (ag := [(2, 427)]) (r := []) (al' := [(2, 427), uU]) (np := 0) (nl := 2) (q := (1, 217, 1546)) D265_6 (by decide +kernel) (by decide) mP_217 mL_217 mC_217 (Nat.le_of_ble_eq_true rfl) rfl rfl (by simp [cat]) (by decide) (MA_o h0) rfl rfl
theorem E265_9 {d : Nat} {a1 : Int} {S : SS} {I : II} (h0 : MA S 427) : ev (d + 1) 265 9 [(2, 427), (0, a1)] [] S I = (ev d 266 0 [(2, 438), (0, a1), uU] [] S I).bind (fun q => ev (d + 1) 265 18 [(2, 427), (0, a1)] (psh q.1 [(2, 427)]) q.2.1 q.2.2) := by
  refine (sx_aload_n D265_9 rfl).trans ?_
  refine (sx_aload_n D265_10 rfl).trans ?_
  refine (sx_gfR (q := (9, 20, 0, 1388)) (b := 438) D265_11 (by decide +kernel) (by decide +kernel) (by decide) (MA_o h0) (MA_g20 h0)).trans ?_
  refine (sx_iload_n D265_14 rfl).trans ?_
  exact sx_stat (ag := [(2, 438), (0, a1)]) (r := [(2, 427)]) (al' := [(2, 438), (0, a1), uU]) (np := 2) (nl := 3) (q := (0, 266, 1727)) D265_15 (by decide +kernel) (by decide) mP_266 mL_266 (Nat.le_of_ble_eq_true rfl) rfl rfl (by simp [cat]) rfl rfl
theorem E265_18 {d : Nat} {a1 s1 : Int} {S : SS} {I : II} (h0 : MA S 427) : ev (d + 1) 265 18 [(2, 427), (0, a1)] [(0, s1), (2, 427)] S I = (ev d 231 0 [(2, 427), (0, s1)] [] S I).bind (fun q => ev (d + 1) 265 21 [(2, 427), (0, a1)] (psh q.1 []) q.2.1 q.2.2) := by
  exact sx_virt (c := 11) (ag := [(2, 427), (0, s1)]) (r := []) (al' := [(2, 427), (0, s1)]) (np := 1) (nl := 2) (q := (1, 231, 1593)) D265_18 (by decide +kernel) (by decide) mP_231 mL_231 mC_231 (Nat.le_of_ble_eq_true rfl) rfl rfl (by simp [cat]) (by decide) (MA_o h0) rfl rfl
theorem E265_21 {d : Nat} {a1 s0 : Int} {S : SS} {I : II}  : ev d 265 21 [(2, 427), (0, a1)] [(0, s0)] S I = some ((0, s0), S, I) := by
  exact sx_ireturn D265_21 (by decide +kernel)
theorem E266_0 {d : Nat} {a0 a1 : Int} {S : SS} {I : II}  : ev (d + 1) 266 0 [(2, a0), (0, a1), uU] [] S I = (ev d 192 0 [(1, w a1), uU, (1, 1), uU, (1, 4), uU] [] S I).bind (fun q => ev (d + 1) 266 9 [(2, a0), (0, a1), uU] (psh q.1 []) q.2.1 q.2.2) := by
  refine (sx_iload_n D266_0 rfl).trans ?_
  refine (sx_i2l D266_1).trans ?_
  refine (sx_lconst D266_2).trans ?_
  refine (sx_ldc2_w (q := (4, 1554)) D266_3 (by decide +kernel)).trans ?_
  exact sx_stat (ag := [(1, w a1), (1, 1), (1, 4)]) (r := []) (al' := [(1, w a1), uU, (1, 1), uU, (1, 4), uU]) (np := 3) (nl := 6) (q := (0, 192, 1299)) D266_6 (by decide +kernel) (by decide) mP_192 mL_192 (Nat.le_of_ble_eq_true rfl) rfl rfl (by simp [cat]) rfl rfl
theorem E266_9 {d : Nat} {a0 a1 s0 ln0 : Int} {S : SS} {I : II} (h0 : KA S a0 20 ln0) : ev d 266 9 [(2, a0), (0, a1), uU] [(0, s0)] S I = if w s0 = 0 then (some ((0, (-1)), S, I)) else (gdR (0 ≤ w 826 ∧ w 826 < ln0) (gdR (0 ≤ w 826 ∧ w 826 < ln0) (if w (I a0 (w 826)) = w a1 then (ev d 266 40 [(2, a0), (0, a1), (0, I a0 (w 826))] [(0, (-2))] S (up2 I a0 (w 826) a1)) else (ev d 266 40 [(2, a0), (0, a1), (0, I a0 (w 826))] [(0, 10 + (I a0 (w 826)))] S (up2 I a0 (w 826) a1))))) := by
  refine sx_i0_ne (pc' := 14) D266_9 (by decide) (by decide) ?_ ?_ rfl
  · refine (sx_iconst D266_12).trans ?_
    exact sx_ireturn D266_13 (by decide +kernel)
  · refine (sx_aload_n D266_14 rfl).trans ?_
    refine (sx_sipush D266_15 (by decide)).trans ?_
    refine (sx_ia D266_18 h0 rfl).trans (gdR_to fun g1 => ?_)
    refine (sx_istore_n (al' := [(2, a0), (0, a1), (0, I a0 (w 826))]) D266_19 (Nat.le_of_ble_eq_true rfl) rfl rfl).trans ?_
    refine (sx_aload_n D266_20 rfl).trans ?_
    refine (sx_sipush D266_21 (by decide)).trans ?_
    refine (sx_iload_n D266_24 rfl).trans ?_
    refine (sx_is D266_25 h0).trans (gdR_to fun g2 => ?_)
    refine (sx_iload_n D266_26 rfl).trans ?_
    refine (sx_iload_n D266_27 rfl).trans ?_
    refine sx_if_ne (pc' := 36) D266_28 (by decide) (by decide) ?_ ?_ rfl rfl
    · refine (sx_bipush D266_31 (by decide)).trans ?_
      refine (sx_goto (pc' := 40) D266_33 (by decide) (by decide)).trans ?_
      exact rfl
    · refine (sx_bipush D266_36 (by decide)).trans ?_
      refine (sx_iload_n D266_38 rfl).trans ?_
      refine (sx_iadd D266_39).trans ?_
      exact rfl
theorem E266_40 {d : Nat} {a0 a1 a2 s0 : Int} {S : SS} {I : II}  : ev d 266 40 [(2, a0), (0, a1), (0, a2)] [(0, s0)] S I = some ((0, s0), S, I) := by
  exact sx_ireturn D266_40 (by decide +kernel)
theorem E267_0 {d : Nat} {S : SS} {I : II} (h0 : MA S 427) : ev (d + 1) 267 0 [(2, 427), uU] [] S I = (ev d 195 0 [(2, 427), (0, 80), uU] [] S (up2 I 427 0 0)).bind (fun q => ev (d + 1) 267 11 [(2, 427), uU] (psh q.1 []) q.2.1 q.2.2) := by
  refine (sx_aload_n D267_0 rfl).trans ?_
  refine (sx_iconst D267_1).trans ?_
  refine (sx_pfI (q := (9, 0, 0, 1368)) (j := 0) D267_2 (by decide +kernel) (by decide) (by decide) (MA_o h0) rfl).trans ?_
  refine (sx_aload_n D267_5 rfl).trans ?_
  refine (sx_bipush D267_6 (by decide)).trans ?_
  exact sx_virt (c := 11) (ag := [(2, 427), (0, 80)]) (r := []) (al' := [(2, 427), (0, 80), uU]) (np := 1) (nl := 3) (q := (1, 195, 1311)) D267_8 (by decide +kernel) (by decide) mP_195 mL_195 mC_195 (Nat.le_of_ble_eq_true rfl) rfl rfl (by simp [cat]) (by decide) (MA_o h0) rfl rfl
theorem E267_11 {d : Nat} {s0 : Int} {S : SS} {I : II} (h0 : MA S 427) : ev d 267 11 [(2, 427), uU] [(0, s0)] S I = ev d 267 17 [(2, 427), uU] [] S (up2 I 427 32 0) := by
  refine (sx_pop D267_11 (by decide)).trans ?_
  refine (sx_aload_n D267_12 rfl).trans ?_
  refine (sx_iconst D267_13).trans ?_
  refine (sx_pfI (q := (9, 32, 0, 1400)) (j := 32) D267_14 (by decide +kernel) (by decide) (by decide) (MA_o h0) rfl).trans ?_
  exact rfl
theorem E267_17 {d : Nat} {S : SS} {I : II} (h0 : MA S 427) : ev (d + 1) 267 17 [(2, 427), uU] [] S I = if w (I 427 5) < w (I 427 6) then ((ev d 268 0 [(2, 427), uU] [] S I).bind (fun q => ev (d + 1) 267 32 [(2, 427), uU] (psh q.1 []) q.2.1 q.2.2)) else ((ev d 217 0 [(2, 427), uU] [] S I).bind (fun q => ev (d + 1) 267 46 [(2, 427), uU] (psh q.1 []) q.2.1 q.2.2)) := by
  refine (sx_aload_n D267_17 rfl).trans ?_
  refine (sx_gfI (q := (9, 5, 0, 1373)) (j := 5) D267_18 (by decide +kernel) (by decide +kernel) (by decide) (MA_o h0) rfl rfl).trans ?_
  refine (sx_aload_n D267_21 rfl).trans ?_
  refine (sx_gfI (q := (9, 6, 0, 1374)) (j := 6) D267_22 (by decide +kernel) (by decide +kernel) (by decide) (MA_o h0) rfl rfl).trans ?_
  refine sx_if_ge (pc' := 42) D267_25 (by decide) (by decide) ?_ ?_ rfl rfl
  · refine (sx_aload_n D267_28 rfl).trans ?_
    exact sx_virt (c := 11) (ag := [(2, 427)]) (r := []) (al' := [(2, 427), uU]) (np := 0) (nl := 2) (q := (1, 268, 1734)) D267_29 (by decide +kernel) (by decide) mP_268 mL_268 mC_268 (Nat.le_of_ble_eq_true rfl) rfl rfl (by simp [cat]) (by decide) (MA_o h0) rfl rfl
  · refine (sx_aload_n D267_42 rfl).trans ?_
    exact sx_virt (c := 11) (ag := [(2, 427)]) (r := []) (al' := [(2, 427), uU]) (np := 0) (nl := 2) (q := (1, 217, 1546)) D267_43 (by decide +kernel) (by decide) mP_217 mL_217 mC_217 (Nat.le_of_ble_eq_true rfl) rfl rfl (by simp [cat]) (by decide) (MA_o h0) rfl rfl
theorem E267_32 {d : Nat} {s0 : Int} {S : SS} {I : II} (h0 : MA S 427) : ev d 267 32 [(2, 427), uU] [(0, s0)] S I = if w s0 = 0 then (some ((0, (-1) - (I 427 5)), S, I)) else (ev d 267 17 [(2, 427), uU] [] S I) := by
  refine sx_i0_ne (pc' := 17) D267_32 (by decide) (by decide) ?_ ?_ rfl
  · refine (sx_iconst D267_35).trans ?_
    refine (sx_aload_n D267_36 rfl).trans ?_
    refine (sx_gfI (q := (9, 5, 0, 1373)) (j := 5) D267_37 (by decide +kernel) (by decide +kernel) (by decide) (MA_o h0) rfl rfl).trans ?_
    refine (sx_isub D267_40).trans ?_
    exact sx_ireturn D267_41 (by decide +kernel)
  · exact rfl
theorem E267_46 {d : Nat} {S : SS} {I : II}  : ev d 267 46 [(2, 427), uU] [] S I = ev d 267 48 [(2, 427), (0, 0)] [] S I := by
  refine (sx_iconst D267_46).trans ?_
  refine (sx_istore_n (al' := [(2, 427), (0, 0)]) D267_47 (Nat.le_of_ble_eq_true rfl) rfl rfl).trans ?_
  exact rfl
theorem E267_48 {d : Nat} {a1 : Int} {S : SS} {I : II} (h0 : MA S 427) : ev (d + 1) 267 48 [(2, 427), (0, a1)] [] S I = if w a1 < w (I 427 32) then ((ev d 270 0 [(2, 427), (0, a1), uU] [] S I).bind (fun q => ev (d + 1) 267 61 [(2, 427), (0, a1)] (psh q.1 []) q.2.1 q.2.2)) else (ev (d + 1) 267 70 [(2, 427), (0, a1)] [] S I) := by
  refine (sx_iload_n D267_48 rfl).trans ?_
  refine (sx_aload_n D267_49 rfl).trans ?_
  refine (sx_gfI (q := (9, 32, 0, 1400)) (j := 32) D267_50 (by decide +kernel) (by decide +kernel) (by decide) (MA_o h0) rfl rfl).trans ?_
  refine sx_if_ge (pc' := 70) D267_53 (by decide) (by decide) ?_ ?_ rfl rfl
  · refine (sx_aload_n D267_56 rfl).trans ?_
    refine (sx_iload_n D267_57 rfl).trans ?_
    exact sx_virt (c := 11) (ag := [(2, 427), (0, a1)]) (r := []) (al' := [(2, 427), (0, a1), uU]) (np := 1) (nl := 3) (q := (1, 270, 1743)) D267_58 (by decide +kernel) (by decide) mP_270 mL_270 mC_270 (Nat.le_of_ble_eq_true rfl) rfl rfl (by simp [cat]) (by decide) (MA_o h0) rfl rfl
  · exact rfl
theorem E267_61 {d : Nat} {a1 s0 : Int} {S : SS} {I : II}  : ev d 267 61 [(2, 427), (0, a1)] [(0, s0)] S I = if w s0 < 0 then (ev d 267 70 [(2, 427), (0, a1)] [] S I) else (ev d 267 48 [(2, 427), (0, a1 + 1)] [] S I) := by
  refine sx_i0_lt (pc' := 70) D267_61 (by decide) (by decide) ?_ ?_ rfl
  · exact rfl
  · refine (sx_iinc (al' := [(2, 427), (0, a1 + 1)]) D267_64 rfl rfl).trans ?_
    refine (sx_goto (pc' := 48) D267_67 (by decide) (by decide)).trans ?_
    exact rfl
theorem E267_70 {d : Nat} {a1 : Int} {S : SS} {I : II} (h0 : MA S 427) : ev d 267 70 [(2, 427), (0, a1)] [] S I = if w a1 < w (I 427 32) then (ev d 267 89 [(2, 427), (0, a1)] [(0, 1), (2, 427)] S (up2 I 427 1 0)) else (ev d 267 89 [(2, 427), (0, a1)] [(0, 0), (2, 427)] S (up2 I 427 1 0)) := by
  refine (sx_aload_n D267_70 rfl).trans ?_
  refine (sx_iconst D267_71).trans ?_
  refine (sx_pfI (q := (9, 1, 0, 1369)) (j := 1) D267_72 (by decide +kernel) (by decide) (by decide) (MA_o h0) rfl).trans ?_
  refine (sx_aload_n D267_75 rfl).trans ?_
  refine (sx_iload_n D267_76 rfl).trans ?_
  refine (sx_aload_n D267_77 rfl).trans ?_
  refine (sx_gfI (q := (9, 32, 0, 1400)) (j := 32) D267_78 (by decide +kernel) (by decide +kernel) (by decide) (MA_o h0) rfl (up2_slot (by decide))).trans ?_
  refine sx_if_ge (pc' := 88) D267_81 (by decide) (by decide) ?_ ?_ rfl rfl
  · refine (sx_iconst D267_84).trans ?_
    refine (sx_goto (pc' := 89) D267_85 (by decide) (by decide)).trans ?_
    exact rfl
  · refine (sx_iconst D267_88).trans ?_
    exact rfl
theorem E267_89 {d : Nat} {a1 s1 : Int} {S : SS} {I : II}  : ev (d + 1) 267 89 [(2, 427), (0, a1)] [(0, s1), (2, 427)] S I = (ev d 199 0 [(0, s1)] [] S I).bind (fun q => ev (d + 1) 267 92 [(2, 427), (0, a1)] (psh q.1 [(2, 427)]) q.2.1 q.2.2) := by
  exact sx_stat (ag := [(0, s1)]) (r := [(2, 427)]) (al' := [(0, s1)]) (np := 1) (nl := 1) (q := (0, 199, 1328)) D267_89 (by decide +kernel) (by decide) mP_199 mL_199 (Nat.le_of_ble_eq_true rfl) rfl rfl (by simp [cat]) rfl rfl
theorem E267_92 {d : Nat} {a1 s1 : Int} {S : SS} {I : II} (h0 : MA S 427) : ev (d + 1) 267 92 [(2, 427), (0, a1)] [(0, s1), (2, 427)] S I = (ev d 255 0 [(2, 427), (1, w s1), uU] [] S I).bind (fun q => ev (d + 1) 267 96 [(2, 427), (0, a1)] (psh q.1 []) q.2.1 q.2.2) := by
  refine (sx_i2l D267_92).trans ?_
  exact sx_virt (c := 11) (ag := [(2, 427), (1, w s1)]) (r := []) (al' := [(2, 427), (1, w s1), uU]) (np := 1) (nl := 3) (q := (1, 255, 1683)) D267_93 (by decide +kernel) (by decide) mP_255 mL_255 mC_255 (Nat.le_of_ble_eq_true rfl) rfl rfl (by simp [cat]) (by decide) (MA_o h0) rfl rfl
theorem E267_96 {d : Nat} {a1 : Int} {S : SS} {I : II} (h0 : MA S 427) : ev (d + 1) 267 96 [(2, 427), (0, a1)] [] S I = (ev d 255 0 [(2, 427), (1, w (I 438 827)), uU] [] S I).bind (fun q => ev (d + 1) 267 109 [(2, 427), (0, a1)] (psh q.1 []) q.2.1 q.2.2) := by
  refine (sx_aload_n D267_96 rfl).trans ?_
  refine (sx_aload_n D267_97 rfl).trans ?_
  refine (sx_gfR (q := (9, 20, 0, 1388)) (b := 438) D267_98 (by decide +kernel) (by decide +kernel) (by decide) (MA_o h0) (MA_g20 h0)).trans ?_
  refine (sx_sipush D267_101 (by decide)).trans ?_
  refine (sx_iaK (j := 827) D267_104 (MA_k20 h0) (w_small (by decide) (by decide)) (by decide) (by decide) rfl).trans ?_
  refine (sx_i2l D267_105).trans ?_
  exact sx_virt (c := 11) (ag := [(2, 427), (1, w (I 438 827))]) (r := []) (al' := [(2, 427), (1, w (I 438 827)), uU]) (np := 1) (nl := 3) (q := (1, 255, 1683)) D267_106 (by decide +kernel) (by decide) mP_255 mL_255 mC_255 (Nat.le_of_ble_eq_true rfl) rfl rfl (by simp [cat]) (by decide) (MA_o h0) rfl rfl
theorem E267_109 {d : Nat} {a1 : Int} {S : SS} {I : II} (h0 : MA S 427) : ev (d + 1) 267 109 [(2, 427), (0, a1)] [] S I = if 0 < w a1 then ((ev d 232 0 [(2, 427), (0, a1), uU] [] S I).bind (fun q => ev (d + 1) 267 118 [(2, 427), (0, a1)] (psh q.1 []) q.2.1 q.2.2)) else (ev (d + 1) 267 122 [(2, 427), (0, a1)] [(0, 0)] S I) := by
  refine (sx_iload_n D267_109 rfl).trans ?_
  refine sx_i0_le (pc' := 121) D267_110 (by decide) (by decide) ?_ ?_ rfl
  · refine (sx_aload_n D267_113 rfl).trans ?_
    refine (sx_iload_n D267_114 rfl).trans ?_
    exact sx_virt (c := 11) (ag := [(2, 427), (0, a1)]) (r := []) (al' := [(2, 427), (0, a1), uU]) (np := 1) (nl := 3) (q := (1, 232, 1597)) D267_115 (by decide +kernel) (by decide) mP_232 mL_232 mC_232 (Nat.le_of_ble_eq_true rfl) rfl rfl (by simp [cat]) (by decide) (MA_o h0) rfl rfl
  · refine (sx_iconst D267_121).trans ?_
    exact rfl
theorem E267_118 {d : Nat} {a1 s0 : Int} {S : SS} {I : II}  : ev d 267 118 [(2, 427), (0, a1)] [(0, s0)] S I = ev d 267 122 [(2, 427), (0, a1)] [(0, s0)] S I := by
  refine (sx_goto (pc' := 122) D267_118 (by decide) (by decide)).trans ?_
  exact rfl
theorem E267_122 {d : Nat} {a1 s0 : Int} {S : SS} {I : II}  : ev d 267 122 [(2, 427), (0, a1)] [(0, s0)] S I = some ((0, s0), S, I) := by
  exact sx_ireturn D267_122 (by decide +kernel)
theorem E268_0 {d : Nat} {S : SS} {I : II} (h0 : MA S 427) : ev (d + 1) 268 0 [(2, 427), uU] [] S I = (ev d 203 0 [(2, 427), (2, (-21)), uU] [] S I).bind (fun q => ev (d + 1) 268 17 [(2, 427), (0, I 427 32)] (psh q.1 [(0, I 427 32), (2, 441)]) q.2.1 q.2.2) := by
  refine (sx_aload_n D268_0 rfl).trans ?_
  refine (sx_gfI (q := (9, 32, 0, 1400)) (j := 32) D268_1 (by decide +kernel) (by decide +kernel) (by decide) (MA_o h0) rfl rfl).trans ?_
  refine (sx_istore_n (al' := [(2, 427), (0, I 427 32)]) D268_4 (Nat.le_of_ble_eq_true rfl) rfl rfl).trans ?_
  refine (sx_aload_n D268_5 rfl).trans ?_
  refine (sx_gfR (q := (9, 27, 0, 1395)) (b := 441) D268_6 (by decide +kernel) (by decide +kernel) (by decide) (MA_o h0) (MA_g27 h0)).trans ?_
  refine (sx_iload_n D268_9 rfl).trans ?_
  refine (sx_aload_n D268_10 rfl).trans ?_
  refine (sx_ldc_wS (q := (11, 1738)) D268_11 (by decide +kernel) (by decide +kernel)).trans ?_
  show ev (d + 1) 268 14 [(2, 427), (0, I 427 32)] [(2, (-21)), (2, 427), (0, I 427 32), (2, 441)] S I = _
  exact sx_virt (c := 11) (ag := [(2, 427), (2, (-21))]) (r := [(0, I 427 32), (2, 441)]) (al' := [(2, 427), (2, (-21)), uU]) (np := 1) (nl := 3) (q := (1, 203, 1346)) D268_14 (by decide +kernel) (by decide) mP_203 mL_203 mC_203 (Nat.le_of_ble_eq_true rfl) rfl rfl (by simp [cat]) (by decide) (MA_o h0) rfl rfl
theorem E268_17 {d : Nat} {a1 s0 s1 s2 ln0 : Int} {S : SS} {I : II} (h0 : KA S s0 20 ln0) (h1 : s0 = 438 ∨ s0 = 439) (h2 : MA S 427) : ev (d + 1) 268 17 [(2, 427), (0, a1)] [(0, s2), (0, s1), (2, s0)] S I = gdR (0 ≤ w s1 ∧ w s1 < ln0) (gdR (0 ≤ w a1 ∧ w a1 < 80) (if 0 < w (I 441 (w a1)) then ((ev d 202 0 [(2, 427), (0, 1), uU, uU] [] S (up2 (up2 I s0 (w s1) s2) 427 32 ((I 427 32) + 1))).bind (fun q => ev (d + 1) 268 62 [(2, 427), (0, a1)] (psh q.1 [(0, a1), (2, 442)]) q.2.1 q.2.2)) else (gdR (0 ≤ w a1 ∧ w a1 < 80) (if w (I 441 (w a1)) = 0 then (ev (d + 1) 268 51 [(2, 427), (0, a1)] [(0, 1)] S (up2 (up2 I s0 (w s1) s2) 427 32 ((I 427 32) + 1))) else (ev (d + 1) 268 51 [(2, 427), (0, a1)] [(0, 0)] S (up2 (up2 I s0 (w s1) s2) 427 32 ((I 427 32) + 1))))))) := by
  refine (sx_is D268_17 h0).trans (gdR_to fun g1 => ?_)
  refine (sx_aload_n D268_18 rfl).trans ?_
  refine (sx_dup D268_19 (by decide)).trans ?_
  refine (sx_gfI (q := (9, 32, 0, 1400)) (j := 32) D268_20 (by decide +kernel) (by decide +kernel) (by decide) (MA_o h2) rfl (up2_cell (by omega))).trans ?_
  refine (sx_iconst D268_23).trans ?_
  refine (sx_iadd D268_24).trans ?_
  refine (sx_pfI (q := (9, 32, 0, 1400)) (j := 32) D268_25 (by decide +kernel) (by decide) (by decide) (MA_o h2) rfl).trans ?_
  refine (sx_aload_n D268_28 rfl).trans ?_
  refine (sx_gfR (q := (9, 27, 0, 1395)) (b := 441) D268_29 (by decide +kernel) (by decide +kernel) (by decide) (MA_o h2) (MA_g27 h2)).trans ?_
  refine (sx_iload_n D268_32 rfl).trans ?_
  refine (sx_ia D268_33 (MA_k27 h2) ((up2_cell (by omega)).trans (up2_cell (by omega)))).trans (gdR_to fun g2 => ?_)
  refine sx_i0_gt (pc' := 52) D268_34 (by decide) (by decide) ?_ ?_ rfl
  · refine (sx_aload_n D268_52 rfl).trans ?_
    refine (sx_gfR (q := (9, 28, 0, 1396)) (b := 442) D268_53 (by decide +kernel) (by decide +kernel) (by decide) (MA_o h2) (MA_g28 h2)).trans ?_
    refine (sx_iload_n D268_56 rfl).trans ?_
    refine (sx_aload_n D268_57 rfl).trans ?_
    refine (sx_iconst D268_58).trans ?_
    exact sx_virt (c := 11) (ag := [(2, 427), (0, 1)]) (r := [(0, a1), (2, 442)]) (al' := [(2, 427), (0, 1), uU, uU]) (np := 1) (nl := 4) (q := (1, 202, 1341)) D268_59 (by decide +kernel) (by decide) mP_202 mL_202 mC_202 (Nat.le_of_ble_eq_true rfl) rfl rfl (by simp [cat]) (by decide) (MA_o h2) rfl rfl
  · refine (sx_aload_n D268_37 rfl).trans ?_
    refine (sx_gfR (q := (9, 27, 0, 1395)) (b := 441) D268_38 (by decide +kernel) (by decide +kernel) (by decide) (MA_o h2) (MA_g27 h2)).trans ?_
    refine (sx_iload_n D268_41 rfl).trans ?_
    refine (sx_ia D268_42 (MA_k27 h2) ((up2_cell (by omega)).trans (up2_cell (by omega)))).trans (gdR_to fun g3 => ?_)
    refine sx_i0_ne (pc' := 50) D268_43 (by decide) (by decide) ?_ ?_ rfl
    · refine (sx_iconst D268_46).trans ?_
      refine (sx_goto (pc' := 51) D268_47 (by decide) (by decide)).trans ?_
      exact rfl
    · refine (sx_iconst D268_50).trans ?_
      exact rfl
theorem E268_51 {d : Nat} {a1 s0 : Int} {S : SS} {I : II} (h0 : s0 = 0 ∨ s0 = 1) : ev d 268 51 [(2, 427), (0, a1)] [(0, s0)] S I = some ((0, s0), S, I) := by
  exact sx_zreturn D268_51 (by decide +kernel) h0
theorem E268_62 {d : Nat} {a1 s0 s1 s2 ln0 : Int} {S : SS} {I : II} (h0 : KA S s0 20 ln0) (h1 : MA S 427) (h2 : s0 = 438 ∨ s0 = 439) : ev (d + 1) 268 62 [(2, 427), (0, a1)] [(0, s2), (0, s1), (2, s0)] S I = gdR (0 ≤ w s1 ∧ w s1 < ln0) (gdR (0 ≤ w a1 ∧ w a1 < 80) (if w (I 442 (w a1)) < 0 then (ev (d + 1) 268 82 [(2, 427), (0, a1)] [] S (up2 I s0 (w s1) s2)) else (gdR (0 ≤ w a1 ∧ w a1 < 80) (if w (I 441 (w a1)) < 4 then (ev (d + 1) 268 82 [(2, 427), (0, a1)] [] S (up2 I s0 (w s1) s2)) else (gdR (0 ≤ w a1 ∧ w a1 < 80) (if w (I 441 (w a1)) = 4 then ((ev d 269 0 [(2, 427), uU, uU] [] S (up2 I s0 (w s1) s2)).bind (fun q => ev (d + 1) 268 116 [(2, 427), (0, a1)] (psh q.1 [(0, a1), (2, 443)]) q.2.1 q.2.2)) else ((ev d 208 0 [(2, 427), (0, 0), (0, 4)] [] S (up2 I s0 (w s1) s2)).bind (fun q => ev (d + 1) 268 125 [(2, 427), (0, a1)] (psh q.1 [(0, a1), (2, 443)]) q.2.1 q.2.2)))))))) := by
  refine (sx_is D268_62 h0).trans (gdR_to fun g1 => ?_)
  refine (sx_aload_n D268_63 rfl).trans ?_
  refine (sx_gfR (q := (9, 28, 0, 1396)) (b := 442) D268_64 (by decide +kernel) (by decide +kernel) (by decide) (MA_o h1) (MA_g28 h1)).trans ?_
  refine (sx_iload_n D268_67 rfl).trans ?_
  refine (sx_ia D268_68 (MA_k28 h1) (up2_cell (by omega))).trans (gdR_to fun g2 => ?_)
  refine sx_i0_lt (pc' := 82) D268_69 (by decide) (by decide) ?_ ?_ rfl
  · exact rfl
  · refine (sx_aload_n D268_72 rfl).trans ?_
    refine (sx_gfR (q := (9, 27, 0, 1395)) (b := 441) D268_73 (by decide +kernel) (by decide +kernel) (by decide) (MA_o h1) (MA_g27 h1)).trans ?_
    refine (sx_iload_n D268_76 rfl).trans ?_
    refine (sx_ia D268_77 (MA_k27 h1) (up2_cell (by omega))).trans (gdR_to fun g3 => ?_)
    refine (sx_iconst D268_78).trans ?_
    refine sx_if_ge (pc' := 97) D268_79 (by decide) (by decide) ?_ ?_ rfl (w_small (by decide) (by decide))
    · exact rfl
    · refine (sx_aload_n D268_97 rfl).trans ?_
      refine (sx_gfR (q := (9, 29, 0, 1397)) (b := 443) D268_98 (by decide +kernel) (by decide +kernel) (by decide) (MA_o h1) (MA_g29 h1)).trans ?_
      refine (sx_iload_n D268_101 rfl).trans ?_
      refine (sx_aload_n D268_102 rfl).trans ?_
      refine (sx_gfR (q := (9, 27, 0, 1395)) (b := 441) D268_103 (by decide +kernel) (by decide +kernel) (by decide) (MA_o h1) (MA_g27 h1)).trans ?_
      refine (sx_iload_n D268_106 rfl).trans ?_
      refine (sx_ia D268_107 (MA_k27 h1) (up2_cell (by omega))).trans (gdR_to fun g4 => ?_)
      refine (sx_iconst D268_108).trans ?_
      refine sx_if_ne (pc' := 119) D268_109 (by decide) (by decide) ?_ ?_ rfl (w_small (by decide) (by decide))
      · refine (sx_aload_n D268_112 rfl).trans ?_
        exact sx_virt (c := 11) (ag := [(2, 427)]) (r := [(0, a1), (2, 443)]) (al' := [(2, 427), uU, uU]) (np := 0) (nl := 3) (q := (1, 269, 1739)) D268_113 (by decide +kernel) (by decide) mP_269 mL_269 mC_269 (Nat.le_of_ble_eq_true rfl) rfl rfl (by simp [cat]) (by decide) (MA_o h1) rfl rfl
      · refine (sx_aload_n D268_119 rfl).trans ?_
        refine (sx_iconst D268_120).trans ?_
        refine (sx_iconst D268_121).trans ?_
        exact sx_virt (c := 11) (ag := [(2, 427), (0, 0), (0, 4)]) (r := [(0, a1), (2, 443)]) (al' := [(2, 427), (0, 0), (0, 4)]) (np := 2) (nl := 3) (q := (1, 208, 1508)) D268_122 (by decide +kernel) (by decide) mP_208 mL_208 mC_208 (Nat.le_of_ble_eq_true rfl) rfl rfl (by simp [cat]) (by decide) (MA_o h1) rfl rfl
theorem E268_82 {d : Nat} {a1 : Int} {S : SS} {I : II} (h0 : MA S 427) : ev d 268 82 [(2, 427), (0, a1)] [] S I = gdR (0 ≤ w a1 ∧ w a1 < 80) (if w (I 442 (w a1)) < 0 then (ev d 268 96 [(2, 427), (0, a1)] [(0, 0)] S I) else (ev d 268 96 [(2, 427), (0, a1)] [(0, 1)] S I)) := by
  refine (sx_aload_n D268_82 rfl).trans ?_
  refine (sx_gfR (q := (9, 28, 0, 1396)) (b := 442) D268_83 (by decide +kernel) (by decide +kernel) (by decide) (MA_o h0) (MA_g28 h0)).trans ?_
  refine (sx_iload_n D268_86 rfl).trans ?_
  refine (sx_ia D268_87 (MA_k28 h0) rfl).trans (gdR_to fun g1 => ?_)
  refine sx_i0_lt (pc' := 95) D268_88 (by decide) (by decide) ?_ ?_ rfl
  · refine (sx_iconst D268_95).trans ?_
    exact rfl
  · refine (sx_iconst D268_91).trans ?_
    refine (sx_goto (pc' := 96) D268_92 (by decide) (by decide)).trans ?_
    exact rfl
theorem E268_96 {d : Nat} {a1 s0 : Int} {S : SS} {I : II} (h0 : s0 = 0 ∨ s0 = 1) : ev d 268 96 [(2, 427), (0, a1)] [(0, s0)] S I = some ((0, s0), S, I) := by
  exact sx_zreturn D268_96 (by decide +kernel) h0
theorem E268_116 {d : Nat} {a1 s0 s1 s2 : Int} {S : SS} {I : II}  : ev d 268 116 [(2, 427), (0, a1)] [(0, s2), (0, s1), (2, s0)] S I = ev d 268 125 [(2, 427), (0, a1)] [(0, s2), (0, s1), (2, s0)] S I := by
  refine (sx_goto (pc' := 125) D268_116 (by decide) (by decide)).trans ?_
  exact rfl
theorem E268_125 {d : Nat} {a1 s0 s1 s2 ln0 : Int} {S : SS} {I : II} (h0 : KA S s0 20 ln0) (h1 : MA S 427) (h2 : s0 = 438 ∨ s0 = 439) : ev (d + 1) 268 125 [(2, 427), (0, a1)] [(0, s2), (0, s1), (2, s0)] S I = gdR (0 ≤ w s1 ∧ w s1 < ln0) (gdR (0 ≤ w a1 ∧ w a1 < 80) (if w (I 443 (w a1)) < 0 then (ev (d + 1) 268 145 [(2, 427), (0, a1)] [] S (up2 I s0 (w s1) s2)) else (gdR (0 ≤ w a1 ∧ w a1 < 80) (if w (I 441 (w a1)) = 4 then (ev (d + 1) 268 145 [(2, 427), (0, a1)] [] S (up2 I s0 (w s1) s2)) else ((ev d 202 0 [(2, 427), (0, 1), uU, uU] [] S (up2 I s0 (w s1) s2)).bind (fun q => ev (d + 1) 268 170 [(2, 427), (0, a1)] (psh q.1 [(0, a1), (2, 444)]) q.2.1 q.2.2)))))) := by
  refine (sx_is D268_125 h0).trans (gdR_to fun g1 => ?_)
  refine (sx_aload_n D268_126 rfl).trans ?_
  refine (sx_gfR (q := (9, 29, 0, 1397)) (b := 443) D268_127 (by decide +kernel) (by decide +kernel) (by decide) (MA_o h1) (MA_g29 h1)).trans ?_
  refine (sx_iload_n D268_130 rfl).trans ?_
  refine (sx_ia D268_131 (MA_k29 h1) (up2_cell (by omega))).trans (gdR_to fun g2 => ?_)
  refine sx_i0_lt (pc' := 145) D268_132 (by decide) (by decide) ?_ ?_ rfl
  · exact rfl
  · refine (sx_aload_n D268_135 rfl).trans ?_
    refine (sx_gfR (q := (9, 27, 0, 1395)) (b := 441) D268_136 (by decide +kernel) (by decide +kernel) (by decide) (MA_o h1) (MA_g27 h1)).trans ?_
    refine (sx_iload_n D268_139 rfl).trans ?_
    refine (sx_ia D268_140 (MA_k27 h1) (up2_cell (by omega))).trans (gdR_to fun g3 => ?_)
    refine (sx_iconst D268_141).trans ?_
    refine sx_if_ne (pc' := 160) D268_142 (by decide) (by decide) ?_ ?_ rfl (w_small (by decide) (by decide))
    · exact rfl
    · refine (sx_aload_n D268_160 rfl).trans ?_
      refine (sx_gfR (q := (9, 30, 0, 1398)) (b := 444) D268_161 (by decide +kernel) (by decide +kernel) (by decide) (MA_o h1) (MA_g30 h1)).trans ?_
      refine (sx_iload_n D268_164 rfl).trans ?_
      refine (sx_aload_n D268_165 rfl).trans ?_
      refine (sx_iconst D268_166).trans ?_
      exact sx_virt (c := 11) (ag := [(2, 427), (0, 1)]) (r := [(0, a1), (2, 444)]) (al' := [(2, 427), (0, 1), uU, uU]) (np := 1) (nl := 4) (q := (1, 202, 1341)) D268_167 (by decide +kernel) (by decide) mP_202 mL_202 mC_202 (Nat.le_of_ble_eq_true rfl) rfl rfl (by simp [cat]) (by decide) (MA_o h1) rfl rfl
theorem E268_145 {d : Nat} {a1 : Int} {S : SS} {I : II} (h0 : MA S 427) : ev d 268 145 [(2, 427), (0, a1)] [] S I = gdR (0 ≤ w a1 ∧ w a1 < 80) (if w (I 443 (w a1)) < 0 then (ev d 268 159 [(2, 427), (0, a1)] [(0, 0)] S I) else (ev d 268 159 [(2, 427), (0, a1)] [(0, 1)] S I)) := by
  refine (sx_aload_n D268_145 rfl).trans ?_
  refine (sx_gfR (q := (9, 29, 0, 1397)) (b := 443) D268_146 (by decide +kernel) (by decide +kernel) (by decide) (MA_o h0) (MA_g29 h0)).trans ?_
  refine (sx_iload_n D268_149 rfl).trans ?_
  refine (sx_ia D268_150 (MA_k29 h0) rfl).trans (gdR_to fun g1 => ?_)
  refine sx_i0_lt (pc' := 158) D268_151 (by decide) (by decide) ?_ ?_ rfl
  · refine (sx_iconst D268_158).trans ?_
    exact rfl
  · refine (sx_iconst D268_154).trans ?_
    refine (sx_goto (pc' := 159) D268_155 (by decide) (by decide)).trans ?_
    exact rfl
theorem E268_159 {d : Nat} {a1 s0 : Int} {S : SS} {I : II} (h0 : s0 = 0 ∨ s0 = 1) : ev d 268 159 [(2, 427), (0, a1)] [(0, s0)] S I = some ((0, s0), S, I) := by
  exact sx_zreturn D268_159 (by decide +kernel) h0
theorem E268_170 {d : Nat} {a1 s0 s1 s2 ln0 : Int} {S : SS} {I : II} (h0 : KA S s0 20 ln0) (h1 : MA S 427) (h2 : s0 = 438 ∨ s0 = 439) : ev (d + 1) 268 170 [(2, 427), (0, a1)] [(0, s2), (0, s1), (2, s0)] S I = gdR (0 ≤ w s1 ∧ w s1 < ln0) (gdR (0 ≤ w a1 ∧ w a1 < 80) (if w (I 444 (w a1)) < 0 then (ev (d + 1) 268 193 [(2, 427), (0, a1)] [(0, (-1)), (0, a1), (2, 445)] S (up2 I s0 (w s1) s2)) else ((ev d 269 0 [(2, 427), uU, uU] [] S (up2 I s0 (w s1) s2)).bind (fun q => ev (d + 1) 268 193 [(2, 427), (0, a1)] (psh q.1 [(0, a1), (2, 445)]) q.2.1 q.2.2)))) := by
  refine (sx_is D268_170 h0).trans (gdR_to fun g1 => ?_)
  refine (sx_aload_n D268_171 rfl).trans ?_
  refine (sx_gfR (q := (9, 31, 0, 1399)) (b := 445) D268_172 (by decide +kernel) (by decide +kernel) (by decide) (MA_o h1) (MA_g31 h1)).trans ?_
  refine (sx_iload_n D268_175 rfl).trans ?_
  refine (sx_aload_n D268_176 rfl).trans ?_
  refine (sx_gfR (q := (9, 30, 0, 1398)) (b := 444) D268_177 (by decide +kernel) (by decide +kernel) (by decide) (MA_o h1) (MA_g30 h1)).trans ?_
  refine (sx_iload_n D268_180 rfl).trans ?_
  refine (sx_ia D268_181 (MA_k30 h1) (up2_cell (by omega))).trans (gdR_to fun g2 => ?_)
  refine sx_i0_ge (pc' := 189) D268_182 (by decide) (by decide) ?_ ?_ rfl
  · refine (sx_iconst D268_185).trans ?_
    refine (sx_goto (pc' := 193) D268_186 (by decide) (by decide)).trans ?_
    exact rfl
  · refine (sx_aload_n D268_189 rfl).trans ?_
    exact sx_virt (c := 11) (ag := [(2, 427)]) (r := [(0, a1), (2, 445)]) (al' := [(2, 427), uU, uU]) (np := 0) (nl := 3) (q := (1, 269, 1739)) D268_190 (by decide +kernel) (by decide) mP_269 mL_269 mC_269 (Nat.le_of_ble_eq_true rfl) rfl rfl (by simp [cat]) (by decide) (MA_o h1) rfl rfl
theorem E268_193 {d : Nat} {a1 s0 s1 s2 ln0 : Int} {S : SS} {I : II} (h0 : KA S s0 20 ln0) (h1 : MA S 427) (h2 : s0 = 438 ∨ s0 = 439) : ev d 268 193 [(2, 427), (0, a1)] [(0, s2), (0, s1), (2, s0)] S I = gdR (0 ≤ w s1 ∧ w s1 < ln0) (gdR (0 ≤ w a1 ∧ w a1 < 80) (if w (I 445 (w a1)) < 0 then (ev d 268 208 [(2, 427), (0, a1)] [(0, 0)] S (up2 I s0 (w s1) s2)) else (ev d 268 208 [(2, 427), (0, a1)] [(0, 1)] S (up2 I s0 (w s1) s2)))) := by
  refine (sx_is D268_193 h0).trans (gdR_to fun g1 => ?_)
  refine (sx_aload_n D268_194 rfl).trans ?_
  refine (sx_gfR (q := (9, 31, 0, 1399)) (b := 445) D268_195 (by decide +kernel) (by decide +kernel) (by decide) (MA_o h1) (MA_g31 h1)).trans ?_
  refine (sx_iload_n D268_198 rfl).trans ?_
  refine (sx_ia D268_199 (MA_k31 h1) (up2_cell (by omega))).trans (gdR_to fun g2 => ?_)
  refine sx_i0_lt (pc' := 207) D268_200 (by decide) (by decide) ?_ ?_ rfl
  · refine (sx_iconst D268_207).trans ?_
    exact rfl
  · refine (sx_iconst D268_203).trans ?_
    refine (sx_goto (pc' := 208) D268_204 (by decide) (by decide)).trans ?_
    exact rfl
theorem E268_208 {d : Nat} {a1 s0 : Int} {S : SS} {I : II} (h0 : s0 = 0 ∨ s0 = 1) : ev d 268 208 [(2, 427), (0, a1)] [(0, s0)] S I = some ((0, s0), S, I) := by
  exact sx_zreturn D268_208 (by decide +kernel) h0
theorem E269_0 {d : Nat} {S : SS} {I : II} (h0 : MA S 427) : ev (d + 1) 269 0 [(2, 427), uU, uU] [] S I = (ev d 202 0 [(2, 427), (0, 1), uU, uU] [] S I).bind (fun q => ev (d + 1) 269 5 [(2, 427), uU, uU] (psh q.1 []) q.2.1 q.2.2) := by
  refine (sx_aload_n D269_0 rfl).trans ?_
  refine (sx_iconst D269_1).trans ?_
  exact sx_virt (c := 11) (ag := [(2, 427), (0, 1)]) (r := []) (al' := [(2, 427), (0, 1), uU, uU]) (np := 1) (nl := 4) (q := (1, 202, 1341)) D269_2 (by decide +kernel) (by decide) mP_202 mL_202 mC_202 (Nat.le_of_ble_eq_true rfl) rfl rfl (by simp [cat]) (by decide) (MA_o h0) rfl rfl
theorem E269_5 {d : Nat} {s0 : Int} {S : SS} {I : II} (h0 : MA S 427) : ev (d + 1) 269 5 [(2, 427), uU, uU] [(0, s0)] S I = if w s0 < 0 then (ev (d + 1) 269 19 [(2, 427), (0, s0), uU] [(0, (-1))] S I) else ((ev d 202 0 [(2, 427), (0, 1), uU, uU] [] S I).bind (fun q => ev (d + 1) 269 19 [(2, 427), (0, s0), uU] (psh q.1 []) q.2.1 q.2.2)) := by
  refine (sx_istore_n (al' := [(2, 427), (0, s0), uU]) D269_5 (Nat.le_of_ble_eq_true rfl) rfl rfl).trans ?_
  refine (sx_iload_n D269_6 rfl).trans ?_
  refine sx_i0_ge (pc' := 14) D269_7 (by decide) (by decide) ?_ ?_ rfl
  · refine (sx_iconst D269_10).trans ?_
    refine (sx_goto (pc' := 19) D269_11 (by decide) (by decide)).trans ?_
    exact rfl
  · refine (sx_aload_n D269_14 rfl).trans ?_
    refine (sx_iconst D269_15).trans ?_
    exact sx_virt (c := 11) (ag := [(2, 427), (0, 1)]) (r := []) (al' := [(2, 427), (0, 1), uU, uU]) (np := 1) (nl := 4) (q := (1, 202, 1341)) D269_16 (by decide +kernel) (by decide) mP_202 mL_202 mC_202 (Nat.le_of_ble_eq_true rfl) rfl rfl (by simp [cat]) (by decide) (MA_o h0) rfl rfl
theorem E269_19 {d : Nat} {a1 s0 : Int} {S : SS} {I : II}  : ev d 269 19 [(2, 427), (0, a1), uU] [(0, s0)] S I = if w s0 < 0 then (ev d 269 34 [(2, 427), (0, a1), (0, s0)] [(0, (-1))] S I) else (ev d 269 34 [(2, 427), (0, a1), (0, s0)] [(0, (10 * a1) + s0)] S I) := by
  refine (sx_istore_n (al' := [(2, 427), (0, a1), (0, s0)]) D269_19 (Nat.le_of_ble_eq_true rfl) rfl rfl).trans ?_
  refine (sx_iload_n D269_20 rfl).trans ?_
  refine sx_i0_ge (pc' := 28) D269_21 (by decide) (by decide) ?_ ?_ rfl
  · refine (sx_iconst D269_24).trans ?_
    refine (sx_goto (pc' := 34) D269_25 (by decide) (by decide)).trans ?_
    exact rfl
  · refine (sx_bipush D269_28 (by decide)).trans ?_
    refine (sx_iload_n D269_30 rfl).trans ?_
    refine (sx_imul D269_31).trans ?_
    refine (sx_iload_n D269_32 rfl).trans ?_
    refine (sx_iadd D269_33).trans ?_
    exact rfl
theorem E269_34 {d : Nat} {a1 a2 s0 : Int} {S : SS} {I : II}  : ev d 269 34 [(2, 427), (0, a1), (0, a2)] [(0, s0)] S I = some ((0, s0), S, I) := by
  exact sx_ireturn D269_34 (by decide +kernel)
theorem E270_0 {d : Nat} {a1 : Int} {S : SS} {I : II} (h0 : MA S 427) : ev (d + 1) 270 0 [(2, 427), (0, a1), uU] [] S I = gdR (0 ≤ w a1 ∧ w a1 < 80) (gdR (0 ≤ w a1 ∧ w a1 < 80) (if w (I 441 (w a1)) = 0 then ((ev d 262 0 [(2, 427), (2, 438), (0, 0), uU, uU, uU, uU, uU] [] S I).bind (fun q => ev (d + 1) 270 57 [(2, 427), (0, a1), (0, I 442 (w a1))] (psh q.1 []) q.2.1 q.2.2)) else (if w (I 441 (w a1)) = 1 then ((ev d 234 0 [(2, 427), (2, 438), (0, I 442 (w a1)), uU, uU, uU] [] S I).bind (fun q => ev (d + 1) 270 67 [(2, 427), (0, a1), (0, I 442 (w a1))] (psh q.1 []) q.2.1 q.2.2)) else (if w (I 441 (w a1)) = 2 then ((ev d 236 0 [(2, 427), (2, 438), (0, I 442 (w a1)), uU] [] S I).bind (fun q => ev (d + 1) 270 77 [(2, 427), (0, a1), (0, I 442 (w a1))] (psh q.1 []) q.2.1 q.2.2)) else (if w (I 441 (w a1)) = 3 then ((ev d 257 0 [(2, 427), (2, 438), (0, I 442 (w a1)), uU] [] S I).bind (fun q => ev (d + 1) 270 88 [(2, 427), (0, a1), (0, I 442 (w a1))] (psh q.1 []) q.2.1 q.2.2)) else (if w (I 441 (w a1)) = 4 then (gdR (0 ≤ w a1 ∧ w a1 < 80) ((ev d 259 0 [(2, 427), (2, 438), (0, I 442 (w a1)), (0, I 443 (w a1)), uU, uU] [] S I).bind (fun q => ev (d + 1) 270 104 [(2, 427), (0, a1), (0, I 442 (w a1))] (psh q.1 []) q.2.1 q.2.2))) else (gdR (0 ≤ w a1 ∧ w a1 < 80) (gdR (0 ≤ w a1 ∧ w a1 < 80) (gdR (0 ≤ w a1 ∧ w a1 < 80) ((ev d 218 0 [(2, 427), (2, 438), (0, I 442 (w a1)), (0, I 443 (w a1)), (0, I 444 (w a1)), (0, I 445 (w a1)), uU, uU] [] S I).bind (fun q => ev (d + 1) 270 132 [(2, 427), (0, a1), (0, I 442 (w a1))] (psh q.1 []) q.2.1 q.2.2))))))))))) := by
  refine (sx_aload_n D270_0 rfl).trans ?_
  refine (sx_gfR (q := (9, 28, 0, 1396)) (b := 442) D270_1 (by decide +kernel) (by decide +kernel) (by decide) (MA_o h0) (MA_g28 h0)).trans ?_
  refine (sx_iload_n D270_4 rfl).trans ?_
  refine (sx_ia D270_5 (MA_k28 h0) rfl).trans (gdR_to fun g1 => ?_)
  refine (sx_istore_n (al' := [(2, 427), (0, a1), (0, I 442 (w a1))]) D270_6 (Nat.le_of_ble_eq_true rfl) rfl rfl).trans ?_
  refine (sx_aload_n D270_7 rfl).trans ?_
  refine (sx_gfR (q := (9, 27, 0, 1395)) (b := 441) D270_8 (by decide +kernel) (by decide +kernel) (by decide) (MA_o h0) (MA_g27 h0)).trans ?_
  refine (sx_iload_n D270_11 rfl).trans ?_
  refine (sx_ia D270_12 (MA_k27 h0) rfl).trans (gdR_to fun g2 => ?_)
  refine ite_go (c := w (I 441 (w a1)) = 0) (fun x3 => ?_) (fun x3 => ?_)
  · refine (sx_tsw (pc' := 48) D270_13 ((rfl).trans x3) (by decide) rfl (by decide) (by decide)).trans ?_
    refine (sx_aload_n D270_48 rfl).trans ?_
    refine (sx_aload_n D270_49 rfl).trans ?_
    refine (sx_gfR (q := (9, 20, 0, 1388)) (b := 438) D270_50 (by decide +kernel) (by decide +kernel) (by decide) (MA_o h0) (MA_g20 h0)).trans ?_
    refine (sx_iconst D270_53).trans ?_
    exact sx_virt (c := 11) (ag := [(2, 427), (2, 438), (0, 0)]) (r := []) (al' := [(2, 427), (2, 438), (0, 0), uU, uU, uU, uU, uU]) (np := 2) (nl := 8) (q := (1, 262, 1712)) D270_54 (by decide +kernel) (by decide) mP_262 mL_262 mC_262 (Nat.le_of_ble_eq_true rfl) rfl rfl (by simp [cat]) (by decide) (MA_o h0) rfl rfl
  refine ite_go (c := w (I 441 (w a1)) = 1) (fun x4 => ?_) (fun x4 => ?_)
  · refine (sx_tsw (pc' := 58) D270_13 ((rfl).trans x4) (by decide) rfl (by decide) (by decide)).trans ?_
    refine (sx_aload_n D270_58 rfl).trans ?_
    refine (sx_aload_n D270_59 rfl).trans ?_
    refine (sx_gfR (q := (9, 20, 0, 1388)) (b := 438) D270_60 (by decide +kernel) (by decide +kernel) (by decide) (MA_o h0) (MA_g20 h0)).trans ?_
    refine (sx_iload_n D270_63 rfl).trans ?_
    exact sx_virt (c := 11) (ag := [(2, 427), (2, 438), (0, I 442 (w a1))]) (r := []) (al' := [(2, 427), (2, 438), (0, I 442 (w a1)), uU, uU, uU]) (np := 2) (nl := 6) (q := (1, 234, 1605)) D270_64 (by decide +kernel) (by decide) mP_234 mL_234 mC_234 (Nat.le_of_ble_eq_true rfl) rfl rfl (by simp [cat]) (by decide) (MA_o h0) rfl rfl
  refine ite_go (c := w (I 441 (w a1)) = 2) (fun x5 => ?_) (fun x5 => ?_)
  · refine (sx_tsw (pc' := 68) D270_13 ((rfl).trans x5) (by decide) rfl (by decide) (by decide)).trans ?_
    refine (sx_aload_n D270_68 rfl).trans ?_
    refine (sx_aload_n D270_69 rfl).trans ?_
    refine (sx_gfR (q := (9, 20, 0, 1388)) (b := 438) D270_70 (by decide +kernel) (by decide +kernel) (by decide) (MA_o h0) (MA_g20 h0)).trans ?_
    refine (sx_iload_n D270_73 rfl).trans ?_
    exact sx_virt (c := 11) (ag := [(2, 427), (2, 438), (0, I 442 (w a1))]) (r := []) (al' := [(2, 427), (2, 438), (0, I 442 (w a1)), uU]) (np := 2) (nl := 4) (q := (1, 236, 1614)) D270_74 (by decide +kernel) (by decide) mP_236 mL_236 mC_236 (Nat.le_of_ble_eq_true rfl) rfl rfl (by simp [cat]) (by decide) (MA_o h0) rfl rfl
  refine ite_go (c := w (I 441 (w a1)) = 3) (fun x6 => ?_) (fun x6 => ?_)
  · refine (sx_tsw (pc' := 79) D270_13 ((rfl).trans x6) (by decide) rfl (by decide) (by decide)).trans ?_
    refine (sx_aload_n D270_79 rfl).trans ?_
    refine (sx_aload_n D270_80 rfl).trans ?_
    refine (sx_gfR (q := (9, 20, 0, 1388)) (b := 438) D270_81 (by decide +kernel) (by decide +kernel) (by decide) (MA_o h0) (MA_g20 h0)).trans ?_
    refine (sx_iload_n D270_84 rfl).trans ?_
    exact sx_virt (c := 11) (ag := [(2, 427), (2, 438), (0, I 442 (w a1))]) (r := []) (al' := [(2, 427), (2, 438), (0, I 442 (w a1)), uU]) (np := 2) (nl := 4) (q := (1, 257, 1691)) D270_85 (by decide +kernel) (by decide) mP_257 mL_257 mC_257 (Nat.le_of_ble_eq_true rfl) rfl rfl (by simp [cat]) (by decide) (MA_o h0) rfl rfl
  refine ite_go (c := w (I 441 (w a1)) = 4) (fun x7 => ?_) (fun x7 => ?_)
  · refine (sx_tsw (pc' := 89) D270_13 ((rfl).trans x7) (by decide) rfl (by decide) (by decide)).trans ?_
    refine (sx_aload_n D270_89 rfl).trans ?_
    refine (sx_aload_n D270_90 rfl).trans ?_
    refine (sx_gfR (q := (9, 20, 0, 1388)) (b := 438) D270_91 (by decide +kernel) (by decide +kernel) (by decide) (MA_o h0) (MA_g20 h0)).trans ?_
    refine (sx_iload_n D270_94 rfl).trans ?_
    refine (sx_aload_n D270_95 rfl).trans ?_
    refine (sx_gfR (q := (9, 29, 0, 1397)) (b := 443) D270_96 (by decide +kernel) (by decide +kernel) (by decide) (MA_o h0) (MA_g29 h0)).trans ?_
    refine (sx_iload_n D270_99 rfl).trans ?_
    refine (sx_ia D270_100 (MA_k29 h0) rfl).trans (gdR_to fun g8 => ?_)
    exact sx_virt (c := 11) (ag := [(2, 427), (2, 438), (0, I 442 (w a1)), (0, I 443 (w a1))]) (r := []) (al' := [(2, 427), (2, 438), (0, I 442 (w a1)), (0, I 443 (w a1)), uU, uU]) (np := 3) (nl := 6) (q := (1, 259, 1699)) D270_101 (by decide +kernel) (by decide) mP_259 mL_259 mC_259 (Nat.le_of_ble_eq_true rfl) rfl rfl (by simp [cat]) (by decide) (MA_o h0) rfl rfl
  refine (sx_tsd (pc' := 105) D270_13 (show w (I 441 (w a1)) < 0 ∨ 4 < w (I 441 (w a1)) by rw [show w (I 441 (w a1)) = w (I 441 (w a1)) from rfl]; omega) (by decide) (by decide)).trans ?_
  refine (sx_aload_n D270_105 rfl).trans ?_
  refine (sx_aload_n D270_106 rfl).trans ?_
  refine (sx_gfR (q := (9, 20, 0, 1388)) (b := 438) D270_107 (by decide +kernel) (by decide +kernel) (by decide) (MA_o h0) (MA_g20 h0)).trans ?_
  refine (sx_iload_n D270_110 rfl).trans ?_
  refine (sx_aload_n D270_111 rfl).trans ?_
  refine (sx_gfR (q := (9, 29, 0, 1397)) (b := 443) D270_112 (by decide +kernel) (by decide +kernel) (by decide) (MA_o h0) (MA_g29 h0)).trans ?_
  refine (sx_iload_n D270_115 rfl).trans ?_
  refine (sx_ia D270_116 (MA_k29 h0) rfl).trans (gdR_to fun g9 => ?_)
  refine (sx_aload_n D270_117 rfl).trans ?_
  refine (sx_gfR (q := (9, 30, 0, 1398)) (b := 444) D270_118 (by decide +kernel) (by decide +kernel) (by decide) (MA_o h0) (MA_g30 h0)).trans ?_
  refine (sx_iload_n D270_121 rfl).trans ?_
  refine (sx_ia D270_122 (MA_k30 h0) rfl).trans (gdR_to fun g10 => ?_)
  refine (sx_aload_n D270_123 rfl).trans ?_
  refine (sx_gfR (q := (9, 31, 0, 1399)) (b := 445) D270_124 (by decide +kernel) (by decide +kernel) (by decide) (MA_o h0) (MA_g31 h0)).trans ?_
  refine (sx_iload_n D270_127 rfl).trans ?_
  refine (sx_ia D270_128 (MA_k31 h0) rfl).trans (gdR_to fun g11 => ?_)
  exact sx_virt (c := 11) (ag := [(2, 427), (2, 438), (0, I 442 (w a1)), (0, I 443 (w a1)), (0, I 444 (w a1)), (0, I 445 (w a1))]) (r := []) (al' := [(2, 427), (2, 438), (0, I 442 (w a1)), (0, I 443 (w a1)), (0, I 444 (w a1)), (0, I 445 (w a1)), uU, uU]) (np := 5) (nl := 8) (q := (1, 218, 1550)) D270_129 (by decide +kernel) (by decide) mP_218 mL_218 mC_218 (Nat.le_of_ble_eq_true rfl) rfl rfl (by simp [cat]) (by decide) (MA_o h0) rfl rfl
theorem E270_57 {d : Nat} {a1 a2 s0 : Int} {S : SS} {I : II}  : ev d 270 57 [(2, 427), (0, a1), (0, a2)] [(0, s0)] S I = some ((0, s0), S, I) := by
  exact sx_ireturn D270_57 (by decide +kernel)
theorem E270_67 {d : Nat} {a1 a2 s0 : Int} {S : SS} {I : II}  : ev d 270 67 [(2, 427), (0, a1), (0, a2)] [(0, s0)] S I = some ((0, s0), S, I) := by
  exact sx_ireturn D270_67 (by decide +kernel)
theorem E270_77 {d : Nat} {a1 a2 : Int} {S : SS} {I : II}  : ev d 270 77 [(2, 427), (0, a1), (0, a2)] [] S I = some ((0, 0), S, I) := by
  refine (sx_iconst D270_77).trans ?_
  exact sx_ireturn D270_78 (by decide +kernel)
theorem E270_88 {d : Nat} {a1 a2 s0 : Int} {S : SS} {I : II}  : ev d 270 88 [(2, 427), (0, a1), (0, a2)] [(0, s0)] S I = some ((0, s0), S, I) := by
  exact sx_ireturn D270_88 (by decide +kernel)
theorem E270_104 {d : Nat} {a1 a2 s0 : Int} {S : SS} {I : II}  : ev d 270 104 [(2, 427), (0, a1), (0, a2)] [(0, s0)] S I = some ((0, s0), S, I) := by
  exact sx_ireturn D270_104 (by decide +kernel)
theorem E270_132 {d : Nat} {a1 a2 s0 : Int} {S : SS} {I : II}  : ev d 270 132 [(2, 427), (0, a1), (0, a2)] [(0, s0)] S I = some ((0, s0), S, I) := by
  exact sx_ireturn D270_132 (by decide +kernel)
theorem E271_0 {d : Nat} {a1 : Int} {S : SS} {I : II} (h0 : MA S 427) : ev (d + 1) 271 0 [(2, 427), (0, a1), uU] [] S I = (ev d 210 0 [(2, 427), (0, a1)] [] S (up2 I 427 0 0)).bind (fun q => ev (d + 1) 271 10 [(2, 427), (0, a1), uU] (psh q.1 []) q.2.1 q.2.2) := by
  refine (sx_aload_n D271_0 rfl).trans ?_
  refine (sx_iconst D271_1).trans ?_
  refine (sx_pfI (q := (9, 0, 0, 1368)) (j := 0) D271_2 (by decide +kernel) (by decide) (by decide) (MA_o h0) rfl).trans ?_
  refine (sx_aload_n D271_5 rfl).trans ?_
  refine (sx_iload_n D271_6 rfl).trans ?_
  exact sx_virt (c := 11) (ag := [(2, 427), (0, a1)]) (r := []) (al' := [(2, 427), (0, a1)]) (np := 1) (nl := 2) (q := (1, 210, 1517)) D271_7 (by decide +kernel) (by decide) mP_210 mL_210 mC_210 (Nat.le_of_ble_eq_true rfl) rfl rfl (by simp [cat]) (by decide) (MA_o h0) rfl rfl
theorem E271_10 {d : Nat} {a1 s0 : Int} {S : SS} {I : II} (h0 : MA S 427) : ev (d + 1) 271 10 [(2, 427), (0, a1), uU] [(0, s0)] S I = if w s0 = 0 then (some ((0, (-1)), S, I)) else ((ev d 212 0 [(2, 438), (0, a1), (0, 3)] [] S (up2 I 427 1 0)).bind (fun q => ev (d + 1) 271 29 [(2, 427), (0, a1), uU] (psh q.1 []) q.2.1 q.2.2)) := by
  refine sx_i0_ne (pc' := 15) D271_10 (by decide) (by decide) ?_ ?_ rfl
  · refine (sx_iconst D271_13).trans ?_
    exact sx_ireturn D271_14 (by decide +kernel)
  · refine (sx_aload_n D271_15 rfl).trans ?_
    refine (sx_iconst D271_16).trans ?_
    refine (sx_pfI (q := (9, 1, 0, 1369)) (j := 1) D271_17 (by decide +kernel) (by decide) (by decide) (MA_o h0) rfl).trans ?_
    refine (sx_aload_n D271_20 rfl).trans ?_
    refine (sx_gfR (q := (9, 20, 0, 1388)) (b := 438) D271_21 (by decide +kernel) (by decide +kernel) (by decide) (MA_o h0) (MA_g20 h0)).trans ?_
    refine (sx_iload_n D271_24 rfl).trans ?_
    refine (sx_iconst D271_25).trans ?_
    exact sx_stat (ag := [(2, 438), (0, a1), (0, 3)]) (r := []) (al' := [(2, 438), (0, a1), (0, 3)]) (np := 3) (nl := 3) (q := (0, 212, 1526)) D271_26 (by decide +kernel) (by decide) mP_212 mL_212 (Nat.le_of_ble_eq_true rfl) rfl rfl (by simp [cat]) rfl rfl
theorem E271_29 {d : Nat} {a1 s0 : Int} {S : SS} {I : II}  : ev d 271 29 [(2, 427), (0, a1), uU] [(0, s0)] S I = ev d 271 30 [(2, 427), (0, a1), (0, s0)] [] S I := by
  refine (sx_istore_n (al' := [(2, 427), (0, a1), (0, s0)]) D271_29 (Nat.le_of_ble_eq_true rfl) rfl rfl).trans ?_
  exact rfl
theorem E271_30 {d : Nat} {a1 a2 : Int} {S : SS} {I : II} (h0 : MA S 427) : ev (d + 1) 271 30 [(2, 427), (0, a1), (0, a2)] [] S I = (ev d 212 0 [(2, 438), (0, a1), (0, 0)] [] S I).bind (fun q => ev (d + 1) 271 40 [(2, 427), (0, a1), (0, a2)] (psh q.1 [(0, a2)]) q.2.1 q.2.2) := by
  refine (sx_iload_n D271_30 rfl).trans ?_
  refine (sx_aload_n D271_31 rfl).trans ?_
  refine (sx_gfR (q := (9, 20, 0, 1388)) (b := 438) D271_32 (by decide +kernel) (by decide +kernel) (by decide) (MA_o h0) (MA_g20 h0)).trans ?_
  refine (sx_iload_n D271_35 rfl).trans ?_
  refine (sx_iconst D271_36).trans ?_
  exact sx_stat (ag := [(2, 438), (0, a1), (0, 0)]) (r := [(0, a2)]) (al' := [(2, 438), (0, a1), (0, 0)]) (np := 3) (nl := 3) (q := (0, 212, 1526)) D271_37 (by decide +kernel) (by decide) mP_212 mL_212 (Nat.le_of_ble_eq_true rfl) rfl rfl (by simp [cat]) rfl rfl
theorem E271_40 {d : Nat} {a1 a2 s0 s1 : Int} {S : SS} {I : II} (h0 : MA S 427) : ev (d + 1) 271 40 [(2, 427), (0, a1), (0, a2)] [(0, s1), (0, s0)] S I = if w s0 < w s1 then ((ev d 222 0 [(0, a1), (0, a2)] [] S I).bind (fun q => ev (d + 1) 271 55 [(2, 427), (0, a1), (0, a2)] (psh q.1 [(2, 438), (0, 10), (2, 427)]) q.2.1 q.2.2)) else (some ((0, I 427 1), S, I)) := by
  refine sx_if_ge (pc' := 82) D271_40 (by decide) (by decide) ?_ ?_ rfl rfl
  · refine (sx_aload_n D271_43 rfl).trans ?_
    refine (sx_bipush D271_44 (by decide)).trans ?_
    refine (sx_aload_n D271_46 rfl).trans ?_
    refine (sx_gfR (q := (9, 20, 0, 1388)) (b := 438) D271_47 (by decide +kernel) (by decide +kernel) (by decide) (MA_o h0) (MA_g20 h0)).trans ?_
    refine (sx_iload_n D271_50 rfl).trans ?_
    refine (sx_iload_n D271_51 rfl).trans ?_
    exact sx_stat (ag := [(0, a1), (0, a2)]) (r := [(2, 438), (0, 10), (2, 427)]) (al' := [(0, a1), (0, a2)]) (np := 2) (nl := 2) (q := (0, 222, 1566)) D271_52 (by decide +kernel) (by decide) mP_222 mL_222 (Nat.le_of_ble_eq_true rfl) rfl rfl (by simp [cat]) rfl rfl
  · refine (sx_aload_n D271_82 rfl).trans ?_
    refine (sx_gfI (q := (9, 1, 0, 1369)) (j := 1) D271_83 (by decide +kernel) (by decide +kernel) (by decide) (MA_o h0) rfl rfl).trans ?_
    exact sx_ireturn D271_86 (by decide +kernel)
theorem E271_55 {d : Nat} {a1 a2 s1 s2 s3 ln0 : Int} {S : SS} {I : II} (h0 : KA S s2 20 ln0) (h1 : MA S 427) : ev (d + 1) 271 55 [(2, 427), (0, a1), (0, a2)] [(0, s3), (2, s2), (0, s1), (2, 427)] S I = gdR (0 ≤ w (s3 + 0) ∧ w (s3 + 0) < ln0) ((ev d 222 0 [(0, a1), (0, a2)] [] S I).bind (fun q => ev (d + 1) 271 68 [(2, 427), (0, a1), (0, a2)] (psh q.1 [(2, 438), (0, s1 * (I s2 (w (s3 + 0)))), (2, 427)]) q.2.1 q.2.2)) := by
  refine (sx_iconst D271_55).trans ?_
  refine (sx_iadd D271_56).trans ?_
  refine (sx_ia D271_57 h0 rfl).trans (gdR_to fun g1 => ?_)
  refine (sx_imul D271_58).trans ?_
  refine (sx_aload_n D271_59 rfl).trans ?_
  refine (sx_gfR (q := (9, 20, 0, 1388)) (b := 438) D271_60 (by decide +kernel) (by decide +kernel) (by decide) (MA_o h1) (MA_g20 h1)).trans ?_
  refine (sx_iload_n D271_63 rfl).trans ?_
  refine (sx_iload_n D271_64 rfl).trans ?_
  exact sx_stat (ag := [(0, a1), (0, a2)]) (r := [(2, 438), (0, s1 * (I s2 (w (s3 + 0)))), (2, 427)]) (al' := [(0, a1), (0, a2)]) (np := 2) (nl := 2) (q := (0, 222, 1566)) D271_65 (by decide +kernel) (by decide) mP_222 mL_222 (Nat.le_of_ble_eq_true rfl) rfl rfl (by simp [cat]) rfl rfl
theorem E271_68 {d : Nat} {a1 a2 s1 s2 s3 ln0 : Int} {S : SS} {I : II} (h0 : KA S s2 20 ln0) (h1 : MA S 427) : ev (d + 1) 271 68 [(2, 427), (0, a1), (0, a2)] [(0, s3), (2, s2), (0, s1), (2, 427)] S I = gdR (0 ≤ w (s3 + 1) ∧ w (s3 + 1) < ln0) ((ev d 255 0 [(2, 427), (1, w (s1 + (I s2 (w (s3 + 1))))), uU] [] S I).bind (fun q => ev (d + 1) 271 76 [(2, 427), (0, a1), (0, a2)] (psh q.1 []) q.2.1 q.2.2)) := by
  refine (sx_iconst D271_68).trans ?_
  refine (sx_iadd D271_69).trans ?_
  refine (sx_ia D271_70 h0 rfl).trans (gdR_to fun g1 => ?_)
  refine (sx_iadd D271_71).trans ?_
  refine (sx_i2l D271_72).trans ?_
  exact sx_virt (c := 11) (ag := [(2, 427), (1, w (s1 + (I s2 (w (s3 + 1)))))]) (r := []) (al' := [(2, 427), (1, w (s1 + (I s2 (w (s3 + 1))))), uU]) (np := 1) (nl := 3) (q := (1, 255, 1683)) D271_73 (by decide +kernel) (by decide) mP_255 mL_255 mC_255 (Nat.le_of_ble_eq_true rfl) rfl rfl (by simp [cat]) (by decide) (MA_o h1) rfl rfl
theorem E271_76 {d : Nat} {a1 a2 : Int} {S : SS} {I : II}  : ev d 271 76 [(2, 427), (0, a1), (0, a2)] [] S I = ev d 271 30 [(2, 427), (0, a1), (0, a2 + 1)] [] S I := by
  refine (sx_iinc (al' := [(2, 427), (0, a1), (0, a2 + 1)]) D271_76 rfl rfl).trans ?_
  refine (sx_goto (pc' := 30) D271_79 (by decide) (by decide)).trans ?_
  exact rfl
theorem E272_0 {d : Nat} {S : SS} {I : II} (h0 : MA S 427) : ev d 272 0 [(2, 427), uU, uU] [] S I = ev d 272 12 [(2, 427), (0, 0), uU] [] S (up2 (up2 I 427 0 0) 427 1 0) := by
  refine (sx_aload_n D272_0 rfl).trans ?_
  refine (sx_iconst D272_1).trans ?_
  refine (sx_pfI (q := (9, 0, 0, 1368)) (j := 0) D272_2 (by decide +kernel) (by decide) (by decide) (MA_o h0) rfl).trans ?_
  refine (sx_aload_n D272_5 rfl).trans ?_
  refine (sx_iconst D272_6).trans ?_
  refine (sx_pfI (q := (9, 1, 0, 1369)) (j := 1) D272_7 (by decide +kernel) (by decide) (by decide) (MA_o h0) rfl).trans ?_
  refine (sx_iconst D272_10).trans ?_
  refine (sx_istore_n (al' := [(2, 427), (0, 0), uU]) D272_11 (Nat.le_of_ble_eq_true rfl) rfl rfl).trans ?_
  exact rfl
theorem E272_12 {d : Nat} {a1 : Int} {a2 : AV} {S : SS} {I : II} (h0 : MA S 427) : ev (d + 1) 272 12 [(2, 427), (0, a1), a2] [] S I = if w a1 < w (I 438 493) then ((ev d 224 0 [(0, a1)] [] S I).bind (fun q => ev (d + 1) 272 28 [(2, 427), (0, a1), a2] (psh q.1 []) q.2.1 q.2.2)) else (some ((0, I 427 1), S, I)) := by
  refine (sx_iload_n D272_12 rfl).trans ?_
  refine (sx_aload_n D272_13 rfl).trans ?_
  refine (sx_gfR (q := (9, 20, 0, 1388)) (b := 438) D272_14 (by decide +kernel) (by decide +kernel) (by decide) (MA_o h0) (MA_g20 h0)).trans ?_
  refine (sx_sipush D272_17 (by decide)).trans ?_
  refine (sx_iaK (j := 493) D272_20 (MA_k20 h0) (w_small (by decide) (by decide)) (by decide) (by decide) rfl).trans ?_
  refine sx_if_ge (pc' := 76) D272_21 (by decide) (by decide) ?_ ?_ rfl rfl
  · refine (sx_iload_n D272_24 rfl).trans ?_
    exact sx_stat (ag := [(0, a1)]) (r := []) (al' := [(0, a1)]) (np := 1) (nl := 1) (q := (0, 224, 1572)) D272_25 (by decide +kernel) (by decide) mP_224 mL_224 (Nat.le_of_ble_eq_true rfl) rfl rfl (by simp [cat]) rfl rfl
  · refine (sx_aload_n D272_76 rfl).trans ?_
    refine (sx_gfI (q := (9, 1, 0, 1369)) (j := 1) D272_77 (by decide +kernel) (by decide +kernel) (by decide) (MA_o h0) rfl rfl).trans ?_
    exact sx_ireturn D272_80 (by decide +kernel)
theorem E272_28 {d : Nat} {a1 s0 : Int} {a2 : AV} {S : SS} {I : II} (h0 : MA S 427) : ev (d + 1) 272 28 [(2, 427), (0, a1), a2] [(0, s0)] S I = gdR (0 ≤ w (s0 + 0) ∧ w (s0 + 0) < 844) (gdR (0 ≤ w ((s0 + 1) + 0) ∧ w ((s0 + 1) + 0) < 844) (gdR (0 ≤ w (s0 + 11) ∧ w (s0 + 11) < 844) ((ev d 255 0 [(2, 427), (1, w (((1000 * (I 438 (w (s0 + 0)))) + (10 * (I 438 (w ((s0 + 1) + 0))))) + (I 438 (w (s0 + 11))))), uU] [] S I).bind (fun q => ev (d + 1) 272 70 [(2, 427), (0, a1), (0, s0)] (psh q.1 []) q.2.1 q.2.2)))) := by
  refine (sx_istore_n (al' := [(2, 427), (0, a1), (0, s0)]) D272_28 (Nat.le_of_ble_eq_true rfl) rfl rfl).trans ?_
  refine (sx_aload_n D272_29 rfl).trans ?_
  refine (sx_sipush D272_30 (by decide)).trans ?_
  refine (sx_aload_n D272_33 rfl).trans ?_
  refine (sx_gfR (q := (9, 20, 0, 1388)) (b := 438) D272_34 (by decide +kernel) (by decide +kernel) (by decide) (MA_o h0) (MA_g20 h0)).trans ?_
  refine (sx_iload_n D272_37 rfl).trans ?_
  refine (sx_iconst D272_38).trans ?_
  refine (sx_iadd D272_39).trans ?_
  refine (sx_ia D272_40 (MA_k20 h0) rfl).trans (gdR_to fun g1 => ?_)
  refine (sx_imul D272_41).trans ?_
  refine (sx_bipush D272_42 (by decide)).trans ?_
  refine (sx_aload_n D272_44 rfl).trans ?_
  refine (sx_gfR (q := (9, 20, 0, 1388)) (b := 438) D272_45 (by decide +kernel) (by decide +kernel) (by decide) (MA_o h0) (MA_g20 h0)).trans ?_
  refine (sx_iload_n D272_48 rfl).trans ?_
  refine (sx_iconst D272_49).trans ?_
  refine (sx_iadd D272_50).trans ?_
  refine (sx_iconst D272_51).trans ?_
  refine (sx_iadd D272_52).trans ?_
  refine (sx_ia D272_53 (MA_k20 h0) rfl).trans (gdR_to fun g2 => ?_)
  refine (sx_imul D272_54).trans ?_
  refine (sx_iadd D272_55).trans ?_
  refine (sx_aload_n D272_56 rfl).trans ?_
  refine (sx_gfR (q := (9, 20, 0, 1388)) (b := 438) D272_57 (by decide +kernel) (by decide +kernel) (by decide) (MA_o h0) (MA_g20 h0)).trans ?_
  refine (sx_iload_n D272_60 rfl).trans ?_
  refine (sx_bipush D272_61 (by decide)).trans ?_
  refine (sx_iadd D272_63).trans ?_
  refine (sx_ia D272_64 (MA_k20 h0) rfl).trans (gdR_to fun g3 => ?_)
  refine (sx_iadd D272_65).trans ?_
  refine (sx_i2l D272_66).trans ?_
  exact sx_virt (c := 11) (ag := [(2, 427), (1, w (((1000 * (I 438 (w (s0 + 0)))) + (10 * (I 438 (w ((s0 + 1) + 0))))) + (I 438 (w (s0 + 11)))))]) (r := []) (al' := [(2, 427), (1, w (((1000 * (I 438 (w (s0 + 0)))) + (10 * (I 438 (w ((s0 + 1) + 0))))) + (I 438 (w (s0 + 11))))), uU]) (np := 1) (nl := 3) (q := (1, 255, 1683)) D272_67 (by decide +kernel) (by decide) mP_255 mL_255 mC_255 (Nat.le_of_ble_eq_true rfl) rfl rfl (by simp [cat]) (by decide) (MA_o h0) rfl rfl
theorem E272_70 {d : Nat} {a1 a2 : Int} {S : SS} {I : II}  : ev d 272 70 [(2, 427), (0, a1), (0, a2)] [] S I = ev d 272 12 [(2, 427), (0, a1 + 1), (0, a2)] [] S I := by
  refine (sx_iinc (al' := [(2, 427), (0, a1 + 1), (0, a2)]) D272_70 rfl rfl).trans ?_
  refine (sx_goto (pc' := 12) D272_73 (by decide) (by decide)).trans ?_
  exact rfl
theorem E273_0 {d : Nat} {S : SS} {I : II} (h0 : MA S 427) : ev d 273 0 [(2, 427), uU, uU] [] S I = ev d 273 12 [(2, 427), (0, 0), uU] [] S (up2 (up2 I 427 0 0) 427 1 0) := by
  refine (sx_aload_n D273_0 rfl).trans ?_
  refine (sx_iconst D273_1).trans ?_
  refine (sx_pfI (q := (9, 0, 0, 1368)) (j := 0) D273_2 (by decide +kernel) (by decide) (by decide) (MA_o h0) rfl).trans ?_
  refine (sx_aload_n D273_5 rfl).trans ?_
  refine (sx_iconst D273_6).trans ?_
  refine (sx_pfI (q := (9, 1, 0, 1369)) (j := 1) D273_7 (by decide +kernel) (by decide) (by decide) (MA_o h0) rfl).trans ?_
  refine (sx_iconst D273_10).trans ?_
  refine (sx_istore_n (al' := [(2, 427), (0, 0), uU]) D273_11 (Nat.le_of_ble_eq_true rfl) rfl rfl).trans ?_
  exact rfl
theorem E273_12 {d : Nat} {a1 : Int} {a2 : AV} {S : SS} {I : II} (h0 : MA S 427) : ev (d + 1) 273 12 [(2, 427), (0, a1), a2] [] S I = if w a1 < w (I 438 814) then (if w a1 < 12 then ((ev d 227 0 [(0, a1)] [] S I).bind (fun q => ev (d + 1) 273 34 [(2, 427), (0, a1), a2] (psh q.1 []) q.2.1 q.2.2)) else (ev (d + 1) 273 79 [(2, 427), (0, a1), a2] [] S I)) else (ev (d + 1) 273 79 [(2, 427), (0, a1), a2] [] S I) := by
  refine (sx_iload_n D273_12 rfl).trans ?_
  refine (sx_aload_n D273_13 rfl).trans ?_
  refine (sx_gfR (q := (9, 20, 0, 1388)) (b := 438) D273_14 (by decide +kernel) (by decide +kernel) (by decide) (MA_o h0) (MA_g20 h0)).trans ?_
  refine (sx_sipush D273_17 (by decide)).trans ?_
  refine (sx_iaK (j := 814) D273_20 (MA_k20 h0) (w_small (by decide) (by decide)) (by decide) (by decide) rfl).trans ?_
  refine sx_if_ge (pc' := 79) D273_21 (by decide) (by decide) ?_ ?_ rfl rfl
  · refine (sx_iload_n D273_24 rfl).trans ?_
    refine (sx_bipush D273_25 (by decide)).trans ?_
    refine sx_if_ge (pc' := 79) D273_27 (by decide) (by decide) ?_ ?_ rfl (w_small (by decide) (by decide))
    · refine (sx_iload_n D273_30 rfl).trans ?_
      exact sx_stat (ag := [(0, a1)]) (r := []) (al' := [(0, a1)]) (np := 1) (nl := 1) (q := (0, 227, 1581)) D273_31 (by decide +kernel) (by decide) mP_227 mL_227 (Nat.le_of_ble_eq_true rfl) rfl rfl (by simp [cat]) rfl rfl
    · exact rfl
  · exact rfl
theorem E273_34 {d : Nat} {a1 s0 : Int} {a2 : AV} {S : SS} {I : II} (h0 : MA S 427) : ev (d + 1) 273 34 [(2, 427), (0, a1), a2] [(0, s0)] S I = gdR (0 ≤ w (s0 + 0) ∧ w (s0 + 0) < 844) (gdR (0 ≤ w (s0 + 1) ∧ w (s0 + 1) < 844) (gdR (0 ≤ w (s0 + 2) ∧ w (s0 + 2) < 844) ((ev d 255 0 [(2, 427), (1, w (((1000 * (I 438 (w (s0 + 0)))) + (10 * (I 438 (w (s0 + 1))))) + (I 438 (w (s0 + 2))))), uU] [] S I).bind (fun q => ev (d + 1) 273 73 [(2, 427), (0, a1), (0, s0)] (psh q.1 []) q.2.1 q.2.2)))) := by
  refine (sx_istore_n (al' := [(2, 427), (0, a1), (0, s0)]) D273_34 (Nat.le_of_ble_eq_true rfl) rfl rfl).trans ?_
  refine (sx_aload_n D273_35 rfl).trans ?_
  refine (sx_sipush D273_36 (by decide)).trans ?_
  refine (sx_aload_n D273_39 rfl).trans ?_
  refine (sx_gfR (q := (9, 20, 0, 1388)) (b := 438) D273_40 (by decide +kernel) (by decide +kernel) (by decide) (MA_o h0) (MA_g20 h0)).trans ?_
  refine (sx_iload_n D273_43 rfl).trans ?_
  refine (sx_iconst D273_44).trans ?_
  refine (sx_iadd D273_45).trans ?_
  refine (sx_ia D273_46 (MA_k20 h0) rfl).trans (gdR_to fun g1 => ?_)
  refine (sx_imul D273_47).trans ?_
  refine (sx_bipush D273_48 (by decide)).trans ?_
  refine (sx_aload_n D273_50 rfl).trans ?_
  refine (sx_gfR (q := (9, 20, 0, 1388)) (b := 438) D273_51 (by decide +kernel) (by decide +kernel) (by decide) (MA_o h0) (MA_g20 h0)).trans ?_
  refine (sx_iload_n D273_54 rfl).trans ?_
  refine (sx_iconst D273_55).trans ?_
  refine (sx_iadd D273_56).trans ?_
  refine (sx_ia D273_57 (MA_k20 h0) rfl).trans (gdR_to fun g2 => ?_)
  refine (sx_imul D273_58).trans ?_
  refine (sx_iadd D273_59).trans ?_
  refine (sx_aload_n D273_60 rfl).trans ?_
  refine (sx_gfR (q := (9, 20, 0, 1388)) (b := 438) D273_61 (by decide +kernel) (by decide +kernel) (by decide) (MA_o h0) (MA_g20 h0)).trans ?_
  refine (sx_iload_n D273_64 rfl).trans ?_
  refine (sx_iconst D273_65).trans ?_
  refine (sx_iadd D273_66).trans ?_
  refine (sx_ia D273_67 (MA_k20 h0) rfl).trans (gdR_to fun g3 => ?_)
  refine (sx_iadd D273_68).trans ?_
  refine (sx_i2l D273_69).trans ?_
  exact sx_virt (c := 11) (ag := [(2, 427), (1, w (((1000 * (I 438 (w (s0 + 0)))) + (10 * (I 438 (w (s0 + 1))))) + (I 438 (w (s0 + 2)))))]) (r := []) (al' := [(2, 427), (1, w (((1000 * (I 438 (w (s0 + 0)))) + (10 * (I 438 (w (s0 + 1))))) + (I 438 (w (s0 + 2))))), uU]) (np := 1) (nl := 3) (q := (1, 255, 1683)) D273_70 (by decide +kernel) (by decide) mP_255 mL_255 mC_255 (Nat.le_of_ble_eq_true rfl) rfl rfl (by simp [cat]) (by decide) (MA_o h0) rfl rfl
theorem E273_73 {d : Nat} {a1 a2 : Int} {S : SS} {I : II}  : ev d 273 73 [(2, 427), (0, a1), (0, a2)] [] S I = ev d 273 12 [(2, 427), (0, a1 + 1), (0, a2)] [] S I := by
  refine (sx_iinc (al' := [(2, 427), (0, a1 + 1), (0, a2)]) D273_73 rfl rfl).trans ?_
  refine (sx_goto (pc' := 12) D273_76 (by decide) (by decide)).trans ?_
  exact rfl
theorem E273_79 {d : Nat} {a1 : Int} {a2 : AV} {S : SS} {I : II} (h0 : MA S 427) : ev d 273 79 [(2, 427), (0, a1), a2] [] S I = some ((0, I 438 814), S, I) := by
  refine (sx_aload_n D273_79 rfl).trans ?_
  refine (sx_gfR (q := (9, 20, 0, 1388)) (b := 438) D273_80 (by decide +kernel) (by decide +kernel) (by decide) (MA_o h0) (MA_g20 h0)).trans ?_
  refine (sx_sipush D273_83 (by decide)).trans ?_
  refine (sx_iaK (j := 814) D273_86 (MA_k20 h0) (w_small (by decide) (by decide)) (by decide) (by decide) rfl).trans ?_
  exact sx_ireturn D273_87 (by decide +kernel)
theorem E274_0 {d : Nat} {a1 : Int} {S : SS} {I : II} (h0 : MA S 427) : ev (d + 1) 274 0 [(2, 427), (0, a1), uU, uU, uU] [] S I = (ev d 210 0 [(2, 427), (0, a1)] [] S (up2 I 427 0 0)).bind (fun q => ev (d + 1) 274 10 [(2, 427), (0, a1), uU, uU, uU] (psh q.1 []) q.2.1 q.2.2) := by
  refine (sx_aload_n D274_0 rfl).trans ?_
  refine (sx_iconst D274_1).trans ?_
  refine (sx_pfI (q := (9, 0, 0, 1368)) (j := 0) D274_2 (by decide +kernel) (by decide) (by decide) (MA_o h0) rfl).trans ?_
  refine (sx_aload_n D274_5 rfl).trans ?_
  refine (sx_iload_n D274_6 rfl).trans ?_
  exact sx_virt (c := 11) (ag := [(2, 427), (0, a1)]) (r := []) (al' := [(2, 427), (0, a1)]) (np := 1) (nl := 2) (q := (1, 210, 1517)) D274_7 (by decide +kernel) (by decide) mP_210 mL_210 mC_210 (Nat.le_of_ble_eq_true rfl) rfl rfl (by simp [cat]) (by decide) (MA_o h0) rfl rfl
theorem E274_10 {d : Nat} {a1 s0 : Int} {S : SS} {I : II}  : ev d 274 10 [(2, 427), (0, a1), uU, uU, uU] [(0, s0)] S I = if w s0 = 0 then (some ((0, (-1)), S, I)) else (ev d 274 19 [(2, 427), (0, a1), (0, 0), (0, 0), uU] [] S I) := by
  refine sx_i0_ne (pc' := 15) D274_10 (by decide) (by decide) ?_ ?_ rfl
  · refine (sx_iconst D274_13).trans ?_
    exact sx_ireturn D274_14 (by decide +kernel)
  · refine (sx_iconst D274_15).trans ?_
    refine (sx_istore_n (al' := [(2, 427), (0, a1), (0, 0), uU, uU]) D274_16 (Nat.le_of_ble_eq_true rfl) rfl rfl).trans ?_
    refine (sx_iconst D274_17).trans ?_
    refine (sx_istore_n (al' := [(2, 427), (0, a1), (0, 0), (0, 0), uU]) D274_18 (Nat.le_of_ble_eq_true rfl) rfl rfl).trans ?_
    exact rfl
theorem E274_19 {d : Nat} {a1 a2 a3 : Int} {a4 : AV} {S : SS} {I : II} (h0 : MA S 427) : ev (d + 1) 274 19 [(2, 427), (0, a1), (0, a2), (0, a3), a4] [] S I = gdR (0 ≤ w a1 ∧ w a1 < 5) (if w a3 < w (I 435 (w a1)) then ((ev d 212 0 [(2, 438), (0, a1), (0, 5)] [] S I).bind (fun q => ev (d + 1) 274 38 [(2, 427), (0, a1), (0, a2), (0, a3), a4] (psh q.1 []) q.2.1 q.2.2)) else ((ev d 212 0 [(2, 438), (0, a1), (0, 6)] [] S (up2 I 427 1 0)).bind (fun q => ev (d + 1) 274 114 [(2, 427), (0, a1), (0, a2), (0, a3), a4] (psh q.1 [(2, 427)]) q.2.1 q.2.2))) := by
  refine (sx_iload_n D274_19 rfl).trans ?_
  refine (sx_aload_n D274_20 rfl).trans ?_
  refine (sx_gfR (q := (9, 17, 0, 1385)) (b := 435) D274_21 (by decide +kernel) (by decide +kernel) (by decide) (MA_o h0) (MA_g17 h0)).trans ?_
  refine (sx_iload_n D274_24 rfl).trans ?_
  refine (sx_ia D274_25 (MA_k17 h0) rfl).trans (gdR_to fun g1 => ?_)
  refine sx_if_ge (pc' := 98) D274_26 (by decide) (by decide) ?_ ?_ rfl rfl
  · refine (sx_aload_n D274_29 rfl).trans ?_
    refine (sx_gfR (q := (9, 20, 0, 1388)) (b := 438) D274_30 (by decide +kernel) (by decide +kernel) (by decide) (MA_o h0) (MA_g20 h0)).trans ?_
    refine (sx_iload_n D274_33 rfl).trans ?_
    refine (sx_iconst D274_34).trans ?_
    exact sx_stat (ag := [(2, 438), (0, a1), (0, 5)]) (r := []) (al' := [(2, 438), (0, a1), (0, 5)]) (np := 3) (nl := 3) (q := (0, 212, 1526)) D274_35 (by decide +kernel) (by decide) mP_212 mL_212 (Nat.le_of_ble_eq_true rfl) rfl rfl (by simp [cat]) rfl rfl
  · refine (sx_aload_n D274_98 rfl).trans ?_
    refine (sx_iconst D274_99).trans ?_
    refine (sx_pfI (q := (9, 1, 0, 1369)) (j := 1) D274_100 (by decide +kernel) (by decide) (by decide) (MA_o h0) rfl).trans ?_
    refine (sx_aload_n D274_103 rfl).trans ?_
    refine (sx_aload_n D274_104 rfl).trans ?_
    refine (sx_gfR (q := (9, 20, 0, 1388)) (b := 438) D274_105 (by decide +kernel) (by decide +kernel) (by decide) (MA_o h0) (MA_g20 h0)).trans ?_
    refine (sx_iload_n D274_108 rfl).trans ?_
    refine (sx_bipush D274_109 (by decide)).trans ?_
    exact sx_stat (ag := [(2, 438), (0, a1), (0, 6)]) (r := [(2, 427)]) (al' := [(2, 438), (0, a1), (0, 6)]) (np := 3) (nl := 3) (q := (0, 212, 1526)) D274_111 (by decide +kernel) (by decide) mP_212 mL_212 (Nat.le_of_ble_eq_true rfl) rfl rfl (by simp [cat]) rfl rfl
theorem E274_38 {d : Nat} {a1 a2 a3 s0 : Int} {a4 : AV} {S : SS} {I : II}  : ev d 274 38 [(2, 427), (0, a1), (0, a2), (0, a3), a4] [(0, s0)] S I = ev d 274 42 [(2, 427), (0, a1), (0, a2), (0, a3), (0, s0 - 1)] [] S I := by
  refine (sx_iconst D274_38).trans ?_
  refine (sx_isub D274_39).trans ?_
  refine (sx_istore (al' := [(2, 427), (0, a1), (0, a2), (0, a3), (0, s0 - 1)]) D274_40 (Nat.le_of_ble_eq_true rfl) rfl rfl).trans ?_
  exact rfl
theorem E274_42 {d : Nat} {a1 a2 a3 a4 : Int} {S : SS} {I : II} (h0 : MA S 427) : ev d 274 42 [(2, 427), (0, a1), (0, a2), (0, a3), (0, a4)] [] S I = if w a4 < 0 then (ev d 274 66 [(2, 427), (0, a1), (0, a2), (0, a3), (0, a4)] [] S I) else (gdR (0 ≤ w a1 ∧ w a1 < 5) (gdR (w (I 435 (w a1)) ≠ 0) (if iRem a4 (I 435 (w a1)) = w a3 then (ev d 274 66 [(2, 427), (0, a1), (0, a2), (0, a3), (0, a4)] [] S I) else (ev d 274 42 [(2, 427), (0, a1), (0, a2), (0, a3), (0, a4 + (-1))] [] S I)))) := by
  refine (sx_iload D274_42 rfl).trans ?_
  refine sx_i0_lt (pc' := 66) D274_44 (by decide) (by decide) ?_ ?_ rfl
  · exact rfl
  · refine (sx_iload D274_47 rfl).trans ?_
    refine (sx_aload_n D274_49 rfl).trans ?_
    refine (sx_gfR (q := (9, 17, 0, 1385)) (b := 435) D274_50 (by decide +kernel) (by decide +kernel) (by decide) (MA_o h0) (MA_g17 h0)).trans ?_
    refine (sx_iload_n D274_53 rfl).trans ?_
    refine (sx_ia D274_54 (MA_k17 h0) rfl).trans (gdR_to fun g1 => ?_)
    refine (sx_irem D274_55).trans (gdR_to fun g2 => ?_)
    refine (sx_iload_n D274_56 rfl).trans ?_
    refine sx_if_eq (pc' := 66) D274_57 (by decide) (by decide) ?_ ?_ (w_toInt _) rfl
    · exact rfl
    · refine (sx_iinc (al' := [(2, 427), (0, a1), (0, a2), (0, a3), (0, a4 + (-1))]) D274_60 rfl rfl).trans ?_
      refine (sx_goto (pc' := 42) D274_63 (by decide) (by decide)).trans ?_
      exact rfl
theorem E274_66 {d : Nat} {a1 a2 a3 a4 : Int} {S : SS} {I : II} (h0 : MA S 427) : ev (d + 1) 274 66 [(2, 427), (0, a1), (0, a2), (0, a3), (0, a4)] [] S I = if w a4 < 0 then (ev (d + 1) 274 89 [(2, 427), (0, a1), (0, a2), (0, a3), (0, a4)] [(0, a2)] S I) else ((ev d 275 0 [(2, 427), (0, a1), (0, a4)] [] S I).bind (fun q => ev (d + 1) 274 79 [(2, 427), (0, a1), (0, a2), (0, a3), (0, a4)] (psh q.1 [(0, a2)]) q.2.1 q.2.2)) := by
  refine (sx_iload_n D274_66 rfl).trans ?_
  refine (sx_iload D274_67 rfl).trans ?_
  refine sx_i0_lt (pc' := 89) D274_69 (by decide) (by decide) ?_ ?_ rfl
  · exact rfl
  · refine (sx_aload_n D274_72 rfl).trans ?_
    refine (sx_iload_n D274_73 rfl).trans ?_
    refine (sx_iload D274_74 rfl).trans ?_
    exact sx_virt (c := 11) (ag := [(2, 427), (0, a1), (0, a4)]) (r := [(0, a2)]) (al' := [(2, 427), (0, a1), (0, a4)]) (np := 2) (nl := 3) (q := (1, 275, 1763)) D274_76 (by decide +kernel) (by decide) mP_275 mL_275 mC_275 (Nat.le_of_ble_eq_true rfl) rfl rfl (by simp [cat]) (by decide) (MA_o h0) rfl rfl
theorem E274_79 {d : Nat} {a1 a2 a3 a4 s0 s1 : Int} {S : SS} {I : II}  : ev d 274 79 [(2, 427), (0, a1), (0, a2), (0, a3), (0, a4)] [(0, s1), (0, s0)] S I = if w s1 = 1 then (ev d 274 90 [(2, 427), (0, a1), (0, a2), (0, a3), (0, a4)] [(0, iShl 1 a3), (0, s0)] S I) else (ev d 274 89 [(2, 427), (0, a1), (0, a2), (0, a3), (0, a4)] [(0, s0)] S I) := by
  refine (sx_iconst D274_79).trans ?_
  refine sx_if_ne (pc' := 89) D274_80 (by decide) (by decide) ?_ ?_ rfl (w_small (by decide) (by decide))
  · refine (sx_iconst D274_83).trans ?_
    refine (sx_iload_n D274_84 rfl).trans ?_
    refine (sx_ishl D274_85).trans ?_
    refine (sx_goto (pc' := 90) D274_86 (by decide) (by decide)).trans ?_
    exact rfl
  · exact rfl
theorem E274_89 {d : Nat} {a1 a2 a3 a4 s0 : Int} {S : SS} {I : II}  : ev d 274 89 [(2, 427), (0, a1), (0, a2), (0, a3), (0, a4)] [(0, s0)] S I = ev d 274 90 [(2, 427), (0, a1), (0, a2), (0, a3), (0, a4)] [(0, 0), (0, s0)] S I := by
  refine (sx_iconst D274_89).trans ?_
  exact rfl
theorem E274_90 {d : Nat} {a1 a2 a3 a4 s0 s1 : Int} {S : SS} {I : II}  : ev d 274 90 [(2, 427), (0, a1), (0, a2), (0, a3), (0, a4)] [(0, s1), (0, s0)] S I = ev d 274 19 [(2, 427), (0, a1), (0, iOr s0 s1), (0, a3 + 1), (0, a4)] [] S I := by
  refine (sx_ior D274_90).trans ?_
  refine (sx_istore_n (al' := [(2, 427), (0, a1), (0, iOr s0 s1), (0, a3), (0, a4)]) D274_91 (Nat.le_of_ble_eq_true rfl) rfl rfl).trans ?_
  refine (sx_iinc (al' := [(2, 427), (0, a1), (0, iOr s0 s1), (0, a3 + 1), (0, a4)]) D274_92 rfl rfl).trans ?_
  refine (sx_goto (pc' := 19) D274_95 (by decide) (by decide)).trans ?_
  exact rfl
theorem E274_114 {d : Nat} {a1 a2 a3 s1 : Int} {a4 : AV} {S : SS} {I : II} (h0 : MA S 427) : ev (d + 1) 274 114 [(2, 427), (0, a1), (0, a2), (0, a3), a4] [(0, s1), (2, 427)] S I = gdR (0 ≤ w a1 ∧ w a1 < 5) (gdR (w (I 435 (w a1)) ≠ 0) ((ev d 255 0 [(2, 427), (1, w (iRem s1 (I 435 (w a1)))), uU] [] S I).bind (fun q => ev (d + 1) 274 125 [(2, 427), (0, a1), (0, a2), (0, a3), a4] (psh q.1 []) q.2.1 q.2.2))) := by
  refine (sx_aload_n D274_114 rfl).trans ?_
  refine (sx_gfR (q := (9, 17, 0, 1385)) (b := 435) D274_115 (by decide +kernel) (by decide +kernel) (by decide) (MA_o h0) (MA_g17 h0)).trans ?_
  refine (sx_iload_n D274_118 rfl).trans ?_
  refine (sx_ia D274_119 (MA_k17 h0) rfl).trans (gdR_to fun g1 => ?_)
  refine (sx_irem D274_120).trans (gdR_to fun g2 => ?_)
  refine (sx_i2l D274_121).trans ?_
  exact sx_virt (c := 11) (ag := [(2, 427), (1, w (iRem s1 (I 435 (w a1))))]) (r := []) (al' := [(2, 427), (1, w (iRem s1 (I 435 (w a1)))), uU]) (np := 1) (nl := 3) (q := (1, 255, 1683)) D274_122 (by decide +kernel) (by decide) mP_255 mL_255 mC_255 (Nat.le_of_ble_eq_true rfl) rfl rfl (by simp [cat]) (by decide) (MA_o h0) rfl rfl
theorem E274_125 {d : Nat} {a1 a2 a3 : Int} {a4 : AV} {S : SS} {I : II} (h0 : MA S 427) : ev (d + 1) 274 125 [(2, 427), (0, a1), (0, a2), (0, a3), a4] [] S I = (ev d 212 0 [(2, 438), (0, a1), (0, 6)] [] S I).bind (fun q => ev (d + 1) 274 138 [(2, 427), (0, a1), (0, a2), (0, a3), a4] (psh q.1 [(0, a1), (2, 427), (2, 427)]) q.2.1 q.2.2) := by
  refine (sx_aload_n D274_125 rfl).trans ?_
  refine (sx_aload_n D274_126 rfl).trans ?_
  refine (sx_iload_n D274_127 rfl).trans ?_
  refine (sx_aload_n D274_128 rfl).trans ?_
  refine (sx_gfR (q := (9, 20, 0, 1388)) (b := 438) D274_129 (by decide +kernel) (by decide +kernel) (by decide) (MA_o h0) (MA_g20 h0)).trans ?_
  refine (sx_iload_n D274_132 rfl).trans ?_
  refine (sx_bipush D274_133 (by decide)).trans ?_
  exact sx_stat (ag := [(2, 438), (0, a1), (0, 6)]) (r := [(0, a1), (2, 427), (2, 427)]) (al' := [(2, 438), (0, a1), (0, 6)]) (np := 3) (nl := 3) (q := (0, 212, 1526)) D274_135 (by decide +kernel) (by decide) mP_212 mL_212 (Nat.le_of_ble_eq_true rfl) rfl rfl (by simp [cat]) rfl rfl
theorem E274_138 {d : Nat} {a1 a2 a3 s2 s3 : Int} {a4 : AV} {S : SS} {I : II} (h0 : MA S 427) : ev (d + 1) 274 138 [(2, 427), (0, a1), (0, a2), (0, a3), a4] [(0, s3), (0, s2), (2, 427), (2, 427)] S I = (ev d 275 0 [(2, 427), (0, s2), (0, s3)] [] S I).bind (fun q => ev (d + 1) 274 141 [(2, 427), (0, a1), (0, a2), (0, a3), a4] (psh q.1 [(2, 427)]) q.2.1 q.2.2) := by
  exact sx_virt (c := 11) (ag := [(2, 427), (0, s2), (0, s3)]) (r := [(2, 427)]) (al' := [(2, 427), (0, s2), (0, s3)]) (np := 2) (nl := 3) (q := (1, 275, 1763)) D274_138 (by decide +kernel) (by decide) mP_275 mL_275 mC_275 (Nat.le_of_ble_eq_true rfl) rfl rfl (by simp [cat]) (by decide) (MA_o h0) rfl rfl
theorem E274_141 {d : Nat} {a1 a2 a3 s1 : Int} {a4 : AV} {S : SS} {I : II} (h0 : MA S 427) : ev (d + 1) 274 141 [(2, 427), (0, a1), (0, a2), (0, a3), a4] [(0, s1), (2, 427)] S I = (ev d 255 0 [(2, 427), (1, w s1), uU] [] S I).bind (fun q => ev (d + 1) 274 145 [(2, 427), (0, a1), (0, a2), (0, a3), a4] (psh q.1 []) q.2.1 q.2.2) := by
  refine (sx_i2l D274_141).trans ?_
  exact sx_virt (c := 11) (ag := [(2, 427), (1, w s1)]) (r := []) (al' := [(2, 427), (1, w s1), uU]) (np := 1) (nl := 3) (q := (1, 255, 1683)) D274_142 (by decide +kernel) (by decide) mP_255 mL_255 mC_255 (Nat.le_of_ble_eq_true rfl) rfl rfl (by simp [cat]) (by decide) (MA_o h0) rfl rfl
theorem E274_145 {d : Nat} {a1 a2 a3 : Int} {a4 : AV} {S : SS} {I : II}  : ev d 274 145 [(2, 427), (0, a1), (0, a2), (0, a3), a4] [] S I = some ((0, a2), S, I) := by
  refine (sx_iload_n D274_145 rfl).trans ?_
  exact sx_ireturn D274_146 (by decide +kernel)
theorem E275_0 {d : Nat} {a1 a2 : Int} {S : SS} {I : II} (h0 : MA S 427) : ev d 275 0 [(2, 427), (0, a1), (0, a2)] [] S I = gdR (0 ≤ w a1 ∧ w a1 < 5) (gdR (w (I 435 (w a1)) ≠ 0) (if iRem (iDiv a2 (I 435 (w a1))) 2 = 0 then (ev d 275 18 [(2, 427), (0, a1), (0, a2)] [(0, 1)] S I) else (ev d 275 18 [(2, 427), (0, a1), (0, a2)] [(0, 0)] S I))) := by
  refine (sx_iload_n D275_0 rfl).trans ?_
  refine (sx_aload_n D275_1 rfl).trans ?_
  refine (sx_gfR (q := (9, 17, 0, 1385)) (b := 435) D275_2 (by decide +kernel) (by decide +kernel) (by decide) (MA_o h0) (MA_g17 h0)).trans ?_
  refine (sx_iload_n D275_5 rfl).trans ?_
  refine (sx_ia D275_6 (MA_k17 h0) rfl).trans (gdR_to fun g1 => ?_)
  refine (sx_idiv D275_7).trans (gdR_to fun g2 => ?_)
  refine (sx_iconst D275_8).trans ?_
  refine ((sx_irem D275_9).trans (gdR_pos (by decide))).trans ?_
  refine sx_i0_ne (pc' := 17) D275_10 (by decide) (by decide) ?_ ?_ (w_toInt _)
  · refine (sx_iconst D275_13).trans ?_
    refine (sx_goto (pc' := 18) D275_14 (by decide) (by decide)).trans ?_
    exact rfl
  · refine (sx_iconst D275_17).trans ?_
    exact rfl
theorem E275_18 {d : Nat} {a1 a2 s0 : Int} {S : SS} {I : II}  : ev (d + 1) 275 18 [(2, 427), (0, a1), (0, a2)] [(0, s0)] S I = (ev d 199 0 [(0, s0)] [] S I).bind (fun q => ev (d + 1) 275 21 [(2, 427), (0, a1), (0, a2)] (psh q.1 []) q.2.1 q.2.2) := by
  exact sx_stat (ag := [(0, s0)]) (r := []) (al' := [(0, s0)]) (np := 1) (nl := 1) (q := (0, 199, 1328)) D275_18 (by decide +kernel) (by decide) mP_199 mL_199 (Nat.le_of_ble_eq_true rfl) rfl rfl (by simp [cat]) rfl rfl
theorem E275_21 {d : Nat} {a1 a2 s0 : Int} {S : SS} {I : II}  : ev d 275 21 [(2, 427), (0, a1), (0, a2)] [(0, s0)] S I = some ((0, s0), S, I) := by
  exact sx_ireturn D275_21 (by decide +kernel)
theorem E276_0 {d : Nat} {a1 : Int} {S : SS} {I : II} (h0 : MA S 427) : ev (d + 1) 276 0 [(2, 427), (0, a1), uU, uU, uU] [] S I = (ev d 210 0 [(2, 427), (0, a1)] [] S (up2 I 427 0 0)).bind (fun q => ev (d + 1) 276 10 [(2, 427), (0, a1), uU, uU, uU] (psh q.1 []) q.2.1 q.2.2) := by
  refine (sx_aload_n D276_0 rfl).trans ?_
  refine (sx_iconst D276_1).trans ?_
  refine (sx_pfI (q := (9, 0, 0, 1368)) (j := 0) D276_2 (by decide +kernel) (by decide) (by decide) (MA_o h0) rfl).trans ?_
  refine (sx_aload_n D276_5 rfl).trans ?_
  refine (sx_iload_n D276_6 rfl).trans ?_
  exact sx_virt (c := 11) (ag := [(2, 427), (0, a1)]) (r := []) (al' := [(2, 427), (0, a1)]) (np := 1) (nl := 2) (q := (1, 210, 1517)) D276_7 (by decide +kernel) (by decide) mP_210 mL_210 mC_210 (Nat.le_of_ble_eq_true rfl) rfl rfl (by simp [cat]) (by decide) (MA_o h0) rfl rfl
theorem E276_10 {d : Nat} {a1 s0 : Int} {S : SS} {I : II} (h0 : MA S 427) : ev (d + 1) 276 10 [(2, 427), (0, a1), uU, uU, uU] [(0, s0)] S I = if w s0 = 0 then (some ((0, (-1)), S, I)) else (gdR (0 ≤ w a1 ∧ w a1 < 5) ((ev d 212 0 [(2, 438), (0, a1), (0, 0)] [] S I).bind (fun q => ev (d + 1) 276 32 [(2, 427), (0, a1), uU, uU, uU] (psh q.1 [(0, (I 434 (w a1)) - 1)]) q.2.1 q.2.2))) := by
  refine sx_i0_ne (pc' := 15) D276_10 (by decide) (by decide) ?_ ?_ rfl
  · refine (sx_iconst D276_13).trans ?_
    exact sx_ireturn D276_14 (by decide +kernel)
  · refine (sx_aload_n D276_15 rfl).trans ?_
    refine (sx_gfR (q := (9, 16, 0, 1384)) (b := 434) D276_16 (by decide +kernel) (by decide +kernel) (by decide) (MA_o h0) (MA_g16 h0)).trans ?_
    refine (sx_iload_n D276_19 rfl).trans ?_
    refine (sx_ia D276_20 (MA_k16 h0) rfl).trans (gdR_to fun g1 => ?_)
    refine (sx_iconst D276_21).trans ?_
    refine (sx_isub D276_22).trans ?_
    refine (sx_aload_n D276_23 rfl).trans ?_
    refine (sx_gfR (q := (9, 20, 0, 1388)) (b := 438) D276_24 (by decide +kernel) (by decide +kernel) (by decide) (MA_o h0) (MA_g20 h0)).trans ?_
    refine (sx_iload_n D276_27 rfl).trans ?_
    refine (sx_iconst D276_28).trans ?_
    exact sx_stat (ag := [(2, 438), (0, a1), (0, 0)]) (r := [(0, (I 434 (w a1)) - 1)]) (al' := [(2, 438), (0, a1), (0, 0)]) (np := 3) (nl := 3) (q := (0, 212, 1526)) D276_29 (by decide +kernel) (by decide) mP_212 mL_212 (Nat.le_of_ble_eq_true rfl) rfl rfl (by simp [cat]) rfl rfl
theorem E276_32 {d : Nat} {a1 s0 s1 : Int} {S : SS} {I : II} (h0 : MA S 427) : ev (d + 1) 276 32 [(2, 427), (0, a1), uU, uU, uU] [(0, s1), (0, s0)] S I = (ev d 212 0 [(2, 438), (0, a1), (0, 4)] [] S I).bind (fun q => ev (d + 1) 276 42 [(2, 427), (0, a1), uU, uU, uU] (psh q.1 [(0, s0 - s1)]) q.2.1 q.2.2) := by
  refine (sx_isub D276_32).trans ?_
  refine (sx_aload_n D276_33 rfl).trans ?_
  refine (sx_gfR (q := (9, 20, 0, 1388)) (b := 438) D276_34 (by decide +kernel) (by decide +kernel) (by decide) (MA_o h0) (MA_g20 h0)).trans ?_
  refine (sx_iload_n D276_37 rfl).trans ?_
  refine (sx_iconst D276_38).trans ?_
  exact sx_stat (ag := [(2, 438), (0, a1), (0, 4)]) (r := [(0, s0 - s1)]) (al' := [(2, 438), (0, a1), (0, 4)]) (np := 3) (nl := 3) (q := (0, 212, 1526)) D276_39 (by decide +kernel) (by decide) mP_212 mL_212 (Nat.le_of_ble_eq_true rfl) rfl rfl (by simp [cat]) rfl rfl
theorem E276_42 {d : Nat} {a1 s0 s1 : Int} {S : SS} {I : II}  : ev d 276 42 [(2, 427), (0, a1), uU, uU, uU] [(0, s1), (0, s0)] S I = ev d 276 49 [(2, 427), (0, a1), (0, s0 + s1), (0, 0), (0, 0)] [] S I := by
  refine (sx_iadd D276_42).trans ?_
  refine (sx_istore_n (al' := [(2, 427), (0, a1), (0, s0 + s1), uU, uU]) D276_43 (Nat.le_of_ble_eq_true rfl) rfl rfl).trans ?_
  refine (sx_iconst D276_44).trans ?_
  refine (sx_istore_n (al' := [(2, 427), (0, a1), (0, s0 + s1), (0, 0), uU]) D276_45 (Nat.le_of_ble_eq_true rfl) rfl rfl).trans ?_
  refine (sx_iconst D276_46).trans ?_
  refine (sx_istore (al' := [(2, 427), (0, a1), (0, s0 + s1), (0, 0), (0, 0)]) D276_47 (Nat.le_of_ble_eq_true rfl) rfl rfl).trans ?_
  exact rfl
theorem E276_49 {d : Nat} {a1 a2 a3 a4 : Int} {S : SS} {I : II} (h0 : MA S 427) : ev (d + 1) 276 49 [(2, 427), (0, a1), (0, a2), (0, a3), (0, a4)] [] S I = if w a4 < 16 then ((ev d 220 0 [(2, 438), (0, a1), (0, a4)] [] S I).bind (fun q => ev (d + 1) 276 67 [(2, 427), (0, a1), (0, a2), (0, a3), (0, a4)] (psh q.1 [(0, a3)]) q.2.1 q.2.2)) else ((ev d 255 0 [(2, 427), (1, w a2), uU] [] S (up2 I 427 1 0)).bind (fun q => ev (d + 1) 276 97 [(2, 427), (0, a1), (0, a2), (0, a3), (0, a4)] (psh q.1 []) q.2.1 q.2.2)) := by
  refine (sx_iload D276_49 rfl).trans ?_
  refine (sx_bipush D276_51 (by decide)).trans ?_
  refine sx_if_ge (pc' := 86) D276_53 (by decide) (by decide) ?_ ?_ rfl (w_small (by decide) (by decide))
  · refine (sx_iload_n D276_56 rfl).trans ?_
    refine (sx_aload_n D276_57 rfl).trans ?_
    refine (sx_gfR (q := (9, 20, 0, 1388)) (b := 438) D276_58 (by decide +kernel) (by decide +kernel) (by decide) (MA_o h0) (MA_g20 h0)).trans ?_
    refine (sx_iload_n D276_61 rfl).trans ?_
    refine (sx_iload D276_62 rfl).trans ?_
    exact sx_stat (ag := [(2, 438), (0, a1), (0, a4)]) (r := [(0, a3)]) (al' := [(2, 438), (0, a1), (0, a4)]) (np := 3) (nl := 3) (q := (0, 220, 1560)) D276_64 (by decide +kernel) (by decide) mP_220 mL_220 (Nat.le_of_ble_eq_true rfl) rfl rfl (by simp [cat]) rfl rfl
  · refine (sx_aload_n D276_86 rfl).trans ?_
    refine (sx_iconst D276_87).trans ?_
    refine (sx_pfI (q := (9, 1, 0, 1369)) (j := 1) D276_88 (by decide +kernel) (by decide) (by decide) (MA_o h0) rfl).trans ?_
    refine (sx_aload_n D276_91 rfl).trans ?_
    refine (sx_iload_n D276_92 rfl).trans ?_
    refine (sx_i2l D276_93).trans ?_
    exact sx_virt (c := 11) (ag := [(2, 427), (1, w a2)]) (r := []) (al' := [(2, 427), (1, w a2), uU]) (np := 1) (nl := 3) (q := (1, 255, 1683)) D276_94 (by decide +kernel) (by decide) mP_255 mL_255 mC_255 (Nat.le_of_ble_eq_true rfl) rfl rfl (by simp [cat]) (by decide) (MA_o h0) rfl rfl
theorem E276_67 {d : Nat} {a1 a2 a3 a4 s0 s1 : Int} {S : SS} {I : II}  : ev d 276 67 [(2, 427), (0, a1), (0, a2), (0, a3), (0, a4)] [(0, s1), (0, s0)] S I = if w s1 = 0 then (ev d 276 75 [(2, 427), (0, a1), (0, a2), (0, a3), (0, a4)] [(0, 1), (0, s0)] S I) else (ev d 276 75 [(2, 427), (0, a1), (0, a2), (0, a3), (0, a4)] [(0, 0), (0, s0)] S I) := by
  refine sx_i0_ne (pc' := 74) D276_67 (by decide) (by decide) ?_ ?_ rfl
  · refine (sx_iconst D276_70).trans ?_
    refine (sx_goto (pc' := 75) D276_71 (by decide) (by decide)).trans ?_
    exact rfl
  · refine (sx_iconst D276_74).trans ?_
    exact rfl
theorem E276_75 {d : Nat} {a1 a2 a3 a4 s0 s1 : Int} {S : SS} {I : II}  : ev (d + 1) 276 75 [(2, 427), (0, a1), (0, a2), (0, a3), (0, a4)] [(0, s1), (0, s0)] S I = (ev d 199 0 [(0, s1)] [] S I).bind (fun q => ev (d + 1) 276 78 [(2, 427), (0, a1), (0, a2), (0, a3), (0, a4)] (psh q.1 [(0, s0)]) q.2.1 q.2.2) := by
  exact sx_stat (ag := [(0, s1)]) (r := [(0, s0)]) (al' := [(0, s1)]) (np := 1) (nl := 1) (q := (0, 199, 1328)) D276_75 (by decide +kernel) (by decide) mP_199 mL_199 (Nat.le_of_ble_eq_true rfl) rfl rfl (by simp [cat]) rfl rfl
theorem E276_78 {d : Nat} {a1 a2 a3 a4 s0 s1 : Int} {S : SS} {I : II}  : ev d 276 78 [(2, 427), (0, a1), (0, a2), (0, a3), (0, a4)] [(0, s1), (0, s0)] S I = ev d 276 49 [(2, 427), (0, a1), (0, a2), (0, s0 + s1), (0, a4 + 1)] [] S I := by
  refine (sx_iadd D276_78).trans ?_
  refine (sx_istore_n (al' := [(2, 427), (0, a1), (0, a2), (0, s0 + s1), (0, a4)]) D276_79 (Nat.le_of_ble_eq_true rfl) rfl rfl).trans ?_
  refine (sx_iinc (al' := [(2, 427), (0, a1), (0, a2), (0, s0 + s1), (0, a4 + 1)]) D276_80 rfl rfl).trans ?_
  refine (sx_goto (pc' := 49) D276_83 (by decide) (by decide)).trans ?_
  exact rfl
theorem E276_97 {d : Nat} {a1 a2 a3 a4 : Int} {S : SS} {I : II} (h0 : MA S 427) : ev (d + 1) 276 97 [(2, 427), (0, a1), (0, a2), (0, a3), (0, a4)] [] S I = (ev d 255 0 [(2, 427), (1, w a3), uU] [] S I).bind (fun q => ev (d + 1) 276 103 [(2, 427), (0, a1), (0, a2), (0, a3), (0, a4)] (psh q.1 []) q.2.1 q.2.2) := by
  refine (sx_aload_n D276_97 rfl).trans ?_
  refine (sx_iload_n D276_98 rfl).trans ?_
  refine (sx_i2l D276_99).trans ?_
  exact sx_virt (c := 11) (ag := [(2, 427), (1, w a3)]) (r := []) (al' := [(2, 427), (1, w a3), uU]) (np := 1) (nl := 3) (q := (1, 255, 1683)) D276_100 (by decide +kernel) (by decide) mP_255 mL_255 mC_255 (Nat.le_of_ble_eq_true rfl) rfl rfl (by simp [cat]) (by decide) (MA_o h0) rfl rfl
theorem E276_103 {d : Nat} {a1 a2 a3 a4 : Int} {S : SS} {I : II}  : ev d 276 103 [(2, 427), (0, a1), (0, a2), (0, a3), (0, a4)] [] S I = some ((0, if w a3 < w a2 then w a3 else w a2), S, I) := by
  refine (sx_iload_n D276_103 rfl).trans ?_
  refine (sx_iload_n D276_104 rfl).trans ?_
  refine (sx_min (q := (13, 0, 1315)) D276_105 (by decide +kernel) rfl (by simp [cat]) rfl rfl).trans ?_
  exact sx_ireturn D276_108 (by decide +kernel)
theorem E277_0 {d : Nat} {a1 : Int} {S : SS} {I : II} (h0 : MA S 427) : ev (d + 1) 277 0 [(2, 427), (0, a1), uU, uU, uU] [] S I = (ev d 192 0 [(1, w a1), uU, (1, 0), uU, (1, 9), uU] [] S (up2 I 427 0 0)).bind (fun q => ev (d + 1) 277 14 [(2, 427), (0, a1), uU, uU, uU] (psh q.1 []) q.2.1 q.2.2) := by
  refine (sx_aload_n D277_0 rfl).trans ?_
  refine (sx_iconst D277_1).trans ?_
  refine (sx_pfI (q := (9, 0, 0, 1368)) (j := 0) D277_2 (by decide +kernel) (by decide) (by decide) (MA_o h0) rfl).trans ?_
  refine (sx_iload_n D277_5 rfl).trans ?_
  refine (sx_i2l D277_6).trans ?_
  refine (sx_lconst D277_7).trans ?_
  refine (sx_ldc2_w (q := (9, 1555)) D277_8 (by decide +kernel)).trans ?_
  exact sx_stat (ag := [(1, w a1), (1, 0), (1, 9)]) (r := []) (al' := [(1, w a1), uU, (1, 0), uU, (1, 9), uU]) (np := 3) (nl := 6) (q := (0, 192, 1299)) D277_11 (by decide +kernel) (by decide) mP_192 mL_192 (Nat.le_of_ble_eq_true rfl) rfl rfl (by simp [cat]) rfl rfl
theorem E277_14 {d : Nat} {a1 s0 : Int} {S : SS} {I : II}  : ev d 277 14 [(2, 427), (0, a1), uU, uU, uU] [(0, s0)] S I = if w s0 = 0 then (some ((0, (-1)), S, I)) else (ev d 277 23 [(2, 427), (0, a1), (0, 0), (0, 0), uU] [] S I) := by
  refine sx_i0_ne (pc' := 19) D277_14 (by decide) (by decide) ?_ ?_ rfl
  · refine (sx_iconst D277_17).trans ?_
    exact sx_ireturn D277_18 (by decide +kernel)
  · refine (sx_iconst D277_19).trans ?_
    refine (sx_istore_n (al' := [(2, 427), (0, a1), (0, 0), uU, uU]) D277_20 (Nat.le_of_ble_eq_true rfl) rfl rfl).trans ?_
    refine (sx_iconst D277_21).trans ?_
    refine (sx_istore_n (al' := [(2, 427), (0, a1), (0, 0), (0, 0), uU]) D277_22 (Nat.le_of_ble_eq_true rfl) rfl rfl).trans ?_
    exact rfl
theorem E277_23 {d : Nat} {a1 a2 a3 : Int} {a4 : AV} {S : SS} {I : II} (h0 : MA S 427) : ev (d + 1) 277 23 [(2, 427), (0, a1), (0, a2), (0, a3), a4] [] S I = if w a3 < w (I 427 14) then ((ev d 212 0 [(2, 438), (0, a3), (0, 3)] [] S I).bind (fun q => ev (d + 1) 277 40 [(2, 427), (0, a1), (0, a2), (0, a3), a4] (psh q.1 []) q.2.1 q.2.2)) else (ev (d + 1) 277 93 [(2, 427), (0, a1), (0, a2), (0, 0), (0, 0)] [] S I) := by
  refine (sx_iload_n D277_23 rfl).trans ?_
  refine (sx_aload_n D277_24 rfl).trans ?_
  refine (sx_gfI (q := (9, 14, 0, 1382)) (j := 14) D277_25 (by decide +kernel) (by decide +kernel) (by decide) (MA_o h0) rfl rfl).trans ?_
  refine sx_if_ge (pc' := 88) D277_28 (by decide) (by decide) ?_ ?_ rfl rfl
  · refine (sx_aload_n D277_31 rfl).trans ?_
    refine (sx_gfR (q := (9, 20, 0, 1388)) (b := 438) D277_32 (by decide +kernel) (by decide +kernel) (by decide) (MA_o h0) (MA_g20 h0)).trans ?_
    refine (sx_iload_n D277_35 rfl).trans ?_
    refine (sx_iconst D277_36).trans ?_
    exact sx_stat (ag := [(2, 438), (0, a3), (0, 3)]) (r := []) (al' := [(2, 438), (0, a3), (0, 3)]) (np := 3) (nl := 3) (q := (0, 212, 1526)) D277_37 (by decide +kernel) (by decide) mP_212 mL_212 (Nat.le_of_ble_eq_true rfl) rfl rfl (by simp [cat]) rfl rfl
  · refine (sx_iconst D277_88).trans ?_
    refine (sx_istore_n (al' := [(2, 427), (0, a1), (0, a2), (0, 0), a4]) D277_89 (Nat.le_of_ble_eq_true rfl) rfl rfl).trans ?_
    refine (sx_iconst D277_90).trans ?_
    refine (sx_istore (al' := [(2, 427), (0, a1), (0, a2), (0, 0), (0, 0)]) D277_91 (Nat.le_of_ble_eq_true rfl) rfl rfl).trans ?_
    exact rfl
theorem E277_40 {d : Nat} {a1 a2 a3 s0 : Int} {a4 : AV} {S : SS} {I : II}  : ev d 277 40 [(2, 427), (0, a1), (0, a2), (0, a3), a4] [(0, s0)] S I = ev d 277 42 [(2, 427), (0, a1), (0, a2), (0, a3), (0, s0)] [] S I := by
  refine (sx_istore (al' := [(2, 427), (0, a1), (0, a2), (0, a3), (0, s0)]) D277_40 (Nat.le_of_ble_eq_true rfl) rfl rfl).trans ?_
  exact rfl
theorem E277_42 {d : Nat} {a1 a2 a3 a4 : Int} {S : SS} {I : II} (h0 : MA S 427) : ev (d + 1) 277 42 [(2, 427), (0, a1), (0, a2), (0, a3), (0, a4)] [] S I = (ev d 212 0 [(2, 438), (0, a3), (0, 0)] [] S I).bind (fun q => ev (d + 1) 277 53 [(2, 427), (0, a1), (0, a2), (0, a3), (0, a4)] (psh q.1 [(0, a4)]) q.2.1 q.2.2) := by
  refine (sx_iload D277_42 rfl).trans ?_
  refine (sx_aload_n D277_44 rfl).trans ?_
  refine (sx_gfR (q := (9, 20, 0, 1388)) (b := 438) D277_45 (by decide +kernel) (by decide +kernel) (by decide) (MA_o h0) (MA_g20 h0)).trans ?_
  refine (sx_iload_n D277_48 rfl).trans ?_
  refine (sx_iconst D277_49).trans ?_
  exact sx_stat (ag := [(2, 438), (0, a3), (0, 0)]) (r := [(0, a4)]) (al' := [(2, 438), (0, a3), (0, 0)]) (np := 3) (nl := 3) (q := (0, 212, 1526)) D277_50 (by decide +kernel) (by decide) mP_212 mL_212 (Nat.le_of_ble_eq_true rfl) rfl rfl (by simp [cat]) rfl rfl
theorem E277_53 {d : Nat} {a1 a2 a3 a4 s0 s1 : Int} {S : SS} {I : II} (h0 : MA S 427) : ev (d + 1) 277 53 [(2, 427), (0, a1), (0, a2), (0, a3), (0, a4)] [(0, s1), (0, s0)] S I = if w s0 < w s1 then ((ev d 222 0 [(0, a3), (0, a4)] [] S I).bind (fun q => ev (d + 1) 277 67 [(2, 427), (0, a1), (0, a2), (0, a3), (0, a4)] (psh q.1 [(2, 438), (0, a2)]) q.2.1 q.2.2)) else (ev (d + 1) 277 23 [(2, 427), (0, a1), (0, a2), (0, a3 + 1), (0, a4)] [] S I) := by
  refine sx_if_ge (pc' := 82) D277_53 (by decide) (by decide) ?_ ?_ rfl rfl
  · refine (sx_iload_n D277_56 rfl).trans ?_
    refine (sx_aload_n D277_57 rfl).trans ?_
    refine (sx_gfR (q := (9, 20, 0, 1388)) (b := 438) D277_58 (by decide +kernel) (by decide +kernel) (by decide) (MA_o h0) (MA_g20 h0)).trans ?_
    refine (sx_iload_n D277_61 rfl).trans ?_
    refine (sx_iload D277_62 rfl).trans ?_
    exact sx_stat (ag := [(0, a3), (0, a4)]) (r := [(2, 438), (0, a2)]) (al' := [(0, a3), (0, a4)]) (np := 2) (nl := 2) (q := (0, 222, 1566)) D277_64 (by decide +kernel) (by decide) mP_222 mL_222 (Nat.le_of_ble_eq_true rfl) rfl rfl (by simp [cat]) rfl rfl
  · refine (sx_iinc (al' := [(2, 427), (0, a1), (0, a2), (0, a3 + 1), (0, a4)]) D277_82 rfl rfl).trans ?_
    refine (sx_goto (pc' := 23) D277_85 (by decide) (by decide)).trans ?_
    exact rfl
theorem E277_67 {d : Nat} {a1 a2 a3 a4 s0 s1 s2 : Int} {S : SS} {I : II}  : ev (d + 1) 277 67 [(2, 427), (0, a1), (0, a2), (0, a3), (0, a4)] [(0, s2), (2, s1), (0, s0)] S I = (ev d 278 0 [(2, s1), (0, s2), (0, a1)] [] S I).bind (fun q => ev (d + 1) 277 71 [(2, 427), (0, a1), (0, a2), (0, a3), (0, a4)] (psh q.1 [(0, s0)]) q.2.1 q.2.2) := by
  refine (sx_iload_n D277_67 rfl).trans ?_
  exact sx_stat (ag := [(2, s1), (0, s2), (0, a1)]) (r := [(0, s0)]) (al' := [(2, s1), (0, s2), (0, a1)]) (np := 3) (nl := 3) (q := (0, 278, 1775)) D277_68 (by decide +kernel) (by decide) mP_278 mL_278 (Nat.le_of_ble_eq_true rfl) rfl rfl (by simp [cat]) rfl rfl
theorem E277_71 {d : Nat} {a1 a2 a3 a4 s0 s1 : Int} {S : SS} {I : II}  : ev (d + 1) 277 71 [(2, 427), (0, a1), (0, a2), (0, a3), (0, a4)] [(0, s1), (0, s0)] S I = (ev d 199 0 [(0, s1)] [] S I).bind (fun q => ev (d + 1) 277 74 [(2, 427), (0, a1), (0, a2), (0, a3), (0, a4)] (psh q.1 [(0, s0)]) q.2.1 q.2.2) := by
  exact sx_stat (ag := [(0, s1)]) (r := [(0, s0)]) (al' := [(0, s1)]) (np := 1) (nl := 1) (q := (0, 199, 1328)) D277_71 (by decide +kernel) (by decide) mP_199 mL_199 (Nat.le_of_ble_eq_true rfl) rfl rfl (by simp [cat]) rfl rfl
theorem E277_74 {d : Nat} {a1 a2 a3 a4 s0 s1 : Int} {S : SS} {I : II}  : ev d 277 74 [(2, 427), (0, a1), (0, a2), (0, a3), (0, a4)] [(0, s1), (0, s0)] S I = ev d 277 42 [(2, 427), (0, a1), (0, s0 + s1), (0, a3), (0, a4 + 1)] [] S I := by
  refine (sx_iadd D277_74).trans ?_
  refine (sx_istore_n (al' := [(2, 427), (0, a1), (0, s0 + s1), (0, a3), (0, a4)]) D277_75 (Nat.le_of_ble_eq_true rfl) rfl rfl).trans ?_
  refine (sx_iinc (al' := [(2, 427), (0, a1), (0, s0 + s1), (0, a3), (0, a4 + 1)]) D277_76 rfl rfl).trans ?_
  refine (sx_goto (pc' := 42) D277_79 (by decide) (by decide)).trans ?_
  exact rfl
theorem E277_93 {d : Nat} {a1 a2 a3 a4 : Int} {S : SS} {I : II} (h0 : MA S 427) : ev (d + 1) 277 93 [(2, 427), (0, a1), (0, a2), (0, a3), (0, a4)] [] S I = if w a4 < w (I 438 493) then ((ev d 224 0 [(0, a4)] [] S I).bind (fun q => ev (d + 1) 277 116 [(2, 427), (0, a1), (0, a2), (0, a3), (0, a4)] (psh q.1 [(2, 438), (0, a3)]) q.2.1 q.2.2)) else ((ev d 255 0 [(2, 427), (1, w a2), uU] [] S (up2 I 427 1 0)).bind (fun q => ev (d + 1) 277 184 [(2, 427), (0, a1), (0, a2), (0, a3), (0, a4)] (psh q.1 []) q.2.1 q.2.2)) := by
  refine (sx_iload D277_93 rfl).trans ?_
  refine (sx_aload_n D277_95 rfl).trans ?_
  refine (sx_gfR (q := (9, 20, 0, 1388)) (b := 438) D277_96 (by decide +kernel) (by decide +kernel) (by decide) (MA_o h0) (MA_g20 h0)).trans ?_
  refine (sx_sipush D277_99 (by decide)).trans ?_
  refine (sx_iaK (j := 493) D277_102 (MA_k20 h0) (w_small (by decide) (by decide)) (by decide) (by decide) rfl).trans ?_
  refine sx_if_ge (pc' := 173) D277_103 (by decide) (by decide) ?_ ?_ rfl rfl
  · refine (sx_iload_n D277_106 rfl).trans ?_
    refine (sx_aload_n D277_107 rfl).trans ?_
    refine (sx_gfR (q := (9, 20, 0, 1388)) (b := 438) D277_108 (by decide +kernel) (by decide +kernel) (by decide) (MA_o h0) (MA_g20 h0)).trans ?_
    refine (sx_iload D277_111 rfl).trans ?_
    exact sx_stat (ag := [(0, a4)]) (r := [(2, 438), (0, a3)]) (al' := [(0, a4)]) (np := 1) (nl := 1) (q := (0, 224, 1572)) D277_113 (by decide +kernel) (by decide) mP_224 mL_224 (Nat.le_of_ble_eq_true rfl) rfl rfl (by simp [cat]) rfl rfl
  · refine (sx_aload_n D277_173 rfl).trans ?_
    refine (sx_iconst D277_174).trans ?_
    refine (sx_pfI (q := (9, 1, 0, 1369)) (j := 1) D277_175 (by decide +kernel) (by decide) (by decide) (MA_o h0) rfl).trans ?_
    refine (sx_aload_n D277_178 rfl).trans ?_
    refine (sx_iload_n D277_179 rfl).trans ?_
    refine (sx_i2l D277_180).trans ?_
    exact sx_virt (c := 11) (ag := [(2, 427), (1, w a2)]) (r := []) (al' := [(2, 427), (1, w a2), uU]) (np := 1) (nl := 3) (q := (1, 255, 1683)) D277_181 (by decide +kernel) (by decide) mP_255 mL_255 mC_255 (Nat.le_of_ble_eq_true rfl) rfl rfl (by simp [cat]) (by decide) (MA_o h0) rfl rfl
theorem E277_116 {d : Nat} {a1 a2 a3 a4 s0 s1 s2 : Int} {S : SS} {I : II}  : ev (d + 1) 277 116 [(2, 427), (0, a1), (0, a2), (0, a3), (0, a4)] [(0, s2), (2, s1), (0, s0)] S I = (ev d 278 0 [(2, s1), (0, s2 + 1), (0, a1)] [] S I).bind (fun q => ev (d + 1) 277 122 [(2, 427), (0, a1), (0, a2), (0, a3), (0, a4)] (psh q.1 [(0, s0)]) q.2.1 q.2.2) := by
  refine (sx_iconst D277_116).trans ?_
  refine (sx_iadd D277_117).trans ?_
  refine (sx_iload_n D277_118 rfl).trans ?_
  exact sx_stat (ag := [(2, s1), (0, s2 + 1), (0, a1)]) (r := [(0, s0)]) (al' := [(2, s1), (0, s2 + 1), (0, a1)]) (np := 3) (nl := 3) (q := (0, 278, 1775)) D277_119 (by decide +kernel) (by decide) mP_278 mL_278 (Nat.le_of_ble_eq_true rfl) rfl rfl (by simp [cat]) rfl rfl
theorem E277_122 {d : Nat} {a1 a2 a3 a4 s0 s1 : Int} {S : SS} {I : II}  : ev (d + 1) 277 122 [(2, 427), (0, a1), (0, a2), (0, a3), (0, a4)] [(0, s1), (0, s0)] S I = (ev d 199 0 [(0, s1)] [] S I).bind (fun q => ev (d + 1) 277 125 [(2, 427), (0, a1), (0, a2), (0, a3), (0, a4)] (psh q.1 [(0, s0)]) q.2.1 q.2.2) := by
  exact sx_stat (ag := [(0, s1)]) (r := [(0, s0)]) (al' := [(0, s1)]) (np := 1) (nl := 1) (q := (0, 199, 1328)) D277_122 (by decide +kernel) (by decide) mP_199 mL_199 (Nat.le_of_ble_eq_true rfl) rfl rfl (by simp [cat]) rfl rfl
theorem E277_125 {d : Nat} {a1 a2 a3 a4 s0 s1 : Int} {S : SS} {I : II} (h0 : MA S 427) : ev (d + 1) 277 125 [(2, 427), (0, a1), (0, a2), (0, a3), (0, a4)] [(0, s1), (0, s0)] S I = (ev d 225 0 [(2, 438), (0, a4)] [] S I).bind (fun q => ev (d + 1) 277 134 [(2, 427), (0, a1), (0, a2), (0, a3), (0, a4)] (psh q.1 [(0, s1), (0, s0)]) q.2.1 q.2.2) := by
  refine (sx_aload_n D277_125 rfl).trans ?_
  refine (sx_gfR (q := (9, 20, 0, 1388)) (b := 438) D277_126 (by decide +kernel) (by decide +kernel) (by decide) (MA_o h0) (MA_g20 h0)).trans ?_
  refine (sx_iload D277_129 rfl).trans ?_
  exact sx_stat (ag := [(2, 438), (0, a4)]) (r := [(0, s1), (0, s0)]) (al' := [(2, 438), (0, a4)]) (np := 2) (nl := 2) (q := (0, 225, 1575)) D277_131 (by decide +kernel) (by decide) mP_225 mL_225 (Nat.le_of_ble_eq_true rfl) rfl rfl (by simp [cat]) rfl rfl
theorem E277_134 {d : Nat} {a1 a2 a3 a4 s0 s1 s2 : Int} {S : SS} {I : II} (h0 : MA S 427) : ev (d + 1) 277 134 [(2, 427), (0, a1), (0, a2), (0, a3), (0, a4)] [(0, s2), (0, s1), (0, s0)] S I = if w s2 = 0 then (ev (d + 1) 277 160 [(2, 427), (0, a1), (0, a2), (0, a3), (0, a4)] [(0, s1), (0, s0)] S I) else ((ev d 224 0 [(0, a4)] [] S I).bind (fun q => ev (d + 1) 277 146 [(2, 427), (0, a1), (0, a2), (0, a3), (0, a4)] (psh q.1 [(2, 438), (0, s1), (0, s0)]) q.2.1 q.2.2)) := by
  refine sx_i0_eq (pc' := 160) D277_134 (by decide) (by decide) ?_ ?_ rfl
  · exact rfl
  · refine (sx_aload_n D277_137 rfl).trans ?_
    refine (sx_gfR (q := (9, 20, 0, 1388)) (b := 438) D277_138 (by decide +kernel) (by decide +kernel) (by decide) (MA_o h0) (MA_g20 h0)).trans ?_
    refine (sx_iload D277_141 rfl).trans ?_
    exact sx_stat (ag := [(0, a4)]) (r := [(2, 438), (0, s1), (0, s0)]) (al' := [(0, a4)]) (np := 1) (nl := 1) (q := (0, 224, 1572)) D277_143 (by decide +kernel) (by decide) mP_224 mL_224 (Nat.le_of_ble_eq_true rfl) rfl rfl (by simp [cat]) rfl rfl
theorem E277_146 {d : Nat} {a1 a2 a3 a4 s0 s1 s2 s3 : Int} {S : SS} {I : II}  : ev (d + 1) 277 146 [(2, 427), (0, a1), (0, a2), (0, a3), (0, a4)] [(0, s3), (2, s2), (0, s1), (0, s0)] S I = (ev d 278 0 [(2, s2), (0, s3 + 6), (0, a1)] [] S I).bind (fun q => ev (d + 1) 277 153 [(2, 427), (0, a1), (0, a2), (0, a3), (0, a4)] (psh q.1 [(0, s1), (0, s0)]) q.2.1 q.2.2) := by
  refine (sx_bipush D277_146 (by decide)).trans ?_
  refine (sx_iadd D277_148).trans ?_
  refine (sx_iload_n D277_149 rfl).trans ?_
  exact sx_stat (ag := [(2, s2), (0, s3 + 6), (0, a1)]) (r := [(0, s1), (0, s0)]) (al' := [(2, s2), (0, s3 + 6), (0, a1)]) (np := 3) (nl := 3) (q := (0, 278, 1775)) D277_150 (by decide +kernel) (by decide) mP_278 mL_278 (Nat.le_of_ble_eq_true rfl) rfl rfl (by simp [cat]) rfl rfl
theorem E277_153 {d : Nat} {a1 a2 a3 a4 s0 s1 s2 : Int} {S : SS} {I : II}  : ev d 277 153 [(2, 427), (0, a1), (0, a2), (0, a3), (0, a4)] [(0, s2), (0, s1), (0, s0)] S I = if w s2 = 0 then (ev d 277 160 [(2, 427), (0, a1), (0, a2), (0, a3), (0, a4)] [(0, s1), (0, s0)] S I) else (ev d 277 161 [(2, 427), (0, a1), (0, a2), (0, a3), (0, a4)] [(0, 1), (0, s1), (0, s0)] S I) := by
  refine sx_i0_eq (pc' := 160) D277_153 (by decide) (by decide) ?_ ?_ rfl
  · exact rfl
  · refine (sx_iconst D277_156).trans ?_
    refine (sx_goto (pc' := 161) D277_157 (by decide) (by decide)).trans ?_
    exact rfl
theorem E277_160 {d : Nat} {a1 a2 a3 a4 s0 s1 : Int} {S : SS} {I : II}  : ev d 277 160 [(2, 427), (0, a1), (0, a2), (0, a3), (0, a4)] [(0, s1), (0, s0)] S I = ev d 277 161 [(2, 427), (0, a1), (0, a2), (0, a3), (0, a4)] [(0, 0), (0, s1), (0, s0)] S I := by
  refine (sx_iconst D277_160).trans ?_
  exact rfl
theorem E277_161 {d : Nat} {a1 a2 a3 a4 s0 s1 s2 : Int} {S : SS} {I : II}  : ev (d + 1) 277 161 [(2, 427), (0, a1), (0, a2), (0, a3), (0, a4)] [(0, s2), (0, s1), (0, s0)] S I = (ev d 199 0 [(0, s2)] [] S I).bind (fun q => ev (d + 1) 277 164 [(2, 427), (0, a1), (0, a2), (0, a3), (0, a4)] (psh q.1 [(0, s1), (0, s0)]) q.2.1 q.2.2) := by
  exact sx_stat (ag := [(0, s2)]) (r := [(0, s1), (0, s0)]) (al' := [(0, s2)]) (np := 1) (nl := 1) (q := (0, 199, 1328)) D277_161 (by decide +kernel) (by decide) mP_199 mL_199 (Nat.le_of_ble_eq_true rfl) rfl rfl (by simp [cat]) rfl rfl
theorem E277_164 {d : Nat} {a1 a2 a3 a4 s0 s1 s2 : Int} {S : SS} {I : II}  : ev d 277 164 [(2, 427), (0, a1), (0, a2), (0, a3), (0, a4)] [(0, s2), (0, s1), (0, s0)] S I = ev d 277 93 [(2, 427), (0, a1), (0, a2), (0, s0 + (s1 + s2)), (0, a4 + 1)] [] S I := by
  refine (sx_iadd D277_164).trans ?_
  refine (sx_iadd D277_165).trans ?_
  refine (sx_istore_n (al' := [(2, 427), (0, a1), (0, a2), (0, s0 + (s1 + s2)), (0, a4)]) D277_166 (Nat.le_of_ble_eq_true rfl) rfl rfl).trans ?_
  refine (sx_iinc (al' := [(2, 427), (0, a1), (0, a2), (0, s0 + (s1 + s2)), (0, a4 + 1)]) D277_167 rfl rfl).trans ?_
  refine (sx_goto (pc' := 93) D277_170 (by decide) (by decide)).trans ?_
  exact rfl
theorem E277_184 {d : Nat} {a1 a2 a3 a4 : Int} {S : SS} {I : II} (h0 : MA S 427) : ev (d + 1) 277 184 [(2, 427), (0, a1), (0, a2), (0, a3), (0, a4)] [] S I = (ev d 255 0 [(2, 427), (1, w a3), uU] [] S I).bind (fun q => ev (d + 1) 277 190 [(2, 427), (0, a1), (0, a2), (0, a3), (0, a4)] (psh q.1 []) q.2.1 q.2.2) := by
  refine (sx_aload_n D277_184 rfl).trans ?_
  refine (sx_iload_n D277_185 rfl).trans ?_
  refine (sx_i2l D277_186).trans ?_
  exact sx_virt (c := 11) (ag := [(2, 427), (1, w a3)]) (r := []) (al' := [(2, 427), (1, w a3), uU]) (np := 1) (nl := 3) (q := (1, 255, 1683)) D277_187 (by decide +kernel) (by decide) mP_255 mL_255 mC_255 (Nat.le_of_ble_eq_true rfl) rfl rfl (by simp [cat]) (by decide) (MA_o h0) rfl rfl
theorem E277_190 {d : Nat} {a1 a2 a3 a4 : Int} {S : SS} {I : II} (h0 : MA S 427) : ev d 277 190 [(2, 427), (0, a1), (0, a2), (0, a3), (0, a4)] [] S I = gdR (0 ≤ w (828 + a1) ∧ w (828 + a1) < 844) (some ((0, I 438 (w (828 + a1))), S, I)) := by
  refine (sx_aload_n D277_190 rfl).trans ?_
  refine (sx_gfR (q := (9, 20, 0, 1388)) (b := 438) D277_191 (by decide +kernel) (by decide +kernel) (by decide) (MA_o h0) (MA_g20 h0)).trans ?_
  refine (sx_sipush D277_194 (by decide)).trans ?_
  refine (sx_iload_n D277_197 rfl).trans ?_
  refine (sx_iadd D277_198).trans ?_
  refine (sx_ia D277_199 (MA_k20 h0) rfl).trans (gdR_to fun g1 => ?_)
  exact sx_ireturn D277_200 (by decide +kernel)
theorem E278_0 {d : Nat} {a0 a1 a2 ln0 : Int} {S : SS} {I : II} (h0 : KA S a0 20 ln0) : ev d 278 0 [(2, a0), (0, a1), (0, a2)] [] S I = gdR (0 ≤ w (a1 + 1) ∧ w (a1 + 1) < ln0) (if w (I a0 (w (a1 + 1))) = 1 then (ev d 278 18 [(2, a0), (0, a1), (0, a2)] [] S I) else (gdR (0 ≤ w (a1 + 1) ∧ w (a1 + 1) < ln0) (if w (I a0 (w (a1 + 1))) = 3 then (ev d 278 18 [(2, a0), (0, a1), (0, a2)] [] S I) else (ev d 278 39 [(2, a0), (0, a1), (0, a2)] [] S I)))) := by
  refine (sx_aload_n D278_0 rfl).trans ?_
  refine (sx_iload_n D278_1 rfl).trans ?_
  refine (sx_iconst D278_2).trans ?_
  refine (sx_iadd D278_3).trans ?_
  refine (sx_ia D278_4 h0 rfl).trans (gdR_to fun g1 => ?_)
  refine (sx_iconst D278_5).trans ?_
  refine sx_if_eq (pc' := 18) D278_6 (by decide) (by decide) ?_ ?_ rfl (w_small (by decide) (by decide))
  · exact rfl
  · refine (sx_aload_n D278_9 rfl).trans ?_
    refine (sx_iload_n D278_10 rfl).trans ?_
    refine (sx_iconst D278_11).trans ?_
    refine (sx_iadd D278_12).trans ?_
    refine (sx_ia D278_13 h0 rfl).trans (gdR_to fun g2 => ?_)
    refine (sx_iconst D278_14).trans ?_
    refine sx_if_ne (pc' := 39) D278_15 (by decide) (by decide) ?_ ?_ rfl (w_small (by decide) (by decide))
    · exact rfl
    · exact rfl
theorem E278_18 {d : Nat} {a0 a1 a2 ln0 : Int} {S : SS} {I : II} (h0 : KA S a0 20 ln0) : ev d 278 18 [(2, a0), (0, a1), (0, a2)] [] S I = gdR (0 ≤ w (a1 + 2) ∧ w (a1 + 2) < ln0) (if w (I a0 (w (a1 + 2))) = w a2 then (gdR (0 ≤ w (a1 + 4) ∧ w (a1 + 4) < ln0) (if w (I a0 (w (a1 + 4))) = 0 then (ev d 278 40 [(2, a0), (0, a1), (0, a2)] [(0, 1)] S I) else (ev d 278 39 [(2, a0), (0, a1), (0, a2)] [] S I))) else (ev d 278 39 [(2, a0), (0, a1), (0, a2)] [] S I)) := by
  refine (sx_aload_n D278_18 rfl).trans ?_
  refine (sx_iload_n D278_19 rfl).trans ?_
  refine (sx_iconst D278_20).trans ?_
  refine (sx_iadd D278_21).trans ?_
  refine (sx_ia D278_22 h0 rfl).trans (gdR_to fun g1 => ?_)
  refine (sx_iload_n D278_23 rfl).trans ?_
  refine sx_if_ne (pc' := 39) D278_24 (by decide) (by decide) ?_ ?_ rfl rfl
  · refine (sx_aload_n D278_27 rfl).trans ?_
    refine (sx_iload_n D278_28 rfl).trans ?_
    refine (sx_iconst D278_29).trans ?_
    refine (sx_iadd D278_30).trans ?_
    refine (sx_ia D278_31 h0 rfl).trans (gdR_to fun g2 => ?_)
    refine sx_i0_ne (pc' := 39) D278_32 (by decide) (by decide) ?_ ?_ rfl
    · refine (sx_iconst D278_35).trans ?_
      refine (sx_goto (pc' := 40) D278_36 (by decide) (by decide)).trans ?_
      exact rfl
    · exact rfl
  · exact rfl
theorem E278_39 {d : Nat} {a0 a1 a2 : Int} {S : SS} {I : II}  : ev d 278 39 [(2, a0), (0, a1), (0, a2)] [] S I = ev d 278 40 [(2, a0), (0, a1), (0, a2)] [(0, 0)] S I := by
  refine (sx_iconst D278_39).trans ?_
  exact rfl
theorem E278_40 {d : Nat} {a0 a1 a2 s0 : Int} {S : SS} {I : II} (h0 : s0 = 0 ∨ s0 = 1) : ev d 278 40 [(2, a0), (0, a1), (0, a2)] [(0, s0)] S I = some ((0, s0), S, I) := by
  exact sx_zreturn D278_40 (by decide +kernel) h0
theorem E279_0 {d : Nat} {S : SS} {I : II} (h0 : MA S 427) : ev (d + 1) 279 0 [(2, 427), uU] [] S I = (ev d 244 0 [(2, 427), (2, 438), uU, uU] [] S (up2 I 427 0 0)).bind (fun q => ev (d + 1) 279 13 [(2, 427), uU] (psh q.1 []) q.2.1 q.2.2) := by
  refine (sx_aload_n D279_0 rfl).trans ?_
  refine (sx_iconst D279_1).trans ?_
  refine (sx_pfI (q := (9, 0, 0, 1368)) (j := 0) D279_2 (by decide +kernel) (by decide) (by decide) (MA_o h0) rfl).trans ?_
  refine (sx_aload_n D279_5 rfl).trans ?_
  refine (sx_aload_n D279_6 rfl).trans ?_
  refine (sx_gfR (q := (9, 20, 0, 1388)) (b := 438) D279_7 (by decide +kernel) (by decide +kernel) (by decide) (MA_o h0) (MA_g20 h0)).trans ?_
  exact sx_virt (c := 11) (ag := [(2, 427), (2, 438)]) (r := []) (al' := [(2, 427), (2, 438), uU, uU]) (np := 1) (nl := 4) (q := (1, 244, 1642)) D279_10 (by decide +kernel) (by decide) mP_244 mL_244 mC_244 (Nat.le_of_ble_eq_true rfl) rfl rfl (by simp [cat]) (by decide) (MA_o h0) rfl rfl
theorem E279_13 {d : Nat} {s0 : Int} {S : SS} {I : II} (h0 : MA S 427) : ev (d + 1) 279 13 [(2, 427), uU] [(0, s0)] S I = if w s0 = 0 then (some ((0, (-2)), S, I)) else ((ev d 280 0 [(2, 427), uU] [] S I).bind (fun q => ev (d + 1) 279 23 [(2, 427), uU] (psh q.1 []) q.2.1 q.2.2)) := by
  refine sx_i0_ne (pc' := 19) D279_13 (by decide) (by decide) ?_ ?_ rfl
  · refine (sx_bipush D279_16 (by decide)).trans ?_
    exact sx_ireturn D279_18 (by decide +kernel)
  · refine (sx_aload_n D279_19 rfl).trans ?_
    exact sx_virt (c := 11) (ag := [(2, 427)]) (r := []) (al' := [(2, 427), uU]) (np := 0) (nl := 2) (q := (1, 280, 1782)) D279_20 (by decide +kernel) (by decide) mP_280 mL_280 mC_280 (Nat.le_of_ble_eq_true rfl) rfl rfl (by simp [cat]) (by decide) (MA_o h0) rfl rfl
theorem E279_23 {d : Nat} {S : SS} {I : II} (h0 : MA S 427) : ev (d + 1) 279 23 [(2, 427), uU] [] S I = (ev d 247 0 [(2, 427), (2, 439), uU, uU, uU] [] S I).bind (fun q => ev (d + 1) 279 31 [(2, 427), uU] (psh q.1 []) q.2.1 q.2.2) := by
  refine (sx_aload_n D279_23 rfl).trans ?_
  refine (sx_aload_n D279_24 rfl).trans ?_
  refine (sx_gfR (q := (9, 21, 0, 1389)) (b := 439) D279_25 (by decide +kernel) (by decide +kernel) (by decide) (MA_o h0) (MA_g21 h0)).trans ?_
  exact sx_virt (c := 11) (ag := [(2, 427), (2, 439)]) (r := []) (al' := [(2, 427), (2, 439), uU, uU, uU]) (np := 1) (nl := 5) (q := (1, 247, 1653)) D279_28 (by decide +kernel) (by decide) mP_247 mL_247 mC_247 (Nat.le_of_ble_eq_true rfl) rfl rfl (by simp [cat]) (by decide) (MA_o h0) rfl rfl
theorem E279_31 {d : Nat} {s0 : Int} {S : SS} {I : II} (h0 : MA S 427) : ev (d + 1) 279 31 [(2, 427), uU] [(0, s0)] S I = gdR (0 ≤ w s0 ∧ w s0 < 5) ((ev d 255 0 [(2, 427), (1, w (I 436 (w s0))), uU] [] S (up2 I 427 1 0)).bind (fun q => ev (d + 1) 279 48 [(2, 427), (0, s0)] (psh q.1 []) q.2.1 q.2.2)) := by
  refine (sx_istore_n (al' := [(2, 427), (0, s0)]) D279_31 (Nat.le_of_ble_eq_true rfl) rfl rfl).trans ?_
  refine (sx_aload_n D279_32 rfl).trans ?_
  refine (sx_iconst D279_33).trans ?_
  refine (sx_pfI (q := (9, 1, 0, 1369)) (j := 1) D279_34 (by decide +kernel) (by decide) (by decide) (MA_o h0) rfl).trans ?_
  refine (sx_aload_n D279_37 rfl).trans ?_
  refine (sx_aload_n D279_38 rfl).trans ?_
  refine (sx_gfR (q := (9, 18, 0, 1386)) (b := 436) D279_39 (by decide +kernel) (by decide +kernel) (by decide) (MA_o h0) (MA_g18 h0)).trans ?_
  refine (sx_iload_n D279_42 rfl).trans ?_
  refine (sx_ia D279_43 (MA_k18 h0) (up2_cell (by omega))).trans (gdR_to fun g1 => ?_)
  refine (sx_i2l D279_44).trans ?_
  exact sx_virt (c := 11) (ag := [(2, 427), (1, w (I 436 (w s0)))]) (r := []) (al' := [(2, 427), (1, w (I 436 (w s0))), uU]) (np := 1) (nl := 3) (q := (1, 255, 1683)) D279_45 (by decide +kernel) (by decide) mP_255 mL_255 mC_255 (Nat.le_of_ble_eq_true rfl) rfl rfl (by simp [cat]) (by decide) (MA_o h0) rfl rfl
theorem E279_48 {d : Nat} {a1 : Int} {S : SS} {I : II} (h0 : MA S 427) : ev d 279 48 [(2, 427), (0, a1)] [] S I = gdR (0 ≤ w a1 ∧ w a1 < 5) (if w (I 436 (w a1)) = 0 then (ev d 279 78 [(2, 427), (0, a1)] [(1, 0), (2, 427)] S I) else (gdR (0 ≤ w a1 ∧ w a1 < 5) (gdR (0 ≤ w (818 + (I 436 (w a1))) ∧ w (818 + (I 436 (w a1))) < 844) (ev d 279 78 [(2, 427), (0, a1)] [(1, w (I 439 (w (818 + (I 436 (w a1)))))), (2, 427)] S I)))) := by
  refine (sx_aload_n D279_48 rfl).trans ?_
  refine (sx_aload_n D279_49 rfl).trans ?_
  refine (sx_gfR (q := (9, 18, 0, 1386)) (b := 436) D279_50 (by decide +kernel) (by decide +kernel) (by decide) (MA_o h0) (MA_g18 h0)).trans ?_
  refine (sx_iload_n D279_53 rfl).trans ?_
  refine (sx_ia D279_54 (MA_k18 h0) rfl).trans (gdR_to fun g1 => ?_)
  refine sx_i0_ne (pc' := 62) D279_55 (by decide) (by decide) ?_ ?_ rfl
  · refine (sx_lconst D279_58).trans ?_
    refine (sx_goto (pc' := 78) D279_59 (by decide) (by decide)).trans ?_
    exact rfl
  · refine (sx_aload_n D279_62 rfl).trans ?_
    refine (sx_gfR (q := (9, 21, 0, 1389)) (b := 439) D279_63 (by decide +kernel) (by decide +kernel) (by decide) (MA_o h0) (MA_g21 h0)).trans ?_
    refine (sx_sipush D279_66 (by decide)).trans ?_
    refine (sx_aload_n D279_69 rfl).trans ?_
    refine (sx_gfR (q := (9, 18, 0, 1386)) (b := 436) D279_70 (by decide +kernel) (by decide +kernel) (by decide) (MA_o h0) (MA_g18 h0)).trans ?_
    refine (sx_iload_n D279_73 rfl).trans ?_
    refine (sx_ia D279_74 (MA_k18 h0) rfl).trans (gdR_to fun g2 => ?_)
    refine (sx_iadd D279_75).trans ?_
    refine (sx_ia D279_76 (MA_k21 h0) rfl).trans (gdR_to fun g3 => ?_)
    refine (sx_i2l D279_77).trans ?_
    exact rfl
theorem E279_78 {d : Nat} {a1 s1 : Int} {S : SS} {I : II} (h0 : MA S 427) : ev (d + 1) 279 78 [(2, 427), (0, a1)] [(1, s1), (2, 427)] S I = (ev d 255 0 [(2, 427), (1, s1), uU] [] S I).bind (fun q => ev (d + 1) 279 81 [(2, 427), (0, a1)] (psh q.1 []) q.2.1 q.2.2) := by
  exact sx_virt (c := 11) (ag := [(2, 427), (1, s1)]) (r := []) (al' := [(2, 427), (1, s1), uU]) (np := 1) (nl := 3) (q := (1, 255, 1683)) D279_78 (by decide +kernel) (by decide) mP_255 mL_255 mC_255 (Nat.le_of_ble_eq_true rfl) rfl rfl (by simp [cat]) (by decide) (MA_o h0) rfl rfl
theorem E279_81 {d : Nat} {a1 : Int} {S : SS} {I : II}  : ev d 279 81 [(2, 427), (0, a1)] [] S I = some ((0, a1), S, I) := by
  refine (sx_iload_n D279_81 rfl).trans ?_
  exact sx_ireturn D279_82 (by decide +kernel)
theorem E280_0 {d : Nat} {S : SS} {I : II}  : ev d 280 0 [(2, 427), uU] [] S I = ev d 280 2 [(2, 427), (0, 0)] [] S I := by
  refine (sx_iconst D280_0).trans ?_
  refine (sx_istore_n (al' := [(2, 427), (0, 0)]) D280_1 (Nat.le_of_ble_eq_true rfl) rfl rfl).trans ?_
  exact rfl
theorem E280_2 {d : Nat} {a1 : Int} {S : SS} {I : II} (h0 : MA S 427) : ev d 280 2 [(2, 427), (0, a1)] [] S I = if w a1 < 844 then (gdR (0 ≤ w a1 ∧ w a1 < 844) (gdR (0 ≤ w a1 ∧ w a1 < 844) (ev d 280 2 [(2, 427), (0, a1 + 1)] [] S (up2 I 439 (w a1) (I 438 (w a1)))))) else (some (uU, S, I)) := by
  refine (sx_iload_n D280_2 rfl).trans ?_
  refine (sx_sipush D280_3 (by decide)).trans ?_
  refine sx_if_ge (pc' := 27) D280_6 (by decide) (by decide) ?_ ?_ rfl (w_small (by decide) (by decide))
  · refine (sx_aload_n D280_9 rfl).trans ?_
    refine (sx_gfR (q := (9, 21, 0, 1389)) (b := 439) D280_10 (by decide +kernel) (by decide +kernel) (by decide) (MA_o h0) (MA_g21 h0)).trans ?_
    refine (sx_iload_n D280_13 rfl).trans ?_
    refine (sx_aload_n D280_14 rfl).trans ?_
    refine (sx_gfR (q := (9, 20, 0, 1388)) (b := 438) D280_15 (by decide +kernel) (by decide +kernel) (by decide) (MA_o h0) (MA_g20 h0)).trans ?_
    refine (sx_iload_n D280_18 rfl).trans ?_
    refine (sx_ia D280_19 (MA_k20 h0) rfl).trans (gdR_to fun g1 => ?_)
    refine (sx_is D280_20 (MA_k21 h0)).trans (gdR_to fun g2 => ?_)
    refine (sx_iinc (al' := [(2, 427), (0, a1 + 1)]) D280_21 rfl rfl).trans ?_
    refine (sx_goto (pc' := 2) D280_24 (by decide) (by decide)).trans ?_
    exact rfl
  · exact sx_return D280_27 (by decide +kernel)
theorem E281_0 {d : Nat} {a1 : Int} {S : SS} {I : II} (h0 : MA S 427) : ev (d + 1) 281 0 [(2, 427), (0, a1), uU, uU] [] S I = (ev d 192 0 [(1, w a1), uU, (1, 1), uU, (1, 60), uU] [] S (up2 I 427 0 0)).bind (fun q => ev (d + 1) 281 14 [(2, 427), (0, a1), uU, uU] (psh q.1 []) q.2.1 q.2.2) := by
  refine (sx_aload_n D281_0 rfl).trans ?_
  refine (sx_iconst D281_1).trans ?_
  refine (sx_pfI (q := (9, 0, 0, 1368)) (j := 0) D281_2 (by decide +kernel) (by decide) (by decide) (MA_o h0) rfl).trans ?_
  refine (sx_iload_n D281_5 rfl).trans ?_
  refine (sx_i2l D281_6).trans ?_
  refine (sx_lconst D281_7).trans ?_
  refine (sx_ldc2_w (q := (60, 1613)) D281_8 (by decide +kernel)).trans ?_
  exact sx_stat (ag := [(1, w a1), (1, 1), (1, 60)]) (r := []) (al' := [(1, w a1), uU, (1, 1), uU, (1, 60), uU]) (np := 3) (nl := 6) (q := (0, 192, 1299)) D281_11 (by decide +kernel) (by decide) mP_192 mL_192 (Nat.le_of_ble_eq_true rfl) rfl rfl (by simp [cat]) rfl rfl
theorem E281_14 {d : Nat} {a1 s0 : Int} {S : SS} {I : II} (h0 : MA S 427) : ev (d + 1) 281 14 [(2, 427), (0, a1), uU, uU] [(0, s0)] S I = if w s0 = 0 then (some ((0, (-1)), S, I)) else ((ev d 244 0 [(2, 427), (2, 438), uU, uU] [] S I).bind (fun q => ev (d + 1) 281 27 [(2, 427), (0, a1), uU, uU] (psh q.1 []) q.2.1 q.2.2)) := by
  refine sx_i0_ne (pc' := 19) D281_14 (by decide) (by decide) ?_ ?_ rfl
  · refine (sx_iconst D281_17).trans ?_
    exact sx_ireturn D281_18 (by decide +kernel)
  · refine (sx_aload_n D281_19 rfl).trans ?_
    refine (sx_aload_n D281_20 rfl).trans ?_
    refine (sx_gfR (q := (9, 20, 0, 1388)) (b := 438) D281_21 (by decide +kernel) (by decide +kernel) (by decide) (MA_o h0) (MA_g20 h0)).trans ?_
    exact sx_virt (c := 11) (ag := [(2, 427), (2, 438)]) (r := []) (al' := [(2, 427), (2, 438), uU, uU]) (np := 1) (nl := 4) (q := (1, 244, 1642)) D281_24 (by decide +kernel) (by decide) mP_244 mL_244 mC_244 (Nat.le_of_ble_eq_true rfl) rfl rfl (by simp [cat]) (by decide) (MA_o h0) rfl rfl
theorem E281_27 {d : Nat} {a1 s0 : Int} {S : SS} {I : II} (h0 : MA S 427) : ev (d + 1) 281 27 [(2, 427), (0, a1), uU, uU] [(0, s0)] S I = if w s0 = 0 then (some ((0, (-2)), S, I)) else ((ev d 280 0 [(2, 427), uU] [] S I).bind (fun q => ev (d + 1) 281 37 [(2, 427), (0, a1), uU, uU] (psh q.1 []) q.2.1 q.2.2)) := by
  refine sx_i0_ne (pc' := 33) D281_27 (by decide) (by decide) ?_ ?_ rfl
  · refine (sx_bipush D281_30 (by decide)).trans ?_
    exact sx_ireturn D281_32 (by decide +kernel)
  · refine (sx_aload_n D281_33 rfl).trans ?_
    exact sx_virt (c := 11) (ag := [(2, 427)]) (r := []) (al' := [(2, 427), uU]) (np := 0) (nl := 2) (q := (1, 280, 1782)) D281_34 (by decide +kernel) (by decide) mP_280 mL_280 mC_280 (Nat.le_of_ble_eq_true rfl) rfl rfl (by simp [cat]) (by decide) (MA_o h0) rfl rfl
theorem E281_37 {d : Nat} {a1 : Int} {S : SS} {I : II}  : ev d 281 37 [(2, 427), (0, a1), uU, uU] [] S I = ev d 281 39 [(2, 427), (0, a1), (0, 0), uU] [] S I := by
  refine (sx_iconst D281_37).trans ?_
  refine (sx_istore_n (al' := [(2, 427), (0, a1), (0, 0), uU]) D281_38 (Nat.le_of_ble_eq_true rfl) rfl rfl).trans ?_
  exact rfl
theorem E281_39 {d : Nat} {a1 a2 : Int} {S : SS} {I : II} (h0 : MA S 427) : ev d 281 39 [(2, 427), (0, a1), (0, a2), uU] [] S I = if w a2 < 4 then (gdR (0 ≤ w a2 ∧ w a2 < 4) (ev d 281 39 [(2, 427), (0, a1), (0, a2 + 1), uU] [] S (up2 I 446 (w a2) 0))) else (ev d 281 59 [(2, 427), (0, a1), (0, 0), uU] [] S I) := by
  refine (sx_iload_n D281_39 rfl).trans ?_
  refine (sx_iconst D281_40).trans ?_
  refine sx_if_ge (pc' := 57) D281_41 (by decide) (by decide) ?_ ?_ rfl (w_small (by decide) (by decide))
  · refine (sx_aload_n D281_44 rfl).trans ?_
    refine (sx_gfR (q := (9, 33, 0, 1401)) (b := 446) D281_45 (by decide +kernel) (by decide +kernel) (by decide) (MA_o h0) (MA_g33 h0)).trans ?_
    refine (sx_iload_n D281_48 rfl).trans ?_
    refine (sx_iconst D281_49).trans ?_
    refine (sx_is D281_50 (MA_k33 h0)).trans (gdR_to fun g1 => ?_)
    refine (sx_iinc (al' := [(2, 427), (0, a1), (0, a2 + 1), uU]) D281_51 rfl rfl).trans ?_
    refine (sx_goto (pc' := 39) D281_54 (by decide) (by decide)).trans ?_
    exact rfl
  · refine (sx_iconst D281_57).trans ?_
    refine (sx_istore_n (al' := [(2, 427), (0, a1), (0, 0), uU]) D281_58 (Nat.le_of_ble_eq_true rfl) rfl rfl).trans ?_
    exact rfl
theorem E281_59 {d : Nat} {a1 a2 : Int} {S : SS} {I : II} (h0 : MA S 427) : ev d 281 59 [(2, 427), (0, a1), (0, a2), uU] [] S I = if w a2 < 5 then (gdR (0 ≤ w a2 ∧ w a2 < 5) (ev d 281 59 [(2, 427), (0, a1), (0, a2 + 1), uU] [] S (up2 I 447 (w a2) 0))) else (ev d 281 79 [(2, 427), (0, a1), (0, 0), uU] [] S I) := by
  refine (sx_iload_n D281_59 rfl).trans ?_
  refine (sx_iconst D281_60).trans ?_
  refine sx_if_ge (pc' := 77) D281_61 (by decide) (by decide) ?_ ?_ rfl (w_small (by decide) (by decide))
  · refine (sx_aload_n D281_64 rfl).trans ?_
    refine (sx_gfR (q := (9, 34, 0, 1402)) (b := 447) D281_65 (by decide +kernel) (by decide +kernel) (by decide) (MA_o h0) (MA_g34 h0)).trans ?_
    refine (sx_iload_n D281_68 rfl).trans ?_
    refine (sx_iconst D281_69).trans ?_
    refine (sx_is D281_70 (MA_k34 h0)).trans (gdR_to fun g1 => ?_)
    refine (sx_iinc (al' := [(2, 427), (0, a1), (0, a2 + 1), uU]) D281_71 rfl rfl).trans ?_
    refine (sx_goto (pc' := 59) D281_74 (by decide) (by decide)).trans ?_
    exact rfl
  · refine (sx_iconst D281_77).trans ?_
    refine (sx_istore_n (al' := [(2, 427), (0, a1), (0, 0), uU]) D281_78 (Nat.le_of_ble_eq_true rfl) rfl rfl).trans ?_
    exact rfl
theorem E281_79 {d : Nat} {a1 a2 : Int} {a3 : AV} {S : SS} {I : II} (h0 : MA S 427) : ev (d + 1) 281 79 [(2, 427), (0, a1), (0, a2), a3] [] S I = if w a2 < w a1 then ((ev d 247 0 [(2, 427), (2, 439), uU, uU, uU] [] S I).bind (fun q => ev (d + 1) 281 92 [(2, 427), (0, a1), (0, a2), a3] (psh q.1 []) q.2.1 q.2.2)) else (ev (d + 1) 281 131 [(2, 427), (0, a1), (0, 1), a3] [] S (up2 I 427 1 0)) := by
  refine (sx_iload_n D281_79 rfl).trans ?_
  refine (sx_iload_n D281_80 rfl).trans ?_
  refine sx_if_ge (pc' := 124) D281_81 (by decide) (by decide) ?_ ?_ rfl rfl
  · refine (sx_aload_n D281_84 rfl).trans ?_
    refine (sx_aload_n D281_85 rfl).trans ?_
    refine (sx_gfR (q := (9, 21, 0, 1389)) (b := 439) D281_86 (by decide +kernel) (by decide +kernel) (by decide) (MA_o h0) (MA_g21 h0)).trans ?_
    exact sx_virt (c := 11) (ag := [(2, 427), (2, 439)]) (r := []) (al' := [(2, 427), (2, 439), uU, uU, uU]) (np := 1) (nl := 5) (q := (1, 247, 1653)) D281_89 (by decide +kernel) (by decide) mP_247 mL_247 mC_247 (Nat.le_of_ble_eq_true rfl) rfl rfl (by simp [cat]) (by decide) (MA_o h0) rfl rfl
  · refine (sx_aload_n D281_124 rfl).trans ?_
    refine (sx_iconst D281_125).trans ?_
    refine (sx_pfI (q := (9, 1, 0, 1369)) (j := 1) D281_126 (by decide +kernel) (by decide) (by decide) (MA_o h0) rfl).trans ?_
    refine (sx_iconst D281_129).trans ?_
    refine (sx_istore_n (al' := [(2, 427), (0, a1), (0, 1), a3]) D281_130 (Nat.le_of_ble_eq_true rfl) rfl rfl).trans ?_
    exact rfl
theorem E281_92 {d : Nat} {a1 a2 s0 : Int} {a3 : AV} {S : SS} {I : II} (h0 : MA S 427) : ev d 281 92 [(2, 427), (0, a1), (0, a2), a3] [(0, s0)] S I = gdR (0 ≤ w s0 ∧ w s0 < 5) (gdR (0 ≤ w (I 436 (w s0)) ∧ w (I 436 (w s0)) < 4) (gdR (0 ≤ w (I 436 (w s0)) ∧ w (I 436 (w s0)) < 4) (gdR (0 ≤ w s0 ∧ w s0 < 5) (gdR (0 ≤ w s0 ∧ w s0 < 5) (ev d 281 79 [(2, 427), (0, a1), (0, a2 + 1), (0, s0)] [] S (up2 (up2 I 446 (w (I 436 (w s0))) ((I 446 (w (I 436 (w s0)))) + 1)) 447 (w s0) ((I 447 (w s0)) + 1))))))) := by
  refine (sx_istore_n (al' := [(2, 427), (0, a1), (0, a2), (0, s0)]) D281_92 (Nat.le_of_ble_eq_true rfl) rfl rfl).trans ?_
  refine (sx_aload_n D281_93 rfl).trans ?_
  refine (sx_gfR (q := (9, 33, 0, 1401)) (b := 446) D281_94 (by decide +kernel) (by decide +kernel) (by decide) (MA_o h0) (MA_g33 h0)).trans ?_
  refine (sx_aload_n D281_97 rfl).trans ?_
  refine (sx_gfR (q := (9, 18, 0, 1386)) (b := 436) D281_98 (by decide +kernel) (by decide +kernel) (by decide) (MA_o h0) (MA_g18 h0)).trans ?_
  refine (sx_iload_n D281_101 rfl).trans ?_
  refine (sx_ia D281_102 (MA_k18 h0) rfl).trans (gdR_to fun g1 => ?_)
  refine (sx_dup2 D281_103 (by decide) (by decide)).trans ?_
  refine (sx_ia D281_104 (MA_k33 h0) rfl).trans (gdR_to fun g2 => ?_)
  refine (sx_iconst D281_105).trans ?_
  refine (sx_iadd D281_106).trans ?_
  refine (sx_is D281_107 (MA_k33 h0)).trans (gdR_to fun g3 => ?_)
  refine (sx_aload_n D281_108 rfl).trans ?_
  refine (sx_gfR (q := (9, 34, 0, 1402)) (b := 447) D281_109 (by decide +kernel) (by decide +kernel) (by decide) (MA_o h0) (MA_g34 h0)).trans ?_
  refine (sx_iload_n D281_112 rfl).trans ?_
  refine (sx_dup2 D281_113 (by decide) (by decide)).trans ?_
  refine (sx_ia D281_114 (MA_k34 h0) (up2_cell (by omega))).trans (gdR_to fun g4 => ?_)
  refine (sx_iconst D281_115).trans ?_
  refine (sx_iadd D281_116).trans ?_
  refine (sx_is D281_117 (MA_k34 h0)).trans (gdR_to fun g5 => ?_)
  refine (sx_iinc (al' := [(2, 427), (0, a1), (0, a2 + 1), (0, s0)]) D281_118 rfl rfl).trans ?_
  refine (sx_goto (pc' := 79) D281_121 (by decide) (by decide)).trans ?_
  exact rfl
theorem E281_131 {d : Nat} {a1 a2 : Int} {a3 : AV} {S : SS} {I : II} (h0 : MA S 427) : ev (d + 1) 281 131 [(2, 427), (0, a1), (0, a2), a3] [] S I = if w a2 < 4 then (gdR (0 ≤ w a2 ∧ w a2 < 4) ((ev d 255 0 [(2, 427), (1, w (I 446 (w a2))), uU] [] S I).bind (fun q => ev (d + 1) 281 147 [(2, 427), (0, a1), (0, a2), a3] (psh q.1 []) q.2.1 q.2.2))) else (ev (d + 1) 281 155 [(2, 427), (0, a1), (0, 0), a3] [] S I) := by
  refine (sx_iload_n D281_131 rfl).trans ?_
  refine (sx_iconst D281_132).trans ?_
  refine sx_if_ge (pc' := 153) D281_133 (by decide) (by decide) ?_ ?_ rfl (w_small (by decide) (by decide))
  · refine (sx_aload_n D281_136 rfl).trans ?_
    refine (sx_aload_n D281_137 rfl).trans ?_
    refine (sx_gfR (q := (9, 33, 0, 1401)) (b := 446) D281_138 (by decide +kernel) (by decide +kernel) (by decide) (MA_o h0) (MA_g33 h0)).trans ?_
    refine (sx_iload_n D281_141 rfl).trans ?_
    refine (sx_ia D281_142 (MA_k33 h0) rfl).trans (gdR_to fun g1 => ?_)
    refine (sx_i2l D281_143).trans ?_
    exact sx_virt (c := 11) (ag := [(2, 427), (1, w (I 446 (w a2)))]) (r := []) (al' := [(2, 427), (1, w (I 446 (w a2))), uU]) (np := 1) (nl := 3) (q := (1, 255, 1683)) D281_144 (by decide +kernel) (by decide) mP_255 mL_255 mC_255 (Nat.le_of_ble_eq_true rfl) rfl rfl (by simp [cat]) (by decide) (MA_o h0) rfl rfl
  · refine (sx_iconst D281_153).trans ?_
    refine (sx_istore_n (al' := [(2, 427), (0, a1), (0, 0), a3]) D281_154 (Nat.le_of_ble_eq_true rfl) rfl rfl).trans ?_
    exact rfl
theorem E281_147 {d : Nat} {a1 a2 : Int} {a3 : AV} {S : SS} {I : II}  : ev d 281 147 [(2, 427), (0, a1), (0, a2), a3] [] S I = ev d 281 131 [(2, 427), (0, a1), (0, a2 + 1), a3] [] S I := by
  refine (sx_iinc (al' := [(2, 427), (0, a1), (0, a2 + 1), a3]) D281_147 rfl rfl).trans ?_
  refine (sx_goto (pc' := 131) D281_150 (by decide) (by decide)).trans ?_
  exact rfl
theorem E281_155 {d : Nat} {a1 a2 : Int} {a3 : AV} {S : SS} {I : II} (h0 : MA S 427) : ev (d + 1) 281 155 [(2, 427), (0, a1), (0, a2), a3] [] S I = if w a2 < 5 then (gdR (0 ≤ w a2 ∧ w a2 < 5) ((ev d 255 0 [(2, 427), (1, w (I 447 (w a2))), uU] [] S I).bind (fun q => ev (d + 1) 281 171 [(2, 427), (0, a1), (0, a2), a3] (psh q.1 []) q.2.1 q.2.2))) else (some ((0, I 446 0), S, I)) := by
  refine (sx_iload_n D281_155 rfl).trans ?_
  refine (sx_iconst D281_156).trans ?_
  refine sx_if_ge (pc' := 177) D281_157 (by decide) (by decide) ?_ ?_ rfl (w_small (by decide) (by decide))
  · refine (sx_aload_n D281_160 rfl).trans ?_
    refine (sx_aload_n D281_161 rfl).trans ?_
    refine (sx_gfR (q := (9, 34, 0, 1402)) (b := 447) D281_162 (by decide +kernel) (by decide +kernel) (by decide) (MA_o h0) (MA_g34 h0)).trans ?_
    refine (sx_iload_n D281_165 rfl).trans ?_
    refine (sx_ia D281_166 (MA_k34 h0) rfl).trans (gdR_to fun g1 => ?_)
    refine (sx_i2l D281_167).trans ?_
    exact sx_virt (c := 11) (ag := [(2, 427), (1, w (I 447 (w a2)))]) (r := []) (al' := [(2, 427), (1, w (I 447 (w a2))), uU]) (np := 1) (nl := 3) (q := (1, 255, 1683)) D281_168 (by decide +kernel) (by decide) mP_255 mL_255 mC_255 (Nat.le_of_ble_eq_true rfl) rfl rfl (by simp [cat]) (by decide) (MA_o h0) rfl rfl
  · refine (sx_aload_n D281_177 rfl).trans ?_
    refine (sx_gfR (q := (9, 33, 0, 1401)) (b := 446) D281_178 (by decide +kernel) (by decide +kernel) (by decide) (MA_o h0) (MA_g33 h0)).trans ?_
    refine (sx_iconst D281_181).trans ?_
    refine (sx_iaK (j := 0) D281_182 (MA_k33 h0) (w_small (by decide) (by decide)) (by decide) (by decide) rfl).trans ?_
    exact sx_ireturn D281_183 (by decide +kernel)
theorem E281_171 {d : Nat} {a1 a2 : Int} {a3 : AV} {S : SS} {I : II}  : ev d 281 171 [(2, 427), (0, a1), (0, a2), a3] [] S I = ev d 281 155 [(2, 427), (0, a1), (0, a2 + 1), a3] [] S I := by
  refine (sx_iinc (al' := [(2, 427), (0, a1), (0, a2 + 1), a3]) D281_171 rfl rfl).trans ?_
  refine (sx_goto (pc' := 155) D281_174 (by decide) (by decide)).trans ?_
  exact rfl
theorem E282_0 {d : Nat} {a1 a2 : Int} {S : SS} {I : II} (h0 : MA S 427) : ev (d + 1) 282 0 [(2, 427), (0, a1), (0, a2), uU, uU, uU] [] S I = (ev d 210 0 [(2, 427), (0, a1)] [] S (up2 I 427 0 0)).bind (fun q => ev (d + 1) 282 10 [(2, 427), (0, a1), (0, a2), uU, uU, uU] (psh q.1 []) q.2.1 q.2.2) := by
  refine (sx_aload_n D282_0 rfl).trans ?_
  refine (sx_iconst D282_1).trans ?_
  refine (sx_pfI (q := (9, 0, 0, 1368)) (j := 0) D282_2 (by decide +kernel) (by decide) (by decide) (MA_o h0) rfl).trans ?_
  refine (sx_aload_n D282_5 rfl).trans ?_
  refine (sx_iload_n D282_6 rfl).trans ?_
  exact sx_virt (c := 11) (ag := [(2, 427), (0, a1)]) (r := []) (al' := [(2, 427), (0, a1)]) (np := 1) (nl := 2) (q := (1, 210, 1517)) D282_7 (by decide +kernel) (by decide) mP_210 mL_210 mC_210 (Nat.le_of_ble_eq_true rfl) rfl rfl (by simp [cat]) (by decide) (MA_o h0) rfl rfl
theorem E282_10 {d : Nat} {a1 a2 s0 : Int} {S : SS} {I : II}  : ev (d + 1) 282 10 [(2, 427), (0, a1), (0, a2), uU, uU, uU] [(0, s0)] S I = if w s0 = 0 then (ev (d + 1) 282 25 [(2, 427), (0, a1), (0, a2), uU, uU, uU] [] S I) else ((ev d 192 0 [(1, w a2), uU, (1, 0), uU, (1, 15), uU] [] S I).bind (fun q => ev (d + 1) 282 22 [(2, 427), (0, a1), (0, a2), uU, uU, uU] (psh q.1 []) q.2.1 q.2.2)) := by
  refine sx_i0_eq (pc' := 25) D282_10 (by decide) (by decide) ?_ ?_ rfl
  · exact rfl
  · refine (sx_iload_n D282_13 rfl).trans ?_
    refine (sx_i2l D282_14).trans ?_
    refine (sx_lconst D282_15).trans ?_
    refine (sx_ldc2_w (q := (15, 1707)) D282_16 (by decide +kernel)).trans ?_
    exact sx_stat (ag := [(1, w a2), (1, 0), (1, 15)]) (r := []) (al' := [(1, w a2), uU, (1, 0), uU, (1, 15), uU]) (np := 3) (nl := 6) (q := (0, 192, 1299)) D282_19 (by decide +kernel) (by decide) mP_192 mL_192 (Nat.le_of_ble_eq_true rfl) rfl rfl (by simp [cat]) rfl rfl
theorem E282_22 {d : Nat} {a1 a2 s0 : Int} {S : SS} {I : II} (h0 : MA S 427) : ev (d + 1) 282 22 [(2, 427), (0, a1), (0, a2), uU, uU, uU] [(0, s0)] S I = if w s0 = 0 then (ev (d + 1) 282 25 [(2, 427), (0, a1), (0, a2), uU, uU, uU] [] S I) else ((ev d 221 0 [(2, 438), (0, a1), (0, a2), uU] [] S I).bind (fun q => ev (d + 1) 282 36 [(2, 427), (0, a1), (0, a2), uU, uU, uU] (psh q.1 []) q.2.1 q.2.2)) := by
  refine sx_i0_ne (pc' := 27) D282_22 (by decide) (by decide) ?_ ?_ rfl
  · exact rfl
  · refine (sx_aload_n D282_27 rfl).trans ?_
    refine (sx_gfR (q := (9, 20, 0, 1388)) (b := 438) D282_28 (by decide +kernel) (by decide +kernel) (by decide) (MA_o h0) (MA_g20 h0)).trans ?_
    refine (sx_iload_n D282_31 rfl).trans ?_
    refine (sx_iload_n D282_32 rfl).trans ?_
    exact sx_stat (ag := [(2, 438), (0, a1), (0, a2)]) (r := []) (al' := [(2, 438), (0, a1), (0, a2), uU]) (np := 3) (nl := 4) (q := (0, 221, 1563)) D282_33 (by decide +kernel) (by decide) mP_221 mL_221 (Nat.le_of_ble_eq_true rfl) rfl rfl (by simp [cat]) rfl rfl
theorem E282_25 {d : Nat} {a1 a2 : Int} {S : SS} {I : II}  : ev d 282 25 [(2, 427), (0, a1), (0, a2), uU, uU, uU] [] S I = some ((0, (-1)), S, I) := by
  refine (sx_iconst D282_25).trans ?_
  exact sx_ireturn D282_26 (by decide +kernel)
theorem E282_36 {d : Nat} {a1 a2 s0 : Int} {S : SS} {I : II} (h0 : MA S 427) : ev (d + 1) 282 36 [(2, 427), (0, a1), (0, a2), uU, uU, uU] [(0, s0)] S I = if w s0 < 0 then ((ev d 223 0 [(2, 438), (0, a1), (0, a2), uU, uU] [] S I).bind (fun q => ev (d + 1) 282 48 [(2, 427), (0, a1), (0, a2), uU, uU, uU] (psh q.1 []) q.2.1 q.2.2)) else (ev (d + 1) 282 66 [(2, 427), (0, a1), (0, a2), uU, uU, uU] [] S I) := by
  refine sx_i0_ge (pc' := 66) D282_36 (by decide) (by decide) ?_ ?_ rfl
  · refine (sx_aload_n D282_39 rfl).trans ?_
    refine (sx_gfR (q := (9, 20, 0, 1388)) (b := 438) D282_40 (by decide +kernel) (by decide +kernel) (by decide) (MA_o h0) (MA_g20 h0)).trans ?_
    refine (sx_iload_n D282_43 rfl).trans ?_
    refine (sx_iload_n D282_44 rfl).trans ?_
    exact sx_stat (ag := [(2, 438), (0, a1), (0, a2)]) (r := []) (al' := [(2, 438), (0, a1), (0, a2), uU, uU]) (np := 3) (nl := 5) (q := (0, 223, 1569)) D282_45 (by decide +kernel) (by decide) mP_223 mL_223 (Nat.le_of_ble_eq_true rfl) rfl rfl (by simp [cat]) rfl rfl
  · exact rfl
theorem E282_48 {d : Nat} {a1 a2 s0 : Int} {S : SS} {I : II} (h0 : MA S 427) : ev (d + 1) 282 48 [(2, 427), (0, a1), (0, a2), uU, uU, uU] [(0, s0)] S I = if w s0 < 0 then ((ev d 226 0 [(2, 438), (0, a1), (0, a2), uU] [] S I).bind (fun q => ev (d + 1) 282 60 [(2, 427), (0, a1), (0, a2), uU, uU, uU] (psh q.1 []) q.2.1 q.2.2)) else (ev (d + 1) 282 66 [(2, 427), (0, a1), (0, a2), uU, uU, uU] [] S I) := by
  refine sx_i0_ge (pc' := 66) D282_48 (by decide) (by decide) ?_ ?_ rfl
  · refine (sx_aload_n D282_51 rfl).trans ?_
    refine (sx_gfR (q := (9, 20, 0, 1388)) (b := 438) D282_52 (by decide +kernel) (by decide +kernel) (by decide) (MA_o h0) (MA_g20 h0)).trans ?_
    refine (sx_iload_n D282_55 rfl).trans ?_
    refine (sx_iload_n D282_56 rfl).trans ?_
    exact sx_stat (ag := [(2, 438), (0, a1), (0, a2)]) (r := []) (al' := [(2, 438), (0, a1), (0, a2), uU]) (np := 3) (nl := 4) (q := (0, 226, 1578)) D282_57 (by decide +kernel) (by decide) mP_226 mL_226 (Nat.le_of_ble_eq_true rfl) rfl rfl (by simp [cat]) rfl rfl
  · exact rfl
theorem E282_60 {d : Nat} {a1 a2 s0 : Int} {S : SS} {I : II}  : ev d 282 60 [(2, 427), (0, a1), (0, a2), uU, uU, uU] [(0, s0)] S I = if w s0 < 0 then (some ((0, (-3)), S, I)) else (ev d 282 66 [(2, 427), (0, a1), (0, a2), uU, uU, uU] [] S I) := by
  refine sx_i0_ge (pc' := 66) D282_60 (by decide) (by decide) ?_ ?_ rfl
  · refine (sx_bipush D282_63 (by decide)).trans ?_
    exact sx_ireturn D282_65 (by decide +kernel)
  · exact rfl
theorem E282_66 {d : Nat} {a1 a2 : Int} {S : SS} {I : II} (h0 : MA S 427) : ev (d + 1) 282 66 [(2, 427), (0, a1), (0, a2), uU, uU, uU] [] S I = (ev d 280 0 [(2, 427), uU] [] S I).bind (fun q => ev (d + 1) 282 70 [(2, 427), (0, a1), (0, a2), uU, uU, uU] (psh q.1 []) q.2.1 q.2.2) := by
  refine (sx_aload_n D282_66 rfl).trans ?_
  exact sx_virt (c := 11) (ag := [(2, 427)]) (r := []) (al' := [(2, 427), uU]) (np := 0) (nl := 2) (q := (1, 280, 1782)) D282_67 (by decide +kernel) (by decide) mP_280 mL_280 mC_280 (Nat.le_of_ble_eq_true rfl) rfl rfl (by simp [cat]) (by decide) (MA_o h0) rfl rfl
theorem E282_70 {d : Nat} {a1 a2 : Int} {S : SS} {I : II}  : ev d 282 70 [(2, 427), (0, a1), (0, a2), uU, uU, uU] [] S I = ev d 282 72 [(2, 427), (0, a1), (0, a2), (0, 1), uU, uU] [] S I := by
  refine (sx_iconst D282_70).trans ?_
  refine (sx_istore_n (al' := [(2, 427), (0, a1), (0, a2), (0, 1), uU, uU]) D282_71 (Nat.le_of_ble_eq_true rfl) rfl rfl).trans ?_
  exact rfl
theorem E282_72 {d : Nat} {a1 a2 a3 : Int} {a4 a5 : AV} {S : SS} {I : II} (h0 : MA S 427) : ev (d + 1) 282 72 [(2, 427), (0, a1), (0, a2), (0, a3), a4, a5] [] S I = if 99 < w a3 then (some ((0, (-2)), S, I)) else ((ev d 237 0 [(2, 427), (2, 439), uU, uU] [] S I).bind (fun q => ev (d + 1) 282 86 [(2, 427), (0, a1), (0, a2), (0, a3), a4, a5] (psh q.1 []) q.2.1 q.2.2)) := by
  refine (sx_iload_n D282_72 rfl).trans ?_
  refine (sx_bipush D282_73 (by decide)).trans ?_
  refine sx_if_gt (pc' := 180) D282_75 (by decide) (by decide) ?_ ?_ rfl (w_small (by decide) (by decide))
  · refine (sx_bipush D282_180 (by decide)).trans ?_
    exact sx_ireturn D282_182 (by decide +kernel)
  · refine (sx_aload_n D282_78 rfl).trans ?_
    refine (sx_aload_n D282_79 rfl).trans ?_
    refine (sx_gfR (q := (9, 21, 0, 1389)) (b := 439) D282_80 (by decide +kernel) (by decide +kernel) (by decide) (MA_o h0) (MA_g21 h0)).trans ?_
    exact sx_virt (c := 11) (ag := [(2, 427), (2, 439)]) (r := []) (al' := [(2, 427), (2, 439), uU, uU]) (np := 1) (nl := 4) (q := (1, 237, 1618)) D282_83 (by decide +kernel) (by decide) mP_237 mL_237 mC_237 (Nat.le_of_ble_eq_true rfl) rfl rfl (by simp [cat]) (by decide) (MA_o h0) rfl rfl
theorem E282_86 {d : Nat} {a1 a2 a3 : Int} {a4 a5 : AV} {S : SS} {I : II} (h0 : MA S 427) : ev (d + 1) 282 86 [(2, 427), (0, a1), (0, a2), (0, a3), a4, a5] [] S I = (ev d 212 0 [(2, 439), (0, a1), (0, 6)] [] S I).bind (fun q => ev (d + 1) 282 96 [(2, 427), (0, a1), (0, a2), (0, a3), a4, a5] (psh q.1 []) q.2.1 q.2.2) := by
  refine (sx_aload_n D282_86 rfl).trans ?_
  refine (sx_gfR (q := (9, 21, 0, 1389)) (b := 439) D282_87 (by decide +kernel) (by decide +kernel) (by decide) (MA_o h0) (MA_g21 h0)).trans ?_
  refine (sx_iload_n D282_90 rfl).trans ?_
  refine (sx_bipush D282_91 (by decide)).trans ?_
  exact sx_stat (ag := [(2, 439), (0, a1), (0, 6)]) (r := []) (al' := [(2, 439), (0, a1), (0, 6)]) (np := 3) (nl := 3) (q := (0, 212, 1526)) D282_93 (by decide +kernel) (by decide) mP_212 mL_212 (Nat.le_of_ble_eq_true rfl) rfl rfl (by simp [cat]) rfl rfl
theorem E282_96 {d : Nat} {a1 a2 a3 s0 : Int} {a4 a5 : AV} {S : SS} {I : II}  : ev d 282 96 [(2, 427), (0, a1), (0, a2), (0, a3), a4, a5] [(0, s0)] S I = ev d 282 98 [(2, 427), (0, a1), (0, a2), (0, a3), (0, s0), a5] [] S I := by
  refine (sx_istore (al' := [(2, 427), (0, a1), (0, a2), (0, a3), (0, s0), a5]) D282_96 (Nat.le_of_ble_eq_true rfl) rfl rfl).trans ?_
  exact rfl
theorem E282_98 {d : Nat} {a1 a2 a3 a4 : Int} {a5 : AV} {S : SS} {I : II} (h0 : MA S 427) : ev (d + 1) 282 98 [(2, 427), (0, a1), (0, a2), (0, a3), (0, a4), a5] [] S I = (ev d 212 0 [(2, 439), (0, a1), (0, 5)] [] S I).bind (fun q => ev (d + 1) 282 109 [(2, 427), (0, a1), (0, a2), (0, a3), (0, a4), a5] (psh q.1 [(0, a4)]) q.2.1 q.2.2) := by
  refine (sx_iload D282_98 rfl).trans ?_
  refine (sx_aload_n D282_100 rfl).trans ?_
  refine (sx_gfR (q := (9, 21, 0, 1389)) (b := 439) D282_101 (by decide +kernel) (by decide +kernel) (by decide) (MA_o h0) (MA_g21 h0)).trans ?_
  refine (sx_iload_n D282_104 rfl).trans ?_
  refine (sx_iconst D282_105).trans ?_
  exact sx_stat (ag := [(2, 439), (0, a1), (0, 5)]) (r := [(0, a4)]) (al' := [(2, 439), (0, a1), (0, 5)]) (np := 3) (nl := 3) (q := (0, 212, 1526)) D282_106 (by decide +kernel) (by decide) mP_212 mL_212 (Nat.le_of_ble_eq_true rfl) rfl rfl (by simp [cat]) rfl rfl
theorem E282_109 {d : Nat} {a1 a2 a3 a4 s0 s1 : Int} {a5 : AV} {S : SS} {I : II}  : ev (d + 1) 282 109 [(2, 427), (0, a1), (0, a2), (0, a3), (0, a4), a5] [(0, s1), (0, s0)] S I = if w s0 < w s1 then ((ev d 229 0 [(0, a1), (0, a4)] [] S I).bind (fun q => ev (d + 1) 282 118 [(2, 427), (0, a1), (0, a2), (0, a3), (0, a4), a5] (psh q.1 []) q.2.1 q.2.2)) else (ev (d + 1) 282 72 [(2, 427), (0, a1), (0, a2), (0, a3 + 1), (0, a4), a5] [] S I) := by
  refine sx_if_ge (pc' := 174) D282_109 (by decide) (by decide) ?_ ?_ rfl rfl
  · refine (sx_iload_n D282_112 rfl).trans ?_
    refine (sx_iload D282_113 rfl).trans ?_
    exact sx_stat (ag := [(0, a1), (0, a4)]) (r := []) (al' := [(0, a1), (0, a4)]) (np := 2) (nl := 2) (q := (0, 229, 1587)) D282_115 (by decide +kernel) (by decide) mP_229 mL_229 (Nat.le_of_ble_eq_true rfl) rfl rfl (by simp [cat]) rfl rfl
  · refine (sx_iinc (al' := [(2, 427), (0, a1), (0, a2), (0, a3 + 1), (0, a4), a5]) D282_174 rfl rfl).trans ?_
    refine (sx_goto (pc' := 72) D282_177 (by decide) (by decide)).trans ?_
    exact rfl
theorem E282_118 {d : Nat} {a1 a2 a3 a4 s0 : Int} {a5 : AV} {S : SS} {I : II} (h0 : MA S 427) : ev (d + 1) 282 118 [(2, 427), (0, a1), (0, a2), (0, a3), (0, a4), a5] [(0, s0)] S I = gdR (0 ≤ w (s0 + 0) ∧ w (s0 + 0) < 844) (if w (I 439 (w (s0 + 0))) = w a2 then (gdR (0 ≤ w (s0 + 1) ∧ w (s0 + 1) < 844) ((ev d 255 0 [(2, 427), (1, w (I 439 (w (s0 + 1)))), uU] [] S (up2 I 427 1 0)).bind (fun q => ev (d + 1) 282 152 [(2, 427), (0, a1), (0, a2), (0, a3), (0, a4), (0, s0)] (psh q.1 []) q.2.1 q.2.2))) else (ev (d + 1) 282 98 [(2, 427), (0, a1), (0, a2), (0, a3), (0, a4 + 1), (0, s0)] [] S I)) := by
  refine (sx_istore (al' := [(2, 427), (0, a1), (0, a2), (0, a3), (0, a4), (0, s0)]) D282_118 (Nat.le_of_ble_eq_true rfl) rfl rfl).trans ?_
  refine (sx_aload_n D282_120 rfl).trans ?_
  refine (sx_gfR (q := (9, 21, 0, 1389)) (b := 439) D282_121 (by decide +kernel) (by decide +kernel) (by decide) (MA_o h0) (MA_g21 h0)).trans ?_
  refine (sx_iload D282_124 rfl).trans ?_
  refine (sx_iconst D282_126).trans ?_
  refine (sx_iadd D282_127).trans ?_
  refine (sx_ia D282_128 (MA_k21 h0) rfl).trans (gdR_to fun g1 => ?_)
  refine (sx_iload_n D282_129 rfl).trans ?_
  refine sx_if_ne (pc' := 168) D282_130 (by decide) (by decide) ?_ ?_ rfl rfl
  · refine (sx_aload_n D282_133 rfl).trans ?_
    refine (sx_iconst D282_134).trans ?_
    refine (sx_pfI (q := (9, 1, 0, 1369)) (j := 1) D282_135 (by decide +kernel) (by decide) (by decide) (MA_o h0) rfl).trans ?_
    refine (sx_aload_n D282_138 rfl).trans ?_
    refine (sx_aload_n D282_139 rfl).trans ?_
    refine (sx_gfR (q := (9, 21, 0, 1389)) (b := 439) D282_140 (by decide +kernel) (by decide +kernel) (by decide) (MA_o h0) (MA_g21 h0)).trans ?_
    refine (sx_iload D282_143 rfl).trans ?_
    refine (sx_iconst D282_145).trans ?_
    refine (sx_iadd D282_146).trans ?_
    refine (sx_ia D282_147 (MA_k21 h0) (up2_cell (by omega))).trans (gdR_to fun g2 => ?_)
    refine (sx_i2l D282_148).trans ?_
    exact sx_virt (c := 11) (ag := [(2, 427), (1, w (I 439 (w (s0 + 1))))]) (r := []) (al' := [(2, 427), (1, w (I 439 (w (s0 + 1)))), uU]) (np := 1) (nl := 3) (q := (1, 255, 1683)) D282_149 (by decide +kernel) (by decide) mP_255 mL_255 mC_255 (Nat.le_of_ble_eq_true rfl) rfl rfl (by simp [cat]) (by decide) (MA_o h0) rfl rfl
  · refine (sx_iinc (al' := [(2, 427), (0, a1), (0, a2), (0, a3), (0, a4 + 1), (0, s0)]) D282_168 rfl rfl).trans ?_
    refine (sx_goto (pc' := 98) D282_171 (by decide) (by decide)).trans ?_
    exact rfl
theorem E282_152 {d : Nat} {a1 a2 a3 a4 a5 : Int} {S : SS} {I : II} (h0 : MA S 427) : ev (d + 1) 282 152 [(2, 427), (0, a1), (0, a2), (0, a3), (0, a4), (0, a5)] [] S I = gdR (0 ≤ w (a5 + 2) ∧ w (a5 + 2) < 844) ((ev d 255 0 [(2, 427), (1, w (I 439 (w (a5 + 2)))), uU] [] S I).bind (fun q => ev (d + 1) 282 166 [(2, 427), (0, a1), (0, a2), (0, a3), (0, a4), (0, a5)] (psh q.1 []) q.2.1 q.2.2)) := by
  refine (sx_aload_n D282_152 rfl).trans ?_
  refine (sx_aload_n D282_153 rfl).trans ?_
  refine (sx_gfR (q := (9, 21, 0, 1389)) (b := 439) D282_154 (by decide +kernel) (by decide +kernel) (by decide) (MA_o h0) (MA_g21 h0)).trans ?_
  refine (sx_iload D282_157 rfl).trans ?_
  refine (sx_iconst D282_159).trans ?_
  refine (sx_iadd D282_160).trans ?_
  refine (sx_ia D282_161 (MA_k21 h0) rfl).trans (gdR_to fun g1 => ?_)
  refine (sx_i2l D282_162).trans ?_
  exact sx_virt (c := 11) (ag := [(2, 427), (1, w (I 439 (w (a5 + 2))))]) (r := []) (al' := [(2, 427), (1, w (I 439 (w (a5 + 2)))), uU]) (np := 1) (nl := 3) (q := (1, 255, 1683)) D282_163 (by decide +kernel) (by decide) mP_255 mL_255 mC_255 (Nat.le_of_ble_eq_true rfl) rfl rfl (by simp [cat]) (by decide) (MA_o h0) rfl rfl
theorem E282_166 {d : Nat} {a1 a2 a3 a4 a5 : Int} {S : SS} {I : II}  : ev d 282 166 [(2, 427), (0, a1), (0, a2), (0, a3), (0, a4), (0, a5)] [] S I = some ((0, a3), S, I) := by
  refine (sx_iload_n D282_166 rfl).trans ?_
  exact sx_ireturn D282_167 (by decide +kernel)
theorem E283_0 {d : Nat} {S : SS} {I : II} (h0 : MA S 427) : ev (d + 1) 283 0 [(2, 427), uU] [] S I = (ev d 280 0 [(2, 427), uU] [] S (up2 I 427 0 0)).bind (fun q => ev (d + 1) 283 9 [(2, 427), uU] (psh q.1 []) q.2.1 q.2.2) := by
  refine (sx_aload_n D283_0 rfl).trans ?_
  refine (sx_iconst D283_1).trans ?_
  refine (sx_pfI (q := (9, 0, 0, 1368)) (j := 0) D283_2 (by decide +kernel) (by decide) (by decide) (MA_o h0) rfl).trans ?_
  refine (sx_aload_n D283_5 rfl).trans ?_
  exact sx_virt (c := 11) (ag := [(2, 427)]) (r := []) (al' := [(2, 427), uU]) (np := 0) (nl := 2) (q := (1, 280, 1782)) D283_6 (by decide +kernel) (by decide) mP_280 mL_280 mC_280 (Nat.le_of_ble_eq_true rfl) rfl rfl (by simp [cat]) (by decide) (MA_o h0) rfl rfl
theorem E283_9 {d : Nat} {S : SS} {I : II} (h0 : MA S 427) : ev (d + 1) 283 9 [(2, 427), uU] [] S I = (ev d 284 0 [(2, 427), (2, 439), uU] [] S I).bind (fun q => ev (d + 1) 283 17 [(2, 427), uU] (psh q.1 []) q.2.1 q.2.2) := by
  refine (sx_aload_n D283_9 rfl).trans ?_
  refine (sx_aload_n D283_10 rfl).trans ?_
  refine (sx_gfR (q := (9, 21, 0, 1389)) (b := 439) D283_11 (by decide +kernel) (by decide +kernel) (by decide) (MA_o h0) (MA_g21 h0)).trans ?_
  exact sx_virt (c := 11) (ag := [(2, 427), (2, 439)]) (r := []) (al' := [(2, 427), (2, 439), uU]) (np := 1) (nl := 3) (q := (1, 284, 1798)) D283_14 (by decide +kernel) (by decide) mP_284 mL_284 mC_284 (Nat.le_of_ble_eq_true rfl) rfl rfl (by simp [cat]) (by decide) (MA_o h0) rfl rfl
theorem E283_17 {d : Nat} {s0 : Int} {S : SS} {I : II} (h0 : MA S 427) : ev (d + 1) 283 17 [(2, 427), uU] [(0, s0)] S I = if w s0 < 0 then (some ((0, (-2)), S, I)) else ((ev d 255 0 [(2, 427), (1, w (I 427 35)), uU] [] S (up2 I 427 1 0)).bind (fun q => ev (d + 1) 283 39 [(2, 427), (0, s0)] (psh q.1 []) q.2.1 q.2.2)) := by
  refine (sx_istore_n (al' := [(2, 427), (0, s0)]) D283_17 (Nat.le_of_ble_eq_true rfl) rfl rfl).trans ?_
  refine (sx_iload_n D283_18 rfl).trans ?_
  refine sx_i0_ge (pc' := 25) D283_19 (by decide) (by decide) ?_ ?_ rfl
  · refine (sx_bipush D283_22 (by decide)).trans ?_
    exact sx_ireturn D283_24 (by decide +kernel)
  · refine (sx_aload_n D283_25 rfl).trans ?_
    refine (sx_iconst D283_26).trans ?_
    refine (sx_pfI (q := (9, 1, 0, 1369)) (j := 1) D283_27 (by decide +kernel) (by decide) (by decide) (MA_o h0) rfl).trans ?_
    refine (sx_aload_n D283_30 rfl).trans ?_
    refine (sx_aload_n D283_31 rfl).trans ?_
    refine (sx_gfI (q := (9, 35, 0, 1403)) (j := 35) D283_32 (by decide +kernel) (by decide +kernel) (by decide) (MA_o h0) rfl (up2_slot (by decide))).trans ?_
    refine (sx_i2l D283_35).trans ?_
    exact sx_virt (c := 11) (ag := [(2, 427), (1, w (I 427 35))]) (r := []) (al' := [(2, 427), (1, w (I 427 35)), uU]) (np := 1) (nl := 3) (q := (1, 255, 1683)) D283_36 (by decide +kernel) (by decide) mP_255 mL_255 mC_255 (Nat.le_of_ble_eq_true rfl) rfl rfl (by simp [cat]) (by decide) (MA_o h0) rfl rfl
theorem E283_39 {d : Nat} {a1 : Int} {S : SS} {I : II} (h0 : MA S 427) : ev (d + 1) 283 39 [(2, 427), (0, a1)] [] S I = (ev d 214 0 [(2, 439), uU, uU] [] S I).bind (fun q => ev (d + 1) 283 47 [(2, 427), (0, a1)] (psh q.1 [(2, 427)]) q.2.1 q.2.2) := by
  refine (sx_aload_n D283_39 rfl).trans ?_
  refine (sx_aload_n D283_40 rfl).trans ?_
  refine (sx_gfR (q := (9, 21, 0, 1389)) (b := 439) D283_41 (by decide +kernel) (by decide +kernel) (by decide) (MA_o h0) (MA_g21 h0)).trans ?_
  exact sx_stat (ag := [(2, 439)]) (r := [(2, 427)]) (al' := [(2, 439), uU, uU]) (np := 1) (nl := 3) (q := (0, 214, 1535)) D283_44 (by decide +kernel) (by decide) mP_214 mL_214 (Nat.le_of_ble_eq_true rfl) rfl rfl (by simp [cat]) rfl rfl
theorem E283_47 {d : Nat} {a1 s1 : Int} {S : SS} {I : II} (h0 : MA S 427) : ev (d + 1) 283 47 [(2, 427), (0, a1)] [(0, s1), (2, 427)] S I = (ev d 255 0 [(2, 427), (1, w s1), uU] [] S I).bind (fun q => ev (d + 1) 283 51 [(2, 427), (0, a1)] (psh q.1 []) q.2.1 q.2.2) := by
  refine (sx_i2l D283_47).trans ?_
  exact sx_virt (c := 11) (ag := [(2, 427), (1, w s1)]) (r := []) (al' := [(2, 427), (1, w s1), uU]) (np := 1) (nl := 3) (q := (1, 255, 1683)) D283_48 (by decide +kernel) (by decide) mP_255 mL_255 mC_255 (Nat.le_of_ble_eq_true rfl) rfl rfl (by simp [cat]) (by decide) (MA_o h0) rfl rfl
theorem E283_51 {d : Nat} {a1 : Int} {S : SS} {I : II}  : ev d 283 51 [(2, 427), (0, a1)] [] S I = some ((0, a1), S, I) := by
  refine (sx_iload_n D283_51 rfl).trans ?_
  exact sx_ireturn D283_52 (by decide +kernel)
theorem E284_0 {d : Nat} {a1 : Int} {S : SS} {I : II} (h0 : MA S 427) : ev d 284 0 [(2, 427), (2, a1), uU] [] S I = ev d 284 7 [(2, 427), (2, a1), (0, 0)] [] S (up2 I 427 35 0) := by
  refine (sx_aload_n D284_0 rfl).trans ?_
  refine (sx_iconst D284_1).trans ?_
  refine (sx_pfI (q := (9, 35, 0, 1403)) (j := 35) D284_2 (by decide +kernel) (by decide) (by decide) (MA_o h0) rfl).trans ?_
  refine (sx_iconst D284_5).trans ?_
  refine (sx_istore_n (al' := [(2, 427), (2, a1), (0, 0)]) D284_6 (Nat.le_of_ble_eq_true rfl) rfl rfl).trans ?_
  exact rfl
theorem E284_7 {d : Nat} {a1 a2 : Int} {S : SS} {I : II} (h0 : MA S 427) : ev (d + 1) 284 7 [(2, 427), (2, a1), (0, a2)] [] S I = if 99 < w a2 then (some ((0, (-2)), S, I)) else ((ev d 285 0 [(2, 427), (2, a1), uU, uU] [] S I).bind (fun q => ev (d + 1) 284 18 [(2, 427), (2, a1), (0, a2)] (psh q.1 []) q.2.1 q.2.2)) := by
  refine (sx_iload_n D284_7 rfl).trans ?_
  refine (sx_bipush D284_8 (by decide)).trans ?_
  refine sx_if_gt (pc' := 45) D284_10 (by decide) (by decide) ?_ ?_ rfl (w_small (by decide) (by decide))
  · refine (sx_bipush D284_45 (by decide)).trans ?_
    exact sx_ireturn D284_47 (by decide +kernel)
  · refine (sx_aload_n D284_13 rfl).trans ?_
    refine (sx_aload_n D284_14 rfl).trans ?_
    exact sx_virt (c := 11) (ag := [(2, 427), (2, a1)]) (r := []) (al' := [(2, 427), (2, a1), uU, uU]) (np := 1) (nl := 4) (q := (1, 285, 1802)) D284_15 (by decide +kernel) (by decide) mP_285 mL_285 mC_285 (Nat.le_of_ble_eq_true rfl) rfl rfl (by simp [cat]) (by decide) (MA_o h0) rfl rfl
theorem E284_18 {d : Nat} {a1 a2 s0 : Int} {S : SS} {I : II} (h0 : MA S 427) : ev (d + 1) 284 18 [(2, 427), (2, a1), (0, a2)] [(0, s0)] S I = if w s0 = 0 then ((ev d 286 0 [(2, 427), (2, a1), uU] [] S I).bind (fun q => ev (d + 1) 284 28 [(2, 427), (2, a1), (0, a2)] (psh q.1 []) q.2.1 q.2.2)) else (some ((0, a2), S, I)) := by
  refine sx_i0_eq (pc' := 23) D284_18 (by decide) (by decide) ?_ ?_ rfl
  · refine (sx_aload_n D284_23 rfl).trans ?_
    refine (sx_aload_n D284_24 rfl).trans ?_
    exact sx_virt (c := 11) (ag := [(2, 427), (2, a1)]) (r := []) (al' := [(2, 427), (2, a1), uU]) (np := 1) (nl := 3) (q := (1, 286, 1806)) D284_25 (by decide +kernel) (by decide) mP_286 mL_286 mC_286 (Nat.le_of_ble_eq_true rfl) rfl rfl (by simp [cat]) (by decide) (MA_o h0) rfl rfl
  · refine (sx_iload_n D284_21 rfl).trans ?_
    exact sx_ireturn D284_22 (by decide +kernel)
theorem E284_28 {d : Nat} {a1 a2 : Int} {S : SS} {I : II} (h0 : MA S 427) : ev (d + 1) 284 28 [(2, 427), (2, a1), (0, a2)] [] S I = if w a2 < 99 then ((ev d 237 0 [(2, 427), (2, a1), uU, uU] [] S I).bind (fun q => ev (d + 1) 284 39 [(2, 427), (2, a1), (0, a2)] (psh q.1 []) q.2.1 q.2.2)) else (ev (d + 1) 284 39 [(2, 427), (2, a1), (0, a2)] [] S I) := by
  refine (sx_iload_n D284_28 rfl).trans ?_
  refine (sx_bipush D284_29 (by decide)).trans ?_
  refine sx_if_ge (pc' := 39) D284_31 (by decide) (by decide) ?_ ?_ rfl (w_small (by decide) (by decide))
  · refine (sx_aload_n D284_34 rfl).trans ?_
    refine (sx_aload_n D284_35 rfl).trans ?_
    exact sx_virt (c := 11) (ag := [(2, 427), (2, a1)]) (r := []) (al' := [(2, 427), (2, a1), uU, uU]) (np := 1) (nl := 4) (q := (1, 237, 1618)) D284_36 (by decide +kernel) (by decide) mP_237 mL_237 mC_237 (Nat.le_of_ble_eq_true rfl) rfl rfl (by simp [cat]) (by decide) (MA_o h0) rfl rfl
  · exact rfl
theorem E284_39 {d : Nat} {a1 a2 : Int} {S : SS} {I : II}  : ev d 284 39 [(2, 427), (2, a1), (0, a2)] [] S I = ev d 284 7 [(2, 427), (2, a1), (0, a2 + 1)] [] S I := by
  refine (sx_iinc (al' := [(2, 427), (2, a1), (0, a2 + 1)]) D284_39 rfl rfl).trans ?_
  refine (sx_goto (pc' := 7) D284_42 (by decide) (by decide)).trans ?_
  exact rfl
theorem E285_0 {d : Nat} {a1 ln0 : Int} {S : SS} {I : II} (h0 : KA S a1 20 ln0) : ev d 285 0 [(2, 427), (2, a1), uU, uU] [] S I = gdR (0 ≤ w 493 ∧ w 493 < ln0) (if w (I a1 (w 493)) = 0 then (gdR (0 ≤ w 814 ∧ w 814 < ln0) (if w (I a1 (w 814)) = 0 then (ev d 285 21 [(2, 427), (2, a1), uU, uU] [(0, 1)] S I) else (ev d 285 20 [(2, 427), (2, a1), uU, uU] [] S I))) else (ev d 285 20 [(2, 427), (2, a1), uU, uU] [] S I)) := by
  refine (sx_aload_n D285_0 rfl).trans ?_
  refine (sx_sipush D285_1 (by decide)).trans ?_
  refine (sx_ia D285_4 h0 rfl).trans (gdR_to fun g1 => ?_)
  refine sx_i0_ne (pc' := 20) D285_5 (by decide) (by decide) ?_ ?_ rfl
  · refine (sx_aload_n D285_8 rfl).trans ?_
    refine (sx_sipush D285_9 (by decide)).trans ?_
    refine (sx_ia D285_12 h0 rfl).trans (gdR_to fun g2 => ?_)
    refine sx_i0_ne (pc' := 20) D285_13 (by decide) (by decide) ?_ ?_ rfl
    · refine (sx_iconst D285_16).trans ?_
      refine (sx_goto (pc' := 21) D285_17 (by decide) (by decide)).trans ?_
      exact rfl
    · exact rfl
  · exact rfl
theorem E285_20 {d : Nat} {a1 : Int} {S : SS} {I : II}  : ev d 285 20 [(2, 427), (2, a1), uU, uU] [] S I = ev d 285 21 [(2, 427), (2, a1), uU, uU] [(0, 0)] S I := by
  refine (sx_iconst D285_20).trans ?_
  exact rfl
theorem E285_21 {d : Nat} {a1 s0 : Int} {S : SS} {I : II}  : ev d 285 21 [(2, 427), (2, a1), uU, uU] [(0, s0)] S I = ev d 285 24 [(2, 427), (2, a1), (0, s0), (0, 0)] [] S I := by
  refine (sx_istore_n (al' := [(2, 427), (2, a1), (0, s0), uU]) D285_21 (Nat.le_of_ble_eq_true rfl) rfl rfl).trans ?_
  refine (sx_iconst D285_22).trans ?_
  refine (sx_istore_n (al' := [(2, 427), (2, a1), (0, s0), (0, 0)]) D285_23 (Nat.le_of_ble_eq_true rfl) rfl rfl).trans ?_
  exact rfl
theorem E285_24 {d : Nat} {a1 a2 a3 : Int} {S : SS} {I : II} (h0 : MA S 427) (h1 : a2 = 0 ∨ a2 = 1) : ev (d + 1) 285 24 [(2, 427), (2, a1), (0, a2), (0, a3)] [] S I = if w a3 < w (I 427 14) then (if w a2 = 0 then (ev (d + 1) 285 55 [(2, 427), (2, a1), (0, a2), (0, a3)] [] S I) else ((ev d 212 0 [(2, a1), (0, a3), (0, 1)] [] S I).bind (fun q => ev (d + 1) 285 42 [(2, 427), (2, a1), (0, a2), (0, a3)] (psh q.1 []) q.2.1 q.2.2))) else (some ((0, a2), S, I)) := by
  refine (sx_iload_n D285_24 rfl).trans ?_
  refine (sx_aload_n D285_25 rfl).trans ?_
  refine (sx_gfI (q := (9, 14, 0, 1382)) (j := 14) D285_26 (by decide +kernel) (by decide +kernel) (by decide) (MA_o h0) rfl rfl).trans ?_
  refine sx_if_ge (pc' := 63) D285_29 (by decide) (by decide) ?_ ?_ rfl rfl
  · refine (sx_iload_n D285_32 rfl).trans ?_
    refine sx_i0_eq (pc' := 55) D285_33 (by decide) (by decide) ?_ ?_ rfl
    · exact rfl
    · refine (sx_aload_n D285_36 rfl).trans ?_
      refine (sx_iload_n D285_37 rfl).trans ?_
      refine (sx_iconst D285_38).trans ?_
      exact sx_stat (ag := [(2, a1), (0, a3), (0, 1)]) (r := []) (al' := [(2, a1), (0, a3), (0, 1)]) (np := 3) (nl := 3) (q := (0, 212, 1526)) D285_39 (by decide +kernel) (by decide) mP_212 mL_212 (Nat.le_of_ble_eq_true rfl) rfl rfl (by simp [cat]) rfl rfl
  · refine (sx_iload_n D285_63 rfl).trans ?_
    exact sx_zreturn D285_64 (by decide +kernel) h1
theorem E285_42 {d : Nat} {a1 a2 a3 s0 : Int} {S : SS} {I : II}  : ev (d + 1) 285 42 [(2, 427), (2, a1), (0, a2), (0, a3)] [(0, s0)] S I = (ev d 212 0 [(2, a1), (0, a3), (0, 3)] [] S I).bind (fun q => ev (d + 1) 285 48 [(2, 427), (2, a1), (0, a2), (0, a3)] (psh q.1 [(0, s0)]) q.2.1 q.2.2) := by
  refine (sx_aload_n D285_42 rfl).trans ?_
  refine (sx_iload_n D285_43 rfl).trans ?_
  refine (sx_iconst D285_44).trans ?_
  exact sx_stat (ag := [(2, a1), (0, a3), (0, 3)]) (r := [(0, s0)]) (al' := [(2, a1), (0, a3), (0, 3)]) (np := 3) (nl := 3) (q := (0, 212, 1526)) D285_45 (by decide +kernel) (by decide) mP_212 mL_212 (Nat.le_of_ble_eq_true rfl) rfl rfl (by simp [cat]) rfl rfl
theorem E285_48 {d : Nat} {a1 a2 a3 s0 s1 : Int} {S : SS} {I : II}  : ev d 285 48 [(2, 427), (2, a1), (0, a2), (0, a3)] [(0, s1), (0, s0)] S I = if w s0 = w s1 then (ev d 285 56 [(2, 427), (2, a1), (0, a2), (0, a3)] [(0, 1)] S I) else (ev d 285 55 [(2, 427), (2, a1), (0, a2), (0, a3)] [] S I) := by
  refine sx_if_ne (pc' := 55) D285_48 (by decide) (by decide) ?_ ?_ rfl rfl
  · refine (sx_iconst D285_51).trans ?_
    refine (sx_goto (pc' := 56) D285_52 (by decide) (by decide)).trans ?_
    exact rfl
  · exact rfl
theorem E285_55 {d : Nat} {a1 a2 a3 : Int} {S : SS} {I : II}  : ev d 285 55 [(2, 427), (2, a1), (0, a2), (0, a3)] [] S I = ev d 285 56 [(2, 427), (2, a1), (0, a2), (0, a3)] [(0, 0)] S I := by
  refine (sx_iconst D285_55).trans ?_
  exact rfl
theorem E285_56 {d : Nat} {a1 a2 a3 s0 : Int} {S : SS} {I : II}  : ev d 285 56 [(2, 427), (2, a1), (0, a2), (0, a3)] [(0, s0)] S I = ev d 285 24 [(2, 427), (2, a1), (0, s0), (0, a3 + 1)] [] S I := by
  refine (sx_istore_n (al' := [(2, 427), (2, a1), (0, s0), (0, a3)]) D285_56 (Nat.le_of_ble_eq_true rfl) rfl rfl).trans ?_
  refine (sx_iinc (al' := [(2, 427), (2, a1), (0, s0), (0, a3 + 1)]) D285_57 rfl rfl).trans ?_
  refine (sx_goto (pc' := 24) D285_60 (by decide) (by decide)).trans ?_
  exact rfl
theorem E286_0 {d : Nat} {a1 : Int} {S : SS} {I : II}  : ev d 286 0 [(2, 427), (2, a1), uU] [] S I = ev d 286 2 [(2, 427), (2, a1), (0, 0)] [] S I := by
  refine (sx_iconst D286_0).trans ?_
  refine (sx_istore_n (al' := [(2, 427), (2, a1), (0, 0)]) D286_1 (Nat.le_of_ble_eq_true rfl) rfl rfl).trans ?_
  exact rfl
theorem E286_2 {d : Nat} {a1 a2 : Int} {S : SS} {I : II} (h0 : MA S 427) : ev d 286 2 [(2, 427), (2, a1), (0, a2)] [] S I = if w a2 < w (I 427 14) then (ev d 286 10 [(2, 427), (2, a1), (0, a2)] [] S I) else (some (uU, S, I)) := by
  refine (sx_iload_n D286_2 rfl).trans ?_
  refine (sx_aload_n D286_3 rfl).trans ?_
  refine (sx_gfI (q := (9, 14, 0, 1382)) (j := 14) D286_4 (by decide +kernel) (by decide +kernel) (by decide) (MA_o h0) rfl rfl).trans ?_
  refine sx_if_ge (pc' := 38) D286_7 (by decide) (by decide) ?_ ?_ rfl rfl
  · exact rfl
  · exact sx_return D286_38 (by decide +kernel)
theorem E286_10 {d : Nat} {a1 a2 : Int} {S : SS} {I : II} (h0 : MA S 427) : ev (d + 1) 286 10 [(2, 427), (2, a1), (0, a2)] [] S I = (ev d 257 0 [(2, 427), (2, a1), (0, a2), uU] [] S I).bind (fun q => ev (d + 1) 286 16 [(2, 427), (2, a1), (0, a2)] (psh q.1 []) q.2.1 q.2.2) := by
  refine (sx_aload_n D286_10 rfl).trans ?_
  refine (sx_aload_n D286_11 rfl).trans ?_
  refine (sx_iload_n D286_12 rfl).trans ?_
  exact sx_virt (c := 11) (ag := [(2, 427), (2, a1), (0, a2)]) (r := []) (al' := [(2, 427), (2, a1), (0, a2), uU]) (np := 2) (nl := 4) (q := (1, 257, 1691)) D286_13 (by decide +kernel) (by decide) mP_257 mL_257 mC_257 (Nat.le_of_ble_eq_true rfl) rfl rfl (by simp [cat]) (by decide) (MA_o h0) rfl rfl
theorem E286_16 {d : Nat} {a1 a2 s0 : Int} {S : SS} {I : II} (h0 : MA S 427) : ev d 286 16 [(2, 427), (2, a1), (0, a2)] [(0, s0)] S I = if w s0 < 0 then (ev d 286 2 [(2, 427), (2, a1), (0, a2 + 1)] [] S I) else (ev d 286 10 [(2, 427), (2, a1), (0, a2)] [] S (up2 I 427 35 ((I 427 35) + 1))) := by
  refine sx_i0_lt (pc' := 32) D286_16 (by decide) (by decide) ?_ ?_ rfl
  · refine (sx_iinc (al' := [(2, 427), (2, a1), (0, a2 + 1)]) D286_32 rfl rfl).trans ?_
    refine (sx_goto (pc' := 2) D286_35 (by decide) (by decide)).trans ?_
    exact rfl
  · refine (sx_aload_n D286_19 rfl).trans ?_
    refine (sx_dup D286_20 (by decide)).trans ?_
    refine (sx_gfI (q := (9, 35, 0, 1403)) (j := 35) D286_21 (by decide +kernel) (by decide +kernel) (by decide) (MA_o h0) rfl rfl).trans ?_
    refine (sx_iconst D286_24).trans ?_
    refine (sx_iadd D286_25).trans ?_
    refine (sx_pfI (q := (9, 35, 0, 1403)) (j := 35) D286_26 (by decide +kernel) (by decide) (by decide) (MA_o h0) rfl).trans ?_
    refine (sx_goto (pc' := 10) D286_29 (by decide) (by decide)).trans ?_
    exact rfl
theorem E287_0 {d : Nat} {a1 : Int} {S : SS} {I : II} (h0 : MA S 427) : ev (d + 1) 287 0 [(2, 427), (0, a1), uU] [] S I = (ev d 192 0 [(1, w a1), uU, (1, 0), uU, (1, 9), uU] [] S (up2 I 427 0 0)).bind (fun q => ev (d + 1) 287 14 [(2, 427), (0, a1), uU] (psh q.1 []) q.2.1 q.2.2) := by
  refine (sx_aload_n D287_0 rfl).trans ?_
  refine (sx_iconst D287_1).trans ?_
  refine (sx_pfI (q := (9, 0, 0, 1368)) (j := 0) D287_2 (by decide +kernel) (by decide) (by decide) (MA_o h0) rfl).trans ?_
  refine (sx_iload_n D287_5 rfl).trans ?_
  refine (sx_i2l D287_6).trans ?_
  refine (sx_lconst D287_7).trans ?_
  refine (sx_ldc2_w (q := (9, 1555)) D287_8 (by decide +kernel)).trans ?_
  exact sx_stat (ag := [(1, w a1), (1, 0), (1, 9)]) (r := []) (al' := [(1, w a1), uU, (1, 0), uU, (1, 9), uU]) (np := 3) (nl := 6) (q := (0, 192, 1299)) D287_11 (by decide +kernel) (by decide) mP_192 mL_192 (Nat.le_of_ble_eq_true rfl) rfl rfl (by simp [cat]) rfl rfl
theorem E287_14 {d : Nat} {a1 s0 : Int} {S : SS} {I : II} (h0 : MA S 427) : ev (d + 1) 287 14 [(2, 427), (0, a1), uU] [(0, s0)] S I = if w s0 = 0 then (some ((0, (-1)), S, I)) else ((ev d 280 0 [(2, 427), uU] [] S I).bind (fun q => ev (d + 1) 287 23 [(2, 427), (0, a1), uU] (psh q.1 []) q.2.1 q.2.2)) := by
  refine sx_i0_ne (pc' := 19) D287_14 (by decide) (by decide) ?_ ?_ rfl
  · refine (sx_iconst D287_17).trans ?_
    exact sx_ireturn D287_18 (by decide +kernel)
  · refine (sx_aload_n D287_19 rfl).trans ?_
    exact sx_virt (c := 11) (ag := [(2, 427)]) (r := []) (al' := [(2, 427), uU]) (np := 0) (nl := 2) (q := (1, 280, 1782)) D287_20 (by decide +kernel) (by decide) mP_280 mL_280 mC_280 (Nat.le_of_ble_eq_true rfl) rfl rfl (by simp [cat]) (by decide) (MA_o h0) rfl rfl
theorem E287_23 {d : Nat} {a1 : Int} {S : SS} {I : II}  : ev d 287 23 [(2, 427), (0, a1), uU] [] S I = ev d 287 25 [(2, 427), (0, a1), (0, 0)] [] S I := by
  refine (sx_iconst D287_23).trans ?_
  refine (sx_istore_n (al' := [(2, 427), (0, a1), (0, 0)]) D287_24 (Nat.le_of_ble_eq_true rfl) rfl rfl).trans ?_
  exact rfl
theorem E287_25 {d : Nat} {a1 a2 : Int} {S : SS} {I : II} (h0 : MA S 427) : ev (d + 1) 287 25 [(2, 427), (0, a1), (0, a2)] [] S I = if w a2 < w (I 427 14) then ((ev d 234 0 [(2, 427), (2, 439), (0, a2), uU, uU, uU] [] S I).bind (fun q => ev (d + 1) 287 42 [(2, 427), (0, a1), (0, a2)] (psh q.1 []) q.2.1 q.2.2)) else ((ev d 284 0 [(2, 427), (2, 439), uU] [] S I).bind (fun q => ev (d + 1) 287 57 [(2, 427), (0, a1), (0, a2)] (psh q.1 []) q.2.1 q.2.2)) := by
  refine (sx_iload_n D287_25 rfl).trans ?_
  refine (sx_aload_n D287_26 rfl).trans ?_
  refine (sx_gfI (q := (9, 14, 0, 1382)) (j := 14) D287_27 (by decide +kernel) (by decide +kernel) (by decide) (MA_o h0) rfl rfl).trans ?_
  refine sx_if_ge (pc' := 49) D287_30 (by decide) (by decide) ?_ ?_ rfl rfl
  · refine (sx_aload_n D287_33 rfl).trans ?_
    refine (sx_aload_n D287_34 rfl).trans ?_
    refine (sx_gfR (q := (9, 21, 0, 1389)) (b := 439) D287_35 (by decide +kernel) (by decide +kernel) (by decide) (MA_o h0) (MA_g21 h0)).trans ?_
    refine (sx_iload_n D287_38 rfl).trans ?_
    exact sx_virt (c := 11) (ag := [(2, 427), (2, 439), (0, a2)]) (r := []) (al' := [(2, 427), (2, 439), (0, a2), uU, uU, uU]) (np := 2) (nl := 6) (q := (1, 234, 1605)) D287_39 (by decide +kernel) (by decide) mP_234 mL_234 mC_234 (Nat.le_of_ble_eq_true rfl) rfl rfl (by simp [cat]) (by decide) (MA_o h0) rfl rfl
  · refine (sx_aload_n D287_49 rfl).trans ?_
    refine (sx_aload_n D287_50 rfl).trans ?_
    refine (sx_gfR (q := (9, 21, 0, 1389)) (b := 439) D287_51 (by decide +kernel) (by decide +kernel) (by decide) (MA_o h0) (MA_g21 h0)).trans ?_
    exact sx_virt (c := 11) (ag := [(2, 427), (2, 439)]) (r := []) (al' := [(2, 427), (2, 439), uU]) (np := 1) (nl := 3) (q := (1, 284, 1798)) D287_54 (by decide +kernel) (by decide) mP_284 mL_284 mC_284 (Nat.le_of_ble_eq_true rfl) rfl rfl (by simp [cat]) (by decide) (MA_o h0) rfl rfl
theorem E287_42 {d : Nat} {a1 a2 s0 : Int} {S : SS} {I : II}  : ev d 287 42 [(2, 427), (0, a1), (0, a2)] [(0, s0)] S I = ev d 287 25 [(2, 427), (0, a1), (0, a2 + 1)] [] S I := by
  refine (sx_pop D287_42 (by decide)).trans ?_
  refine (sx_iinc (al' := [(2, 427), (0, a1), (0, a2 + 1)]) D287_43 rfl rfl).trans ?_
  refine (sx_goto (pc' := 25) D287_46 (by decide) (by decide)).trans ?_
  exact rfl
theorem E287_57 {d : Nat} {a1 a2 s0 : Int} {S : SS} {I : II} (h0 : MA S 427) : ev d 287 57 [(2, 427), (0, a1), (0, a2)] [(0, s0)] S I = if w s0 < 0 then (ev d 287 73 [(2, 427), (0, a1), (0, s0)] [(0, 0), (2, 427)] S (up2 I 427 1 0)) else (ev d 287 73 [(2, 427), (0, a1), (0, s0)] [(0, 1), (2, 427)] S (up2 I 427 1 0)) := by
  refine (sx_istore_n (al' := [(2, 427), (0, a1), (0, s0)]) D287_57 (Nat.le_of_ble_eq_true rfl) rfl rfl).trans ?_
  refine (sx_aload_n D287_58 rfl).trans ?_
  refine (sx_iconst D287_59).trans ?_
  refine (sx_pfI (q := (9, 1, 0, 1369)) (j := 1) D287_60 (by decide +kernel) (by decide) (by decide) (MA_o h0) rfl).trans ?_
  refine (sx_aload_n D287_63 rfl).trans ?_
  refine (sx_iload_n D287_64 rfl).trans ?_
  refine sx_i0_lt (pc' := 72) D287_65 (by decide) (by decide) ?_ ?_ rfl
  · refine (sx_iconst D287_72).trans ?_
    exact rfl
  · refine (sx_iconst D287_68).trans ?_
    refine (sx_goto (pc' := 73) D287_69 (by decide) (by decide)).trans ?_
    exact rfl
theorem E287_73 {d : Nat} {a1 a2 s1 : Int} {S : SS} {I : II}  : ev (d + 1) 287 73 [(2, 427), (0, a1), (0, a2)] [(0, s1), (2, 427)] S I = (ev d 199 0 [(0, s1)] [] S I).bind (fun q => ev (d + 1) 287 76 [(2, 427), (0, a1), (0, a2)] (psh q.1 [(2, 427)]) q.2.1 q.2.2) := by
  exact sx_stat (ag := [(0, s1)]) (r := [(2, 427)]) (al' := [(0, s1)]) (np := 1) (nl := 1) (q := (0, 199, 1328)) D287_73 (by decide +kernel) (by decide) mP_199 mL_199 (Nat.le_of_ble_eq_true rfl) rfl rfl (by simp [cat]) rfl rfl
theorem E287_76 {d : Nat} {a1 a2 s1 : Int} {S : SS} {I : II} (h0 : MA S 427) : ev (d + 1) 287 76 [(2, 427), (0, a1), (0, a2)] [(0, s1), (2, 427)] S I = (ev d 255 0 [(2, 427), (1, w s1), uU] [] S I).bind (fun q => ev (d + 1) 287 80 [(2, 427), (0, a1), (0, a2)] (psh q.1 []) q.2.1 q.2.2) := by
  refine (sx_i2l D287_76).trans ?_
  exact sx_virt (c := 11) (ag := [(2, 427), (1, w s1)]) (r := []) (al' := [(2, 427), (1, w s1), uU]) (np := 1) (nl := 3) (q := (1, 255, 1683)) D287_77 (by decide +kernel) (by decide) mP_255 mL_255 mC_255 (Nat.le_of_ble_eq_true rfl) rfl rfl (by simp [cat]) (by decide) (MA_o h0) rfl rfl
theorem E287_80 {d : Nat} {a1 a2 : Int} {S : SS} {I : II} (h0 : MA S 427) : ev d 287 80 [(2, 427), (0, a1), (0, a2)] [] S I = gdR (0 ≤ w (828 + a1) ∧ w (828 + a1) < 844) (some ((0, I 439 (w (828 + a1))), S, I)) := by
  refine (sx_aload_n D287_80 rfl).trans ?_
  refine (sx_gfR (q := (9, 21, 0, 1389)) (b := 439) D287_81 (by decide +kernel) (by decide +kernel) (by decide) (MA_o h0) (MA_g21 h0)).trans ?_
  refine (sx_sipush D287_84 (by decide)).trans ?_
  refine (sx_iload_n D287_87 rfl).trans ?_
  refine (sx_iadd D287_88).trans ?_
  refine (sx_ia D287_89 (MA_k21 h0) rfl).trans (gdR_to fun g1 => ?_)
  exact sx_ireturn D287_90 (by decide +kernel)
theorem E288_0 {d : Nat} {a1 : Int} {S : SS} {I : II} (h0 : MA S 427) : ev (d + 1) 288 0 [(2, 427), (0, a1), uU] [] S I = (ev d 210 0 [(2, 427), (0, a1)] [] S (up2 I 427 0 0)).bind (fun q => ev (d + 1) 288 10 [(2, 427), (0, a1), uU] (psh q.1 []) q.2.1 q.2.2) := by
  refine (sx_aload_n D288_0 rfl).trans ?_
  refine (sx_iconst D288_1).trans ?_
  refine (sx_pfI (q := (9, 0, 0, 1368)) (j := 0) D288_2 (by decide +kernel) (by decide) (by decide) (MA_o h0) rfl).trans ?_
  refine (sx_aload_n D288_5 rfl).trans ?_
  refine (sx_iload_n D288_6 rfl).trans ?_
  exact sx_virt (c := 11) (ag := [(2, 427), (0, a1)]) (r := []) (al' := [(2, 427), (0, a1)]) (np := 1) (nl := 2) (q := (1, 210, 1517)) D288_7 (by decide +kernel) (by decide) mP_210 mL_210 mC_210 (Nat.le_of_ble_eq_true rfl) rfl rfl (by simp [cat]) (by decide) (MA_o h0) rfl rfl
theorem E288_10 {d : Nat} {a1 s0 : Int} {S : SS} {I : II} (h0 : MA S 427) : ev (d + 1) 288 10 [(2, 427), (0, a1), uU] [(0, s0)] S I = if w s0 = 0 then (some ((0, (-1)), S, I)) else ((ev d 280 0 [(2, 427), uU] [] S I).bind (fun q => ev (d + 1) 288 19 [(2, 427), (0, a1), uU] (psh q.1 []) q.2.1 q.2.2)) := by
  refine sx_i0_ne (pc' := 15) D288_10 (by decide) (by decide) ?_ ?_ rfl
  · refine (sx_iconst D288_13).trans ?_
    exact sx_ireturn D288_14 (by decide +kernel)
  · refine (sx_aload_n D288_15 rfl).trans ?_
    exact sx_virt (c := 11) (ag := [(2, 427)]) (r := []) (al' := [(2, 427), uU]) (np := 0) (nl := 2) (q := (1, 280, 1782)) D288_16 (by decide +kernel) (by decide) mP_280 mL_280 mC_280 (Nat.le_of_ble_eq_true rfl) rfl rfl (by simp [cat]) (by decide) (MA_o h0) rfl rfl
theorem E288_19 {d : Nat} {a1 : Int} {S : SS} {I : II} (h0 : MA S 427) : ev (d + 1) 288 19 [(2, 427), (0, a1), uU] [] S I = (ev d 234 0 [(2, 427), (2, 439), (0, a1), uU, uU, uU] [] S I).bind (fun q => ev (d + 1) 288 28 [(2, 427), (0, a1), uU] (psh q.1 []) q.2.1 q.2.2) := by
  refine (sx_aload_n D288_19 rfl).trans ?_
  refine (sx_aload_n D288_20 rfl).trans ?_
  refine (sx_gfR (q := (9, 21, 0, 1389)) (b := 439) D288_21 (by decide +kernel) (by decide +kernel) (by decide) (MA_o h0) (MA_g21 h0)).trans ?_
  refine (sx_iload_n D288_24 rfl).trans ?_
  exact sx_virt (c := 11) (ag := [(2, 427), (2, 439), (0, a1)]) (r := []) (al' := [(2, 427), (2, 439), (0, a1), uU, uU, uU]) (np := 2) (nl := 6) (q := (1, 234, 1605)) D288_25 (by decide +kernel) (by decide) mP_234 mL_234 mC_234 (Nat.le_of_ble_eq_true rfl) rfl rfl (by simp [cat]) (by decide) (MA_o h0) rfl rfl
theorem E288_28 {d : Nat} {a1 s0 : Int} {S : SS} {I : II} (h0 : MA S 427) : ev (d + 1) 288 28 [(2, 427), (0, a1), uU] [(0, s0)] S I = if w s0 < 0 then (some ((0, s0), S, I)) else ((ev d 212 0 [(2, 439), (0, a1), (0, 2)] [] S (up2 I 427 1 0)).bind (fun q => ev (d + 1) 288 50 [(2, 427), (0, a1), (0, s0)] (psh q.1 [(2, 427)]) q.2.1 q.2.2)) := by
  refine (sx_istore_n (al' := [(2, 427), (0, a1), (0, s0)]) D288_28 (Nat.le_of_ble_eq_true rfl) rfl rfl).trans ?_
  refine (sx_iload_n D288_29 rfl).trans ?_
  refine sx_i0_ge (pc' := 35) D288_30 (by decide) (by decide) ?_ ?_ rfl
  · refine (sx_iload_n D288_33 rfl).trans ?_
    exact sx_ireturn D288_34 (by decide +kernel)
  · refine (sx_aload_n D288_35 rfl).trans ?_
    refine (sx_iconst D288_36).trans ?_
    refine (sx_pfI (q := (9, 1, 0, 1369)) (j := 1) D288_37 (by decide +kernel) (by decide) (by decide) (MA_o h0) rfl).trans ?_
    refine (sx_aload_n D288_40 rfl).trans ?_
    refine (sx_aload_n D288_41 rfl).trans ?_
    refine (sx_gfR (q := (9, 21, 0, 1389)) (b := 439) D288_42 (by decide +kernel) (by decide +kernel) (by decide) (MA_o h0) (MA_g21 h0)).trans ?_
    refine (sx_iload_n D288_45 rfl).trans ?_
    refine (sx_iconst D288_46).trans ?_
    exact sx_stat (ag := [(2, 439), (0, a1), (0, 2)]) (r := [(2, 427)]) (al' := [(2, 439), (0, a1), (0, 2)]) (np := 3) (nl := 3) (q := (0, 212, 1526)) D288_47 (by decide +kernel) (by decide) mP_212 mL_212 (Nat.le_of_ble_eq_true rfl) rfl rfl (by simp [cat]) rfl rfl
theorem E288_50 {d : Nat} {a1 a2 s1 : Int} {S : SS} {I : II} (h0 : MA S 427) : ev (d + 1) 288 50 [(2, 427), (0, a1), (0, a2)] [(0, s1), (2, 427)] S I = (ev d 212 0 [(2, 438), (0, a1), (0, 2)] [] S I).bind (fun q => ev (d + 1) 288 59 [(2, 427), (0, a1), (0, a2)] (psh q.1 [(0, s1), (2, 427)]) q.2.1 q.2.2) := by
  refine (sx_aload_n D288_50 rfl).trans ?_
  refine (sx_gfR (q := (9, 20, 0, 1388)) (b := 438) D288_51 (by decide +kernel) (by decide +kernel) (by decide) (MA_o h0) (MA_g20 h0)).trans ?_
  refine (sx_iload_n D288_54 rfl).trans ?_
  refine (sx_iconst D288_55).trans ?_
  exact sx_stat (ag := [(2, 438), (0, a1), (0, 2)]) (r := [(0, s1), (2, 427)]) (al' := [(2, 438), (0, a1), (0, 2)]) (np := 3) (nl := 3) (q := (0, 212, 1526)) D288_56 (by decide +kernel) (by decide) mP_212 mL_212 (Nat.le_of_ble_eq_true rfl) rfl rfl (by simp [cat]) rfl rfl
theorem E288_59 {d : Nat} {a1 a2 s1 s2 : Int} {S : SS} {I : II} (h0 : MA S 427) : ev (d + 1) 288 59 [(2, 427), (0, a1), (0, a2)] [(0, s2), (0, s1), (2, 427)] S I = (ev d 255 0 [(2, 427), (1, w (s1 - s2)), uU] [] S I).bind (fun q => ev (d + 1) 288 64 [(2, 427), (0, a1), (0, a2)] (psh q.1 []) q.2.1 q.2.2) := by
  refine (sx_isub D288_59).trans ?_
  refine (sx_i2l D288_60).trans ?_
  exact sx_virt (c := 11) (ag := [(2, 427), (1, w (s1 - s2))]) (r := []) (al' := [(2, 427), (1, w (s1 - s2)), uU]) (np := 1) (nl := 3) (q := (1, 255, 1683)) D288_61 (by decide +kernel) (by decide) mP_255 mL_255 mC_255 (Nat.le_of_ble_eq_true rfl) rfl rfl (by simp [cat]) (by decide) (MA_o h0) rfl rfl
theorem E288_64 {d : Nat} {a1 a2 : Int} {S : SS} {I : II}  : ev d 288 64 [(2, 427), (0, a1), (0, a2)] [] S I = some ((0, a2), S, I) := by
  refine (sx_iload_n D288_64 rfl).trans ?_
  exact sx_ireturn D288_65 (by decide +kernel)
theorem E289_0 {d : Nat} {S : SS} {I : II} (h0 : MA S 427) : ev (d + 1) 289 0 [(2, 427)] [] S I = (ev d 255 0 [(2, 427), (1, w (I 438 839)), uU] [] S (up2 (up2 I 427 0 0) 427 1 0)).bind (fun q => ev (d + 1) 289 23 [(2, 427)] (psh q.1 []) q.2.1 q.2.2) := by
  refine (sx_aload_n D289_0 rfl).trans ?_
  refine (sx_iconst D289_1).trans ?_
  refine (sx_pfI (q := (9, 0, 0, 1368)) (j := 0) D289_2 (by decide +kernel) (by decide) (by decide) (MA_o h0) rfl).trans ?_
  refine (sx_aload_n D289_5 rfl).trans ?_
  refine (sx_iconst D289_6).trans ?_
  refine (sx_pfI (q := (9, 1, 0, 1369)) (j := 1) D289_7 (by decide +kernel) (by decide) (by decide) (MA_o h0) rfl).trans ?_
  refine (sx_aload_n D289_10 rfl).trans ?_
  refine (sx_aload_n D289_11 rfl).trans ?_
  refine (sx_gfR (q := (9, 20, 0, 1388)) (b := 438) D289_12 (by decide +kernel) (by decide +kernel) (by decide) (MA_o h0) (MA_g20 h0)).trans ?_
  refine (sx_sipush D289_15 (by decide)).trans ?_
  refine (sx_iaK (j := 839) D289_18 (MA_k20 h0) (w_small (by decide) (by decide)) (by decide) (by decide) ((up2_cell (by omega)).trans (up2_cell (by omega)))).trans ?_
  refine (sx_i2l D289_19).trans ?_
  exact sx_virt (c := 11) (ag := [(2, 427), (1, w (I 438 839))]) (r := []) (al' := [(2, 427), (1, w (I 438 839)), uU]) (np := 1) (nl := 3) (q := (1, 255, 1683)) D289_20 (by decide +kernel) (by decide) mP_255 mL_255 mC_255 (Nat.le_of_ble_eq_true rfl) rfl rfl (by simp [cat]) (by decide) (MA_o h0) rfl rfl
theorem E289_23 {d : Nat} {S : SS} {I : II} (h0 : MA S 427) : ev d 289 23 [(2, 427)] [] S I = some ((0, I 438 838), S, I) := by
  refine (sx_aload_n D289_23 rfl).trans ?_
  refine (sx_gfR (q := (9, 20, 0, 1388)) (b := 438) D289_24 (by decide +kernel) (by decide +kernel) (by decide) (MA_o h0) (MA_g20 h0)).trans ?_
  refine (sx_sipush D289_27 (by decide)).trans ?_
  refine (sx_iaK (j := 838) D289_30 (MA_k20 h0) (w_small (by decide) (by decide)) (by decide) (by decide) rfl).trans ?_
  exact sx_ireturn D289_31 (by decide +kernel)
theorem E290_0 {d : Nat} {a1 a2 : Int} {S : SS} {I : II} (h0 : MA S 427) : ev (d + 1) 290 0 [(2, 427), (0, a1), (0, a2), uU, uU] [] S I = (ev d 260 0 [(2, 427), (2, 438), (0, a1), (0, a2), uU, uU] [] S (up2 I 427 0 0)).bind (fun q => ev (d + 1) 290 15 [(2, 427), (0, a1), (0, a2), uU, uU] (psh q.1 []) q.2.1 q.2.2) := by
  refine (sx_aload_n D290_0 rfl).trans ?_
  refine (sx_iconst D290_1).trans ?_
  refine (sx_pfI (q := (9, 0, 0, 1368)) (j := 0) D290_2 (by decide +kernel) (by decide) (by decide) (MA_o h0) rfl).trans ?_
  refine (sx_aload_n D290_5 rfl).trans ?_
  refine (sx_aload_n D290_6 rfl).trans ?_
  refine (sx_gfR (q := (9, 20, 0, 1388)) (b := 438) D290_7 (by decide +kernel) (by decide +kernel) (by decide) (MA_o h0) (MA_g20 h0)).trans ?_
  refine (sx_iload_n D290_10 rfl).trans ?_
  refine (sx_iload_n D290_11 rfl).trans ?_
  exact sx_virt (c := 11) (ag := [(2, 427), (2, 438), (0, a1), (0, a2)]) (r := []) (al' := [(2, 427), (2, 438), (0, a1), (0, a2), uU, uU]) (np := 3) (nl := 6) (q := (1, 260, 1703)) D290_12 (by decide +kernel) (by decide) mP_260 mL_260 mC_260 (Nat.le_of_ble_eq_true rfl) rfl rfl (by simp [cat]) (by decide) (MA_o h0) rfl rfl
theorem E290_15 {d : Nat} {a1 a2 s0 : Int} {S : SS} {I : II} (h0 : MA S 427) : ev (d + 1) 290 15 [(2, 427), (0, a1), (0, a2), uU, uU] [(0, s0)] S I = if w s0 < 0 then (some ((0, s0), S, I)) else ((ev d 223 0 [(2, 438), (0, a1), (0, a2), uU, uU] [] S (up2 I 427 1 0)).bind (fun q => ev (d + 1) 290 36 [(2, 427), (0, a1), (0, a2), (0, s0), uU] (psh q.1 []) q.2.1 q.2.2)) := by
  refine (sx_istore_n (al' := [(2, 427), (0, a1), (0, a2), (0, s0), uU]) D290_15 (Nat.le_of_ble_eq_true rfl) rfl rfl).trans ?_
  refine (sx_iload_n D290_16 rfl).trans ?_
  refine sx_i0_ge (pc' := 22) D290_17 (by decide) (by decide) ?_ ?_ rfl
  · refine (sx_iload_n D290_20 rfl).trans ?_
    exact sx_ireturn D290_21 (by decide +kernel)
  · refine (sx_aload_n D290_22 rfl).trans ?_
    refine (sx_iconst D290_23).trans ?_
    refine (sx_pfI (q := (9, 1, 0, 1369)) (j := 1) D290_24 (by decide +kernel) (by decide) (by decide) (MA_o h0) rfl).trans ?_
    refine (sx_aload_n D290_27 rfl).trans ?_
    refine (sx_gfR (q := (9, 20, 0, 1388)) (b := 438) D290_28 (by decide +kernel) (by decide +kernel) (by decide) (MA_o h0) (MA_g20 h0)).trans ?_
    refine (sx_iload_n D290_31 rfl).trans ?_
    refine (sx_iload_n D290_32 rfl).trans ?_
    exact sx_stat (ag := [(2, 438), (0, a1), (0, a2)]) (r := []) (al' := [(2, 438), (0, a1), (0, a2), uU, uU]) (np := 3) (nl := 5) (q := (0, 223, 1569)) D290_33 (by decide +kernel) (by decide) mP_223 mL_223 (Nat.le_of_ble_eq_true rfl) rfl rfl (by simp [cat]) rfl rfl
theorem E290_36 {d : Nat} {a1 a2 a3 s0 : Int} {S : SS} {I : II} (h0 : MA S 427) : ev (d + 1) 290 36 [(2, 427), (0, a1), (0, a2), (0, a3), uU] [(0, s0)] S I = if w a3 = 0 then (ev (d + 1) 290 61 [(2, 427), (0, a1), (0, a2), (0, a3), (0, s0)] [(1, 0), (2, 427)] S I) else ((ev d 224 0 [(0, s0)] [] S I).bind (fun q => ev (d + 1) 290 56 [(2, 427), (0, a1), (0, a2), (0, a3), (0, s0)] (psh q.1 [(2, 438), (2, 427)]) q.2.1 q.2.2)) := by
  refine (sx_istore (al' := [(2, 427), (0, a1), (0, a2), (0, a3), (0, s0)]) D290_36 (Nat.le_of_ble_eq_true rfl) rfl rfl).trans ?_
  refine (sx_aload_n D290_38 rfl).trans ?_
  refine (sx_iload_n D290_39 rfl).trans ?_
  refine sx_i0_ne (pc' := 47) D290_40 (by decide) (by decide) ?_ ?_ rfl
  · refine (sx_lconst D290_43).trans ?_
    refine (sx_goto (pc' := 61) D290_44 (by decide) (by decide)).trans ?_
    exact rfl
  · refine (sx_aload_n D290_47 rfl).trans ?_
    refine (sx_gfR (q := (9, 20, 0, 1388)) (b := 438) D290_48 (by decide +kernel) (by decide +kernel) (by decide) (MA_o h0) (MA_g20 h0)).trans ?_
    refine (sx_iload D290_51 rfl).trans ?_
    exact sx_stat (ag := [(0, s0)]) (r := [(2, 438), (2, 427)]) (al' := [(0, s0)]) (np := 1) (nl := 1) (q := (0, 224, 1572)) D290_53 (by decide +kernel) (by decide) mP_224 mL_224 (Nat.le_of_ble_eq_true rfl) rfl rfl (by simp [cat]) rfl rfl
theorem E290_56 {d : Nat} {a1 a2 a3 a4 s1 s2 ln0 : Int} {S : SS} {I : II} (h0 : KA S s1 20 ln0) : ev d 290 56 [(2, 427), (0, a1), (0, a2), (0, a3), (0, a4)] [(0, s2), (2, s1), (2, 427)] S I = gdR (0 ≤ w (s2 + 11) ∧ w (s2 + 11) < ln0) (ev d 290 61 [(2, 427), (0, a1), (0, a2), (0, a3), (0, a4)] [(1, w (I s1 (w (s2 + 11)))), (2, 427)] S I) := by
  refine (sx_bipush D290_56 (by decide)).trans ?_
  refine (sx_iadd D290_58).trans ?_
  refine (sx_ia D290_59 h0 rfl).trans (gdR_to fun g1 => ?_)
  refine (sx_i2l D290_60).trans ?_
  exact rfl
theorem E290_61 {d : Nat} {a1 a2 a3 a4 s1 : Int} {S : SS} {I : II} (h0 : MA S 427) : ev (d + 1) 290 61 [(2, 427), (0, a1), (0, a2), (0, a3), (0, a4)] [(1, s1), (2, 427)] S I = (ev d 255 0 [(2, 427), (1, s1), uU] [] S I).bind (fun q => ev (d + 1) 290 64 [(2, 427), (0, a1), (0, a2), (0, a3), (0, a4)] (psh q.1 []) q.2.1 q.2.2) := by
  exact sx_virt (c := 11) (ag := [(2, 427), (1, s1)]) (r := []) (al' := [(2, 427), (1, s1), uU]) (np := 1) (nl := 3) (q := (1, 255, 1683)) D290_61 (by decide +kernel) (by decide) mP_255 mL_255 mC_255 (Nat.le_of_ble_eq_true rfl) rfl rfl (by simp [cat]) (by decide) (MA_o h0) rfl rfl
theorem E290_64 {d : Nat} {a1 a2 a3 a4 : Int} {S : SS} {I : II} (h0 : MA S 427) : ev (d + 1) 290 64 [(2, 427), (0, a1), (0, a2), (0, a3), (0, a4)] [] S I = if w a3 = 0 then ((ev d 221 0 [(2, 438), (0, a1), (0, a2), uU] [] S I).bind (fun q => ev (d + 1) 290 78 [(2, 427), (0, a1), (0, a2), (0, a3), (0, a4)] (psh q.1 [(2, 427)]) q.2.1 q.2.2)) else (ev (d + 1) 290 85 [(2, 427), (0, a1), (0, a2), (0, a3), (0, a4)] [(1, w a4), (2, 427)] S I) := by
  refine (sx_aload_n D290_64 rfl).trans ?_
  refine (sx_iload_n D290_65 rfl).trans ?_
  refine sx_i0_ne (pc' := 82) D290_66 (by decide) (by decide) ?_ ?_ rfl
  · refine (sx_aload_n D290_69 rfl).trans ?_
    refine (sx_gfR (q := (9, 20, 0, 1388)) (b := 438) D290_70 (by decide +kernel) (by decide +kernel) (by decide) (MA_o h0) (MA_g20 h0)).trans ?_
    refine (sx_iload_n D290_73 rfl).trans ?_
    refine (sx_iload_n D290_74 rfl).trans ?_
    exact sx_stat (ag := [(2, 438), (0, a1), (0, a2)]) (r := [(2, 427)]) (al' := [(2, 438), (0, a1), (0, a2), uU]) (np := 3) (nl := 4) (q := (0, 221, 1563)) D290_75 (by decide +kernel) (by decide) mP_221 mL_221 (Nat.le_of_ble_eq_true rfl) rfl rfl (by simp [cat]) rfl rfl
  · refine (sx_iload D290_82 rfl).trans ?_
    refine (sx_i2l D290_84).trans ?_
    exact rfl
theorem E290_78 {d : Nat} {a1 a2 a3 a4 s1 : Int} {S : SS} {I : II}  : ev d 290 78 [(2, 427), (0, a1), (0, a2), (0, a3), (0, a4)] [(0, s1), (2, 427)] S I = ev d 290 85 [(2, 427), (0, a1), (0, a2), (0, a3), (0, a4)] [(1, w s1), (2, 427)] S I := by
  refine (sx_i2l D290_78).trans ?_
  refine (sx_goto (pc' := 85) D290_79 (by decide) (by decide)).trans ?_
  exact rfl
theorem E290_85 {d : Nat} {a1 a2 a3 a4 s1 : Int} {S : SS} {I : II} (h0 : MA S 427) : ev (d + 1) 290 85 [(2, 427), (0, a1), (0, a2), (0, a3), (0, a4)] [(1, s1), (2, 427)] S I = (ev d 255 0 [(2, 427), (1, s1), uU] [] S I).bind (fun q => ev (d + 1) 290 88 [(2, 427), (0, a1), (0, a2), (0, a3), (0, a4)] (psh q.1 []) q.2.1 q.2.2) := by
  exact sx_virt (c := 11) (ag := [(2, 427), (1, s1)]) (r := []) (al' := [(2, 427), (1, s1), uU]) (np := 1) (nl := 3) (q := (1, 255, 1683)) D290_85 (by decide +kernel) (by decide) mP_255 mL_255 mC_255 (Nat.le_of_ble_eq_true rfl) rfl rfl (by simp [cat]) (by decide) (MA_o h0) rfl rfl
theorem E290_88 {d : Nat} {a1 a2 a3 a4 : Int} {S : SS} {I : II}  : ev d 290 88 [(2, 427), (0, a1), (0, a2), (0, a3), (0, a4)] [] S I = some ((0, a3), S, I) := by
  refine (sx_iload_n D290_88 rfl).trans ?_
  exact sx_ireturn D290_89 (by decide +kernel)
theorem E291_0 {d : Nat} {S : SS} {I : II} (h0 : MA S 427) : ev d 291 0 [(2, 427), uU] [] S I = ev d 291 12 [(2, 427), (0, 1)] [] S (up2 (up2 I 427 0 0) 427 1 0) := by
  refine (sx_aload_n D291_0 rfl).trans ?_
  refine (sx_iconst D291_1).trans ?_
  refine (sx_pfI (q := (9, 0, 0, 1368)) (j := 0) D291_2 (by decide +kernel) (by decide) (by decide) (MA_o h0) rfl).trans ?_
  refine (sx_aload_n D291_5 rfl).trans ?_
  refine (sx_iconst D291_6).trans ?_
  refine (sx_pfI (q := (9, 1, 0, 1369)) (j := 1) D291_7 (by decide +kernel) (by decide) (by decide) (MA_o h0) rfl).trans ?_
  refine (sx_iconst D291_10).trans ?_
  refine (sx_istore_n (al' := [(2, 427), (0, 1)]) D291_11 (Nat.le_of_ble_eq_true rfl) rfl rfl).trans ?_
  exact rfl
theorem E291_12 {d : Nat} {a1 : Int} {S : SS} {I : II} (h0 : MA S 427) : ev (d + 1) 291 12 [(2, 427), (0, a1)] [] S I = if w a1 < 4 then (gdR (0 ≤ w (840 + a1) ∧ w (840 + a1) < 844) ((ev d 255 0 [(2, 427), (1, w (I 438 (w (840 + a1)))), uU] [] S I).bind (fun q => ev (d + 1) 291 32 [(2, 427), (0, a1)] (psh q.1 []) q.2.1 q.2.2))) else ((ev d 255 0 [(2, 427), (1, w (I 438 840)), uU] [] S I).bind (fun q => ev (d + 1) 291 51 [(2, 427), (0, a1)] (psh q.1 []) q.2.1 q.2.2)) := by
  refine (sx_iload_n D291_12 rfl).trans ?_
  refine (sx_iconst D291_13).trans ?_
  refine sx_if_ge (pc' := 38) D291_14 (by decide) (by decide) ?_ ?_ rfl (w_small (by decide) (by decide))
  · refine (sx_aload_n D291_17 rfl).trans ?_
    refine (sx_aload_n D291_18 rfl).trans ?_
    refine (sx_gfR (q := (9, 20, 0, 1388)) (b := 438) D291_19 (by decide +kernel) (by decide +kernel) (by decide) (MA_o h0) (MA_g20 h0)).trans ?_
    refine (sx_sipush D291_22 (by decide)).trans ?_
    refine (sx_iload_n D291_25 rfl).trans ?_
    refine (sx_iadd D291_26).trans ?_
    refine (sx_ia D291_27 (MA_k20 h0) rfl).trans (gdR_to fun g1 => ?_)
    refine (sx_i2l D291_28).trans ?_
    exact sx_virt (c := 11) (ag := [(2, 427), (1, w (I 438 (w (840 + a1))))]) (r := []) (al' := [(2, 427), (1, w (I 438 (w (840 + a1)))), uU]) (np := 1) (nl := 3) (q := (1, 255, 1683)) D291_29 (by decide +kernel) (by decide) mP_255 mL_255 mC_255 (Nat.le_of_ble_eq_true rfl) rfl rfl (by simp [cat]) (by decide) (MA_o h0) rfl rfl
  · refine (sx_aload_n D291_38 rfl).trans ?_
    refine (sx_aload_n D291_39 rfl).trans ?_
    refine (sx_gfR (q := (9, 20, 0, 1388)) (b := 438) D291_40 (by decide +kernel) (by decide +kernel) (by decide) (MA_o h0) (MA_g20 h0)).trans ?_
    refine (sx_sipush D291_43 (by decide)).trans ?_
    refine (sx_iaK (j := 840) D291_46 (MA_k20 h0) (w_small (by decide) (by decide)) (by decide) (by decide) rfl).trans ?_
    refine (sx_i2l D291_47).trans ?_
    exact sx_virt (c := 11) (ag := [(2, 427), (1, w (I 438 840))]) (r := []) (al' := [(2, 427), (1, w (I 438 840)), uU]) (np := 1) (nl := 3) (q := (1, 255, 1683)) D291_48 (by decide +kernel) (by decide) mP_255 mL_255 mC_255 (Nat.le_of_ble_eq_true rfl) rfl rfl (by simp [cat]) (by decide) (MA_o h0) rfl rfl
theorem E291_32 {d : Nat} {a1 : Int} {S : SS} {I : II}  : ev d 291 32 [(2, 427), (0, a1)] [] S I = ev d 291 12 [(2, 427), (0, a1 + 1)] [] S I := by
  refine (sx_iinc (al' := [(2, 427), (0, a1 + 1)]) D291_32 rfl rfl).trans ?_
  refine (sx_goto (pc' := 12) D291_35 (by decide) (by decide)).trans ?_
  exact rfl
theorem E291_51 {d : Nat} {a1 : Int} {S : SS} {I : II} (h0 : MA S 427) : ev (d + 1) 291 51 [(2, 427), (0, a1)] [] S I = (ev d 243 0 [(2, 438), uU, uU] [] S I).bind (fun q => ev (d + 1) 291 58 [(2, 427), (0, a1)] (psh q.1 []) q.2.1 q.2.2) := by
  refine (sx_aload_n D291_51 rfl).trans ?_
  refine (sx_gfR (q := (9, 20, 0, 1388)) (b := 438) D291_52 (by decide +kernel) (by decide +kernel) (by decide) (MA_o h0) (MA_g20 h0)).trans ?_
  exact sx_stat (ag := [(2, 438)]) (r := []) (al' := [(2, 438), uU, uU]) (np := 1) (nl := 3) (q := (0, 243, 1639)) D291_55 (by decide +kernel) (by decide) mP_243 mL_243 (Nat.le_of_ble_eq_true rfl) rfl rfl (by simp [cat]) rfl rfl
theorem E291_58 {d : Nat} {a1 s0 : Int} {S : SS} {I : II} (h0 : MA S 427) : ev d 291 58 [(2, 427), (0, a1)] [(0, s0)] S I = some ((0, s0 - (I 438 840)), S, I) := by
  refine (sx_aload_n D291_58 rfl).trans ?_
  refine (sx_gfR (q := (9, 20, 0, 1388)) (b := 438) D291_59 (by decide +kernel) (by decide +kernel) (by decide) (MA_o h0) (MA_g20 h0)).trans ?_
  refine (sx_sipush D291_62 (by decide)).trans ?_
  refine (sx_iaK (j := 840) D291_65 (MA_k20 h0) (w_small (by decide) (by decide)) (by decide) (by decide) rfl).trans ?_
  refine (sx_isub D291_66).trans ?_
  exact sx_ireturn D291_67 (by decide +kernel)
theorem E292_0 {d : Nat} {a1 a2 : Int} {S : SS} {I : II} (h0 : MA S 427) : ev (d + 1) 292 0 [(2, 427), (0, a1), (0, a2)] [] S I = (ev d 192 0 [(1, w a1), uU, (1, 0), uU, (1, 3), uU] [] S (up2 I 427 0 0)).bind (fun q => ev (d + 1) 292 14 [(2, 427), (0, a1), (0, a2)] (psh q.1 []) q.2.1 q.2.2) := by
  refine (sx_aload_n D292_0 rfl).trans ?_
  refine (sx_iconst D292_1).trans ?_
  refine (sx_pfI (q := (9, 0, 0, 1368)) (j := 0) D292_2 (by decide +kernel) (by decide) (by decide) (MA_o h0) rfl).trans ?_
  refine (sx_iload_n D292_5 rfl).trans ?_
  refine (sx_i2l D292_6).trans ?_
  refine (sx_lconst D292_7).trans ?_
  refine (sx_ldc2_w (q := (3, 1533)) D292_8 (by decide +kernel)).trans ?_
  exact sx_stat (ag := [(1, w a1), (1, 0), (1, 3)]) (r := []) (al' := [(1, w a1), uU, (1, 0), uU, (1, 3), uU]) (np := 3) (nl := 6) (q := (0, 192, 1299)) D292_11 (by decide +kernel) (by decide) mP_192 mL_192 (Nat.le_of_ble_eq_true rfl) rfl rfl (by simp [cat]) rfl rfl
theorem E292_14 {d : Nat} {a1 a2 s0 : Int} {S : SS} {I : II}  : ev (d + 1) 292 14 [(2, 427), (0, a1), (0, a2)] [(0, s0)] S I = if w s0 = 0 then (ev (d + 1) 292 40 [(2, 427), (0, a1), (0, a2)] [] S I) else ((ev d 293 0 [(0, a1)] [] S I).bind (fun q => ev (d + 1) 292 24 [(2, 427), (0, a1), (0, a2)] (psh q.1 [(1, 0), (1, w a2)]) q.2.1 q.2.2)) := by
  refine sx_i0_eq (pc' := 40) D292_14 (by decide) (by decide) ?_ ?_ rfl
  · exact rfl
  · refine (sx_iload_n D292_17 rfl).trans ?_
    refine (sx_i2l D292_18).trans ?_
    refine (sx_lconst D292_19).trans ?_
    refine (sx_iload_n D292_20 rfl).trans ?_
    exact sx_stat (ag := [(0, a1)]) (r := [(1, 0), (1, w a2)]) (al' := [(0, a1)]) (np := 1) (nl := 1) (q := (0, 293, 1834)) D292_21 (by decide +kernel) (by decide) mP_293 mL_293 (Nat.le_of_ble_eq_true rfl) rfl rfl (by simp [cat]) rfl rfl
theorem E292_24 {d : Nat} {a1 a2 s0 s1 s2 : Int} {S : SS} {I : II}  : ev (d + 1) 292 24 [(2, 427), (0, a1), (0, a2)] [(0, s2), (1, s1), (1, s0)] S I = (ev d 192 0 [(1, s0), uU, (1, s1), uU, (1, w s2), uU] [] S I).bind (fun q => ev (d + 1) 292 28 [(2, 427), (0, a1), (0, a2)] (psh q.1 []) q.2.1 q.2.2) := by
  refine (sx_i2l D292_24).trans ?_
  exact sx_stat (ag := [(1, s0), (1, s1), (1, w s2)]) (r := []) (al' := [(1, s0), uU, (1, s1), uU, (1, w s2), uU]) (np := 3) (nl := 6) (q := (0, 192, 1299)) D292_25 (by decide +kernel) (by decide) mP_192 mL_192 (Nat.le_of_ble_eq_true rfl) rfl rfl (by simp [cat]) rfl rfl
theorem E292_28 {d : Nat} {a1 a2 s0 : Int} {S : SS} {I : II} (h0 : MA S 427) : ev d 292 28 [(2, 427), (0, a1), (0, a2)] [(0, s0)] S I = if w s0 = 0 then (ev d 292 40 [(2, 427), (0, a1), (0, a2)] [] S I) else (if w (I 427 36) = 12 then (ev d 292 40 [(2, 427), (0, a1), (0, a2)] [] S I) else (gdR (0 ≤ w (I 427 36) ∧ w (I 427 36) < 12) (gdR (0 ≤ w (I 427 36) ∧ w (I 427 36) < 12) (some ((0, (I 427 36) + 1), S, (up2 (up2 (up2 I 448 (w (I 427 36)) a1) 449 (w (I 427 36)) a2) 427 36 ((I 427 36) + 1))))))) := by
  refine sx_i0_eq (pc' := 40) D292_28 (by decide) (by decide) ?_ ?_ rfl
  · exact rfl
  · refine (sx_aload_n D292_31 rfl).trans ?_
    refine (sx_gfI (q := (9, 36, 0, 1404)) (j := 36) D292_32 (by decide +kernel) (by decide +kernel) (by decide) (MA_o h0) rfl rfl).trans ?_
    refine (sx_bipush D292_35 (by decide)).trans ?_
    refine sx_if_ne (pc' := 42) D292_37 (by decide) (by decide) ?_ ?_ rfl (w_small (by decide) (by decide))
    · exact rfl
    · refine (sx_aload_n D292_42 rfl).trans ?_
      refine (sx_gfR (q := (9, 37, 0, 1405)) (b := 448) D292_43 (by decide +kernel) (by decide +kernel) (by decide) (MA_o h0) (MA_g37 h0)).trans ?_
      refine (sx_aload_n D292_46 rfl).trans ?_
      refine (sx_gfI (q := (9, 36, 0, 1404)) (j := 36) D292_47 (by decide +kernel) (by decide +kernel) (by decide) (MA_o h0) rfl rfl).trans ?_
      refine (sx_iload_n D292_50 rfl).trans ?_
      refine (sx_is D292_51 (MA_k37 h0)).trans (gdR_to fun g1 => ?_)
      refine (sx_aload_n D292_52 rfl).trans ?_
      refine (sx_gfR (q := (9, 38, 0, 1406)) (b := 449) D292_53 (by decide +kernel) (by decide +kernel) (by decide) (MA_o h0) (MA_g38 h0)).trans ?_
      refine (sx_aload_n D292_56 rfl).trans ?_
      refine (sx_gfI (q := (9, 36, 0, 1404)) (j := 36) D292_57 (by decide +kernel) (by decide +kernel) (by decide) (MA_o h0) rfl (up2_cell (by omega))).trans ?_
      refine (sx_iload_n D292_60 rfl).trans ?_
      refine (sx_is D292_61 (MA_k38 h0)).trans (gdR_to fun g2 => ?_)
      refine (sx_aload_n D292_62 rfl).trans ?_
      refine (sx_dup D292_63 (by decide)).trans ?_
      refine (sx_gfI (q := (9, 36, 0, 1404)) (j := 36) D292_64 (by decide +kernel) (by decide +kernel) (by decide) (MA_o h0) rfl ((up2_cell (by omega)).trans (up2_cell (by omega)))).trans ?_
      refine (sx_iconst D292_67).trans ?_
      refine (sx_iadd D292_68).trans ?_
      refine (sx_pfI (q := (9, 36, 0, 1404)) (j := 36) D292_69 (by decide +kernel) (by decide) (by decide) (MA_o h0) rfl).trans ?_
      refine (sx_aload_n D292_72 rfl).trans ?_
      refine (sx_gfI (q := (9, 36, 0, 1404)) (j := 36) D292_73 (by decide +kernel) (by decide +kernel) (by decide) (MA_o h0) rfl (up2_same _ _ _ _)).trans ?_
      exact sx_ireturn D292_76 (by decide +kernel)
theorem E292_40 {d : Nat} {a1 a2 : Int} {S : SS} {I : II}  : ev d 292 40 [(2, 427), (0, a1), (0, a2)] [] S I = some ((0, (-1)), S, I) := by
  refine (sx_iconst D292_40).trans ?_
  exact sx_ireturn D292_41 (by decide +kernel)
theorem E293_0 {d : Nat} {a0 : Int} {S : SS} {I : II}  : ev d 293 0 [(0, a0)] [] S I = if w a0 = 2 then (ev d 293 20 [(0, a0)] [(0, 9)] S I) else (if w a0 = 3 then (ev d 293 20 [(0, a0)] [(0, 1)] S I) else (ev d 293 20 [(0, a0)] [(0, 4)] S I)) := by
  refine (sx_iload_n D293_0 rfl).trans ?_
  refine (sx_iconst D293_1).trans ?_
  refine sx_if_ne (pc' := 10) D293_2 (by decide) (by decide) ?_ ?_ rfl (w_small (by decide) (by decide))
  · refine (sx_bipush D293_5 (by decide)).trans ?_
    refine (sx_goto (pc' := 20) D293_7 (by decide) (by decide)).trans ?_
    exact rfl
  · refine (sx_iload_n D293_10 rfl).trans ?_
    refine (sx_iconst D293_11).trans ?_
    refine sx_if_ne (pc' := 19) D293_12 (by decide) (by decide) ?_ ?_ rfl (w_small (by decide) (by decide))
    · refine (sx_iconst D293_15).trans ?_
      refine (sx_goto (pc' := 20) D293_16 (by decide) (by decide)).trans ?_
      exact rfl
    · refine (sx_iconst D293_19).trans ?_
      exact rfl
theorem E293_20 {d : Nat} {a0 s0 : Int} {S : SS} {I : II}  : ev d 293 20 [(0, a0)] [(0, s0)] S I = some ((0, s0), S, I) := by
  exact sx_ireturn D293_20 (by decide +kernel)
theorem E294_0 {d : Nat} {S : SS} {I : II} (h0 : MA S 427) : ev d 294 0 [(2, 427), uU] [] S I = some ((0, I 427 36), S, (up2 (up2 I 427 0 0) 427 36 0)) := by
  refine (sx_aload_n D294_0 rfl).trans ?_
  refine (sx_iconst D294_1).trans ?_
  refine (sx_pfI (q := (9, 0, 0, 1368)) (j := 0) D294_2 (by decide +kernel) (by decide) (by decide) (MA_o h0) rfl).trans ?_
  refine (sx_aload_n D294_5 rfl).trans ?_
  refine (sx_gfI (q := (9, 36, 0, 1404)) (j := 36) D294_6 (by decide +kernel) (by decide +kernel) (by decide) (MA_o h0) rfl (up2_slot (by decide))).trans ?_
  refine (sx_istore_n (al' := [(2, 427), (0, I 427 36)]) D294_9 (Nat.le_of_ble_eq_true rfl) rfl rfl).trans ?_
  refine (sx_aload_n D294_10 rfl).trans ?_
  refine (sx_iconst D294_11).trans ?_
  refine (sx_pfI (q := (9, 36, 0, 1404)) (j := 36) D294_12 (by decide +kernel) (by decide) (by decide) (MA_o h0) rfl).trans ?_
  refine (sx_iload_n D294_15 rfl).trans ?_
  exact sx_ireturn D294_16 (by decide +kernel)
theorem E295_0 {d : Nat} {S : SS} {I : II} (h0 : MA S 427) : ev d 295 0 [(2, 427), uU, uU, uU, uU] [] S I = ev d 295 14 [(2, 427), (0, 0), (0, 0), uU, uU] [] S (up2 (up2 I 427 0 0) 427 1 0) := by
  refine (sx_aload_n D295_0 rfl).trans ?_
  refine (sx_iconst D295_1).trans ?_
  refine (sx_pfI (q := (9, 0, 0, 1368)) (j := 0) D295_2 (by decide +kernel) (by decide) (by decide) (MA_o h0) rfl).trans ?_
  refine (sx_iconst D295_5).trans ?_
  refine (sx_istore_n (al' := [(2, 427), (0, 0), uU, uU, uU]) D295_6 (Nat.le_of_ble_eq_true rfl) rfl rfl).trans ?_
  refine (sx_aload_n D295_7 rfl).trans ?_
  refine (sx_iconst D295_8).trans ?_
  refine (sx_pfI (q := (9, 1, 0, 1369)) (j := 1) D295_9 (by decide +kernel) (by decide) (by decide) (MA_o h0) rfl).trans ?_
  refine (sx_iconst D295_12).trans ?_
  refine (sx_istore_n (al' := [(2, 427), (0, 0), (0, 0), uU, uU]) D295_13 (Nat.le_of_ble_eq_true rfl) rfl rfl).trans ?_
  exact rfl
theorem E295_14 {d : Nat} {a1 a2 : Int} {a3 a4 : AV} {S : SS} {I : II} (h0 : MA S 427) : ev d 295 14 [(2, 427), (0, a1), (0, a2), a3, a4] [] S I = if w a2 < w (I 427 14) then (ev d 295 24 [(2, 427), (0, a1), (0, a2), (0, 0), a4] [] S I) else (some ((0, a1), S, I)) := by
  refine (sx_iload_n D295_14 rfl).trans ?_
  refine (sx_aload_n D295_15 rfl).trans ?_
  refine (sx_gfI (q := (9, 14, 0, 1382)) (j := 14) D295_16 (by decide +kernel) (by decide +kernel) (by decide) (MA_o h0) rfl rfl).trans ?_
  refine sx_if_ge (pc' := 79) D295_19 (by decide) (by decide) ?_ ?_ rfl rfl
  · refine (sx_iconst D295_22).trans ?_
    refine (sx_istore_n (al' := [(2, 427), (0, a1), (0, a2), (0, 0), a4]) D295_23 (Nat.le_of_ble_eq_true rfl) rfl rfl).trans ?_
    exact rfl
  · refine (sx_iload_n D295_79 rfl).trans ?_
    exact sx_ireturn D295_80 (by decide +kernel)
theorem E295_24 {d : Nat} {a1 a2 a3 : Int} {a4 : AV} {S : SS} {I : II} (h0 : MA S 427) : ev (d + 1) 295 24 [(2, 427), (0, a1), (0, a2), (0, a3), a4] [] S I = if w a3 < 16 then ((ev d 296 0 [(2, 427), (0, a2), (0, a3), uU, uU] [] S I).bind (fun q => ev (d + 1) 295 36 [(2, 427), (0, a1), (0, a2), (0, a3), a4] (psh q.1 []) q.2.1 q.2.2)) else (ev (d + 1) 295 14 [(2, 427), (0, a1), (0, a2 + 1), (0, a3), a4] [] S I) := by
  refine (sx_iload_n D295_24 rfl).trans ?_
  refine (sx_bipush D295_25 (by decide)).trans ?_
  refine sx_if_ge (pc' := 73) D295_27 (by decide) (by decide) ?_ ?_ rfl (w_small (by decide) (by decide))
  · refine (sx_aload_n D295_30 rfl).trans ?_
    refine (sx_iload_n D295_31 rfl).trans ?_
    refine (sx_iload_n D295_32 rfl).trans ?_
    exact sx_virt (c := 11) (ag := [(2, 427), (0, a2), (0, a3)]) (r := []) (al' := [(2, 427), (0, a2), (0, a3), uU, uU]) (np := 2) (nl := 5) (q := (1, 296, 1845)) D295_33 (by decide +kernel) (by decide) mP_296 mL_296 mC_296 (Nat.le_of_ble_eq_true rfl) rfl rfl (by simp [cat]) (by decide) (MA_o h0) rfl rfl
  · refine (sx_iinc (al' := [(2, 427), (0, a1), (0, a2 + 1), (0, a3), a4]) D295_73 rfl rfl).trans ?_
    refine (sx_goto (pc' := 14) D295_76 (by decide) (by decide)).trans ?_
    exact rfl
theorem E295_36 {d : Nat} {a1 a2 a3 s0 : Int} {a4 : AV} {S : SS} {I : II} (h0 : MA S 427) : ev (d + 1) 295 36 [(2, 427), (0, a1), (0, a2), (0, a3), a4] [(0, s0)] S I = if w s0 = 0 then (ev (d + 1) 295 59 [(2, 427), (0, a1), (0, a2), (0, a3), (0, s0)] [] S I) else (if w a1 = 0 then ((ev d 255 0 [(2, 427), (1, w a2), uU] [] S I).bind (fun q => ev (d + 1) 295 53 [(2, 427), (0, a1), (0, a2), (0, a3), (0, s0)] (psh q.1 []) q.2.1 q.2.2)) else (ev (d + 1) 295 59 [(2, 427), (0, a1), (0, a2), (0, a3), (0, s0)] [] S I)) := by
  refine (sx_istore (al' := [(2, 427), (0, a1), (0, a2), (0, a3), (0, s0)]) D295_36 (Nat.le_of_ble_eq_true rfl) rfl rfl).trans ?_
  refine (sx_iload D295_38 rfl).trans ?_
  refine sx_i0_eq (pc' := 59) D295_40 (by decide) (by decide) ?_ ?_ rfl
  · exact rfl
  · refine (sx_iload_n D295_43 rfl).trans ?_
    refine sx_i0_ne (pc' := 59) D295_44 (by decide) (by decide) ?_ ?_ rfl
    · refine (sx_aload_n D295_47 rfl).trans ?_
      refine (sx_iload_n D295_48 rfl).trans ?_
      refine (sx_i2l D295_49).trans ?_
      exact sx_virt (c := 11) (ag := [(2, 427), (1, w a2)]) (r := []) (al' := [(2, 427), (1, w a2), uU]) (np := 1) (nl := 3) (q := (1, 255, 1683)) D295_50 (by decide +kernel) (by decide) mP_255 mL_255 mC_255 (Nat.le_of_ble_eq_true rfl) rfl rfl (by simp [cat]) (by decide) (MA_o h0) rfl rfl
    · exact rfl
theorem E295_53 {d : Nat} {a1 a2 a3 a4 : Int} {S : SS} {I : II} (h0 : MA S 427) : ev (d + 1) 295 53 [(2, 427), (0, a1), (0, a2), (0, a3), (0, a4)] [] S I = (ev d 255 0 [(2, 427), (1, w a3), uU] [] S I).bind (fun q => ev (d + 1) 295 59 [(2, 427), (0, a1), (0, a2), (0, a3), (0, a4)] (psh q.1 []) q.2.1 q.2.2) := by
  refine (sx_aload_n D295_53 rfl).trans ?_
  refine (sx_iload_n D295_54 rfl).trans ?_
  refine (sx_i2l D295_55).trans ?_
  exact sx_virt (c := 11) (ag := [(2, 427), (1, w a3)]) (r := []) (al' := [(2, 427), (1, w a3), uU]) (np := 1) (nl := 3) (q := (1, 255, 1683)) D295_56 (by decide +kernel) (by decide) mP_255 mL_255 mC_255 (Nat.le_of_ble_eq_true rfl) rfl rfl (by simp [cat]) (by decide) (MA_o h0) rfl rfl
theorem E295_59 {d : Nat} {a1 a2 a3 a4 : Int} {S : SS} {I : II}  : ev (d + 1) 295 59 [(2, 427), (0, a1), (0, a2), (0, a3), (0, a4)] [] S I = (ev d 199 0 [(0, a4)] [] S I).bind (fun q => ev (d + 1) 295 65 [(2, 427), (0, a1), (0, a2), (0, a3), (0, a4)] (psh q.1 [(0, a1)]) q.2.1 q.2.2) := by
  refine (sx_iload_n D295_59 rfl).trans ?_
  refine (sx_iload D295_60 rfl).trans ?_
  exact sx_stat (ag := [(0, a4)]) (r := [(0, a1)]) (al' := [(0, a4)]) (np := 1) (nl := 1) (q := (0, 199, 1328)) D295_62 (by decide +kernel) (by decide) mP_199 mL_199 (Nat.le_of_ble_eq_true rfl) rfl rfl (by simp [cat]) rfl rfl
theorem E295_65 {d : Nat} {a1 a2 a3 a4 s0 s1 : Int} {S : SS} {I : II}  : ev d 295 65 [(2, 427), (0, a1), (0, a2), (0, a3), (0, a4)] [(0, s1), (0, s0)] S I = ev d 295 24 [(2, 427), (0, s0 + s1), (0, a2), (0, a3 + 1), (0, a4)] [] S I := by
  refine (sx_iadd D295_65).trans ?_
  refine (sx_istore_n (al' := [(2, 427), (0, s0 + s1), (0, a2), (0, a3), (0, a4)]) D295_66 (Nat.le_of_ble_eq_true rfl) rfl rfl).trans ?_
  refine (sx_iinc (al' := [(2, 427), (0, s0 + s1), (0, a2), (0, a3 + 1), (0, a4)]) D295_67 rfl rfl).trans ?_
  refine (sx_goto (pc' := 24) D295_70 (by decide) (by decide)).trans ?_
  exact rfl
theorem E296_0 {d : Nat} {a1 a2 : Int} {S : SS} {I : II} (h0 : MA S 427) : ev (d + 1) 296 0 [(2, 427), (0, a1), (0, a2), uU, uU] [] S I = (ev d 297 0 [(2, 427), (0, a1), (0, a2), uU, uU, uU] [] S I).bind (fun q => ev (d + 1) 296 6 [(2, 427), (0, a1), (0, a2), uU, uU] (psh q.1 []) q.2.1 q.2.2) := by
  refine (sx_aload_n D296_0 rfl).trans ?_
  refine (sx_iload_n D296_1 rfl).trans ?_
  refine (sx_iload_n D296_2 rfl).trans ?_
  exact sx_virt (c := 11) (ag := [(2, 427), (0, a1), (0, a2)]) (r := []) (al' := [(2, 427), (0, a1), (0, a2), uU, uU, uU]) (np := 2) (nl := 6) (q := (1, 297, 1849)) D296_3 (by decide +kernel) (by decide) mP_297 mL_297 mC_297 (Nat.le_of_ble_eq_true rfl) rfl rfl (by simp [cat]) (by decide) (MA_o h0) rfl rfl
theorem E296_6 {d : Nat} {a1 a2 s0 : Int} {S : SS} {I : II}  : ev d 296 6 [(2, 427), (0, a1), (0, a2), uU, uU] [(0, s0)] S I = if w s0 < 0 then (ev d 296 14 [(2, 427), (0, a1), (0, a2), uU, uU] [(0, 0)] S I) else (ev d 296 14 [(2, 427), (0, a1), (0, a2), uU, uU] [(0, 1)] S I) := by
  refine sx_i0_lt (pc' := 13) D296_6 (by decide) (by decide) ?_ ?_ rfl
  · refine (sx_iconst D296_13).trans ?_
    exact rfl
  · refine (sx_iconst D296_9).trans ?_
    refine (sx_goto (pc' := 14) D296_10 (by decide) (by decide)).trans ?_
    exact rfl
theorem E296_14 {d : Nat} {a1 a2 s0 : Int} {S : SS} {I : II}  : ev d 296 14 [(2, 427), (0, a1), (0, a2), uU, uU] [(0, s0)] S I = ev d 296 18 [(2, 427), (0, a1), (0, a2), (0, s0), (0, 0)] [] S I := by
  refine (sx_istore_n (al' := [(2, 427), (0, a1), (0, a2), (0, s0), uU]) D296_14 (Nat.le_of_ble_eq_true rfl) rfl rfl).trans ?_
  refine (sx_iconst D296_15).trans ?_
  refine (sx_istore (al' := [(2, 427), (0, a1), (0, a2), (0, s0), (0, 0)]) D296_16 (Nat.le_of_ble_eq_true rfl) rfl rfl).trans ?_
  exact rfl
theorem E296_18 {d : Nat} {a1 a2 a3 a4 : Int} {S : SS} {I : II} (h0 : MA S 427) : ev (d + 1) 296 18 [(2, 427), (0, a1), (0, a2), (0, a3), (0, a4)] [] S I = if w a4 < w (I 427 36) then (if w a3 = 0 then (ev (d + 1) 296 58 [(2, 427), (0, a1), (0, a2), (0, a3), (0, a4)] [] S I) else (gdR (0 ≤ w a4 ∧ w a4 < 12) (gdR (0 ≤ w a4 ∧ w a4 < 12) ((ev d 298 0 [(2, 427), (0, a1), (0, a2), (0, I 448 (w a4)), (0, I 449 (w a4)), uU] [] S I).bind (fun q => ev (d + 1) 296 51 [(2, 427), (0, a1), (0, a2), (0, a3), (0, a4)] (psh q.1 []) q.2.1 q.2.2))))) else (ev (d + 1) 296 58 [(2, 427), (0, a1), (0, a2), (0, a3), (0, a4)] [] S I) := by
  refine (sx_iload D296_18 rfl).trans ?_
  refine (sx_aload_n D296_20 rfl).trans ?_
  refine (sx_gfI (q := (9, 36, 0, 1404)) (j := 36) D296_21 (by decide +kernel) (by decide +kernel) (by decide) (MA_o h0) rfl rfl).trans ?_
  refine sx_if_ge (pc' := 58) D296_24 (by decide) (by decide) ?_ ?_ rfl rfl
  · refine (sx_iload_n D296_27 rfl).trans ?_
    refine sx_i0_eq (pc' := 58) D296_28 (by decide) (by decide) ?_ ?_ rfl
    · exact rfl
    · refine (sx_aload_n D296_31 rfl).trans ?_
      refine (sx_iload_n D296_32 rfl).trans ?_
      refine (sx_iload_n D296_33 rfl).trans ?_
      refine (sx_aload_n D296_34 rfl).trans ?_
      refine (sx_gfR (q := (9, 37, 0, 1405)) (b := 448) D296_35 (by decide +kernel) (by decide +kernel) (by decide) (MA_o h0) (MA_g37 h0)).trans ?_
      refine (sx_iload D296_38 rfl).trans ?_
      refine (sx_ia D296_40 (MA_k37 h0) rfl).trans (gdR_to fun g1 => ?_)
      refine (sx_aload_n D296_41 rfl).trans ?_
      refine (sx_gfR (q := (9, 38, 0, 1406)) (b := 449) D296_42 (by decide +kernel) (by decide +kernel) (by decide) (MA_o h0) (MA_g38 h0)).trans ?_
      refine (sx_iload D296_45 rfl).trans ?_
      refine (sx_ia D296_47 (MA_k38 h0) rfl).trans (gdR_to fun g2 => ?_)
      exact sx_virt (c := 11) (ag := [(2, 427), (0, a1), (0, a2), (0, I 448 (w a4)), (0, I 449 (w a4))]) (r := []) (al' := [(2, 427), (0, a1), (0, a2), (0, I 448 (w a4)), (0, I 449 (w a4)), uU]) (np := 4) (nl := 6) (q := (1, 298, 1853)) D296_48 (by decide +kernel) (by decide) mP_298 mL_298 mC_298 (Nat.le_of_ble_eq_true rfl) rfl rfl (by simp [cat]) (by decide) (MA_o h0) rfl rfl
  · exact rfl
theorem E296_51 {d : Nat} {a1 a2 a3 a4 s0 : Int} {S : SS} {I : II}  : ev d 296 51 [(2, 427), (0, a1), (0, a2), (0, a3), (0, a4)] [(0, s0)] S I = ev d 296 18 [(2, 427), (0, a1), (0, a2), (0, s0), (0, a4 + 1)] [] S I := by
  refine (sx_istore_n (al' := [(2, 427), (0, a1), (0, a2), (0, s0), (0, a4)]) D296_51 (Nat.le_of_ble_eq_true rfl) rfl rfl).trans ?_
  refine (sx_iinc (al' := [(2, 427), (0, a1), (0, a2), (0, s0), (0, a4 + 1)]) D296_52 rfl rfl).trans ?_
  refine (sx_goto (pc' := 18) D296_55 (by decide) (by decide)).trans ?_
  exact rfl
theorem E296_58 {d : Nat} {a1 a2 a3 a4 : Int} {S : SS} {I : II} (h0 : a3 = 0 ∨ a3 = 1) : ev d 296 58 [(2, 427), (0, a1), (0, a2), (0, a3), (0, a4)] [] S I = some ((0, a3), S, I) := by
  refine (sx_iload_n D296_58 rfl).trans ?_
  exact sx_zreturn D296_59 (by decide +kernel) h0
theorem E297_0 {d : Nat} {a1 a2 : Int} {S : SS} {I : II} (h0 : MA S 427) : ev (d + 1) 297 0 [(2, 427), (0, a1), (0, a2), uU, uU, uU] [] S I = (ev d 221 0 [(2, 438), (0, a1), (0, a2), uU] [] S I).bind (fun q => ev (d + 1) 297 9 [(2, 427), (0, a1), (0, a2), uU, uU, uU] (psh q.1 []) q.2.1 q.2.2) := by
  refine (sx_aload_n D297_0 rfl).trans ?_
  refine (sx_gfR (q := (9, 20, 0, 1388)) (b := 438) D297_1 (by decide +kernel) (by decide +kernel) (by decide) (MA_o h0) (MA_g20 h0)).trans ?_
  refine (sx_iload_n D297_4 rfl).trans ?_
  refine (sx_iload_n D297_5 rfl).trans ?_
  exact sx_stat (ag := [(2, 438), (0, a1), (0, a2)]) (r := []) (al' := [(2, 438), (0, a1), (0, a2), uU]) (np := 3) (nl := 4) (q := (0, 221, 1563)) D297_6 (by decide +kernel) (by decide) mP_221 mL_221 (Nat.le_of_ble_eq_true rfl) rfl rfl (by simp [cat]) rfl rfl
theorem E297_9 {d : Nat} {a1 a2 s0 : Int} {S : SS} {I : II} (h0 : MA S 427) : ev (d + 1) 297 9 [(2, 427), (0, a1), (0, a2), uU, uU, uU] [(0, s0)] S I = if w s0 < 0 then ((ev d 223 0 [(2, 438), (0, a1), (0, a2), uU, uU] [] S I).bind (fun q => ev (d + 1) 297 39 [(2, 427), (0, a1), (0, a2), (0, s0), uU, uU] (psh q.1 []) q.2.1 q.2.2)) else ((ev d 212 0 [(2, 438), (0, a1), (0, 3)] [] S I).bind (fun q => ev (d + 1) 297 24 [(2, 427), (0, a1), (0, a2), (0, s0), uU, uU] (psh q.1 [(0, a1)]) q.2.1 q.2.2)) := by
  refine (sx_istore_n (al' := [(2, 427), (0, a1), (0, a2), (0, s0), uU, uU]) D297_9 (Nat.le_of_ble_eq_true rfl) rfl rfl).trans ?_
  refine (sx_iload_n D297_10 rfl).trans ?_
  refine sx_i0_lt (pc' := 30) D297_11 (by decide) (by decide) ?_ ?_ rfl
  · refine (sx_aload_n D297_30 rfl).trans ?_
    refine (sx_gfR (q := (9, 20, 0, 1388)) (b := 438) D297_31 (by decide +kernel) (by decide +kernel) (by decide) (MA_o h0) (MA_g20 h0)).trans ?_
    refine (sx_iload_n D297_34 rfl).trans ?_
    refine (sx_iload_n D297_35 rfl).trans ?_
    exact sx_stat (ag := [(2, 438), (0, a1), (0, a2)]) (r := []) (al' := [(2, 438), (0, a1), (0, a2), uU, uU]) (np := 3) (nl := 5) (q := (0, 223, 1569)) D297_36 (by decide +kernel) (by decide) mP_223 mL_223 (Nat.le_of_ble_eq_true rfl) rfl rfl (by simp [cat]) rfl rfl
  · refine (sx_iload_n D297_14 rfl).trans ?_
    refine (sx_aload_n D297_15 rfl).trans ?_
    refine (sx_gfR (q := (9, 20, 0, 1388)) (b := 438) D297_16 (by decide +kernel) (by decide +kernel) (by decide) (MA_o h0) (MA_g20 h0)).trans ?_
    refine (sx_iload_n D297_19 rfl).trans ?_
    refine (sx_iconst D297_20).trans ?_
    exact sx_stat (ag := [(2, 438), (0, a1), (0, 3)]) (r := [(0, a1)]) (al' := [(2, 438), (0, a1), (0, 3)]) (np := 3) (nl := 3) (q := (0, 212, 1526)) D297_21 (by decide +kernel) (by decide) mP_212 mL_212 (Nat.le_of_ble_eq_true rfl) rfl rfl (by simp [cat]) rfl rfl
theorem E297_24 {d : Nat} {a1 a2 a3 s0 s1 : Int} {S : SS} {I : II}  : ev (d + 1) 297 24 [(2, 427), (0, a1), (0, a2), (0, a3), uU, uU] [(0, s1), (0, s0)] S I = (ev d 222 0 [(0, s0), (0, s1 + a3)] [] S I).bind (fun q => ev (d + 1) 297 29 [(2, 427), (0, a1), (0, a2), (0, a3), uU, uU] (psh q.1 []) q.2.1 q.2.2) := by
  refine (sx_iload_n D297_24 rfl).trans ?_
  refine (sx_iadd D297_25).trans ?_
  exact sx_stat (ag := [(0, s0), (0, s1 + a3)]) (r := []) (al' := [(0, s0), (0, s1 + a3)]) (np := 2) (nl := 2) (q := (0, 222, 1566)) D297_26 (by decide +kernel) (by decide) mP_222 mL_222 (Nat.le_of_ble_eq_true rfl) rfl rfl (by simp [cat]) rfl rfl
theorem E297_29 {d : Nat} {a1 a2 a3 s0 : Int} {S : SS} {I : II}  : ev d 297 29 [(2, 427), (0, a1), (0, a2), (0, a3), uU, uU] [(0, s0)] S I = some ((0, s0), S, I) := by
  exact sx_ireturn D297_29 (by decide +kernel)
theorem E297_39 {d : Nat} {a1 a2 a3 s0 : Int} {S : SS} {I : II}  : ev (d + 1) 297 39 [(2, 427), (0, a1), (0, a2), (0, a3), uU, uU] [(0, s0)] S I = if w s0 < 0 then (some ((0, (-1)), S, I)) else ((ev d 224 0 [(0, s0)] [] S I).bind (fun q => ev (d + 1) 297 53 [(2, 427), (0, a1), (0, a2), (0, a3), (0, s0), uU] (psh q.1 []) q.2.1 q.2.2)) := by
  refine (sx_istore (al' := [(2, 427), (0, a1), (0, a2), (0, a3), (0, s0), uU]) D297_39 (Nat.le_of_ble_eq_true rfl) rfl rfl).trans ?_
  refine (sx_iload D297_41 rfl).trans ?_
  refine sx_i0_ge (pc' := 48) D297_43 (by decide) (by decide) ?_ ?_ rfl
  · refine (sx_iconst D297_46).trans ?_
    exact sx_ireturn D297_47 (by decide +kernel)
  · refine (sx_iload D297_48 rfl).trans ?_
    exact sx_stat (ag := [(0, s0)]) (r := []) (al' := [(0, s0)]) (np := 1) (nl := 1) (q := (0, 224, 1572)) D297_50 (by decide +kernel) (by decide) mP_224 mL_224 (Nat.le_of_ble_eq_true rfl) rfl rfl (by simp [cat]) rfl rfl
theorem E297_53 {d : Nat} {a1 a2 a3 a4 s0 : Int} {S : SS} {I : II} (h0 : MA S 427) : ev (d + 1) 297 53 [(2, 427), (0, a1), (0, a2), (0, a3), (0, a4), uU] [(0, s0)] S I = gdR (0 ≤ w ((s0 + 1) + 0) ∧ w ((s0 + 1) + 0) < 844) (if w (I 438 (w ((s0 + 1) + 0))) = w a2 then (ev (d + 1) 297 83 [(2, 427), (0, a1), (0, a2), (0, a3), (0, a4), (0, s0 + 1)] [(0, s0 + 1)] S I) else ((ev d 224 0 [(0, a4)] [] S I).bind (fun q => ev (d + 1) 297 80 [(2, 427), (0, a1), (0, a2), (0, a3), (0, a4), (0, s0 + 1)] (psh q.1 []) q.2.1 q.2.2))) := by
  refine (sx_iconst D297_53).trans ?_
  refine (sx_iadd D297_54).trans ?_
  refine (sx_istore (al' := [(2, 427), (0, a1), (0, a2), (0, a3), (0, a4), (0, s0 + 1)]) D297_55 (Nat.le_of_ble_eq_true rfl) rfl rfl).trans ?_
  refine (sx_aload_n D297_57 rfl).trans ?_
  refine (sx_gfR (q := (9, 20, 0, 1388)) (b := 438) D297_58 (by decide +kernel) (by decide +kernel) (by decide) (MA_o h0) (MA_g20 h0)).trans ?_
  refine (sx_iload D297_61 rfl).trans ?_
  refine (sx_iconst D297_63).trans ?_
  refine (sx_iadd D297_64).trans ?_
  refine (sx_ia D297_65 (MA_k20 h0) rfl).trans (gdR_to fun g1 => ?_)
  refine (sx_iload_n D297_66 rfl).trans ?_
  refine sx_if_ne (pc' := 75) D297_67 (by decide) (by decide) ?_ ?_ rfl rfl
  · refine (sx_iload D297_70 rfl).trans ?_
    refine (sx_goto (pc' := 83) D297_72 (by decide) (by decide)).trans ?_
    exact rfl
  · refine (sx_iload D297_75 rfl).trans ?_
    exact sx_stat (ag := [(0, a4)]) (r := []) (al' := [(0, a4)]) (np := 1) (nl := 1) (q := (0, 224, 1572)) D297_77 (by decide +kernel) (by decide) mP_224 mL_224 (Nat.le_of_ble_eq_true rfl) rfl rfl (by simp [cat]) rfl rfl
theorem E297_80 {d : Nat} {a1 a2 a3 a4 a5 s0 : Int} {S : SS} {I : II}  : ev d 297 80 [(2, 427), (0, a1), (0, a2), (0, a3), (0, a4), (0, a5)] [(0, s0)] S I = ev d 297 83 [(2, 427), (0, a1), (0, a2), (0, a3), (0, a4), (0, a5)] [(0, s0 + 6)] S I := by
  refine (sx_bipush D297_80 (by decide)).trans ?_
  refine (sx_iadd D297_82).trans ?_
  exact rfl
theorem E297_83 {d : Nat} {a1 a2 a3 a4 a5 s0 : Int} {S : SS} {I : II}  : ev d 297 83 [(2, 427), (0, a1), (0, a2), (0, a3), (0, a4), (0, a5)] [(0, s0)] S I = some ((0, s0), S, I) := by
  exact sx_ireturn D297_83 (by decide +kernel)
theorem E298_0 {d : Nat} {a1 a2 a3 a4 : Int} {S : SS} {I : II} (h0 : MA S 427) : ev (d + 1) 298 0 [(2, 427), (0, a1), (0, a2), (0, a3), (0, a4), uU] [] S I = (ev d 297 0 [(2, 427), (0, a1), (0, a2), uU, uU, uU] [] S I).bind (fun q => ev (d + 1) 298 6 [(2, 427), (0, a1), (0, a2), (0, a3), (0, a4), uU] (psh q.1 []) q.2.1 q.2.2) := by
  refine (sx_aload_n D298_0 rfl).trans ?_
  refine (sx_iload_n D298_1 rfl).trans ?_
  refine (sx_iload_n D298_2 rfl).trans ?_
  exact sx_virt (c := 11) (ag := [(2, 427), (0, a1), (0, a2)]) (r := []) (al' := [(2, 427), (0, a1), (0, a2), uU, uU, uU]) (np := 2) (nl := 6) (q := (1, 297, 1849)) D298_3 (by decide +kernel) (by decide) mP_297 mL_297 mC_297 (Nat.le_of_ble_eq_true rfl) rfl rfl (by simp [cat]) (by decide) (MA_o h0) rfl rfl
theorem E298_6 {d : Nat} {a1 a2 a3 a4 s0 : Int} {S : SS} {I : II} (h0 : MA S 427) : ev d 298 6 [(2, 427), (0, a1), (0, a2), (0, a3), (0, a4), uU] [(0, s0)] S I = if w a3 = 0 then (if w a1 = w a4 then (ev d 298 47 [(2, 427), (0, a1), (0, a2), (0, a3), (0, a4), (0, s0)] [(0, 1)] S I) else (ev d 298 47 [(2, 427), (0, a1), (0, a2), (0, a3), (0, a4), (0, s0)] [(0, 0)] S I)) else (if w a3 = 1 then (gdR (0 ≤ w (s0 + 1) ∧ w (s0 + 1) < 844) (if w (I 438 (w (s0 + 1))) = w a4 then (ev d 298 67 [(2, 427), (0, a1), (0, a2), (0, a3), (0, a4), (0, s0)] [(0, 1)] S I) else (ev d 298 67 [(2, 427), (0, a1), (0, a2), (0, a3), (0, a4), (0, s0)] [(0, 0)] S I))) else (if w a3 = 2 then (gdR (0 ≤ w (s0 + 2) ∧ w (s0 + 2) < 844) (if w (I 438 (w (s0 + 2))) = w a4 then (ev d 298 87 [(2, 427), (0, a1), (0, a2), (0, a3), (0, a4), (0, s0)] [(0, 1)] S I) else (ev d 298 87 [(2, 427), (0, a1), (0, a2), (0, a3), (0, a4), (0, s0)] [(0, 0)] S I))) else (if w s0 < 445 then (ev d 298 101 [(2, 427), (0, a1), (0, a2), (0, a3), (0, a4), (0, s0)] [(0, 0)] S I) else (ev d 298 101 [(2, 427), (0, a1), (0, a2), (0, a3), (0, a4), (0, s0)] [(0, 1)] S I)))) := by
  refine (sx_istore (al' := [(2, 427), (0, a1), (0, a2), (0, a3), (0, a4), (0, s0)]) D298_6 (Nat.le_of_ble_eq_true rfl) rfl rfl).trans ?_
  refine (sx_iload_n D298_8 rfl).trans ?_
  refine ite_go (c := w a3 = 0) (fun x1 => ?_) (fun x1 => ?_)
  · refine (sx_tsw (pc' := 36) D298_9 ((rfl).trans x1) (by decide) rfl (by decide) (by decide)).trans ?_
    refine (sx_iload_n D298_36 rfl).trans ?_
    refine (sx_iload D298_37 rfl).trans ?_
    refine sx_if_ne (pc' := 46) D298_39 (by decide) (by decide) ?_ ?_ rfl rfl
    · refine (sx_iconst D298_42).trans ?_
      refine (sx_goto (pc' := 47) D298_43 (by decide) (by decide)).trans ?_
      exact rfl
    · refine (sx_iconst D298_46).trans ?_
      exact rfl
  refine ite_go (c := w a3 = 1) (fun x2 => ?_) (fun x2 => ?_)
  · refine (sx_tsw (pc' := 48) D298_9 ((rfl).trans x2) (by decide) rfl (by decide) (by decide)).trans ?_
    refine (sx_aload_n D298_48 rfl).trans ?_
    refine (sx_gfR (q := (9, 20, 0, 1388)) (b := 438) D298_49 (by decide +kernel) (by decide +kernel) (by decide) (MA_o h0) (MA_g20 h0)).trans ?_
    refine (sx_iload D298_52 rfl).trans ?_
    refine (sx_iconst D298_54).trans ?_
    refine (sx_iadd D298_55).trans ?_
    refine (sx_ia D298_56 (MA_k20 h0) rfl).trans (gdR_to fun g3 => ?_)
    refine (sx_iload D298_57 rfl).trans ?_
    refine sx_if_ne (pc' := 66) D298_59 (by decide) (by decide) ?_ ?_ rfl rfl
    · refine (sx_iconst D298_62).trans ?_
      refine (sx_goto (pc' := 67) D298_63 (by decide) (by decide)).trans ?_
      exact rfl
    · refine (sx_iconst D298_66).trans ?_
      exact rfl
  refine ite_go (c := w a3 = 2) (fun x4 => ?_) (fun x4 => ?_)
  · refine (sx_tsw (pc' := 68) D298_9 ((rfl).trans x4) (by decide) rfl (by decide) (by decide)).trans ?_
    refine (sx_aload_n D298_68 rfl).trans ?_
    refine (sx_gfR (q := (9, 20, 0, 1388)) (b := 438) D298_69 (by decide +kernel) (by decide +kernel) (by decide) (MA_o h0) (MA_g20 h0)).trans ?_
    refine (sx_iload D298_72 rfl).trans ?_
    refine (sx_iconst D298_74).trans ?_
    refine (sx_iadd D298_75).trans ?_
    refine (sx_ia D298_76 (MA_k20 h0) rfl).trans (gdR_to fun g5 => ?_)
    refine (sx_iload D298_77 rfl).trans ?_
    refine sx_if_ne (pc' := 86) D298_79 (by decide) (by decide) ?_ ?_ rfl rfl
    · refine (sx_iconst D298_82).trans ?_
      refine (sx_goto (pc' := 87) D298_83 (by decide) (by decide)).trans ?_
      exact rfl
    · refine (sx_iconst D298_86).trans ?_
      exact rfl
  refine (sx_tsd (pc' := 88) D298_9 (show w a3 < 0 ∨ 2 < w a3 by rw [show w a3 = w a3 from rfl]; omega) (by decide) (by decide)).trans ?_
  refine (sx_iload D298_88 rfl).trans ?_
  refine (sx_sipush D298_90 (by decide)).trans ?_
  refine sx_if_lt (pc' := 100) D298_93 (by decide) (by decide) ?_ ?_ rfl (w_small (by decide) (by decide))
  · refine (sx_iconst D298_100).trans ?_
    exact rfl
  · refine (sx_iconst D298_96).trans ?_
    refine (sx_goto (pc' := 101) D298_97 (by decide) (by decide)).trans ?_
    exact rfl
theorem E298_47 {d : Nat} {a1 a2 a3 a4 a5 s0 : Int} {S : SS} {I : II} (h0 : s0 = 0 ∨ s0 = 1) : ev d 298 47 [(2, 427), (0, a1), (0, a2), (0, a3), (0, a4), (0, a5)] [(0, s0)] S I = some ((0, s0), S, I) := by
  exact sx_zreturn D298_47 (by decide +kernel) h0
theorem E298_67 {d : Nat} {a1 a2 a3 a4 a5 s0 : Int} {S : SS} {I : II} (h0 : s0 = 0 ∨ s0 = 1) : ev d 298 67 [(2, 427), (0, a1), (0, a2), (0, a3), (0, a4), (0, a5)] [(0, s0)] S I = some ((0, s0), S, I) := by
  exact sx_zreturn D298_67 (by decide +kernel) h0
theorem E298_87 {d : Nat} {a1 a2 a3 a4 a5 s0 : Int} {S : SS} {I : II} (h0 : s0 = 0 ∨ s0 = 1) : ev d 298 87 [(2, 427), (0, a1), (0, a2), (0, a3), (0, a4), (0, a5)] [(0, s0)] S I = some ((0, s0), S, I) := by
  exact sx_zreturn D298_87 (by decide +kernel) h0
theorem E298_101 {d : Nat} {a1 a2 a3 a4 a5 s0 : Int} {S : SS} {I : II}  : ev (d + 1) 298 101 [(2, 427), (0, a1), (0, a2), (0, a3), (0, a4), (0, a5)] [(0, s0)] S I = (ev d 199 0 [(0, s0)] [] S I).bind (fun q => ev (d + 1) 298 104 [(2, 427), (0, a1), (0, a2), (0, a3), (0, a4), (0, a5)] (psh q.1 []) q.2.1 q.2.2) := by
  exact sx_stat (ag := [(0, s0)]) (r := []) (al' := [(0, s0)]) (np := 1) (nl := 1) (q := (0, 199, 1328)) D298_101 (by decide +kernel) (by decide) mP_199 mL_199 (Nat.le_of_ble_eq_true rfl) rfl rfl (by simp [cat]) rfl rfl
theorem E298_104 {d : Nat} {a1 a2 a3 a4 a5 s0 : Int} {S : SS} {I : II}  : ev d 298 104 [(2, 427), (0, a1), (0, a2), (0, a3), (0, a4), (0, a5)] [(0, s0)] S I = if w s0 = w a4 then (ev d 298 114 [(2, 427), (0, a1), (0, a2), (0, a3), (0, a4), (0, a5)] [(0, 1)] S I) else (ev d 298 114 [(2, 427), (0, a1), (0, a2), (0, a3), (0, a4), (0, a5)] [(0, 0)] S I) := by
  refine (sx_iload D298_104 rfl).trans ?_
  refine sx_if_ne (pc' := 113) D298_106 (by decide) (by decide) ?_ ?_ rfl rfl
  · refine (sx_iconst D298_109).trans ?_
    refine (sx_goto (pc' := 114) D298_110 (by decide) (by decide)).trans ?_
    exact rfl
  · refine (sx_iconst D298_113).trans ?_
    exact rfl
theorem E298_114 {d : Nat} {a1 a2 a3 a4 a5 s0 : Int} {S : SS} {I : II} (h0 : s0 = 0 ∨ s0 = 1) : ev d 298 114 [(2, 427), (0, a1), (0, a2), (0, a3), (0, a4), (0, a5)] [(0, s0)] S I = some ((0, s0), S, I) := by
  exact sx_zreturn D298_114 (by decide +kernel) h0
theorem E299_0 {d : Nat} {S : SS} {I : II} (h0 : MA S 427) : ev d 299 0 [(2, 427), uU, uU, uU, uU, uU, uU, uU] [] S I = ev d 299 9 [(2, 427), (0, 0), (0, 0), uU, uU, uU, uU, uU] [] S (up2 I 427 0 0) := by
  refine (sx_aload_n D299_0 rfl).trans ?_
  refine (sx_iconst D299_1).trans ?_
  refine (sx_pfI (q := (9, 0, 0, 1368)) (j := 0) D299_2 (by decide +kernel) (by decide) (by decide) (MA_o h0) rfl).trans ?_
  refine (sx_iconst D299_5).trans ?_
  refine (sx_istore_n (al' := [(2, 427), (0, 0), uU, uU, uU, uU, uU, uU]) D299_6 (Nat.le_of_ble_eq_true rfl) rfl rfl).trans ?_
  refine (sx_iconst D299_7).trans ?_
  refine (sx_istore_n (al' := [(2, 427), (0, 0), (0, 0), uU, uU, uU, uU, uU]) D299_8 (Nat.le_of_ble_eq_true rfl) rfl rfl).trans ?_
  exact rfl
theorem E299_9 {d : Nat} {a1 a2 : Int} {a3 : AV} {S : SS} {I : II} (h0 : MA S 427) : ev d 299 9 [(2, 427), (0, a1), (0, a2), a3, uU, uU, uU, uU] [] S I = if w a2 < w (I 427 14) then (ev d 299 19 [(2, 427), (0, a1), (0, a2), (0, 0), uU, uU, uU, uU] [] S I) else (if w a1 = 0 then (some ((0, (-2)), S, I)) else (ev d 299 65 [(2, 427), (0, a1), (0, (-1)), (0, 1000000), (0, 0), uU, uU, uU] [] S I)) := by
  refine (sx_iload_n D299_9 rfl).trans ?_
  refine (sx_aload_n D299_10 rfl).trans ?_
  refine (sx_gfI (q := (9, 14, 0, 1382)) (j := 14) D299_11 (by decide +kernel) (by decide +kernel) (by decide) (MA_o h0) rfl rfl).trans ?_
  refine sx_if_ge (pc' := 49) D299_14 (by decide) (by decide) ?_ ?_ rfl rfl
  · refine (sx_iconst D299_17).trans ?_
    refine (sx_istore_n (al' := [(2, 427), (0, a1), (0, a2), (0, 0), uU, uU, uU, uU]) D299_18 (Nat.le_of_ble_eq_true rfl) rfl rfl).trans ?_
    exact rfl
  · refine (sx_iload_n D299_49 rfl).trans ?_
    refine sx_i0_ne (pc' := 56) D299_50 (by decide) (by decide) ?_ ?_ rfl
    · refine (sx_bipush D299_53 (by decide)).trans ?_
      exact sx_ireturn D299_55 (by decide +kernel)
    · refine (sx_iconst D299_56).trans ?_
      refine (sx_istore_n (al' := [(2, 427), (0, a1), (0, (-1)), a3, uU, uU, uU, uU]) D299_57 (Nat.le_of_ble_eq_true rfl) rfl rfl).trans ?_
      refine (sx_ldc_w (q := (1000000, 1861)) D299_58 (by decide +kernel)).trans ?_
      refine (sx_istore_n (al' := [(2, 427), (0, a1), (0, (-1)), (0, 1000000), uU, uU, uU, uU]) D299_61 (Nat.le_of_ble_eq_true rfl) rfl rfl).trans ?_
      refine (sx_iconst D299_62).trans ?_
      refine (sx_istore (al' := [(2, 427), (0, a1), (0, (-1)), (0, 1000000), (0, 0), uU, uU, uU]) D299_63 (Nat.le_of_ble_eq_true rfl) rfl rfl).trans ?_
      exact rfl
theorem E299_19 {d : Nat} {a1 a2 a3 : Int} {S : SS} {I : II} (h0 : MA S 427) : ev (d + 1) 299 19 [(2, 427), (0, a1), (0, a2), (0, a3), uU, uU, uU, uU] [] S I = if w a3 < 16 then ((ev d 296 0 [(2, 427), (0, a2), (0, a3), uU, uU] [] S I).bind (fun q => ev (d + 1) 299 32 [(2, 427), (0, a1), (0, a2), (0, a3), uU, uU, uU, uU] (psh q.1 [(0, a1)]) q.2.1 q.2.2)) else (ev (d + 1) 299 9 [(2, 427), (0, a1), (0, a2 + 1), (0, a3), uU, uU, uU, uU] [] S I) := by
  refine (sx_iload_n D299_19 rfl).trans ?_
  refine (sx_bipush D299_20 (by decide)).trans ?_
  refine sx_if_ge (pc' := 43) D299_22 (by decide) (by decide) ?_ ?_ rfl (w_small (by decide) (by decide))
  · refine (sx_iload_n D299_25 rfl).trans ?_
    refine (sx_aload_n D299_26 rfl).trans ?_
    refine (sx_iload_n D299_27 rfl).trans ?_
    refine (sx_iload_n D299_28 rfl).trans ?_
    exact sx_virt (c := 11) (ag := [(2, 427), (0, a2), (0, a3)]) (r := [(0, a1)]) (al' := [(2, 427), (0, a2), (0, a3), uU, uU]) (np := 2) (nl := 5) (q := (1, 296, 1845)) D299_29 (by decide +kernel) (by decide) mP_296 mL_296 mC_296 (Nat.le_of_ble_eq_true rfl) rfl rfl (by simp [cat]) (by decide) (MA_o h0) rfl rfl
  · refine (sx_iinc (al' := [(2, 427), (0, a1), (0, a2 + 1), (0, a3), uU, uU, uU, uU]) D299_43 rfl rfl).trans ?_
    refine (sx_goto (pc' := 9) D299_46 (by decide) (by decide)).trans ?_
    exact rfl
theorem E299_32 {d : Nat} {a1 a2 a3 s0 s1 : Int} {S : SS} {I : II}  : ev (d + 1) 299 32 [(2, 427), (0, a1), (0, a2), (0, a3), uU, uU, uU, uU] [(0, s1), (0, s0)] S I = (ev d 199 0 [(0, s1)] [] S I).bind (fun q => ev (d + 1) 299 35 [(2, 427), (0, a1), (0, a2), (0, a3), uU, uU, uU, uU] (psh q.1 [(0, s0)]) q.2.1 q.2.2) := by
  exact sx_stat (ag := [(0, s1)]) (r := [(0, s0)]) (al' := [(0, s1)]) (np := 1) (nl := 1) (q := (0, 199, 1328)) D299_32 (by decide +kernel) (by decide) mP_199 mL_199 (Nat.le_of_ble_eq_true rfl) rfl rfl (by simp [cat]) rfl rfl
theorem E299_35 {d : Nat} {a1 a2 a3 s0 s1 : Int} {S : SS} {I : II}  : ev d 299 35 [(2, 427), (0, a1), (0, a2), (0, a3), uU, uU, uU, uU] [(0, s1), (0, s0)] S I = ev d 299 19 [(2, 427), (0, s0 + s1), (0, a2), (0, a3 + 1), uU, uU, uU, uU] [] S I := by
  refine (sx_iadd D299_35).trans ?_
  refine (sx_istore_n (al' := [(2, 427), (0, s0 + s1), (0, a2), (0, a3), uU, uU, uU, uU]) D299_36 (Nat.le_of_ble_eq_true rfl) rfl rfl).trans ?_
  refine (sx_iinc (al' := [(2, 427), (0, s0 + s1), (0, a2), (0, a3 + 1), uU, uU, uU, uU]) D299_37 rfl rfl).trans ?_
  refine (sx_goto (pc' := 19) D299_40 (by decide) (by decide)).trans ?_
  exact rfl
theorem E299_65 {d : Nat} {a1 a2 a3 a4 : Int} {a5 a6 a7 : AV} {S : SS} {I : II} (h0 : MA S 427) : ev (d + 1) 299 65 [(2, 427), (0, a1), (0, a2), (0, a3), (0, a4), a5, a6, a7] [] S I = if w a4 < 4 then (ev (d + 1) 299 74 [(2, 427), (0, a1), (0, a2), (0, a3), (0, a4), (0, 0), a6, a7] [] S I) else ((ev d 255 0 [(2, 427), (1, w a3), uU] [] S (up2 I 427 1 0)).bind (fun q => ev (d + 1) 299 154 [(2, 427), (0, a1), (0, a2), (0, a3), (0, a4), a5, a6, a7] (psh q.1 []) q.2.1 q.2.2)) := by
  refine (sx_iload D299_65 rfl).trans ?_
  refine (sx_iconst D299_67).trans ?_
  refine sx_if_ge (pc' := 143) D299_68 (by decide) (by decide) ?_ ?_ rfl (w_small (by decide) (by decide))
  · refine (sx_iconst D299_71).trans ?_
    refine (sx_istore (al' := [(2, 427), (0, a1), (0, a2), (0, a3), (0, a4), (0, 0), a6, a7]) D299_72 (Nat.le_of_ble_eq_true rfl) rfl rfl).trans ?_
    exact rfl
  · refine (sx_aload_n D299_143 rfl).trans ?_
    refine (sx_iconst D299_144).trans ?_
    refine (sx_pfI (q := (9, 1, 0, 1369)) (j := 1) D299_145 (by decide +kernel) (by decide) (by decide) (MA_o h0) rfl).trans ?_
    refine (sx_aload_n D299_148 rfl).trans ?_
    refine (sx_iload_n D299_149 rfl).trans ?_
    refine (sx_i2l D299_150).trans ?_
    exact sx_virt (c := 11) (ag := [(2, 427), (1, w a3)]) (r := []) (al' := [(2, 427), (1, w a3), uU]) (np := 1) (nl := 3) (q := (1, 255, 1683)) D299_151 (by decide +kernel) (by decide) mP_255 mL_255 mC_255 (Nat.le_of_ble_eq_true rfl) rfl rfl (by simp [cat]) (by decide) (MA_o h0) rfl rfl
theorem E299_74 {d : Nat} {a1 a2 a3 a4 a5 : Int} {a6 a7 : AV} {S : SS} {I : II}  : ev (d + 1) 299 74 [(2, 427), (0, a1), (0, a2), (0, a3), (0, a4), (0, a5), a6, a7] [] S I = (ev d 293 0 [(0, a4)] [] S I).bind (fun q => ev (d + 1) 299 81 [(2, 427), (0, a1), (0, a2), (0, a3), (0, a4), (0, a5), a6, a7] (psh q.1 [(0, a5)]) q.2.1 q.2.2) := by
  refine (sx_iload D299_74 rfl).trans ?_
  refine (sx_iload D299_76 rfl).trans ?_
  exact sx_stat (ag := [(0, a4)]) (r := [(0, a5)]) (al' := [(0, a4)]) (np := 1) (nl := 1) (q := (0, 293, 1834)) D299_78 (by decide +kernel) (by decide) mP_293 mL_293 (Nat.le_of_ble_eq_true rfl) rfl rfl (by simp [cat]) rfl rfl
theorem E299_81 {d : Nat} {a1 a2 a3 a4 a5 s0 s1 : Int} {a6 a7 : AV} {S : SS} {I : II} (h0 : MA S 427) : ev (d + 1) 299 81 [(2, 427), (0, a1), (0, a2), (0, a3), (0, a4), (0, a5), a6, a7] [(0, s1), (0, s0)] S I = if w s1 < w s0 then (ev (d + 1) 299 65 [(2, 427), (0, a1), (0, a2), (0, a3), (0, a4 + 1), (0, a5), a6, a7] [] S I) else ((ev d 300 0 [(2, 427), (0, a4), (0, a5), uU, uU, uU] [] S I).bind (fun q => ev (d + 1) 299 92 [(2, 427), (0, a1), (0, a2), (0, a3), (0, a4), (0, a5), a6, a7] (psh q.1 []) q.2.1 q.2.2)) := by
  refine sx_if_gt (pc' := 137) D299_81 (by decide) (by decide) ?_ ?_ rfl rfl
  · refine (sx_iinc (al' := [(2, 427), (0, a1), (0, a2), (0, a3), (0, a4 + 1), (0, a5), a6, a7]) D299_137 rfl rfl).trans ?_
    refine (sx_goto (pc' := 65) D299_140 (by decide) (by decide)).trans ?_
    exact rfl
  · refine (sx_aload_n D299_84 rfl).trans ?_
    refine (sx_iload D299_85 rfl).trans ?_
    refine (sx_iload D299_87 rfl).trans ?_
    exact sx_virt (c := 11) (ag := [(2, 427), (0, a4), (0, a5)]) (r := []) (al' := [(2, 427), (0, a4), (0, a5), uU, uU, uU]) (np := 2) (nl := 6) (q := (1, 300, 1862)) D299_89 (by decide +kernel) (by decide) mP_300 mL_300 mC_300 (Nat.le_of_ble_eq_true rfl) rfl rfl (by simp [cat]) (by decide) (MA_o h0) rfl rfl
theorem E299_92 {d : Nat} {a1 a2 a3 a4 a5 s0 : Int} {a6 a7 : AV} {S : SS} {I : II}  : ev d 299 92 [(2, 427), (0, a1), (0, a2), (0, a3), (0, a4), (0, a5), a6, a7] [(0, s0)] S I = if (if w s0 < w (a1 - s0) then w (a1 - s0) else w s0) < w a3 then (ev d 299 123 [(2, 427), (0, a1), (0, a2), (0, a3), (0, a4), (0, a5), (0, s0), (0, if w s0 < w (a1 - s0) then w (a1 - s0) else w s0)] [(0, (10 * a4) + a5)] S I) else (ev d 299 123 [(2, 427), (0, a1), (0, a2), (0, a3), (0, a4), (0, a5), (0, s0), (0, if w s0 < w (a1 - s0) then w (a1 - s0) else w s0)] [(0, a2)] S I) := by
  refine (sx_istore (al' := [(2, 427), (0, a1), (0, a2), (0, a3), (0, a4), (0, a5), (0, s0), a7]) D299_92 (Nat.le_of_ble_eq_true rfl) rfl rfl).trans ?_
  refine (sx_iload D299_94 rfl).trans ?_
  refine (sx_iload_n D299_96 rfl).trans ?_
  refine (sx_iload D299_97 rfl).trans ?_
  refine (sx_isub D299_99).trans ?_
  refine (sx_max (q := (12, 0, 1534)) D299_100 (by decide +kernel) rfl (by simp [cat]) rfl rfl).trans ?_
  refine (sx_istore (al' := [(2, 427), (0, a1), (0, a2), (0, a3), (0, a4), (0, a5), (0, s0), (0, if w s0 < w (a1 - s0) then w (a1 - s0) else w s0)]) D299_103 (Nat.le_of_ble_eq_true rfl) rfl rfl).trans ?_
  refine (sx_iload D299_105 rfl).trans ?_
  refine (sx_iload_n D299_107 rfl).trans ?_
  refine sx_if_ge (pc' := 122) D299_108 (by decide) (by decide) ?_ ?_ (w_ite (w_toInt _) (w_toInt _)) rfl
  · refine (sx_bipush D299_111 (by decide)).trans ?_
    refine (sx_iload D299_113 rfl).trans ?_
    refine (sx_imul D299_115).trans ?_
    refine (sx_iload D299_116 rfl).trans ?_
    refine (sx_iadd D299_118).trans ?_
    refine (sx_goto (pc' := 123) D299_119 (by decide) (by decide)).trans ?_
    exact rfl
  · refine (sx_iload_n D299_122 rfl).trans ?_
    exact rfl
theorem E299_123 {d : Nat} {a1 a2 a3 a4 a5 a6 a7 s0 : Int} {S : SS} {I : II}  : ev d 299 123 [(2, 427), (0, a1), (0, a2), (0, a3), (0, a4), (0, a5), (0, a6), (0, a7)] [(0, s0)] S I = ev d 299 74 [(2, 427), (0, a1), (0, s0), (0, if w a7 < w a3 then w a7 else w a3), (0, a4), (0, a5 + 1), (0, a6), (0, a7)] [] S I := by
  refine (sx_istore_n (al' := [(2, 427), (0, a1), (0, s0), (0, a3), (0, a4), (0, a5), (0, a6), (0, a7)]) D299_123 (Nat.le_of_ble_eq_true rfl) rfl rfl).trans ?_
  refine (sx_iload_n D299_124 rfl).trans ?_
  refine (sx_iload D299_125 rfl).trans ?_
  refine (sx_min (q := (13, 0, 1315)) D299_127 (by decide +kernel) rfl (by simp [cat]) rfl rfl).trans ?_
  refine (sx_istore_n (al' := [(2, 427), (0, a1), (0, s0), (0, if w a7 < w a3 then w a7 else w a3), (0, a4), (0, a5), (0, a6), (0, a7)]) D299_130 (Nat.le_of_ble_eq_true rfl) rfl rfl).trans ?_
  refine (sx_iinc (al' := [(2, 427), (0, a1), (0, s0), (0, if w a7 < w a3 then w a7 else w a3), (0, a4), (0, a5 + 1), (0, a6), (0, a7)]) D299_131 rfl rfl).trans ?_
  refine (sx_goto (pc' := 74) D299_134 (by decide) (by decide)).trans ?_
  exact rfl
theorem E299_154 {d : Nat} {a1 a2 a3 a4 : Int} {a5 a6 a7 : AV} {S : SS} {I : II}  : ev d 299 154 [(2, 427), (0, a1), (0, a2), (0, a3), (0, a4), a5, a6, a7] [] S I = some ((0, a2), S, I) := by
  refine (sx_iload_n D299_154 rfl).trans ?_
  exact sx_ireturn D299_155 (by decide +kernel)
theorem E300_0 {d : Nat} {a1 a2 : Int} {S : SS} {I : II}  : ev d 300 0 [(2, 427), (0, a1), (0, a2), uU, uU, uU] [] S I = ev d 300 5 [(2, 427), (0, a1), (0, a2), (0, 0), (0, 0), uU] [] S I := by
  refine (sx_iconst D300_0).trans ?_
  refine (sx_istore_n (al' := [(2, 427), (0, a1), (0, a2), (0, 0), uU, uU]) D300_1 (Nat.le_of_ble_eq_true rfl) rfl rfl).trans ?_
  refine (sx_iconst D300_2).trans ?_
  refine (sx_istore (al' := [(2, 427), (0, a1), (0, a2), (0, 0), (0, 0), uU]) D300_3 (Nat.le_of_ble_eq_true rfl) rfl rfl).trans ?_
  exact rfl
theorem E300_5 {d : Nat} {a1 a2 a3 a4 : Int} {a5 : AV} {S : SS} {I : II} (h0 : MA S 427) : ev d 300 5 [(2, 427), (0, a1), (0, a2), (0, a3), (0, a4), a5] [] S I = if w a4 < w (I 427 14) then (ev d 300 17 [(2, 427), (0, a1), (0, a2), (0, a3), (0, a4), (0, 0)] [] S I) else (some ((0, a3), S, I)) := by
  refine (sx_iload D300_5 rfl).trans ?_
  refine (sx_aload_n D300_7 rfl).trans ?_
  refine (sx_gfI (q := (9, 14, 0, 1382)) (j := 14) D300_8 (by decide +kernel) (by decide +kernel) (by decide) (MA_o h0) rfl rfl).trans ?_
  refine sx_if_ge (pc' := 71) D300_11 (by decide) (by decide) ?_ ?_ rfl rfl
  · refine (sx_iconst D300_14).trans ?_
    refine (sx_istore (al' := [(2, 427), (0, a1), (0, a2), (0, a3), (0, a4), (0, 0)]) D300_15 (Nat.le_of_ble_eq_true rfl) rfl rfl).trans ?_
    exact rfl
  · refine (sx_iload_n D300_71 rfl).trans ?_
    exact sx_ireturn D300_72 (by decide +kernel)
theorem E300_17 {d : Nat} {a1 a2 a3 a4 a5 : Int} {S : SS} {I : II} (h0 : MA S 427) : ev (d + 1) 300 17 [(2, 427), (0, a1), (0, a2), (0, a3), (0, a4), (0, a5)] [] S I = if w a5 < 16 then ((ev d 296 0 [(2, 427), (0, a4), (0, a5), uU, uU] [] S I).bind (fun q => ev (d + 1) 300 33 [(2, 427), (0, a1), (0, a2), (0, a3), (0, a4), (0, a5)] (psh q.1 [(0, a3)]) q.2.1 q.2.2)) else (ev (d + 1) 300 5 [(2, 427), (0, a1), (0, a2), (0, a3), (0, a4 + 1), (0, a5)] [] S I) := by
  refine (sx_iload D300_17 rfl).trans ?_
  refine (sx_bipush D300_19 (by decide)).trans ?_
  refine sx_if_ge (pc' := 65) D300_21 (by decide) (by decide) ?_ ?_ rfl (w_small (by decide) (by decide))
  · refine (sx_iload_n D300_24 rfl).trans ?_
    refine (sx_aload_n D300_25 rfl).trans ?_
    refine (sx_iload D300_26 rfl).trans ?_
    refine (sx_iload D300_28 rfl).trans ?_
    exact sx_virt (c := 11) (ag := [(2, 427), (0, a4), (0, a5)]) (r := [(0, a3)]) (al' := [(2, 427), (0, a4), (0, a5), uU, uU]) (np := 2) (nl := 5) (q := (1, 296, 1845)) D300_30 (by decide +kernel) (by decide) mP_296 mL_296 mC_296 (Nat.le_of_ble_eq_true rfl) rfl rfl (by simp [cat]) (by decide) (MA_o h0) rfl rfl
  · refine (sx_iinc (al' := [(2, 427), (0, a1), (0, a2), (0, a3), (0, a4 + 1), (0, a5)]) D300_65 rfl rfl).trans ?_
    refine (sx_goto (pc' := 5) D300_68 (by decide) (by decide)).trans ?_
    exact rfl
theorem E300_33 {d : Nat} {a1 a2 a3 a4 a5 s0 s1 : Int} {S : SS} {I : II} (h0 : MA S 427) : ev (d + 1) 300 33 [(2, 427), (0, a1), (0, a2), (0, a3), (0, a4), (0, a5)] [(0, s1), (0, s0)] S I = if w s1 = 0 then (ev (d + 1) 300 53 [(2, 427), (0, a1), (0, a2), (0, a3), (0, a4), (0, a5)] [(0, s0)] S I) else ((ev d 298 0 [(2, 427), (0, a4), (0, a5), (0, a1), (0, a2), uU] [] S I).bind (fun q => ev (d + 1) 300 46 [(2, 427), (0, a1), (0, a2), (0, a3), (0, a4), (0, a5)] (psh q.1 [(0, s0)]) q.2.1 q.2.2)) := by
  refine sx_i0_eq (pc' := 53) D300_33 (by decide) (by decide) ?_ ?_ rfl
  · exact rfl
  · refine (sx_aload_n D300_36 rfl).trans ?_
    refine (sx_iload D300_37 rfl).trans ?_
    refine (sx_iload D300_39 rfl).trans ?_
    refine (sx_iload_n D300_41 rfl).trans ?_
    refine (sx_iload_n D300_42 rfl).trans ?_
    exact sx_virt (c := 11) (ag := [(2, 427), (0, a4), (0, a5), (0, a1), (0, a2)]) (r := [(0, s0)]) (al' := [(2, 427), (0, a4), (0, a5), (0, a1), (0, a2), uU]) (np := 4) (nl := 6) (q := (1, 298, 1853)) D300_43 (by decide +kernel) (by decide) mP_298 mL_298 mC_298 (Nat.le_of_ble_eq_true rfl) rfl rfl (by simp [cat]) (by decide) (MA_o h0) rfl rfl
theorem E300_46 {d : Nat} {a1 a2 a3 a4 a5 s0 s1 : Int} {S : SS} {I : II}  : ev d 300 46 [(2, 427), (0, a1), (0, a2), (0, a3), (0, a4), (0, a5)] [(0, s1), (0, s0)] S I = if w s1 = 0 then (ev d 300 53 [(2, 427), (0, a1), (0, a2), (0, a3), (0, a4), (0, a5)] [(0, s0)] S I) else (ev d 300 54 [(2, 427), (0, a1), (0, a2), (0, a3), (0, a4), (0, a5)] [(0, 1), (0, s0)] S I) := by
  refine sx_i0_eq (pc' := 53) D300_46 (by decide) (by decide) ?_ ?_ rfl
  · exact rfl
  · refine (sx_iconst D300_49).trans ?_
    refine (sx_goto (pc' := 54) D300_50 (by decide) (by decide)).trans ?_
    exact rfl
theorem E300_53 {d : Nat} {a1 a2 a3 a4 a5 s0 : Int} {S : SS} {I : II}  : ev d 300 53 [(2, 427), (0, a1), (0, a2), (0, a3), (0, a4), (0, a5)] [(0, s0)] S I = ev d 300 54 [(2, 427), (0, a1), (0, a2), (0, a3), (0, a4), (0, a5)] [(0, 0), (0, s0)] S I := by
  refine (sx_iconst D300_53).trans ?_
  exact rfl
theorem E300_54 {d : Nat} {a1 a2 a3 a4 a5 s0 s1 : Int} {S : SS} {I : II}  : ev (d + 1) 300 54 [(2, 427), (0, a1), (0, a2), (0, a3), (0, a4), (0, a5)] [(0, s1), (0, s0)] S I = (ev d 199 0 [(0, s1)] [] S I).bind (fun q => ev (d + 1) 300 57 [(2, 427), (0, a1), (0, a2), (0, a3), (0, a4), (0, a5)] (psh q.1 [(0, s0)]) q.2.1 q.2.2) := by
  exact sx_stat (ag := [(0, s1)]) (r := [(0, s0)]) (al' := [(0, s1)]) (np := 1) (nl := 1) (q := (0, 199, 1328)) D300_54 (by decide +kernel) (by decide) mP_199 mL_199 (Nat.le_of_ble_eq_true rfl) rfl rfl (by simp [cat]) rfl rfl
theorem E300_57 {d : Nat} {a1 a2 a3 a4 a5 s0 s1 : Int} {S : SS} {I : II}  : ev d 300 57 [(2, 427), (0, a1), (0, a2), (0, a3), (0, a4), (0, a5)] [(0, s1), (0, s0)] S I = ev d 300 17 [(2, 427), (0, a1), (0, a2), (0, s0 + s1), (0, a4), (0, a5 + 1)] [] S I := by
  refine (sx_iadd D300_57).trans ?_
  refine (sx_istore_n (al' := [(2, 427), (0, a1), (0, a2), (0, s0 + s1), (0, a4), (0, a5)]) D300_58 (Nat.le_of_ble_eq_true rfl) rfl rfl).trans ?_
  refine (sx_iinc (al' := [(2, 427), (0, a1), (0, a2), (0, s0 + s1), (0, a4), (0, a5 + 1)]) D300_59 rfl rfl).trans ?_
  refine (sx_goto (pc' := 17) D300_62 (by decide) (by decide)).trans ?_
  exact rfl
theorem E301_0 {d : Nat} {a1 a2 a3 : Int} {S : SS} {I : II} (h0 : MA S 427) : ev (d + 1) 301 0 [(2, 427), (0, a1), (0, a2), (0, a3), uU, uU] [] S I = (ev d 192 0 [(1, w a1), uU, (1, 2), uU, (1, 40), uU] [] S (up2 I 427 0 0)).bind (fun q => ev (d + 1) 301 16 [(2, 427), (0, a1), (0, a2), (0, a3), uU, uU] (psh q.1 []) q.2.1 q.2.2) := by
  refine (sx_aload_n D301_0 rfl).trans ?_
  refine (sx_iconst D301_1).trans ?_
  refine (sx_pfI (q := (9, 0, 0, 1368)) (j := 0) D301_2 (by decide +kernel) (by decide) (by decide) (MA_o h0) rfl).trans ?_
  refine (sx_iload_n D301_5 rfl).trans ?_
  refine (sx_i2l D301_6).trans ?_
  refine (sx_ldc2_w (q := (2, 1870)) D301_7 (by decide +kernel)).trans ?_
  refine (sx_ldc2_w (q := (40, 1871)) D301_10 (by decide +kernel)).trans ?_
  exact sx_stat (ag := [(1, w a1), (1, 2), (1, 40)]) (r := []) (al' := [(1, w a1), uU, (1, 2), uU, (1, 40), uU]) (np := 3) (nl := 6) (q := (0, 192, 1299)) D301_13 (by decide +kernel) (by decide) mP_192 mL_192 (Nat.le_of_ble_eq_true rfl) rfl rfl (by simp [cat]) rfl rfl
theorem E301_16 {d : Nat} {a1 a2 a3 s0 : Int} {S : SS} {I : II}  : ev (d + 1) 301 16 [(2, 427), (0, a1), (0, a2), (0, a3), uU, uU] [(0, s0)] S I = if w s0 = 0 then (ev (d + 1) 301 44 [(2, 427), (0, a1), (0, a2), (0, a3), uU, uU] [] S I) else ((ev d 192 0 [(1, w a2), uU, (1, 0), uU, (1, w (a1 - 1)), uU] [] S I).bind (fun q => ev (d + 1) 301 29 [(2, 427), (0, a1), (0, a2), (0, a3), uU, uU] (psh q.1 []) q.2.1 q.2.2)) := by
  refine sx_i0_eq (pc' := 44) D301_16 (by decide) (by decide) ?_ ?_ rfl
  · exact rfl
  · refine (sx_iload_n D301_19 rfl).trans ?_
    refine (sx_i2l D301_20).trans ?_
    refine (sx_lconst D301_21).trans ?_
    refine (sx_iload_n D301_22 rfl).trans ?_
    refine (sx_iconst D301_23).trans ?_
    refine (sx_isub D301_24).trans ?_
    refine (sx_i2l D301_25).trans ?_
    exact sx_stat (ag := [(1, w a2), (1, 0), (1, w (a1 - 1))]) (r := []) (al' := [(1, w a2), uU, (1, 0), uU, (1, w (a1 - 1)), uU]) (np := 3) (nl := 6) (q := (0, 192, 1299)) D301_26 (by decide +kernel) (by decide) mP_192 mL_192 (Nat.le_of_ble_eq_true rfl) rfl rfl (by simp [cat]) rfl rfl
theorem E301_29 {d : Nat} {a1 a2 a3 s0 : Int} {S : SS} {I : II}  : ev (d + 1) 301 29 [(2, 427), (0, a1), (0, a2), (0, a3), uU, uU] [(0, s0)] S I = if w s0 = 0 then (ev (d + 1) 301 44 [(2, 427), (0, a1), (0, a2), (0, a3), uU, uU] [] S I) else ((ev d 192 0 [(1, w a3), uU, (1, 1), uU, (1, 9), uU] [] S I).bind (fun q => ev (d + 1) 301 41 [(2, 427), (0, a1), (0, a2), (0, a3), uU, uU] (psh q.1 []) q.2.1 q.2.2)) := by
  refine sx_i0_eq (pc' := 44) D301_29 (by decide) (by decide) ?_ ?_ rfl
  · exact rfl
  · refine (sx_iload_n D301_32 rfl).trans ?_
    refine (sx_i2l D301_33).trans ?_
    refine (sx_lconst D301_34).trans ?_
    refine (sx_ldc2_w (q := (9, 1555)) D301_35 (by decide +kernel)).trans ?_
    exact sx_stat (ag := [(1, w a3), (1, 1), (1, 9)]) (r := []) (al' := [(1, w a3), uU, (1, 1), uU, (1, 9), uU]) (np := 3) (nl := 6) (q := (0, 192, 1299)) D301_38 (by decide +kernel) (by decide) mP_192 mL_192 (Nat.le_of_ble_eq_true rfl) rfl rfl (by simp [cat]) rfl rfl
theorem E301_41 {d : Nat} {a1 a2 a3 s0 : Int} {S : SS} {I : II}  : ev d 301 41 [(2, 427), (0, a1), (0, a2), (0, a3), uU, uU] [(0, s0)] S I = if w s0 = 0 then (ev d 301 44 [(2, 427), (0, a1), (0, a2), (0, a3), uU, uU] [] S I) else (ev d 301 51 [(2, 427), (0, a1), (0, a2), (0, a3), (0, a1 - 1), uU] [] S I) := by
  refine sx_i0_ne (pc' := 46) D301_41 (by decide) (by decide) ?_ ?_ rfl
  · exact rfl
  · refine (sx_iload_n D301_46 rfl).trans ?_
    refine (sx_iconst D301_47).trans ?_
    refine (sx_isub D301_48).trans ?_
    refine (sx_istore (al' := [(2, 427), (0, a1), (0, a2), (0, a3), (0, a1 - 1), uU]) D301_49 (Nat.le_of_ble_eq_true rfl) rfl rfl).trans ?_
    exact rfl
theorem E301_44 {d : Nat} {a1 a2 a3 : Int} {S : SS} {I : II}  : ev d 301 44 [(2, 427), (0, a1), (0, a2), (0, a3), uU, uU] [] S I = some ((0, (-1)), S, I) := by
  refine (sx_iconst D301_44).trans ?_
  exact sx_ireturn D301_45 (by decide +kernel)
theorem E301_51 {d : Nat} {a1 a2 a3 a4 : Int} {a5 : AV} {S : SS} {I : II} (h0 : MA S 427) : ev d 301 51 [(2, 427), (0, a1), (0, a2), (0, a3), (0, a4), a5] [] S I = if w a4 < 0 then (gdR (0 ≤ w a2 ∧ w a2 < 41) (some ((0, I 450 (w a2)), S, I))) else (gdR (0 ≤ w a4 ∧ w a4 < 41) (ev d 301 76 [(2, 427), (0, a1), (0, a2), (0, a3), (0, a4), (0, if w ((a1 - 1) - a4) < w a3 then w ((a1 - 1) - a4) else w a3)] [] S (up2 I 450 (w a4) 0))) := by
  refine (sx_iload D301_51 rfl).trans ?_
  refine sx_i0_lt (pc' := 125) D301_53 (by decide) (by decide) ?_ ?_ rfl
  · refine (sx_aload_n D301_125 rfl).trans ?_
    refine (sx_gfR (q := (9, 39, 0, 1407)) (b := 450) D301_126 (by decide +kernel) (by decide +kernel) (by decide) (MA_o h0) (MA_g39 h0)).trans ?_
    refine (sx_iload_n D301_129 rfl).trans ?_
    refine (sx_ia D301_130 (MA_k39 h0) rfl).trans (gdR_to fun g1 => ?_)
    exact sx_ireturn D301_131 (by decide +kernel)
  · refine (sx_aload_n D301_56 rfl).trans ?_
    refine (sx_gfR (q := (9, 39, 0, 1407)) (b := 450) D301_57 (by decide +kernel) (by decide +kernel) (by decide) (MA_o h0) (MA_g39 h0)).trans ?_
    refine (sx_iload D301_60 rfl).trans ?_
    refine (sx_iconst D301_62).trans ?_
    refine (sx_is D301_63 (MA_k39 h0)).trans (gdR_to fun g2 => ?_)
    refine (sx_iload_n D301_64 rfl).trans ?_
    refine (sx_iload_n D301_65 rfl).trans ?_
    refine (sx_iconst D301_66).trans ?_
    refine (sx_isub D301_67).trans ?_
    refine (sx_iload D301_68 rfl).trans ?_
    refine (sx_isub D301_70).trans ?_
    refine (sx_min (q := (13, 0, 1315)) D301_71 (by decide +kernel) rfl (by simp [cat]) rfl rfl).trans ?_
    refine (sx_istore (al' := [(2, 427), (0, a1), (0, a2), (0, a3), (0, a4), (0, if w ((a1 - 1) - a4) < w a3 then w ((a1 - 1) - a4) else w a3)]) D301_74 (Nat.le_of_ble_eq_true rfl) rfl rfl).trans ?_
    exact rfl
theorem E301_76 {d : Nat} {a1 a2 a3 a4 a5 : Int} {S : SS} {I : II} (h0 : MA S 427) : ev d 301 76 [(2, 427), (0, a1), (0, a2), (0, a3), (0, a4), (0, a5)] [] S I = if 0 < w a5 then (gdR (0 ≤ w (a4 + a5) ∧ w (a4 + a5) < 41) (if w (I 450 (w (a4 + a5))) = 0 then (ev d 301 112 [(2, 427), (0, a1), (0, a2), (0, a3), (0, a4), (0, a5)] [(0, a5), (0, a4), (2, 450)] S I) else (gdR (0 ≤ w a4 ∧ w a4 < 41) (ev d 301 112 [(2, 427), (0, a1), (0, a2), (0, a3), (0, a4), (0, a5)] [(0, I 450 (w a4)), (0, a4), (2, 450)] S I)))) else (ev d 301 51 [(2, 427), (0, a1), (0, a2), (0, a3), (0, a4 + (-1)), (0, a5)] [] S I) := by
  refine (sx_iload D301_76 rfl).trans ?_
  refine sx_i0_le (pc' := 119) D301_78 (by decide) (by decide) ?_ ?_ rfl
  · refine (sx_aload_n D301_81 rfl).trans ?_
    refine (sx_gfR (q := (9, 39, 0, 1407)) (b := 450) D301_82 (by decide +kernel) (by decide +kernel) (by decide) (MA_o h0) (MA_g39 h0)).trans ?_
    refine (sx_iload D301_85 rfl).trans ?_
    refine (sx_aload_n D301_87 rfl).trans ?_
    refine (sx_gfR (q := (9, 39, 0, 1407)) (b := 450) D301_88 (by decide +kernel) (by decide +kernel) (by decide) (MA_o h0) (MA_g39 h0)).trans ?_
    refine (sx_iload D301_91 rfl).trans ?_
    refine (sx_iload D301_93 rfl).trans ?_
    refine (sx_iadd D301_95).trans ?_
    refine (sx_ia D301_96 (MA_k39 h0) rfl).trans (gdR_to fun g1 => ?_)
    refine sx_i0_ne (pc' := 105) D301_97 (by decide) (by decide) ?_ ?_ rfl
    · refine (sx_iload D301_100 rfl).trans ?_
      refine (sx_goto (pc' := 112) D301_102 (by decide) (by decide)).trans ?_
      exact rfl
    · refine (sx_aload_n D301_105 rfl).trans ?_
      refine (sx_gfR (q := (9, 39, 0, 1407)) (b := 450) D301_106 (by decide +kernel) (by decide +kernel) (by decide) (MA_o h0) (MA_g39 h0)).trans ?_
      refine (sx_iload D301_109 rfl).trans ?_
      refine (sx_ia D301_111 (MA_k39 h0) rfl).trans (gdR_to fun g2 => ?_)
      exact rfl
  · refine (sx_iinc (al' := [(2, 427), (0, a1), (0, a2), (0, a3), (0, a4 + (-1)), (0, a5)]) D301_119 rfl rfl).trans ?_
    refine (sx_goto (pc' := 51) D301_122 (by decide) (by decide)).trans ?_
    exact rfl
theorem E301_112 {d : Nat} {a1 a2 a3 a4 a5 s0 s1 s2 ln0 : Int} {S : SS} {I : II} (h0 : KA S s0 20 ln0) : ev d 301 112 [(2, 427), (0, a1), (0, a2), (0, a3), (0, a4), (0, a5)] [(0, s2), (0, s1), (2, s0)] S I = gdR (0 ≤ w s1 ∧ w s1 < ln0) (ev d 301 76 [(2, 427), (0, a1), (0, a2), (0, a3), (0, a4), (0, a5 + (-1))] [] S (up2 I s0 (w s1) s2)) := by
  refine (sx_is D301_112 h0).trans (gdR_to fun g1 => ?_)
  refine (sx_iinc (al' := [(2, 427), (0, a1), (0, a2), (0, a3), (0, a4), (0, a5 + (-1))]) D301_113 rfl rfl).trans ?_
  refine (sx_goto (pc' := 76) D301_116 (by decide) (by decide)).trans ?_
  exact rfl
theorem E302_0 {d : Nat} {S : SS} {I : II} (h0 : MA S 427) : ev (d + 1) 302 0 [(2, 427), uU, uU, uU, uU] [] S I = (ev d 194 0 [(2, 427), uU, uU] [] S (up2 I 427 0 0)).bind (fun q => ev (d + 1) 302 9 [(2, 427), uU, uU, uU, uU] (psh q.1 []) q.2.1 q.2.2) := by
  refine (sx_aload_n D302_0 rfl).trans ?_
  refine (sx_iconst D302_1).trans ?_
  refine (sx_pfI (q := (9, 0, 0, 1368)) (j := 0) D302_2 (by decide +kernel) (by decide) (by decide) (MA_o h0) rfl).trans ?_
  refine (sx_aload_n D302_5 rfl).trans ?_
  exact sx_virt (c := 11) (ag := [(2, 427)]) (r := []) (al' := [(2, 427), uU, uU]) (np := 0) (nl := 3) (q := (1, 194, 1306)) D302_6 (by decide +kernel) (by decide) mP_194 mL_194 mC_194 (Nat.le_of_ble_eq_true rfl) rfl rfl (by simp [cat]) (by decide) (MA_o h0) rfl rfl
theorem E302_9 {d : Nat} {s0 : Int} {S : SS} {I : II} (h0 : MA S 427) : ev (d + 1) 302 9 [(2, 427), uU, uU, uU, uU] [(0, s0)] S I = if w s0 < 0 then (some ((0, (s0 + 1) - 1000), S, I)) else ((ev d 303 0 [(2, 427), uU] [] S I).bind (fun q => ev (d + 1) 302 26 [(2, 427), (0, s0), uU, uU, uU] (psh q.1 []) q.2.1 q.2.2)) := by
  refine (sx_istore_n (al' := [(2, 427), (0, s0), uU, uU, uU]) D302_9 (Nat.le_of_ble_eq_true rfl) rfl rfl).trans ?_
  refine (sx_iload_n D302_10 rfl).trans ?_
  refine sx_i0_ge (pc' := 22) D302_11 (by decide) (by decide) ?_ ?_ rfl
  · refine (sx_iload_n D302_14 rfl).trans ?_
    refine (sx_iconst D302_15).trans ?_
    refine (sx_iadd D302_16).trans ?_
    refine (sx_sipush D302_17 (by decide)).trans ?_
    refine (sx_isub D302_20).trans ?_
    exact sx_ireturn D302_21 (by decide +kernel)
  · refine (sx_aload_n D302_22 rfl).trans ?_
    exact sx_virt (c := 11) (ag := [(2, 427)]) (r := []) (al' := [(2, 427), uU]) (np := 0) (nl := 2) (q := (1, 303, 1876)) D302_23 (by decide +kernel) (by decide) mP_303 mL_303 mC_303 (Nat.le_of_ble_eq_true rfl) rfl rfl (by simp [cat]) (by decide) (MA_o h0) rfl rfl
theorem E302_26 {d : Nat} {a1 s0 : Int} {S : SS} {I : II} (h0 : MA S 427) : ev d 302 26 [(2, 427), (0, a1), uU, uU, uU] [(0, s0)] S I = ev d 302 35 [(2, 427), (0, a1), (0, s0), (0, I 427 10), (0, 0)] [] S I := by
  refine (sx_istore_n (al' := [(2, 427), (0, a1), (0, s0), uU, uU]) D302_26 (Nat.le_of_ble_eq_true rfl) rfl rfl).trans ?_
  refine (sx_aload_n D302_27 rfl).trans ?_
  refine (sx_gfI (q := (9, 10, 0, 1378)) (j := 10) D302_28 (by decide +kernel) (by decide +kernel) (by decide) (MA_o h0) rfl rfl).trans ?_
  refine (sx_istore_n (al' := [(2, 427), (0, a1), (0, s0), (0, I 427 10), uU]) D302_31 (Nat.le_of_ble_eq_true rfl) rfl rfl).trans ?_
  refine (sx_iconst D302_32).trans ?_
  refine (sx_istore (al' := [(2, 427), (0, a1), (0, s0), (0, I 427 10), (0, 0)]) D302_33 (Nat.le_of_ble_eq_true rfl) rfl rfl).trans ?_
  exact rfl
theorem E302_35 {d : Nat} {a1 a2 a3 a4 : Int} {S : SS} {I : II} (h0 : MA S 427) : ev (d + 1) 302 35 [(2, 427), (0, a1), (0, a2), (0, a3), (0, a4)] [] S I = if w a4 < w (I 427 10) then (gdR (0 ≤ w a4 ∧ w a4 < 80) (gdR (0 ≤ w a4 ∧ w a4 < 80) (ev (d + 1) 302 35 [(2, 427), (0, a1), (0, a2), (0, a3), (0, a4 + 1)] [] S (up2 I 451 (w a4) (I 430 (w a4)))))) else ((ev d 205 0 [(2, 427), (2, 431), (0, I 427 11), uU] [] S I).bind (fun q => ev (d + 1) 302 76 [(2, 427), (0, a1), (0, a2), (0, a3), (0, a4)] (psh q.1 []) q.2.1 q.2.2)) := by
  refine (sx_iload D302_35 rfl).trans ?_
  refine (sx_aload_n D302_37 rfl).trans ?_
  refine (sx_gfI (q := (9, 10, 0, 1378)) (j := 10) D302_38 (by decide +kernel) (by decide +kernel) (by decide) (MA_o h0) rfl rfl).trans ?_
  refine sx_if_ge (pc' := 64) D302_41 (by decide) (by decide) ?_ ?_ rfl rfl
  · refine (sx_aload_n D302_44 rfl).trans ?_
    refine (sx_gfR (q := (9, 40, 0, 1408)) (b := 451) D302_45 (by decide +kernel) (by decide +kernel) (by decide) (MA_o h0) (MA_g40 h0)).trans ?_
    refine (sx_iload D302_48 rfl).trans ?_
    refine (sx_aload_n D302_50 rfl).trans ?_
    refine (sx_gfR (q := (9, 8, 0, 1376)) (b := 430) D302_51 (by decide +kernel) (by decide +kernel) (by decide) (MA_o h0) (MA_g8 h0)).trans ?_
    refine (sx_iload D302_54 rfl).trans ?_
    refine (sx_ia D302_56 (MA_k8 h0) rfl).trans (gdR_to fun g1 => ?_)
    refine (sx_is D302_57 (MA_k40 h0)).trans (gdR_to fun g2 => ?_)
    refine (sx_iinc (al' := [(2, 427), (0, a1), (0, a2), (0, a3), (0, a4 + 1)]) D302_58 rfl rfl).trans ?_
    refine (sx_goto (pc' := 35) D302_61 (by decide) (by decide)).trans ?_
    exact rfl
  · refine (sx_aload_n D302_64 rfl).trans ?_
    refine (sx_aload_n D302_65 rfl).trans ?_
    refine (sx_gfR (q := (9, 9, 0, 1377)) (b := 431) D302_66 (by decide +kernel) (by decide +kernel) (by decide) (MA_o h0) (MA_g9 h0)).trans ?_
    refine (sx_aload_n D302_69 rfl).trans ?_
    refine (sx_gfI (q := (9, 11, 0, 1379)) (j := 11) D302_70 (by decide +kernel) (by decide +kernel) (by decide) (MA_o h0) rfl rfl).trans ?_
    exact sx_virt (c := 11) (ag := [(2, 427), (2, 431), (0, I 427 11)]) (r := []) (al' := [(2, 427), (2, 431), (0, I 427 11), uU]) (np := 2) (nl := 4) (q := (1, 205, 1359)) D302_73 (by decide +kernel) (by decide) mP_205 mL_205 mC_205 (Nat.le_of_ble_eq_true rfl) rfl rfl (by simp [cat]) (by decide) (MA_o h0) rfl rfl
theorem E302_76 {d : Nat} {a1 a2 a3 a4 : Int} {S : SS} {I : II} (h0 : MA S 427) : ev (d + 1) 302 76 [(2, 427), (0, a1), (0, a2), (0, a3), (0, a4)] [] S I = (ev d 303 0 [(2, 427), uU] [] S I).bind (fun q => ev (d + 1) 302 80 [(2, 427), (0, a1), (0, a2), (0, a3), (0, a4)] (psh q.1 []) q.2.1 q.2.2) := by
  refine (sx_aload_n D302_76 rfl).trans ?_
  exact sx_virt (c := 11) (ag := [(2, 427)]) (r := []) (al' := [(2, 427), uU]) (np := 0) (nl := 2) (q := (1, 303, 1876)) D302_77 (by decide +kernel) (by decide) mP_303 mL_303 mC_303 (Nat.le_of_ble_eq_true rfl) rfl rfl (by simp [cat]) (by decide) (MA_o h0) rfl rfl
theorem E302_80 {d : Nat} {a1 a2 a3 a4 s0 : Int} {S : SS} {I : II} (h0 : MA S 427) : ev (d + 1) 302 80 [(2, 427), (0, a1), (0, a2), (0, a3), (0, a4)] [(0, s0)] S I = (ev d 205 0 [(2, 427), (2, 451), (0, a3), uU] [] S I).bind (fun q => ev (d + 1) 302 91 [(2, 427), (0, a1), (0, a2), (0, a3), (0, s0)] (psh q.1 []) q.2.1 q.2.2) := by
  refine (sx_istore (al' := [(2, 427), (0, a1), (0, a2), (0, a3), (0, s0)]) D302_80 (Nat.le_of_ble_eq_true rfl) rfl rfl).trans ?_
  refine (sx_aload_n D302_82 rfl).trans ?_
  refine (sx_aload_n D302_83 rfl).trans ?_
  refine (sx_gfR (q := (9, 40, 0, 1408)) (b := 451) D302_84 (by decide +kernel) (by decide +kernel) (by decide) (MA_o h0) (MA_g40 h0)).trans ?_
  refine (sx_iload_n D302_87 rfl).trans ?_
  exact sx_virt (c := 11) (ag := [(2, 427), (2, 451), (0, a3)]) (r := []) (al' := [(2, 427), (2, 451), (0, a3), uU]) (np := 2) (nl := 4) (q := (1, 205, 1359)) D302_88 (by decide +kernel) (by decide) mP_205 mL_205 mC_205 (Nat.le_of_ble_eq_true rfl) rfl rfl (by simp [cat]) (by decide) (MA_o h0) rfl rfl
theorem E302_91 {d : Nat} {a1 a2 a3 a4 : Int} {S : SS} {I : II} (h0 : MA S 427) : ev (d + 1) 302 91 [(2, 427), (0, a1), (0, a2), (0, a3), (0, a4)] [] S I = (ev d 255 0 [(2, 427), (1, w a4), uU] [] S (up2 I 427 1 0)).bind (fun q => ev (d + 1) 302 103 [(2, 427), (0, a1), (0, a2), (0, a3), (0, a4)] (psh q.1 []) q.2.1 q.2.2) := by
  refine (sx_aload_n D302_91 rfl).trans ?_
  refine (sx_iconst D302_92).trans ?_
  refine (sx_pfI (q := (9, 1, 0, 1369)) (j := 1) D302_93 (by decide +kernel) (by decide) (by decide) (MA_o h0) rfl).trans ?_
  refine (sx_aload_n D302_96 rfl).trans ?_
  refine (sx_iload D302_97 rfl).trans ?_
  refine (sx_i2l D302_99).trans ?_
  exact sx_virt (c := 11) (ag := [(2, 427), (1, w a4)]) (r := []) (al' := [(2, 427), (1, w a4), uU]) (np := 1) (nl := 3) (q := (1, 255, 1683)) D302_100 (by decide +kernel) (by decide) mP_255 mL_255 mC_255 (Nat.le_of_ble_eq_true rfl) rfl rfl (by simp [cat]) (by decide) (MA_o h0) rfl rfl
theorem E302_103 {d : Nat} {a1 a2 a3 a4 : Int} {S : SS} {I : II} (h0 : MA S 427) : ev (d + 1) 302 103 [(2, 427), (0, a1), (0, a2), (0, a3), (0, a4)] [] S I = (ev d 255 0 [(2, 427), (1, w a2), uU] [] S I).bind (fun q => ev (d + 1) 302 109 [(2, 427), (0, a1), (0, a2), (0, a3), (0, a4)] (psh q.1 []) q.2.1 q.2.2) := by
  refine (sx_aload_n D302_103 rfl).trans ?_
  refine (sx_iload_n D302_104 rfl).trans ?_
  refine (sx_i2l D302_105).trans ?_
  exact sx_virt (c := 11) (ag := [(2, 427), (1, w a2)]) (r := []) (al' := [(2, 427), (1, w a2), uU]) (np := 1) (nl := 3) (q := (1, 255, 1683)) D302_106 (by decide +kernel) (by decide) mP_255 mL_255 mC_255 (Nat.le_of_ble_eq_true rfl) rfl rfl (by simp [cat]) (by decide) (MA_o h0) rfl rfl
theorem E302_109 {d : Nat} {a1 a2 a3 a4 : Int} {S : SS} {I : II}  : ev d 302 109 [(2, 427), (0, a1), (0, a2), (0, a3), (0, a4)] [] S I = some ((0, a4 - a2), S, I) := by
  refine (sx_iload D302_109 rfl).trans ?_
  refine (sx_iload_n D302_111 rfl).trans ?_
  refine (sx_isub D302_112).trans ?_
  exact sx_ireturn D302_113 (by decide +kernel)
theorem E303_0 {d : Nat} {S : SS} {I : II} (h0 : MA S 427) : ev (d + 1) 303 0 [(2, 427), uU] [] S I = (ev d 280 0 [(2, 427), uU] [] S I).bind (fun q => ev (d + 1) 303 4 [(2, 427), uU] (psh q.1 []) q.2.1 q.2.2) := by
  refine (sx_aload_n D303_0 rfl).trans ?_
  exact sx_virt (c := 11) (ag := [(2, 427)]) (r := []) (al' := [(2, 427), uU]) (np := 0) (nl := 2) (q := (1, 280, 1782)) D303_1 (by decide +kernel) (by decide) mP_280 mL_280 mC_280 (Nat.le_of_ble_eq_true rfl) rfl rfl (by simp [cat]) (by decide) (MA_o h0) rfl rfl
theorem E303_4 {d : Nat} {S : SS} {I : II} (h0 : MA S 427) : ev (d + 1) 303 4 [(2, 427), uU] [] S I = (ev d 284 0 [(2, 427), (2, 439), uU] [] S I).bind (fun q => ev (d + 1) 303 12 [(2, 427), uU] (psh q.1 []) q.2.1 q.2.2) := by
  refine (sx_aload_n D303_4 rfl).trans ?_
  refine (sx_aload_n D303_5 rfl).trans ?_
  refine (sx_gfR (q := (9, 21, 0, 1389)) (b := 439) D303_6 (by decide +kernel) (by decide +kernel) (by decide) (MA_o h0) (MA_g21 h0)).trans ?_
  exact sx_virt (c := 11) (ag := [(2, 427), (2, 439)]) (r := []) (al' := [(2, 427), (2, 439), uU]) (np := 1) (nl := 3) (q := (1, 284, 1798)) D303_9 (by decide +kernel) (by decide) mP_284 mL_284 mC_284 (Nat.le_of_ble_eq_true rfl) rfl rfl (by simp [cat]) (by decide) (MA_o h0) rfl rfl
theorem E303_12 {d : Nat} {s0 : Int} {S : SS} {I : II}  : ev d 303 12 [(2, 427), uU] [(0, s0)] S I = if w s0 < 0 then (ev d 303 23 [(2, 427), (0, s0)] [(0, 100)] S I) else (ev d 303 23 [(2, 427), (0, s0)] [(0, s0)] S I) := by
  refine (sx_istore_n (al' := [(2, 427), (0, s0)]) D303_12 (Nat.le_of_ble_eq_true rfl) rfl rfl).trans ?_
  refine (sx_iload_n D303_13 rfl).trans ?_
  refine sx_i0_ge (pc' := 22) D303_14 (by decide) (by decide) ?_ ?_ rfl
  · refine (sx_bipush D303_17 (by decide)).trans ?_
    refine (sx_goto (pc' := 23) D303_19 (by decide) (by decide)).trans ?_
    exact rfl
  · refine (sx_iload_n D303_22 rfl).trans ?_
    exact rfl
theorem E303_23 {d : Nat} {a1 s0 : Int} {S : SS} {I : II}  : ev d 303 23 [(2, 427), (0, a1)] [(0, s0)] S I = some ((0, s0), S, I) := by
  exact sx_ireturn D303_23 (by decide +kernel)
theorem E304_0 {d : Nat} {a1 a2 : Int} {S : SS} {I : II} (h0 : MA S 427) : ev (d + 1) 304 0 [(2, 427), (0, a1), (0, a2), uU, uU, uU] [] S I = (ev d 192 0 [(1, w a2), uU, (1, 1), uU, (1, 40), uU] [] S (up2 I 427 0 0)).bind (fun q => ev (d + 1) 304 14 [(2, 427), (0, a1), (0, a2), uU, uU, uU] (psh q.1 []) q.2.1 q.2.2) := by
  refine (sx_aload_n D304_0 rfl).trans ?_
  refine (sx_iconst D304_1).trans ?_
  refine (sx_pfI (q := (9, 0, 0, 1368)) (j := 0) D304_2 (by decide +kernel) (by decide) (by decide) (MA_o h0) rfl).trans ?_
  refine (sx_iload_n D304_5 rfl).trans ?_
  refine (sx_i2l D304_6).trans ?_
  refine (sx_lconst D304_7).trans ?_
  refine (sx_ldc2_w (q := (40, 1871)) D304_8 (by decide +kernel)).trans ?_
  exact sx_stat (ag := [(1, w a2), (1, 1), (1, 40)]) (r := []) (al' := [(1, w a2), uU, (1, 1), uU, (1, 40), uU]) (np := 3) (nl := 6) (q := (0, 192, 1299)) D304_11 (by decide +kernel) (by decide) mP_192 mL_192 (Nat.le_of_ble_eq_true rfl) rfl rfl (by simp [cat]) rfl rfl
theorem E304_14 {d : Nat} {a1 a2 s0 : Int} {S : SS} {I : II} (h0 : MA S 427) : ev (d + 1) 304 14 [(2, 427), (0, a1), (0, a2), uU, uU, uU] [(0, s0)] S I = if w s0 = 0 then (some ((0, (-1)), S, I)) else ((ev d 280 0 [(2, 427), uU] [] S (up2 I 427 41 a1)).bind (fun q => ev (d + 1) 304 28 [(2, 427), (0, a1), (0, a2), uU, uU, uU] (psh q.1 []) q.2.1 q.2.2)) := by
  refine sx_i0_ne (pc' := 19) D304_14 (by decide) (by decide) ?_ ?_ rfl
  · refine (sx_iconst D304_17).trans ?_
    exact sx_ireturn D304_18 (by decide +kernel)
  · refine (sx_aload_n D304_19 rfl).trans ?_
    refine (sx_iload_n D304_20 rfl).trans ?_
    refine (sx_pfI (q := (9, 41, 0, 1409)) (j := 41) D304_21 (by decide +kernel) (by decide) (by decide) (MA_o h0) rfl).trans ?_
    refine (sx_aload_n D304_24 rfl).trans ?_
    exact sx_virt (c := 11) (ag := [(2, 427)]) (r := []) (al' := [(2, 427), uU]) (np := 0) (nl := 2) (q := (1, 280, 1782)) D304_25 (by decide +kernel) (by decide) mP_280 mL_280 mC_280 (Nat.le_of_ble_eq_true rfl) rfl rfl (by simp [cat]) (by decide) (MA_o h0) rfl rfl
theorem E304_28 {d : Nat} {a1 a2 : Int} {S : SS} {I : II}  : ev d 304 28 [(2, 427), (0, a1), (0, a2), uU, uU, uU] [] S I = ev d 304 33 [(2, 427), (0, a1), (0, a2), (0, 0), (0, 0), uU] [] S I := by
  refine (sx_iconst D304_28).trans ?_
  refine (sx_istore_n (al' := [(2, 427), (0, a1), (0, a2), (0, 0), uU, uU]) D304_29 (Nat.le_of_ble_eq_true rfl) rfl rfl).trans ?_
  refine (sx_iconst D304_30).trans ?_
  refine (sx_istore (al' := [(2, 427), (0, a1), (0, a2), (0, 0), (0, 0), uU]) D304_31 (Nat.le_of_ble_eq_true rfl) rfl rfl).trans ?_
  exact rfl
theorem E304_33 {d : Nat} {a1 a2 a3 a4 : Int} {a5 : AV} {S : SS} {I : II} (h0 : MA S 427) : ev (d + 1) 304 33 [(2, 427), (0, a1), (0, a2), (0, a3), (0, a4), a5] [] S I = if w a4 < w a2 then ((ev d 305 0 [(2, 427), (0, 6)] [] S I).bind (fun q => ev (d + 1) 304 45 [(2, 427), (0, a1), (0, a2), (0, a3), (0, a4), a5] (psh q.1 []) q.2.1 q.2.2)) else ((ev d 243 0 [(2, 439), uU, uU] [] S (up2 I 427 1 0)).bind (fun q => ev (d + 1) 304 93 [(2, 427), (0, a1), (0, a2), (0, a3), (0, a4), a5] (psh q.1 [(2, 427)]) q.2.1 q.2.2)) := by
  refine (sx_iload D304_33 rfl).trans ?_
  refine (sx_iload_n D304_35 rfl).trans ?_
  refine sx_if_ge (pc' := 80) D304_36 (by decide) (by decide) ?_ ?_ rfl rfl
  · refine (sx_aload_n D304_39 rfl).trans ?_
    refine (sx_bipush D304_40 (by decide)).trans ?_
    exact sx_virt (c := 11) (ag := [(2, 427), (0, 6)]) (r := []) (al' := [(2, 427), (0, 6)]) (np := 1) (nl := 2) (q := (1, 305, 1884)) D304_42 (by decide +kernel) (by decide) mP_305 mL_305 mC_305 (Nat.le_of_ble_eq_true rfl) rfl rfl (by simp [cat]) (by decide) (MA_o h0) rfl rfl
  · refine (sx_aload_n D304_80 rfl).trans ?_
    refine (sx_iconst D304_81).trans ?_
    refine (sx_pfI (q := (9, 1, 0, 1369)) (j := 1) D304_82 (by decide +kernel) (by decide) (by decide) (MA_o h0) rfl).trans ?_
    refine (sx_aload_n D304_85 rfl).trans ?_
    refine (sx_aload_n D304_86 rfl).trans ?_
    refine (sx_gfR (q := (9, 21, 0, 1389)) (b := 439) D304_87 (by decide +kernel) (by decide +kernel) (by decide) (MA_o h0) (MA_g21 h0)).trans ?_
    exact sx_stat (ag := [(2, 439)]) (r := [(2, 427)]) (al' := [(2, 439), uU, uU]) (np := 1) (nl := 3) (q := (0, 243, 1639)) D304_90 (by decide +kernel) (by decide) mP_243 mL_243 (Nat.le_of_ble_eq_true rfl) rfl rfl (by simp [cat]) rfl rfl
theorem E304_45 {d : Nat} {a1 a2 a3 a4 s0 : Int} {a5 : AV} {S : SS} {I : II} (h0 : MA S 427) : ev (d + 1) 304 45 [(2, 427), (0, a1), (0, a2), (0, a3), (0, a4), a5] [(0, s0)] S I = if 0 < w (I 427 14) then ((ev d 305 0 [(2, 427), (0, I 427 14)] [] S I).bind (fun q => ev (d + 1) 304 66 [(2, 427), (0, a1), (0, a2), (0, a3), (0, a4), (0, s0)] (psh q.1 [(0, s0), (2, 427), (0, a3)]) q.2.1 q.2.2)) else (ev (d + 1) 304 74 [(2, 427), (0, a1), (0, a2), (0, a3), (0, a4), (0, s0)] [] S I) := by
  refine (sx_istore (al' := [(2, 427), (0, a1), (0, a2), (0, a3), (0, a4), (0, s0)]) D304_45 (Nat.le_of_ble_eq_true rfl) rfl rfl).trans ?_
  refine (sx_aload_n D304_47 rfl).trans ?_
  refine (sx_gfI (q := (9, 14, 0, 1382)) (j := 14) D304_48 (by decide +kernel) (by decide +kernel) (by decide) (MA_o h0) rfl rfl).trans ?_
  refine sx_i0_le (pc' := 74) D304_51 (by decide) (by decide) ?_ ?_ rfl
  · refine (sx_iload_n D304_54 rfl).trans ?_
    refine (sx_aload_n D304_55 rfl).trans ?_
    refine (sx_iload D304_56 rfl).trans ?_
    refine (sx_aload_n D304_58 rfl).trans ?_
    refine (sx_aload_n D304_59 rfl).trans ?_
    refine (sx_gfI (q := (9, 14, 0, 1382)) (j := 14) D304_60 (by decide +kernel) (by decide +kernel) (by decide) (MA_o h0) rfl rfl).trans ?_
    exact sx_virt (c := 11) (ag := [(2, 427), (0, I 427 14)]) (r := [(0, s0), (2, 427), (0, a3)]) (al' := [(2, 427), (0, I 427 14)]) (np := 1) (nl := 2) (q := (1, 305, 1884)) D304_63 (by decide +kernel) (by decide) mP_305 mL_305 mC_305 (Nat.le_of_ble_eq_true rfl) rfl rfl (by simp [cat]) (by decide) (MA_o h0) rfl rfl
  · exact rfl
theorem E304_66 {d : Nat} {a1 a2 a3 a4 a5 s0 s2 s3 : Int} {S : SS} {I : II} (h0 : MA S 427) : ev (d + 1) 304 66 [(2, 427), (0, a1), (0, a2), (0, a3), (0, a4), (0, a5)] [(0, s3), (0, s2), (2, 427), (0, s0)] S I = (ev d 306 0 [(2, 427), (0, s2), (0, s3), uU, uU] [] S I).bind (fun q => ev (d + 1) 304 69 [(2, 427), (0, a1), (0, a2), (0, a3), (0, a4), (0, a5)] (psh q.1 [(0, s0)]) q.2.1 q.2.2) := by
  exact sx_virt (c := 11) (ag := [(2, 427), (0, s2), (0, s3)]) (r := [(0, s0)]) (al' := [(2, 427), (0, s2), (0, s3), uU, uU]) (np := 2) (nl := 5) (q := (1, 306, 1889)) D304_66 (by decide +kernel) (by decide) mP_306 mL_306 mC_306 (Nat.le_of_ble_eq_true rfl) rfl rfl (by simp [cat]) (by decide) (MA_o h0) rfl rfl
theorem E304_69 {d : Nat} {a1 a2 a3 a4 a5 s0 s1 : Int} {S : SS} {I : II}  : ev (d + 1) 304 69 [(2, 427), (0, a1), (0, a2), (0, a3), (0, a4), (0, a5)] [(0, s1), (0, s0)] S I = (ev d 199 0 [(0, s1)] [] S I).bind (fun q => ev (d + 1) 304 72 [(2, 427), (0, a1), (0, a2), (0, a3), (0, a4), (0, a5)] (psh q.1 [(0, s0)]) q.2.1 q.2.2) := by
  exact sx_stat (ag := [(0, s1)]) (r := [(0, s0)]) (al' := [(0, s1)]) (np := 1) (nl := 1) (q := (0, 199, 1328)) D304_69 (by decide +kernel) (by decide) mP_199 mL_199 (Nat.le_of_ble_eq_true rfl) rfl rfl (by simp [cat]) rfl rfl
theorem E304_72 {d : Nat} {a1 a2 a3 a4 a5 s0 s1 : Int} {S : SS} {I : II}  : ev d 304 72 [(2, 427), (0, a1), (0, a2), (0, a3), (0, a4), (0, a5)] [(0, s1), (0, s0)] S I = ev d 304 74 [(2, 427), (0, a1), (0, a2), (0, s0 + s1), (0, a4), (0, a5)] [] S I := by
  refine (sx_iadd D304_72).trans ?_
  refine (sx_istore_n (al' := [(2, 427), (0, a1), (0, a2), (0, s0 + s1), (0, a4), (0, a5)]) D304_73 (Nat.le_of_ble_eq_true rfl) rfl rfl).trans ?_
  exact rfl
theorem E304_74 {d : Nat} {a1 a2 a3 a4 a5 : Int} {S : SS} {I : II}  : ev d 304 74 [(2, 427), (0, a1), (0, a2), (0, a3), (0, a4), (0, a5)] [] S I = ev d 304 33 [(2, 427), (0, a1), (0, a2), (0, a3), (0, a4 + 1), (0, a5)] [] S I := by
  refine (sx_iinc (al' := [(2, 427), (0, a1), (0, a2), (0, a3), (0, a4 + 1), (0, a5)]) D304_74 rfl rfl).trans ?_
  refine (sx_goto (pc' := 33) D304_77 (by decide) (by decide)).trans ?_
  exact rfl
theorem E304_93 {d : Nat} {a1 a2 a3 a4 s1 : Int} {a5 : AV} {S : SS} {I : II} (h0 : MA S 427) : ev (d + 1) 304 93 [(2, 427), (0, a1), (0, a2), (0, a3), (0, a4), a5] [(0, s1), (2, 427)] S I = (ev d 243 0 [(2, 438), uU, uU] [] S I).bind (fun q => ev (d + 1) 304 100 [(2, 427), (0, a1), (0, a2), (0, a3), (0, a4), a5] (psh q.1 [(0, s1), (2, 427)]) q.2.1 q.2.2) := by
  refine (sx_aload_n D304_93 rfl).trans ?_
  refine (sx_gfR (q := (9, 20, 0, 1388)) (b := 438) D304_94 (by decide +kernel) (by decide +kernel) (by decide) (MA_o h0) (MA_g20 h0)).trans ?_
  exact sx_stat (ag := [(2, 438)]) (r := [(0, s1), (2, 427)]) (al' := [(2, 438), uU, uU]) (np := 1) (nl := 3) (q := (0, 243, 1639)) D304_97 (by decide +kernel) (by decide) mP_243 mL_243 (Nat.le_of_ble_eq_true rfl) rfl rfl (by simp [cat]) rfl rfl
theorem E304_100 {d : Nat} {a1 a2 a3 a4 s1 s2 : Int} {a5 : AV} {S : SS} {I : II} (h0 : MA S 427) : ev (d + 1) 304 100 [(2, 427), (0, a1), (0, a2), (0, a3), (0, a4), a5] [(0, s2), (0, s1), (2, 427)] S I = (ev d 255 0 [(2, 427), (1, w (s1 - s2)), uU] [] S I).bind (fun q => ev (d + 1) 304 105 [(2, 427), (0, a1), (0, a2), (0, a3), (0, a4), a5] (psh q.1 []) q.2.1 q.2.2) := by
  refine (sx_isub D304_100).trans ?_
  refine (sx_i2l D304_101).trans ?_
  exact sx_virt (c := 11) (ag := [(2, 427), (1, w (s1 - s2))]) (r := []) (al' := [(2, 427), (1, w (s1 - s2)), uU]) (np := 1) (nl := 3) (q := (1, 255, 1683)) D304_102 (by decide +kernel) (by decide) mP_255 mL_255 mC_255 (Nat.le_of_ble_eq_true rfl) rfl rfl (by simp [cat]) (by decide) (MA_o h0) rfl rfl
theorem E304_105 {d : Nat} {a1 a2 a3 a4 : Int} {a5 : AV} {S : SS} {I : II} (h0 : MA S 427) : ev (d + 1) 304 105 [(2, 427), (0, a1), (0, a2), (0, a3), (0, a4), a5] [] S I = (ev d 214 0 [(2, 439), uU, uU] [] S I).bind (fun q => ev (d + 1) 304 113 [(2, 427), (0, a1), (0, a2), (0, a3), (0, a4), a5] (psh q.1 [(2, 427)]) q.2.1 q.2.2) := by
  refine (sx_aload_n D304_105 rfl).trans ?_
  refine (sx_aload_n D304_106 rfl).trans ?_
  refine (sx_gfR (q := (9, 21, 0, 1389)) (b := 439) D304_107 (by decide +kernel) (by decide +kernel) (by decide) (MA_o h0) (MA_g21 h0)).trans ?_
  exact sx_stat (ag := [(2, 439)]) (r := [(2, 427)]) (al' := [(2, 439), uU, uU]) (np := 1) (nl := 3) (q := (0, 214, 1535)) D304_110 (by decide +kernel) (by decide) mP_214 mL_214 (Nat.le_of_ble_eq_true rfl) rfl rfl (by simp [cat]) rfl rfl
theorem E304_113 {d : Nat} {a1 a2 a3 a4 s1 : Int} {a5 : AV} {S : SS} {I : II} (h0 : MA S 427) : ev (d + 1) 304 113 [(2, 427), (0, a1), (0, a2), (0, a3), (0, a4), a5] [(0, s1), (2, 427)] S I = (ev d 255 0 [(2, 427), (1, w s1), uU] [] S I).bind (fun q => ev (d + 1) 304 117 [(2, 427), (0, a1), (0, a2), (0, a3), (0, a4), a5] (psh q.1 []) q.2.1 q.2.2) := by
  refine (sx_i2l D304_113).trans ?_
  exact sx_virt (c := 11) (ag := [(2, 427), (1, w s1)]) (r := []) (al' := [(2, 427), (1, w s1), uU]) (np := 1) (nl := 3) (q := (1, 255, 1683)) D304_114 (by decide +kernel) (by decide) mP_255 mL_255 mC_255 (Nat.le_of_ble_eq_true rfl) rfl rfl (by simp [cat]) (by decide) (MA_o h0) rfl rfl
theorem E304_117 {d : Nat} {a1 a2 a3 a4 : Int} {a5 : AV} {S : SS} {I : II} (h0 : MA S 427) : ev (d + 1) 304 117 [(2, 427), (0, a1), (0, a2), (0, a3), (0, a4), a5] [] S I = (ev d 255 0 [(2, 427), (1, w (I 439 827)), uU] [] S I).bind (fun q => ev (d + 1) 304 130 [(2, 427), (0, a1), (0, a2), (0, a3), (0, a4), a5] (psh q.1 []) q.2.1 q.2.2) := by
  refine (sx_aload_n D304_117 rfl).trans ?_
  refine (sx_aload_n D304_118 rfl).trans ?_
  refine (sx_gfR (q := (9, 21, 0, 1389)) (b := 439) D304_119 (by decide +kernel) (by decide +kernel) (by decide) (MA_o h0) (MA_g21 h0)).trans ?_
  refine (sx_sipush D304_122 (by decide)).trans ?_
  refine (sx_iaK (j := 827) D304_125 (MA_k21 h0) (w_small (by decide) (by decide)) (by decide) (by decide) rfl).trans ?_
  refine (sx_i2l D304_126).trans ?_
  exact sx_virt (c := 11) (ag := [(2, 427), (1, w (I 439 827))]) (r := []) (al' := [(2, 427), (1, w (I 439 827)), uU]) (np := 1) (nl := 3) (q := (1, 255, 1683)) D304_127 (by decide +kernel) (by decide) mP_255 mL_255 mC_255 (Nat.le_of_ble_eq_true rfl) rfl rfl (by simp [cat]) (by decide) (MA_o h0) rfl rfl
theorem E304_130 {d : Nat} {a1 a2 a3 a4 : Int} {a5 : AV} {S : SS} {I : II}  : ev d 304 130 [(2, 427), (0, a1), (0, a2), (0, a3), (0, a4), a5] [] S I = some ((0, a3), S, I) := by
  refine (sx_iload_n D304_130 rfl).trans ?_
  exact sx_ireturn D304_131 (by decide +kernel)
theorem E305_0 {d : Nat} {a1 : Int} {S : SS} {I : II} (h0 : MA S 427) : ev d 305 0 [(2, 427), (0, a1)] [] S I = gdR (w a1 ≠ 0) (some ((0, iRem (iUshr (((I 427 41) * 1103515245) + 12345) 16) a1), S, (up2 I 427 41 (((I 427 41) * 1103515245) + 12345)))) := by
  refine (sx_aload_n D305_0 rfl).trans ?_
  refine (sx_aload_n D305_1 rfl).trans ?_
  refine (sx_gfI (q := (9, 41, 0, 1409)) (j := 41) D305_2 (by decide +kernel) (by decide +kernel) (by decide) (MA_o h0) rfl rfl).trans ?_
  refine (sx_ldc_w (q := (1103515245, 1888)) D305_5 (by decide +kernel)).trans ?_
  refine (sx_imul D305_8).trans ?_
  refine (sx_sipush D305_9 (by decide)).trans ?_
  refine (sx_iadd D305_12).trans ?_
  refine (sx_pfI (q := (9, 41, 0, 1409)) (j := 41) D305_13 (by decide +kernel) (by decide) (by decide) (MA_o h0) rfl).trans ?_
  refine (sx_aload_n D305_16 rfl).trans ?_
  refine (sx_gfI (q := (9, 41, 0, 1409)) (j := 41) D305_17 (by decide +kernel) (by decide +kernel) (by decide) (MA_o h0) rfl (up2_same _ _ _ _)).trans ?_
  refine (sx_bipush D305_20 (by decide)).trans ?_
  refine (sx_iushr D305_22).trans ?_
  refine (sx_iload_n D305_23 rfl).trans ?_
  refine (sx_irem D305_24).trans (gdR_to fun g1 => ?_)
  exact sx_ireturn D305_25 (by decide +kernel)
theorem E306_0 {d : Nat} {a1 a2 : Int} {S : SS} {I : II} (h0 : MA S 427) : ev (d + 1) 306 0 [(2, 427), (0, a1), (0, a2), uU, uU] [] S I = if w a1 = 2 then ((ev d 234 0 [(2, 427), (2, 439), (0, a2), uU, uU, uU] [] S I).bind (fun q => ev (d + 1) 306 41 [(2, 427), (0, a1), (0, a2), uU, uU] (psh q.1 []) q.2.1 q.2.2)) else (if w a1 = 3 then ((ev d 237 0 [(2, 427), (2, 439), uU, uU] [] S I).bind (fun q => ev (d + 1) 306 52 [(2, 427), (0, a1), (0, a2), uU, uU] (psh q.1 []) q.2.1 q.2.2)) else (if w a1 = 4 then ((ev d 257 0 [(2, 427), (2, 439), (0, a2), uU] [] S I).bind (fun q => ev (d + 1) 306 63 [(2, 427), (0, a1), (0, a2), uU, uU] (psh q.1 []) q.2.1 q.2.2)) else (if w a1 = 5 then ((ev d 305 0 [(2, 427), (0, 16)] [] S I).bind (fun q => ev (d + 1) 306 84 [(2, 427), (0, a1), (0, a2), uU, uU] (psh q.1 [(0, a2), (2, 439), (2, 427)]) q.2.1 q.2.2)) else ((ev d 305 0 [(2, 427), (0, 5)] [] S I).bind (fun q => ev (d + 1) 306 95 [(2, 427), (0, a1), (0, a2), uU, uU] (psh q.1 []) q.2.1 q.2.2))))) := by
  refine (sx_iload_n D306_0 rfl).trans ?_
  refine ite_go (c := w a1 = 2) (fun x1 => ?_) (fun x1 => ?_)
  · refine (sx_tsw (pc' := 32) D306_1 ((rfl).trans x1) (by decide) rfl (by decide) (by decide)).trans ?_
    refine (sx_aload_n D306_32 rfl).trans ?_
    refine (sx_aload_n D306_33 rfl).trans ?_
    refine (sx_gfR (q := (9, 21, 0, 1389)) (b := 439) D306_34 (by decide +kernel) (by decide +kernel) (by decide) (MA_o h0) (MA_g21 h0)).trans ?_
    refine (sx_iload_n D306_37 rfl).trans ?_
    exact sx_virt (c := 11) (ag := [(2, 427), (2, 439), (0, a2)]) (r := []) (al' := [(2, 427), (2, 439), (0, a2), uU, uU, uU]) (np := 2) (nl := 6) (q := (1, 234, 1605)) D306_38 (by decide +kernel) (by decide) mP_234 mL_234 mC_234 (Nat.le_of_ble_eq_true rfl) rfl rfl (by simp [cat]) (by decide) (MA_o h0) rfl rfl
  refine ite_go (c := w a1 = 3) (fun x2 => ?_) (fun x2 => ?_)
  · refine (sx_tsw (pc' := 44) D306_1 ((rfl).trans x2) (by decide) rfl (by decide) (by decide)).trans ?_
    refine (sx_aload_n D306_44 rfl).trans ?_
    refine (sx_aload_n D306_45 rfl).trans ?_
    refine (sx_gfR (q := (9, 21, 0, 1389)) (b := 439) D306_46 (by decide +kernel) (by decide +kernel) (by decide) (MA_o h0) (MA_g21 h0)).trans ?_
    exact sx_virt (c := 11) (ag := [(2, 427), (2, 439)]) (r := []) (al' := [(2, 427), (2, 439), uU, uU]) (np := 1) (nl := 4) (q := (1, 237, 1618)) D306_49 (by decide +kernel) (by decide) mP_237 mL_237 mC_237 (Nat.le_of_ble_eq_true rfl) rfl rfl (by simp [cat]) (by decide) (MA_o h0) rfl rfl
  refine ite_go (c := w a1 = 4) (fun x3 => ?_) (fun x3 => ?_)
  · refine (sx_tsw (pc' := 54) D306_1 ((rfl).trans x3) (by decide) rfl (by decide) (by decide)).trans ?_
    refine (sx_aload_n D306_54 rfl).trans ?_
    refine (sx_aload_n D306_55 rfl).trans ?_
    refine (sx_gfR (q := (9, 21, 0, 1389)) (b := 439) D306_56 (by decide +kernel) (by decide +kernel) (by decide) (MA_o h0) (MA_g21 h0)).trans ?_
    refine (sx_iload_n D306_59 rfl).trans ?_
    exact sx_virt (c := 11) (ag := [(2, 427), (2, 439), (0, a2)]) (r := []) (al' := [(2, 427), (2, 439), (0, a2), uU]) (np := 2) (nl := 4) (q := (1, 257, 1691)) D306_60 (by decide +kernel) (by decide) mP_257 mL_257 mC_257 (Nat.le_of_ble_eq_true rfl) rfl rfl (by simp [cat]) (by decide) (MA_o h0) rfl rfl
  refine ite_go (c := w a1 = 5) (fun x4 => ?_) (fun x4 => ?_)
  · refine (sx_tsw (pc' := 72) D306_1 ((rfl).trans x4) (by decide) rfl (by decide) (by decide)).trans ?_
    refine (sx_aload_n D306_72 rfl).trans ?_
    refine (sx_aload_n D306_73 rfl).trans ?_
    refine (sx_gfR (q := (9, 21, 0, 1389)) (b := 439) D306_74 (by decide +kernel) (by decide +kernel) (by decide) (MA_o h0) (MA_g21 h0)).trans ?_
    refine (sx_iload_n D306_77 rfl).trans ?_
    refine (sx_aload_n D306_78 rfl).trans ?_
    refine (sx_bipush D306_79 (by decide)).trans ?_
    exact sx_virt (c := 11) (ag := [(2, 427), (0, 16)]) (r := [(0, a2), (2, 439), (2, 427)]) (al' := [(2, 427), (0, 16)]) (np := 1) (nl := 2) (q := (1, 305, 1884)) D306_81 (by decide +kernel) (by decide) mP_305 mL_305 mC_305 (Nat.le_of_ble_eq_true rfl) rfl rfl (by simp [cat]) (by decide) (MA_o h0) rfl rfl
  refine (sx_tsd (pc' := 90) D306_1 (show w a1 < 2 ∨ 5 < w a1 by rw [show w a1 = w a1 from rfl]; omega) (by decide) (by decide)).trans ?_
  refine (sx_aload_n D306_90 rfl).trans ?_
  refine (sx_iconst D306_91).trans ?_
  exact sx_virt (c := 11) (ag := [(2, 427), (0, 5)]) (r := []) (al' := [(2, 427), (0, 5)]) (np := 1) (nl := 2) (q := (1, 305, 1884)) D306_92 (by decide +kernel) (by decide) mP_305 mL_305 mC_305 (Nat.le_of_ble_eq_true rfl) rfl rfl (by simp [cat]) (by decide) (MA_o h0) rfl rfl
theorem E306_41 {d : Nat} {a1 a2 s0 : Int} {S : SS} {I : II}  : ev d 306 41 [(2, 427), (0, a1), (0, a2), uU, uU] [(0, s0)] S I = some ((0, 0), S, I) := by
  refine (sx_pop D306_41 (by decide)).trans ?_
  refine (sx_iconst D306_42).trans ?_
  exact sx_zreturn D306_43 (by decide +kernel) (by decide)
theorem E306_52 {d : Nat} {a1 a2 : Int} {S : SS} {I : II}  : ev d 306 52 [(2, 427), (0, a1), (0, a2), uU, uU] [] S I = some ((0, 0), S, I) := by
  refine (sx_iconst D306_52).trans ?_
  exact sx_zreturn D306_53 (by decide +kernel) (by decide)
theorem E306_63 {d : Nat} {a1 a2 s0 : Int} {S : SS} {I : II}  : ev d 306 63 [(2, 427), (0, a1), (0, a2), uU, uU] [(0, s0)] S I = if w s0 < 0 then (ev d 306 71 [(2, 427), (0, a1), (0, a2), uU, uU] [(0, 0)] S I) else (ev d 306 71 [(2, 427), (0, a1), (0, a2), uU, uU] [(0, 1)] S I) := by
  refine sx_i0_lt (pc' := 70) D306_63 (by decide) (by decide) ?_ ?_ rfl
  · refine (sx_iconst D306_70).trans ?_
    exact rfl
  · refine (sx_iconst D306_66).trans ?_
    refine (sx_goto (pc' := 71) D306_67 (by decide) (by decide)).trans ?_
    exact rfl
theorem E306_71 {d : Nat} {a1 a2 s0 : Int} {S : SS} {I : II} (h0 : s0 = 0 ∨ s0 = 1) : ev d 306 71 [(2, 427), (0, a1), (0, a2), uU, uU] [(0, s0)] S I = some ((0, s0), S, I) := by
  exact sx_zreturn D306_71 (by decide +kernel) h0
theorem E306_84 {d : Nat} {a1 a2 s1 s2 s3 : Int} {S : SS} {I : II} (h0 : MA S 427) : ev (d + 1) 306 84 [(2, 427), (0, a1), (0, a2), uU, uU] [(0, s3), (0, s2), (2, s1), (2, 427)] S I = (ev d 259 0 [(2, 427), (2, s1), (0, s2), (0, s3), uU, uU] [] S I).bind (fun q => ev (d + 1) 306 87 [(2, 427), (0, a1), (0, a2), uU, uU] (psh q.1 []) q.2.1 q.2.2) := by
  exact sx_virt (c := 11) (ag := [(2, 427), (2, s1), (0, s2), (0, s3)]) (r := []) (al' := [(2, 427), (2, s1), (0, s2), (0, s3), uU, uU]) (np := 3) (nl := 6) (q := (1, 259, 1699)) D306_84 (by decide +kernel) (by decide) mP_259 mL_259 mC_259 (Nat.le_of_ble_eq_true rfl) rfl rfl (by simp [cat]) (by decide) (MA_o h0) rfl rfl
theorem E306_87 {d : Nat} {a1 a2 s0 : Int} {S : SS} {I : II}  : ev d 306 87 [(2, 427), (0, a1), (0, a2), uU, uU] [(0, s0)] S I = some ((0, 0), S, I) := by
  refine (sx_pop D306_87 (by decide)).trans ?_
  refine (sx_iconst D306_88).trans ?_
  exact sx_zreturn D306_89 (by decide +kernel) (by decide)
theorem E306_95 {d : Nat} {a1 a2 s0 : Int} {S : SS} {I : II} (h0 : MA S 427) : ev (d + 1) 306 95 [(2, 427), (0, a1), (0, a2), uU, uU] [(0, s0)] S I = (ev d 305 0 [(2, 427), (0, 10)] [] S I).bind (fun q => ev (d + 1) 306 102 [(2, 427), (0, a1), (0, a2), (0, s0), uU] (psh q.1 []) q.2.1 q.2.2) := by
  refine (sx_istore_n (al' := [(2, 427), (0, a1), (0, a2), (0, s0), uU]) D306_95 (Nat.le_of_ble_eq_true rfl) rfl rfl).trans ?_
  refine (sx_aload_n D306_96 rfl).trans ?_
  refine (sx_bipush D306_97 (by decide)).trans ?_
  exact sx_virt (c := 11) (ag := [(2, 427), (0, 10)]) (r := []) (al' := [(2, 427), (0, 10)]) (np := 1) (nl := 2) (q := (1, 305, 1884)) D306_99 (by decide +kernel) (by decide) mP_305 mL_305 mC_305 (Nat.le_of_ble_eq_true rfl) rfl rfl (by simp [cat]) (by decide) (MA_o h0) rfl rfl
theorem E306_102 {d : Nat} {a1 a2 a3 s0 : Int} {S : SS} {I : II} (h0 : MA S 427) : ev (d + 1) 306 102 [(2, 427), (0, a1), (0, a2), (0, a3), uU] [(0, s0)] S I = (ev d 305 0 [(2, 427), (0, 100)] [] S I).bind (fun q => ev (d + 1) 306 119 [(2, 427), (0, a1), (0, a2), (0, a3), (0, s0)] (psh q.1 [(0, s0), (0, a3), (0, a2), (2, 439), (2, 427)]) q.2.1 q.2.2) := by
  refine (sx_istore (al' := [(2, 427), (0, a1), (0, a2), (0, a3), (0, s0)]) D306_102 (Nat.le_of_ble_eq_true rfl) rfl rfl).trans ?_
  refine (sx_aload_n D306_104 rfl).trans ?_
  refine (sx_aload_n D306_105 rfl).trans ?_
  refine (sx_gfR (q := (9, 21, 0, 1389)) (b := 439) D306_106 (by decide +kernel) (by decide +kernel) (by decide) (MA_o h0) (MA_g21 h0)).trans ?_
  refine (sx_iload_n D306_109 rfl).trans ?_
  refine (sx_iload_n D306_110 rfl).trans ?_
  refine (sx_iload D306_111 rfl).trans ?_
  refine (sx_aload_n D306_113 rfl).trans ?_
  refine (sx_bipush D306_114 (by decide)).trans ?_
  exact sx_virt (c := 11) (ag := [(2, 427), (0, 100)]) (r := [(0, s0), (0, a3), (0, a2), (2, 439), (2, 427)]) (al' := [(2, 427), (0, 100)]) (np := 1) (nl := 2) (q := (1, 305, 1884)) D306_116 (by decide +kernel) (by decide) mP_305 mL_305 mC_305 (Nat.le_of_ble_eq_true rfl) rfl rfl (by simp [cat]) (by decide) (MA_o h0) rfl rfl
theorem E306_119 {d : Nat} {a1 a2 a3 a4 s1 s2 s3 s4 s5 : Int} {S : SS} {I : II} (h0 : MA S 427) : ev (d + 1) 306 119 [(2, 427), (0, a1), (0, a2), (0, a3), (0, a4)] [(0, s5), (0, s4), (0, s3), (0, s2), (2, s1), (2, 427)] S I = (ev d 218 0 [(2, 427), (2, s1), (0, s2), (0, s3), (0, s4), (0, s5), uU, uU] [] S I).bind (fun q => ev (d + 1) 306 122 [(2, 427), (0, a1), (0, a2), (0, a3), (0, a4)] (psh q.1 []) q.2.1 q.2.2) := by
  exact sx_virt (c := 11) (ag := [(2, 427), (2, s1), (0, s2), (0, s3), (0, s4), (0, s5)]) (r := []) (al' := [(2, 427), (2, s1), (0, s2), (0, s3), (0, s4), (0, s5), uU, uU]) (np := 5) (nl := 8) (q := (1, 218, 1550)) D306_119 (by decide +kernel) (by decide) mP_218 mL_218 mC_218 (Nat.le_of_ble_eq_true rfl) rfl rfl (by simp [cat]) (by decide) (MA_o h0) rfl rfl
theorem E306_122 {d : Nat} {a1 a2 a3 a4 s0 : Int} {S : SS} {I : II}  : ev d 306 122 [(2, 427), (0, a1), (0, a2), (0, a3), (0, a4)] [(0, s0)] S I = some ((0, 0), S, I) := by
  refine (sx_pop D306_122 (by decide)).trans ?_
  refine (sx_iconst D306_123).trans ?_
  exact sx_zreturn D306_124 (by decide +kernel) (by decide)
theorem E307_0 {d : Nat} {a1 : Int} {S : SS} {I : II} (h0 : MA S 427) : ev (d + 1) 307 0 [(2, 427), (0, a1), uU] [] S I = (ev d 192 0 [(1, w a1), uU, (1, 0), uU, (1, 1), uU] [] S (up2 I 427 0 0)).bind (fun q => ev (d + 1) 307 12 [(2, 427), (0, a1), uU] (psh q.1 []) q.2.1 q.2.2) := by
  refine (sx_aload_n D307_0 rfl).trans ?_
  refine (sx_iconst D307_1).trans ?_
  refine (sx_pfI (q := (9, 0, 0, 1368)) (j := 0) D307_2 (by decide +kernel) (by decide) (by decide) (MA_o h0) rfl).trans ?_
  refine (sx_iload_n D307_5 rfl).trans ?_
  refine (sx_i2l D307_6).trans ?_
  refine (sx_lconst D307_7).trans ?_
  refine (sx_lconst D307_8).trans ?_
  exact sx_stat (ag := [(1, w a1), (1, 0), (1, 1)]) (r := []) (al' := [(1, w a1), uU, (1, 0), uU, (1, 1), uU]) (np := 3) (nl := 6) (q := (0, 192, 1299)) D307_9 (by decide +kernel) (by decide) mP_192 mL_192 (Nat.le_of_ble_eq_true rfl) rfl rfl (by simp [cat]) rfl rfl
theorem E307_12 {d : Nat} {a1 s0 : Int} {S : SS} {I : II} (h0 : MA S 427) : ev d 307 12 [(2, 427), (0, a1), uU] [(0, s0)] S I = if w s0 = 0 then (some ((0, 0), S, I)) else (gdR (0 ≤ w a1 ∧ w a1 < 2) (gdR (0 ≤ w a1 ∧ w a1 < 2) (ev d 307 36 [(2, 427), (0, a1), (0, 0)] [] S (up2 (up2 I 452 (w a1) 1) 453 (w a1) (I 427 15))))) := by
  refine sx_i0_ne (pc' := 17) D307_12 (by decide) (by decide) ?_ ?_ rfl
  · refine (sx_iconst D307_15).trans ?_
    exact sx_zreturn D307_16 (by decide +kernel) (by decide)
  · refine (sx_aload_n D307_17 rfl).trans ?_
    refine (sx_gfR (q := (9, 42, 0, 1410)) (b := 452) D307_18 (by decide +kernel) (by decide +kernel) (by decide) (MA_o h0) (MA_g42 h0)).trans ?_
    refine (sx_iload_n D307_21 rfl).trans ?_
    refine (sx_iconst D307_22).trans ?_
    refine (sx_zsK D307_23 (MA_k42 h0) (by decide)).trans (gdR_to fun g1 => ?_)
    refine (sx_aload_n D307_24 rfl).trans ?_
    refine (sx_gfR (q := (9, 43, 0, 1411)) (b := 453) D307_25 (by decide +kernel) (by decide +kernel) (by decide) (MA_o h0) (MA_g43 h0)).trans ?_
    refine (sx_iload_n D307_28 rfl).trans ?_
    refine (sx_aload_n D307_29 rfl).trans ?_
    refine (sx_gfI (q := (9, 15, 0, 1383)) (j := 15) D307_30 (by decide +kernel) (by decide +kernel) (by decide) (MA_o h0) rfl (up2_cell (by omega))).trans ?_
    refine (sx_is D307_33 (MA_k43 h0)).trans (gdR_to fun g2 => ?_)
    refine (sx_iconst D307_34).trans ?_
    refine (sx_istore_n (al' := [(2, 427), (0, a1), (0, 0)]) D307_35 (Nat.le_of_ble_eq_true rfl) rfl rfl).trans ?_
    exact rfl
theorem E307_36 {d : Nat} {a1 a2 : Int} {S : SS} {I : II} (h0 : MA S 427) : ev d 307 36 [(2, 427), (0, a1), (0, a2)] [] S I = if w a2 < 844 then (gdR (0 ≤ w a2 ∧ w a2 < 844) (gdR (0 ≤ w ((844 * a1) + a2) ∧ w ((844 * a1) + a2) < 1688) (ev d 307 36 [(2, 427), (0, a1), (0, a2 + 1)] [] S (up2 I 454 (w ((844 * a1) + a2)) (I 438 (w a2)))))) else (some ((0, 1), S, I)) := by
  refine (sx_iload_n D307_36 rfl).trans ?_
  refine (sx_sipush D307_37 (by decide)).trans ?_
  refine sx_if_ge (pc' := 67) D307_40 (by decide) (by decide) ?_ ?_ rfl (w_small (by decide) (by decide))
  · refine (sx_aload_n D307_43 rfl).trans ?_
    refine (sx_gfR (q := (9, 44, 0, 1412)) (b := 454) D307_44 (by decide +kernel) (by decide +kernel) (by decide) (MA_o h0) (MA_g44 h0)).trans ?_
    refine (sx_sipush D307_47 (by decide)).trans ?_
    refine (sx_iload_n D307_50 rfl).trans ?_
    refine (sx_imul D307_51).trans ?_
    refine (sx_iload_n D307_52 rfl).trans ?_
    refine (sx_iadd D307_53).trans ?_
    refine (sx_aload_n D307_54 rfl).trans ?_
    refine (sx_gfR (q := (9, 20, 0, 1388)) (b := 438) D307_55 (by decide +kernel) (by decide +kernel) (by decide) (MA_o h0) (MA_g20 h0)).trans ?_
    refine (sx_iload_n D307_58 rfl).trans ?_
    refine (sx_ia D307_59 (MA_k20 h0) rfl).trans (gdR_to fun g1 => ?_)
    refine (sx_is D307_60 (MA_k44 h0)).trans (gdR_to fun g2 => ?_)
    refine (sx_iinc (al' := [(2, 427), (0, a1), (0, a2 + 1)]) D307_61 rfl rfl).trans ?_
    refine (sx_goto (pc' := 36) D307_64 (by decide) (by decide)).trans ?_
    exact rfl
  · refine (sx_iconst D307_67).trans ?_
    exact sx_zreturn D307_68 (by decide +kernel) (by decide)
theorem E308_0 {d : Nat} {a1 : Int} {S : SS} {I : II} (h0 : MA S 427) : ev (d + 1) 308 0 [(2, 427), (0, a1), uU] [] S I = (ev d 192 0 [(1, w a1), uU, (1, 0), uU, (1, 1), uU] [] S (up2 I 427 0 0)).bind (fun q => ev (d + 1) 308 12 [(2, 427), (0, a1), uU] (psh q.1 []) q.2.1 q.2.2) := by
  refine (sx_aload_n D308_0 rfl).trans ?_
  refine (sx_iconst D308_1).trans ?_
  refine (sx_pfI (q := (9, 0, 0, 1368)) (j := 0) D308_2 (by decide +kernel) (by decide) (by decide) (MA_o h0) rfl).trans ?_
  refine (sx_iload_n D308_5 rfl).trans ?_
  refine (sx_i2l D308_6).trans ?_
  refine (sx_lconst D308_7).trans ?_
  refine (sx_lconst D308_8).trans ?_
  exact sx_stat (ag := [(1, w a1), (1, 0), (1, 1)]) (r := []) (al' := [(1, w a1), uU, (1, 0), uU, (1, 1), uU]) (np := 3) (nl := 6) (q := (0, 192, 1299)) D308_9 (by decide +kernel) (by decide) mP_192 mL_192 (Nat.le_of_ble_eq_true rfl) rfl rfl (by simp [cat]) rfl rfl
theorem E308_12 {d : Nat} {a1 s0 : Int} {S : SS} {I : II} (h0 : MA S 427) : ev d 308 12 [(2, 427), (0, a1), uU] [(0, s0)] S I = if w s0 = 0 then (ev d 308 37 [(2, 427), (0, a1), uU] [] S I) else (gdR (0 ≤ w a1 ∧ w a1 < 2) (if w (I 452 (w a1)) = 0 then (ev d 308 37 [(2, 427), (0, a1), uU] [] S I) else (gdR (0 ≤ w a1 ∧ w a1 < 2) (if w (I 453 (w a1)) = w (I 427 15) then (ev d 308 41 [(2, 427), (0, a1), (0, 0)] [] S I) else (ev d 308 37 [(2, 427), (0, a1), uU] [] S I))))) := by
  refine sx_i0_eq (pc' := 37) D308_12 (by decide) (by decide) ?_ ?_ rfl
  · exact rfl
  · refine (sx_aload_n D308_15 rfl).trans ?_
    refine (sx_gfR (q := (9, 42, 0, 1410)) (b := 452) D308_16 (by decide +kernel) (by decide +kernel) (by decide) (MA_o h0) (MA_g42 h0)).trans ?_
    refine (sx_iload_n D308_19 rfl).trans ?_
    refine (sx_za D308_20 (MA_k42 h0) rfl).trans (gdR_to fun g1 => ?_)
    refine sx_i0_eq (pc' := 37) D308_21 (by decide) (by decide) ?_ ?_ rfl
    · exact rfl
    · refine (sx_aload_n D308_24 rfl).trans ?_
      refine (sx_gfR (q := (9, 43, 0, 1411)) (b := 453) D308_25 (by decide +kernel) (by decide +kernel) (by decide) (MA_o h0) (MA_g43 h0)).trans ?_
      refine (sx_iload_n D308_28 rfl).trans ?_
      refine (sx_ia D308_29 (MA_k43 h0) rfl).trans (gdR_to fun g2 => ?_)
      refine (sx_aload_n D308_30 rfl).trans ?_
      refine (sx_gfI (q := (9, 15, 0, 1383)) (j := 15) D308_31 (by decide +kernel) (by decide +kernel) (by decide) (MA_o h0) rfl rfl).trans ?_
      refine sx_if_eq (pc' := 39) D308_34 (by decide) (by decide) ?_ ?_ rfl rfl
      · refine (sx_iconst D308_39).trans ?_
        refine (sx_istore_n (al' := [(2, 427), (0, a1), (0, 0)]) D308_40 (Nat.le_of_ble_eq_true rfl) rfl rfl).trans ?_
        exact rfl
      · exact rfl
theorem E308_37 {d : Nat} {a1 : Int} {S : SS} {I : II}  : ev d 308 37 [(2, 427), (0, a1), uU] [] S I = some ((0, 0), S, I) := by
  refine (sx_iconst D308_37).trans ?_
  exact sx_zreturn D308_38 (by decide +kernel) (by decide)
theorem E308_41 {d : Nat} {a1 a2 : Int} {S : SS} {I : II} (h0 : MA S 427) : ev d 308 41 [(2, 427), (0, a1), (0, a2)] [] S I = if w a2 < 844 then (gdR (0 ≤ w ((844 * a1) + a2) ∧ w ((844 * a1) + a2) < 1688) (gdR (0 ≤ w a2 ∧ w a2 < 844) (ev d 308 41 [(2, 427), (0, a1), (0, a2 + 1)] [] S (up2 I 438 (w a2) (I 454 (w ((844 * a1) + a2))))))) else (some ((0, 1), S, (up2 I 427 22 0))) := by
  refine (sx_iload_n D308_41 rfl).trans ?_
  refine (sx_sipush D308_42 (by decide)).trans ?_
  refine sx_if_ge (pc' := 72) D308_45 (by decide) (by decide) ?_ ?_ rfl (w_small (by decide) (by decide))
  · refine (sx_aload_n D308_48 rfl).trans ?_
    refine (sx_gfR (q := (9, 20, 0, 1388)) (b := 438) D308_49 (by decide +kernel) (by decide +kernel) (by decide) (MA_o h0) (MA_g20 h0)).trans ?_
    refine (sx_iload_n D308_52 rfl).trans ?_
    refine (sx_aload_n D308_53 rfl).trans ?_
    refine (sx_gfR (q := (9, 44, 0, 1412)) (b := 454) D308_54 (by decide +kernel) (by decide +kernel) (by decide) (MA_o h0) (MA_g44 h0)).trans ?_
    refine (sx_sipush D308_57 (by decide)).trans ?_
    refine (sx_iload_n D308_60 rfl).trans ?_
    refine (sx_imul D308_61).trans ?_
    refine (sx_iload_n D308_62 rfl).trans ?_
    refine (sx_iadd D308_63).trans ?_
    refine (sx_ia D308_64 (MA_k44 h0) rfl).trans (gdR_to fun g1 => ?_)
    refine (sx_is D308_65 (MA_k20 h0)).trans (gdR_to fun g2 => ?_)
    refine (sx_iinc (al' := [(2, 427), (0, a1), (0, a2 + 1)]) D308_66 rfl rfl).trans ?_
    refine (sx_goto (pc' := 41) D308_69 (by decide) (by decide)).trans ?_
    exact rfl
  · refine (sx_aload_n D308_72 rfl).trans ?_
    refine (sx_iconst D308_73).trans ?_
    refine (sx_pfI (q := (9, 22, 0, 1390)) (j := 22) D308_74 (by decide +kernel) (by decide) (by decide) (MA_o h0) rfl).trans ?_
    refine (sx_iconst D308_77).trans ?_
    exact sx_zreturn D308_78 (by decide +kernel) (by decide)
theorem E309_0 {d : Nat} {a1 : Int} {S : SS} {I : II} (h0 : MA S 427) : ev d 309 0 [(2, 427), (0, a1), uU, uU, uU] [] S I = ev d 309 12 [(2, 427), (0, a1), (0, 0), (0, 0), (0, 0)] [] S (up2 I 427 0 0) := by
  refine (sx_aload_n D309_0 rfl).trans ?_
  refine (sx_iconst D309_1).trans ?_
  refine (sx_pfI (q := (9, 0, 0, 1368)) (j := 0) D309_2 (by decide +kernel) (by decide) (by decide) (MA_o h0) rfl).trans ?_
  refine (sx_iconst D309_5).trans ?_
  refine (sx_istore_n (al' := [(2, 427), (0, a1), (0, 0), uU, uU]) D309_6 (Nat.le_of_ble_eq_true rfl) rfl rfl).trans ?_
  refine (sx_iconst D309_7).trans ?_
  refine (sx_istore_n (al' := [(2, 427), (0, a1), (0, 0), (0, 0), uU]) D309_8 (Nat.le_of_ble_eq_true rfl) rfl rfl).trans ?_
  refine (sx_iconst D309_9).trans ?_
  refine (sx_istore (al' := [(2, 427), (0, a1), (0, 0), (0, 0), (0, 0)]) D309_10 (Nat.le_of_ble_eq_true rfl) rfl rfl).trans ?_
  exact rfl
theorem E309_12 {d : Nat} {a1 a2 a3 a4 : Int} {S : SS} {I : II} (h0 : MA S 427) : ev (d + 1) 309 12 [(2, 427), (0, a1), (0, a2), (0, a3), (0, a4)] [] S I = if w a4 < w (I 427 14) then ((ev d 212 0 [(2, 438), (0, a4), (0, 0)] [] S I).bind (fun q => ev (d + 1) 309 32 [(2, 427), (0, a1), (0, a2), (0, a3), (0, a4)] (psh q.1 [(0, a2)]) q.2.1 q.2.2)) else (if w a1 = 0 then (some ((0, I 427 14), S, I)) else (if w a1 = 1 then (some ((0, a2), S, I)) else (if w a1 = 2 then (some ((0, I 438 493), S, I)) else (if w a1 = 3 then (some ((0, I 438 814), S, I)) else (if w a1 = 4 then (some ((0, a3), S, I)) else (if w a1 = 5 then (some ((0, I 438 827), S, I)) else (if w a1 = 6 then (some ((0, I 438 826), S, I)) else (if w a1 = 7 then ((ev d 214 0 [(2, 438), uU, uU] [] S I).bind (fun q => ev (d + 1) 309 192 [(2, 427), (0, a1), (0, a2), (0, a3), (0, a4)] (psh q.1 []) q.2.1 q.2.2)) else (if w a1 = 8 then (some ((0, I 427 36), S, I)) else (if w a1 = 9 then (some ((0, I 427 22), S, I)) else (if w a1 = 10 then (some ((0, I 427 1), S, I)) else (if w a1 = 11 then (some ((0, I 427 4), S, I)) else (some ((0, (-100)), S, I)))))))))))))) := by
  refine (sx_iload D309_12 rfl).trans ?_
  refine (sx_aload_n D309_14 rfl).trans ?_
  refine (sx_gfI (q := (9, 14, 0, 1382)) (j := 14) D309_15 (by decide +kernel) (by decide +kernel) (by decide) (MA_o h0) rfl rfl).trans ?_
  refine sx_if_ge (pc' := 76) D309_18 (by decide) (by decide) ?_ ?_ rfl rfl
  · refine (sx_iload_n D309_21 rfl).trans ?_
    refine (sx_aload_n D309_22 rfl).trans ?_
    refine (sx_gfR (q := (9, 20, 0, 1388)) (b := 438) D309_23 (by decide +kernel) (by decide +kernel) (by decide) (MA_o h0) (MA_g20 h0)).trans ?_
    refine (sx_iload D309_26 rfl).trans ?_
    refine (sx_iconst D309_28).trans ?_
    exact sx_stat (ag := [(2, 438), (0, a4), (0, 0)]) (r := [(0, a2)]) (al' := [(2, 438), (0, a4), (0, 0)]) (np := 3) (nl := 3) (q := (0, 212, 1526)) D309_29 (by decide +kernel) (by decide) mP_212 mL_212 (Nat.le_of_ble_eq_true rfl) rfl rfl (by simp [cat]) rfl rfl
  · refine (sx_iload_n D309_76 rfl).trans ?_
    refine ite_go (c := w a1 = 0) (fun x1 => ?_) (fun x1 => ?_)
    · refine (sx_tsw (pc' := 140) D309_77 ((rfl).trans x1) (by decide) rfl (by decide) (by decide)).trans ?_
      refine (sx_aload_n D309_140 rfl).trans ?_
      refine (sx_gfI (q := (9, 14, 0, 1382)) (j := 14) D309_141 (by decide +kernel) (by decide +kernel) (by decide) (MA_o h0) rfl rfl).trans ?_
      exact sx_ireturn D309_144 (by decide +kernel)
    refine ite_go (c := w a1 = 1) (fun x2 => ?_) (fun x2 => ?_)
    · refine (sx_tsw (pc' := 145) D309_77 ((rfl).trans x2) (by decide) rfl (by decide) (by decide)).trans ?_
      refine (sx_iload_n D309_145 rfl).trans ?_
      exact sx_ireturn D309_146 (by decide +kernel)
    refine ite_go (c := w a1 = 2) (fun x3 => ?_) (fun x3 => ?_)
    · refine (sx_tsw (pc' := 147) D309_77 ((rfl).trans x3) (by decide) rfl (by decide) (by decide)).trans ?_
      refine (sx_aload_n D309_147 rfl).trans ?_
      refine (sx_gfR (q := (9, 20, 0, 1388)) (b := 438) D309_148 (by decide +kernel) (by decide +kernel) (by decide) (MA_o h0) (MA_g20 h0)).trans ?_
      refine (sx_sipush D309_151 (by decide)).trans ?_
      refine (sx_iaK (j := 493) D309_154 (MA_k20 h0) (w_small (by decide) (by decide)) (by decide) (by decide) rfl).trans ?_
      exact sx_ireturn D309_155 (by decide +kernel)
    refine ite_go (c := w a1 = 3) (fun x4 => ?_) (fun x4 => ?_)
    · refine (sx_tsw (pc' := 156) D309_77 ((rfl).trans x4) (by decide) rfl (by decide) (by decide)).trans ?_
      refine (sx_aload_n D309_156 rfl).trans ?_
      refine (sx_gfR (q := (9, 20, 0, 1388)) (b := 438) D309_157 (by decide +kernel) (by decide +kernel) (by decide) (MA_o h0) (MA_g20 h0)).trans ?_
      refine (sx_sipush D309_160 (by decide)).trans ?_
      refine (sx_iaK (j := 814) D309_163 (MA_k20 h0) (w_small (by decide) (by decide)) (by decide) (by decide) rfl).trans ?_
      exact sx_ireturn D309_164 (by decide +kernel)
    refine ite_go (c := w a1 = 4) (fun x5 => ?_) (fun x5 => ?_)
    · refine (sx_tsw (pc' := 165) D309_77 ((rfl).trans x5) (by decide) rfl (by decide) (by decide)).trans ?_
      refine (sx_iload_n D309_165 rfl).trans ?_
      exact sx_ireturn D309_166 (by decide +kernel)
    refine ite_go (c := w a1 = 5) (fun x6 => ?_) (fun x6 => ?_)
    · refine (sx_tsw (pc' := 167) D309_77 ((rfl).trans x6) (by decide) rfl (by decide) (by decide)).trans ?_
      refine (sx_aload_n D309_167 rfl).trans ?_
      refine (sx_gfR (q := (9, 20, 0, 1388)) (b := 438) D309_168 (by decide +kernel) (by decide +kernel) (by decide) (MA_o h0) (MA_g20 h0)).trans ?_
      refine (sx_sipush D309_171 (by decide)).trans ?_
      refine (sx_iaK (j := 827) D309_174 (MA_k20 h0) (w_small (by decide) (by decide)) (by decide) (by decide) rfl).trans ?_
      exact sx_ireturn D309_175 (by decide +kernel)
    refine ite_go (c := w a1 = 6) (fun x7 => ?_) (fun x7 => ?_)
    · refine (sx_tsw (pc' := 176) D309_77 ((rfl).trans x7) (by decide) rfl (by decide) (by decide)).trans ?_
      refine (sx_aload_n D309_176 rfl).trans ?_
      refine (sx_gfR (q := (9, 20, 0, 1388)) (b := 438) D309_177 (by decide +kernel) (by decide +kernel) (by decide) (MA_o h0) (MA_g20 h0)).trans ?_
      refine (sx_sipush D309_180 (by decide)).trans ?_
      refine (sx_iaK (j := 826) D309_183 (MA_k20 h0) (w_small (by decide) (by decide)) (by decide) (by decide) rfl).trans ?_
      exact sx_ireturn D309_184 (by decide +kernel)
    refine ite_go (c := w a1 = 7) (fun x8 => ?_) (fun x8 => ?_)
    · refine (sx_tsw (pc' := 185) D309_77 ((rfl).trans x8) (by decide) rfl (by decide) (by decide)).trans ?_
      refine (sx_aload_n D309_185 rfl).trans ?_
      refine (sx_gfR (q := (9, 20, 0, 1388)) (b := 438) D309_186 (by decide +kernel) (by decide +kernel) (by decide) (MA_o h0) (MA_g20 h0)).trans ?_
      exact sx_stat (ag := [(2, 438)]) (r := []) (al' := [(2, 438), uU, uU]) (np := 1) (nl := 3) (q := (0, 214, 1535)) D309_189 (by decide +kernel) (by decide) mP_214 mL_214 (Nat.le_of_ble_eq_true rfl) rfl rfl (by simp [cat]) rfl rfl
    refine ite_go (c := w a1 = 8) (fun x9 => ?_) (fun x9 => ?_)
    · refine (sx_tsw (pc' := 193) D309_77 ((rfl).trans x9) (by decide) rfl (by decide) (by decide)).trans ?_
      refine (sx_aload_n D309_193 rfl).trans ?_
      refine (sx_gfI (q := (9, 36, 0, 1404)) (j := 36) D309_194 (by decide +kernel) (by decide +kernel) (by decide) (MA_o h0) rfl rfl).trans ?_
      exact sx_ireturn D309_197 (by decide +kernel)
    refine ite_go (c := w a1 = 9) (fun x10 => ?_) (fun x10 => ?_)
    · refine (sx_tsw (pc' := 198) D309_77 ((rfl).trans x10) (by decide) rfl (by decide) (by decide)).trans ?_
      refine (sx_aload_n D309_198 rfl).trans ?_
      refine (sx_gfI (q := (9, 22, 0, 1390)) (j := 22) D309_199 (by decide +kernel) (by decide +kernel) (by decide) (MA_o h0) rfl rfl).trans ?_
      exact sx_ireturn D309_202 (by decide +kernel)
    refine ite_go (c := w a1 = 10) (fun x11 => ?_) (fun x11 => ?_)
    · refine (sx_tsw (pc' := 203) D309_77 ((rfl).trans x11) (by decide) rfl (by decide) (by decide)).trans ?_
      refine (sx_aload_n D309_203 rfl).trans ?_
      refine (sx_gfI (q := (9, 1, 0, 1369)) (j := 1) D309_204 (by decide +kernel) (by decide +kernel) (by decide) (MA_o h0) rfl rfl).trans ?_
      exact sx_ireturn D309_207 (by decide +kernel)
    refine ite_go (c := w a1 = 11) (fun x12 => ?_) (fun x12 => ?_)
    · refine (sx_tsw (pc' := 208) D309_77 ((rfl).trans x12) (by decide) rfl (by decide) (by decide)).trans ?_
      refine (sx_aload_n D309_208 rfl).trans ?_
      refine (sx_gfI (q := (9, 4, 0, 1372)) (j := 4) D309_209 (by decide +kernel) (by decide +kernel) (by decide) (MA_o h0) rfl rfl).trans ?_
      exact sx_ireturn D309_212 (by decide +kernel)
    refine (sx_tsd (pc' := 213) D309_77 (show w a1 < 0 ∨ 11 < w a1 by rw [show w a1 = w a1 from rfl]; omega) (by decide) (by decide)).trans ?_
    refine (sx_bipush D309_213 (by decide)).trans ?_
    exact sx_ireturn D309_215 (by decide +kernel)
theorem E309_32 {d : Nat} {a1 a2 a3 a4 s0 s1 : Int} {S : SS} {I : II} (h0 : MA S 427) : ev (d + 1) 309 32 [(2, 427), (0, a1), (0, a2), (0, a3), (0, a4)] [(0, s1), (0, s0)] S I = (ev d 212 0 [(2, 438), (0, a4), (0, 3)] [] S I).bind (fun q => ev (d + 1) 309 42 [(2, 427), (0, a1), (0, a2), (0, a3), (0, a4)] (psh q.1 [(0, s1), (0, s0)]) q.2.1 q.2.2) := by
  refine (sx_aload_n D309_32 rfl).trans ?_
  refine (sx_gfR (q := (9, 20, 0, 1388)) (b := 438) D309_33 (by decide +kernel) (by decide +kernel) (by decide) (MA_o h0) (MA_g20 h0)).trans ?_
  refine (sx_iload D309_36 rfl).trans ?_
  refine (sx_iconst D309_38).trans ?_
  exact sx_stat (ag := [(2, 438), (0, a4), (0, 3)]) (r := [(0, s1), (0, s0)]) (al' := [(2, 438), (0, a4), (0, 3)]) (np := 3) (nl := 3) (q := (0, 212, 1526)) D309_39 (by decide +kernel) (by decide) mP_212 mL_212 (Nat.le_of_ble_eq_true rfl) rfl rfl (by simp [cat]) rfl rfl
theorem E309_42 {d : Nat} {a1 a2 a3 a4 s0 s1 s2 : Int} {S : SS} {I : II} (h0 : MA S 427) : ev (d + 1) 309 42 [(2, 427), (0, a1), (0, a2), (0, a3), (0, a4)] [(0, s2), (0, s1), (0, s0)] S I = (ev d 212 0 [(2, 438), (0, a4), (0, 5)] [] S I).bind (fun q => ev (d + 1) 309 56 [(2, 427), (0, a1), (0, s0 + (s1 - s2)), (0, a3), (0, a4)] (psh q.1 [(0, a3)]) q.2.1 q.2.2) := by
  refine (sx_isub D309_42).trans ?_
  refine (sx_iadd D309_43).trans ?_
  refine (sx_istore_n (al' := [(2, 427), (0, a1), (0, s0 + (s1 - s2)), (0, a3), (0, a4)]) D309_44 (Nat.le_of_ble_eq_true rfl) rfl rfl).trans ?_
  refine (sx_iload_n D309_45 rfl).trans ?_
  refine (sx_aload_n D309_46 rfl).trans ?_
  refine (sx_gfR (q := (9, 20, 0, 1388)) (b := 438) D309_47 (by decide +kernel) (by decide +kernel) (by decide) (MA_o h0) (MA_g20 h0)).trans ?_
  refine (sx_iload D309_50 rfl).trans ?_
  refine (sx_iconst D309_52).trans ?_
  exact sx_stat (ag := [(2, 438), (0, a4), (0, 5)]) (r := [(0, a3)]) (al' := [(2, 438), (0, a4), (0, 5)]) (np := 3) (nl := 3) (q := (0, 212, 1526)) D309_53 (by decide +kernel) (by decide) mP_212 mL_212 (Nat.le_of_ble_eq_true rfl) rfl rfl (by simp [cat]) rfl rfl
theorem E309_56 {d : Nat} {a1 a2 a3 a4 s0 s1 : Int} {S : SS} {I : II} (h0 : MA S 427) : ev (d + 1) 309 56 [(2, 427), (0, a1), (0, a2), (0, a3), (0, a4)] [(0, s1), (0, s0)] S I = (ev d 212 0 [(2, 438), (0, a4), (0, 6)] [] S I).bind (fun q => ev (d + 1) 309 67 [(2, 427), (0, a1), (0, a2), (0, a3), (0, a4)] (psh q.1 [(0, s1), (0, s0)]) q.2.1 q.2.2) := by
  refine (sx_aload_n D309_56 rfl).trans ?_
  refine (sx_gfR (q := (9, 20, 0, 1388)) (b := 438) D309_57 (by decide +kernel) (by decide +kernel) (by decide) (MA_o h0) (MA_g20 h0)).trans ?_
  refine (sx_iload D309_60 rfl).trans ?_
  refine (sx_bipush D309_62 (by decide)).trans ?_
  exact sx_stat (ag := [(2, 438), (0, a4), (0, 6)]) (r := [(0, s1), (0, s0)]) (al' := [(2, 438), (0, a4), (0, 6)]) (np := 3) (nl := 3) (q := (0, 212, 1526)) D309_64 (by decide +kernel) (by decide) mP_212 mL_212 (Nat.le_of_ble_eq_true rfl) rfl rfl (by simp [cat]) rfl rfl
theorem E309_67 {d : Nat} {a1 a2 a3 a4 s0 s1 s2 : Int} {S : SS} {I : II}  : ev d 309 67 [(2, 427), (0, a1), (0, a2), (0, a3), (0, a4)] [(0, s2), (0, s1), (0, s0)] S I = ev d 309 12 [(2, 427), (0, a1), (0, a2), (0, s0 + (s1 - s2)), (0, a4 + 1)] [] S I := by
  refine (sx_isub D309_67).trans ?_
  refine (sx_iadd D309_68).trans ?_
  refine (sx_istore_n (al' := [(2, 427), (0, a1), (0, a2), (0, s0 + (s1 - s2)), (0, a4)]) D309_69 (Nat.le_of_ble_eq_true rfl) rfl rfl).trans ?_
  refine (sx_iinc (al' := [(2, 427), (0, a1), (0, a2), (0, s0 + (s1 - s2)), (0, a4 + 1)]) D309_70 rfl rfl).trans ?_
  refine (sx_goto (pc' := 12) D309_73 (by decide) (by decide)).trans ?_
  exact rfl
theorem E309_192 {d : Nat} {a1 a2 a3 a4 s0 : Int} {S : SS} {I : II}  : ev d 309 192 [(2, 427), (0, a1), (0, a2), (0, a3), (0, a4)] [(0, s0)] S I = some ((0, s0), S, I) := by
  exact sx_ireturn D309_192 (by decide +kernel)
theorem E310_0 {d : Nat} {a1 : Int} {S : SS} {I : II} (h0 : MA S 427) : ev (d + 1) 310 0 [(2, 427), (0, a1)] [] S I = (ev d 192 0 [(1, w a1), uU, (1, 0), uU, (1, w ((I 427 1) - 1)), uU] [] S (up2 I 427 0 0)).bind (fun q => ev (d + 1) 310 18 [(2, 427), (0, a1)] (psh q.1 []) q.2.1 q.2.2) := by
  refine (sx_aload_n D310_0 rfl).trans ?_
  refine (sx_iconst D310_1).trans ?_
  refine (sx_pfI (q := (9, 0, 0, 1368)) (j := 0) D310_2 (by decide +kernel) (by decide) (by decide) (MA_o h0) rfl).trans ?_
  refine (sx_iload_n D310_5 rfl).trans ?_
  refine (sx_i2l D310_6).trans ?_
  refine (sx_lconst D310_7).trans ?_
  refine (sx_aload_n D310_8 rfl).trans ?_
  refine (sx_gfI (q := (9, 1, 0, 1369)) (j := 1) D310_9 (by decide +kernel) (by decide +kernel) (by decide) (MA_o h0) rfl (up2_slot (by decide))).trans ?_
  refine (sx_iconst D310_12).trans ?_
  refine (sx_isub D310_13).trans ?_
  refine (sx_i2l D310_14).trans ?_
  exact sx_stat (ag := [(1, w a1), (1, 0), (1, w ((I 427 1) - 1))]) (r := []) (al' := [(1, w a1), uU, (1, 0), uU, (1, w ((I 427 1) - 1)), uU]) (np := 3) (nl := 6) (q := (0, 192, 1299)) D310_15 (by decide +kernel) (by decide) mP_192 mL_192 (Nat.le_of_ble_eq_true rfl) rfl rfl (by simp [cat]) rfl rfl
theorem E310_18 {d : Nat} {a1 s0 : Int} {S : SS} {I : II} (h0 : MA S 427) : ev d 310 18 [(2, 427), (0, a1)] [(0, s0)] S I = if w s0 = 0 then (some ((1, 0), S, (up2 I 427 0 1))) else (gdR (0 ≤ w a1 ∧ w a1 < 24) (some ((1, I 428 (w a1)), S, I))) := by
  refine sx_i0_ne (pc' := 28) D310_18 (by decide) (by decide) ?_ ?_ rfl
  · refine (sx_aload_n D310_21 rfl).trans ?_
    refine (sx_iconst D310_22).trans ?_
    refine (sx_pfI (q := (9, 0, 0, 1368)) (j := 0) D310_23 (by decide +kernel) (by decide) (by decide) (MA_o h0) rfl).trans ?_
    refine (sx_lconst D310_26).trans ?_
    exact sx_lreturn D310_27 (by decide +kernel)
  · refine (sx_aload_n D310_28 rfl).trans ?_
    refine (sx_gfR (q := (9, 2, 0, 1370)) (b := 428) D310_29 (by decide +kernel) (by decide +kernel) (by decide) (MA_o h0) (MA_g2 h0)).trans ?_
    refine (sx_iload_n D310_32 rfl).trans ?_
    refine (sx_la D310_33 (MA_k2 h0) rfl).trans (gdR_to fun g1 => ?_)
    exact sx_lreturn D310_34 (by decide +kernel)
