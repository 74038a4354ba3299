/-! equations, by places where ways meet: methods 0 to 64 (written by wip/whole/genE.py) -/
theorem D0_0 : decode (mB 0) 0 = .ok (.iload_n 0, 1) := by decide +kernel
theorem D0_1 : decode (mB 0) 1 = .ok (.iload_n 1, 1) := by decide +kernel
theorem D0_2 : decode (mB 0) 2 = .ok (.iconst 4, 1) := by decide +kernel
theorem D0_3 : decode (mB 0) 3 = .ok (.ishl, 1) := by decide +kernel
theorem D0_4 : decode (mB 0) 4 = .ok (.ior, 1) := by decide +kernel
theorem D0_5 : decode (mB 0) 5 = .ok (.iload_n 2, 1) := by decide +kernel
theorem D0_6 : decode (mB 0) 6 = .ok (.bipush 7, 2) := by decide +kernel
theorem D0_8 : decode (mB 0) 8 = .ok (.ishl, 1) := by decide +kernel
theorem D0_9 : decode (mB 0) 9 = .ok (.ior, 1) := by decide +kernel
theorem D0_10 : decode (mB 0) 10 = .ok (.iload_n 3, 1) := by decide +kernel
theorem D0_11 : decode (mB 0) 11 = .ok (.bipush 11, 2) := by decide +kernel
theorem D0_13 : decode (mB 0) 13 = .ok (.ishl, 1) := by decide +kernel
theorem D0_14 : decode (mB 0) 14 = .ok (.ior, 1) := by decide +kernel
theorem D0_15 : decode (mB 0) 15 = .ok (.ireturn, 1) := by decide +kernel
theorem D1_0 : decode (mB 1) 0 = .ok (.iload_n 0, 1) := by decide +kernel
theorem D1_1 : decode (mB 1) 1 = .ok (.bipush 7, 2) := by decide +kernel
theorem D1_3 : decode (mB 1) 3 = .ok (.ishr, 1) := by decide +kernel
theorem D1_4 : decode (mB 1) 4 = .ok (.bipush 15, 2) := by decide +kernel
theorem D1_6 : decode (mB 1) 6 = .ok (.iand, 1) := by decide +kernel
theorem D1_7 : decode (mB 1) 7 = .ok (.ireturn, 1) := by decide +kernel
theorem D2_0 : decode (mB 2) 0 = .ok (.iload_n 0, 1) := by decide +kernel
theorem D2_1 : decode (mB 2) 1 = .ok (.iconst 4, 1) := by decide +kernel
theorem D2_2 : decode (mB 2) 2 = .ok (.ishr, 1) := by decide +kernel
theorem D2_3 : decode (mB 2) 3 = .ok (.bipush 7, 2) := by decide +kernel
theorem D2_5 : decode (mB 2) 5 = .ok (.iand, 1) := by decide +kernel
theorem D2_6 : decode (mB 2) 6 = .ok (.ireturn, 1) := by decide +kernel
theorem D3_0 : decode (mB 3) 0 = .ok (.iload_n 0, 1) := by decide +kernel
theorem D3_1 : decode (mB 3) 1 = .ok (.bipush 15, 2) := by decide +kernel
theorem D3_3 : decode (mB 3) 3 = .ok (.iand, 1) := by decide +kernel
theorem D3_4 : decode (mB 3) 4 = .ok (.ireturn, 1) := by decide +kernel
theorem D4_0 : decode (mB 4) 0 = .ok (.iload_n 0, 1) := by decide +kernel
theorem D4_1 : decode (mB 4) 1 = .ok (.bipush 11, 2) := by decide +kernel
theorem D4_3 : decode (mB 4) 3 = .ok (.ishr, 1) := by decide +kernel
theorem D4_4 : decode (mB 4) 4 = .ok (.bipush 127, 2) := by decide +kernel
theorem D4_6 : decode (mB 4) 6 = .ok (.iand, 1) := by decide +kernel
theorem D4_7 : decode (mB 4) 7 = .ok (.ireturn, 1) := by decide +kernel
theorem D5_0 : decode (mB 5) 0 = .ok (.iload_n 0, 1) := by decide +kernel
theorem D5_1 : decode (mB 5) 1 = .ok (.ldc 9, 2) := by decide +kernel
theorem D5_3 : decode (mB 5) 3 = .ok (.iand, 1) := by decide +kernel
theorem D5_4 : decode (mB 5) 4 = .ok (.ifCond .eq 7, 3) := by decide +kernel
theorem D5_7 : decode (mB 5) 7 = .ok (.iconst 1, 1) := by decide +kernel
theorem D5_8 : decode (mB 5) 8 = .ok (.goto 4, 3) := by decide +kernel
theorem D5_11 : decode (mB 5) 11 = .ok (.iconst 0, 1) := by decide +kernel
theorem D5_12 : decode (mB 5) 12 = .ok (.ireturn, 1) := by decide +kernel
theorem D6_0 : decode (mB 6) 0 = .ok (.iload_n 0, 1) := by decide +kernel
theorem D6_1 : decode (mB 6) 1 = .ok (.invokestatic 10, 3) := by decide +kernel
theorem D6_4 : decode (mB 6) 4 = .ok (.iconst 1, 1) := by decide +kernel
theorem D6_5 : decode (mB 6) 5 = .ok (.if_icmp .eq 11, 3) := by decide +kernel
theorem D6_8 : decode (mB 6) 8 = .ok (.iload_n 0, 1) := by decide +kernel
theorem D6_9 : decode (mB 6) 9 = .ok (.invokestatic 10, 3) := by decide +kernel
theorem D6_12 : decode (mB 6) 12 = .ok (.iconst 3, 1) := by decide +kernel
theorem D6_13 : decode (mB 6) 13 = .ok (.if_icmp .ne 15, 3) := by decide +kernel
theorem D6_16 : decode (mB 6) 16 = .ok (.iload_n 0, 1) := by decide +kernel
theorem D6_17 : decode (mB 6) 17 = .ok (.invokestatic 14, 3) := by decide +kernel
theorem D6_20 : decode (mB 6) 20 = .ok (.iload_n 1, 1) := by decide +kernel
theorem D6_21 : decode (mB 6) 21 = .ok (.if_icmp .ne 7, 3) := by decide +kernel
theorem D6_24 : decode (mB 6) 24 = .ok (.iconst 1, 1) := by decide +kernel
theorem D6_25 : decode (mB 6) 25 = .ok (.goto 4, 3) := by decide +kernel
theorem D6_28 : decode (mB 6) 28 = .ok (.iconst 0, 1) := by decide +kernel
theorem D6_29 : decode (mB 6) 29 = .ok (.ireturn, 1) := by decide +kernel
theorem D7_0 : decode (mB 7) 0 = .ok (.iload_n 0, 1) := by decide +kernel
theorem D7_1 : decode (mB 7) 1 = .ok (.iload_n 1, 1) := by decide +kernel
theorem D7_2 : decode (mB 7) 2 = .ok (.iconst 3, 1) := by decide +kernel
theorem D7_3 : decode (mB 7) 3 = .ok (.ishl, 1) := by decide +kernel
theorem D7_4 : decode (mB 7) 4 = .ok (.ior, 1) := by decide +kernel
theorem D7_5 : decode (mB 7) 5 = .ok (.iload_n 2, 1) := by decide +kernel
theorem D7_6 : decode (mB 7) 6 = .ok (.bipush 7, 2) := by decide +kernel
theorem D7_8 : decode (mB 7) 8 = .ok (.ishl, 1) := by decide +kernel
theorem D7_9 : decode (mB 7) 9 = .ok (.ior, 1) := by decide +kernel
theorem D7_10 : decode (mB 7) 10 = .ok (.iload_n 3, 1) := by decide +kernel
theorem D7_11 : decode (mB 7) 11 = .ok (.bipush 10, 2) := by decide +kernel
theorem D7_13 : decode (mB 7) 13 = .ok (.ishl, 1) := by decide +kernel
theorem D7_14 : decode (mB 7) 14 = .ok (.ior, 1) := by decide +kernel
theorem D7_15 : decode (mB 7) 15 = .ok (.ireturn, 1) := by decide +kernel
theorem D8_0 : decode (mB 8) 0 = .ok (.iload_n 0, 1) := by decide +kernel
theorem D8_1 : decode (mB 8) 1 = .ok (.bipush 7, 2) := by decide +kernel
theorem D8_3 : decode (mB 8) 3 = .ok (.iand, 1) := by decide +kernel
theorem D8_4 : decode (mB 8) 4 = .ok (.ireturn, 1) := by decide +kernel
theorem D9_0 : decode (mB 9) 0 = .ok (.iload_n 0, 1) := by decide +kernel
theorem D9_1 : decode (mB 9) 1 = .ok (.bipush 10, 2) := by decide +kernel
theorem D9_3 : decode (mB 9) 3 = .ok (.ishr, 1) := by decide +kernel
theorem D9_4 : decode (mB 9) 4 = .ok (.bipush 127, 2) := by decide +kernel
theorem D9_6 : decode (mB 9) 6 = .ok (.iand, 1) := by decide +kernel
theorem D9_7 : decode (mB 9) 7 = .ok (.ireturn, 1) := by decide +kernel
theorem D10_0 : decode (mB 10) 0 = .ok (.iload_n 0, 1) := by decide +kernel
theorem D10_1 : decode (mB 10) 1 = .ok (.iconst 3, 1) := by decide +kernel
theorem D10_2 : decode (mB 10) 2 = .ok (.ishr, 1) := by decide +kernel
theorem D10_3 : decode (mB 10) 3 = .ok (.bipush 15, 2) := by decide +kernel
theorem D10_5 : decode (mB 10) 5 = .ok (.iand, 1) := by decide +kernel
theorem D10_6 : decode (mB 10) 6 = .ok (.ireturn, 1) := by decide +kernel
theorem D11_0 : decode (mB 11) 0 = .ok (.iload_n 0, 1) := by decide +kernel
theorem D11_1 : decode (mB 11) 1 = .ok (.bipush 7, 2) := by decide +kernel
theorem D11_3 : decode (mB 11) 3 = .ok (.ishr, 1) := by decide +kernel
theorem D11_4 : decode (mB 11) 4 = .ok (.bipush 7, 2) := by decide +kernel
theorem D11_6 : decode (mB 11) 6 = .ok (.iand, 1) := by decide +kernel
theorem D11_7 : decode (mB 11) 7 = .ok (.ireturn, 1) := by decide +kernel
theorem D12_0 : decode (mB 12) 0 = .ok (.aload_n 0, 1) := by decide +kernel
theorem D12_1 : decode (mB 12) 1 = .ok (.invokespecial 1, 3) := by decide +kernel
theorem D12_4 : decode (mB 12) 4 = .ok (.aload_n 0, 1) := by decide +kernel
theorem D12_5 : decode (mB 12) 5 = .ok (.iload_n 1, 1) := by decide +kernel
theorem D12_6 : decode (mB 12) 6 = .ok (.putfield 7, 3) := by decide +kernel
theorem D12_9 : decode (mB 12) 9 = .ok (.return_, 1) := by decide +kernel
theorem D13_0 : decode (mB 13) 0 = .ok (.aload_n 0, 1) := by decide +kernel
theorem D13_1 : decode (mB 13) 1 = .ok (.aload_n 0, 1) := by decide +kernel
theorem D13_2 : decode (mB 13) 2 = .ok (.getfield 7, 3) := by decide +kernel
theorem D13_5 : decode (mB 13) 5 = .ok (.ldc 13, 2) := by decide +kernel
theorem D13_7 : decode (mB 13) 7 = .ok (.imul, 1) := by decide +kernel
theorem D13_8 : decode (mB 13) 8 = .ok (.sipush 12345, 3) := by decide +kernel
theorem D13_11 : decode (mB 13) 11 = .ok (.iadd, 1) := by decide +kernel
theorem D13_12 : decode (mB 13) 12 = .ok (.putfield 7, 3) := by decide +kernel
theorem D13_15 : decode (mB 13) 15 = .ok (.iload_n 1, 1) := by decide +kernel
theorem D13_16 : decode (mB 13) 16 = .ok (.ifCond .le 15, 3) := by decide +kernel
theorem D13_19 : decode (mB 13) 19 = .ok (.aload_n 0, 1) := by decide +kernel
theorem D13_20 : decode (mB 13) 20 = .ok (.getfield 7, 3) := by decide +kernel
theorem D13_23 : decode (mB 13) 23 = .ok (.bipush 16, 2) := by decide +kernel
theorem D13_25 : decode (mB 13) 25 = .ok (.iushr, 1) := by decide +kernel
theorem D13_26 : decode (mB 13) 26 = .ok (.iload_n 1, 1) := by decide +kernel
theorem D13_27 : decode (mB 13) 27 = .ok (.irem, 1) := by decide +kernel
theorem D13_28 : decode (mB 13) 28 = .ok (.goto 4, 3) := by decide +kernel
theorem D13_31 : decode (mB 13) 31 = .ok (.iconst 0, 1) := by decide +kernel
theorem D13_32 : decode (mB 13) 32 = .ok (.ireturn, 1) := by decide +kernel
theorem D14_0 : decode (mB 14) 0 = .ok (.aload_n 0, 1) := by decide +kernel
theorem D14_1 : decode (mB 14) 1 = .ok (.invokespecial 3, 3) := by decide +kernel
theorem D14_4 : decode (mB 14) 4 = .ok (.aload_n 0, 1) := by decide +kernel
theorem D14_5 : decode (mB 14) 5 = .ok (.iconst 5, 1) := by decide +kernel
theorem D14_6 : decode (mB 14) 6 = .ok (.anewarray 9, 3) := by decide +kernel
theorem D14_9 : decode (mB 14) 9 = .ok (.putfield 11, 3) := by decide +kernel
theorem D14_12 : decode (mB 14) 12 = .ok (.aload_n 0, 1) := by decide +kernel
theorem D14_13 : decode (mB 14) 13 = .ok (.bipush 10, 2) := by decide +kernel
theorem D14_15 : decode (mB 14) 15 = .ok (.newarray .int, 2) := by decide +kernel
theorem D14_17 : decode (mB 14) 17 = .ok (.putfield 17, 3) := by decide +kernel
theorem D14_20 : decode (mB 14) 20 = .ok (.aload_n 0, 1) := by decide +kernel
theorem D14_21 : decode (mB 14) 21 = .ok (.iconst 4, 1) := by decide +kernel
theorem D14_22 : decode (mB 14) 22 = .ok (.newarray .int, 2) := by decide +kernel
theorem D14_24 : decode (mB 14) 24 = .ok (.putfield 21, 3) := by decide +kernel
theorem D14_27 : decode (mB 14) 27 = .ok (.aload_n 0, 1) := by decide +kernel
theorem D14_28 : decode (mB 14) 28 = .ok (.iconst 4, 1) := by decide +kernel
theorem D14_29 : decode (mB 14) 29 = .ok (.newarray .int, 2) := by decide +kernel
theorem D14_31 : decode (mB 14) 31 = .ok (.putfield 24, 3) := by decide +kernel
theorem D14_34 : decode (mB 14) 34 = .ok (.aload_n 0, 1) := by decide +kernel
theorem D14_35 : decode (mB 14) 35 = .ok (.iconst 4, 1) := by decide +kernel
theorem D14_36 : decode (mB 14) 36 = .ok (.newarray .int, 2) := by decide +kernel
theorem D14_38 : decode (mB 14) 38 = .ok (.putfield 27, 3) := by decide +kernel
theorem D14_41 : decode (mB 14) 41 = .ok (.aload_n 0, 1) := by decide +kernel
theorem D14_42 : decode (mB 14) 42 = .ok (.iconst 4, 1) := by decide +kernel
theorem D14_43 : decode (mB 14) 43 = .ok (.newarray .int, 2) := by decide +kernel
theorem D14_45 : decode (mB 14) 45 = .ok (.putfield 30, 3) := by decide +kernel
theorem D14_48 : decode (mB 14) 48 = .ok (.aload_n 0, 1) := by decide +kernel
theorem D14_49 : decode (mB 14) 49 = .ok (.iconst 4, 1) := by decide +kernel
theorem D14_50 : decode (mB 14) 50 = .ok (.newarray .int, 2) := by decide +kernel
theorem D14_52 : decode (mB 14) 52 = .ok (.putfield 33, 3) := by decide +kernel
theorem D14_55 : decode (mB 14) 55 = .ok (.aload_n 0, 1) := by decide +kernel
theorem D14_56 : decode (mB 14) 56 = .ok (.iconst 4, 1) := by decide +kernel
theorem D14_57 : decode (mB 14) 57 = .ok (.newarray .int, 2) := by decide +kernel
theorem D14_59 : decode (mB 14) 59 = .ok (.putfield 36, 3) := by decide +kernel
theorem D14_62 : decode (mB 14) 62 = .ok (.aload_n 0, 1) := by decide +kernel
theorem D14_63 : decode (mB 14) 63 = .ok (.iconst 4, 1) := by decide +kernel
theorem D14_64 : decode (mB 14) 64 = .ok (.newarray .int, 2) := by decide +kernel
theorem D14_66 : decode (mB 14) 66 = .ok (.putfield 39, 3) := by decide +kernel
theorem D14_69 : decode (mB 14) 69 = .ok (.aload_n 0, 1) := by decide +kernel
theorem D14_70 : decode (mB 14) 70 = .ok (.bipush 80, 2) := by decide +kernel
theorem D14_72 : decode (mB 14) 72 = .ok (.newarray .int, 2) := by decide +kernel
theorem D14_74 : decode (mB 14) 74 = .ok (.putfield 42, 3) := by decide +kernel
theorem D14_77 : decode (mB 14) 77 = .ok (.iconst 0, 1) := by decide +kernel
theorem D14_78 : decode (mB 14) 78 = .ok (.istore_n 1, 1) := by decide +kernel
theorem D14_79 : decode (mB 14) 79 = .ok (.iload_n 1, 1) := by decide +kernel
theorem D14_80 : decode (mB 14) 80 = .ok (.iconst 5, 1) := by decide +kernel
theorem D14_81 : decode (mB 14) 81 = .ok (.if_icmp .ge 22, 3) := by decide +kernel
theorem D14_84 : decode (mB 14) 84 = .ok (.aload_n 0, 1) := by decide +kernel
theorem D14_85 : decode (mB 14) 85 = .ok (.getfield 11, 3) := by decide +kernel
theorem D14_88 : decode (mB 14) 88 = .ok (.iload_n 1, 1) := by decide +kernel
theorem D14_89 : decode (mB 14) 89 = .ok (.new 9, 3) := by decide +kernel
theorem D14_92 : decode (mB 14) 92 = .ok (.dup, 1) := by decide +kernel
theorem D14_93 : decode (mB 14) 93 = .ok (.invokespecial 45, 3) := by decide +kernel
theorem D14_96 : decode (mB 14) 96 = .ok (.aastore, 1) := by decide +kernel
theorem D14_97 : decode (mB 14) 97 = .ok (.iinc 1 1, 3) := by decide +kernel
theorem D14_100 : decode (mB 14) 100 = .ok (.goto (-21), 3) := by decide +kernel
theorem D14_103 : decode (mB 14) 103 = .ok (.aload_n 0, 1) := by decide +kernel
theorem D14_104 : decode (mB 14) 104 = .ok (.iconst 2, 1) := by decide +kernel
theorem D14_105 : decode (mB 14) 105 = .ok (.putfield 46, 3) := by decide +kernel
theorem D14_108 : decode (mB 14) 108 = .ok (.iconst 1, 1) := by decide +kernel
theorem D14_109 : decode (mB 14) 109 = .ok (.istore_n 1, 1) := by decide +kernel
theorem D14_110 : decode (mB 14) 110 = .ok (.iload_n 1, 1) := by decide +kernel
theorem D14_111 : decode (mB 14) 111 = .ok (.iconst 4, 1) := by decide +kernel
theorem D14_112 : decode (mB 14) 112 = .ok (.if_icmp .ge 27, 3) := by decide +kernel
theorem D14_115 : decode (mB 14) 115 = .ok (.aload_n 0, 1) := by decide +kernel
theorem D14_116 : decode (mB 14) 116 = .ok (.getfield 21, 3) := by decide +kernel
theorem D14_119 : decode (mB 14) 119 = .ok (.iload_n 1, 1) := by decide +kernel
theorem D14_120 : decode (mB 14) 120 = .ok (.iconst 4, 1) := by decide +kernel
theorem D14_121 : decode (mB 14) 121 = .ok (.iload_n 1, 1) := by decide +kernel
theorem D14_122 : decode (mB 14) 122 = .ok (.isub, 1) := by decide +kernel
theorem D14_123 : decode (mB 14) 123 = .ok (.iastore, 1) := by decide +kernel
theorem D14_124 : decode (mB 14) 124 = .ok (.aload_n 0, 1) := by decide +kernel
theorem D14_125 : decode (mB 14) 125 = .ok (.getfield 24, 3) := by decide +kernel
theorem D14_128 : decode (mB 14) 128 = .ok (.iload_n 1, 1) := by decide +kernel
theorem D14_129 : decode (mB 14) 129 = .ok (.iconst 4, 1) := by decide +kernel
theorem D14_130 : decode (mB 14) 130 = .ok (.iload_n 1, 1) := by decide +kernel
theorem D14_131 : decode (mB 14) 131 = .ok (.isub, 1) := by decide +kernel
theorem D14_132 : decode (mB 14) 132 = .ok (.iastore, 1) := by decide +kernel
theorem D14_133 : decode (mB 14) 133 = .ok (.iinc 1 1, 3) := by decide +kernel
theorem D14_136 : decode (mB 14) 136 = .ok (.goto (-26), 3) := by decide +kernel
theorem D14_139 : decode (mB 14) 139 = .ok (.aload_n 0, 1) := by decide +kernel
theorem D14_140 : decode (mB 14) 140 = .ok (.getfield 27, 3) := by decide +kernel
theorem D14_143 : decode (mB 14) 143 = .ok (.iconst 4, 1) := by decide +kernel
theorem D14_144 : decode (mB 14) 144 = .ok (.invokestatic 50, 3) := by decide +kernel
theorem D14_147 : decode (mB 14) 147 = .ok (.return_, 1) := by decide +kernel
theorem D15_0 : decode (mB 15) 0 = .ok (.aload_n 0, 1) := by decide +kernel
theorem D15_1 : decode (mB 15) 1 = .ok (.getfield 56, 3) := by decide +kernel
theorem D15_4 : decode (mB 15) 4 = .ok (.ifCond .lt 11, 3) := by decide +kernel
theorem D15_7 : decode (mB 15) 7 = .ok (.aload_n 0, 1) := by decide +kernel
theorem D15_8 : decode (mB 15) 8 = .ok (.getfield 56, 3) := by decide +kernel
theorem D15_11 : decode (mB 15) 11 = .ok (.iconst 5, 1) := by decide +kernel
theorem D15_12 : decode (mB 15) 12 = .ok (.if_icmp .lt 6, 3) := by decide +kernel
theorem D15_15 : decode (mB 15) 15 = .ok (.bipush (-100), 2) := by decide +kernel
theorem D15_17 : decode (mB 15) 17 = .ok (.ireturn, 1) := by decide +kernel
theorem D15_18 : decode (mB 15) 18 = .ok (.aload_n 0, 1) := by decide +kernel
theorem D15_19 : decode (mB 15) 19 = .ok (.getfield 11, 3) := by decide +kernel
theorem D15_22 : decode (mB 15) 22 = .ok (.aload_n 0, 1) := by decide +kernel
theorem D15_23 : decode (mB 15) 23 = .ok (.getfield 56, 3) := by decide +kernel
theorem D15_26 : decode (mB 15) 26 = .ok (.aaload, 1) := by decide +kernel
theorem D15_27 : decode (mB 15) 27 = .ok (.astore 5, 2) := by decide +kernel
theorem D15_29 : decode (mB 15) 29 = .ok (.aload_n 0, 1) := by decide +kernel
theorem D15_30 : decode (mB 15) 30 = .ok (.dup, 1) := by decide +kernel
theorem D15_31 : decode (mB 15) 31 = .ok (.getfield 56, 3) := by decide +kernel
theorem D15_34 : decode (mB 15) 34 = .ok (.iconst 1, 1) := by decide +kernel
theorem D15_35 : decode (mB 15) 35 = .ok (.iadd, 1) := by decide +kernel
theorem D15_36 : decode (mB 15) 36 = .ok (.putfield 56, 3) := by decide +kernel
theorem D15_39 : decode (mB 15) 39 = .ok (.aload 5, 2) := by decide +kernel
theorem D15_41 : decode (mB 15) 41 = .ok (.iload_n 1, 1) := by decide +kernel
theorem D15_42 : decode (mB 15) 42 = .ok (.putfield 84, 3) := by decide +kernel
theorem D15_45 : decode (mB 15) 45 = .ok (.aload 5, 2) := by decide +kernel
theorem D15_47 : decode (mB 15) 47 = .ok (.iload_n 2, 1) := by decide +kernel
theorem D15_48 : decode (mB 15) 48 = .ok (.putfield 87, 3) := by decide +kernel
theorem D15_51 : decode (mB 15) 51 = .ok (.aload 5, 2) := by decide +kernel
theorem D15_53 : decode (mB 15) 53 = .ok (.iload_n 3, 1) := by decide +kernel
theorem D15_54 : decode (mB 15) 54 = .ok (.putfield 90, 3) := by decide +kernel
theorem D15_57 : decode (mB 15) 57 = .ok (.aload 5, 2) := by decide +kernel
theorem D15_59 : decode (mB 15) 59 = .ok (.iload 4, 2) := by decide +kernel
theorem D15_61 : decode (mB 15) 61 = .ok (.putfield 93, 3) := by decide +kernel
theorem D15_64 : decode (mB 15) 64 = .ok (.aload_n 0, 1) := by decide +kernel
theorem D15_65 : decode (mB 15) 65 = .ok (.getfield 56, 3) := by decide +kernel
theorem D15_68 : decode (mB 15) 68 = .ok (.iconst 1, 1) := by decide +kernel
theorem D15_69 : decode (mB 15) 69 = .ok (.isub, 1) := by decide +kernel
theorem D15_70 : decode (mB 15) 70 = .ok (.ireturn, 1) := by decide +kernel
theorem D16_0 : decode (mB 16) 0 = .ok (.iload_n 1, 1) := by decide +kernel
theorem D16_1 : decode (mB 16) 1 = .ok (.ifCond .lt 14, 3) := by decide +kernel
theorem D16_4 : decode (mB 16) 4 = .ok (.iload_n 1, 1) := by decide +kernel
theorem D16_5 : decode (mB 16) 5 = .ok (.iconst 3, 1) := by decide +kernel
theorem D16_6 : decode (mB 16) 6 = .ok (.if_icmp .gt 9, 3) := by decide +kernel
theorem D16_9 : decode (mB 16) 9 = .ok (.iload_n 2, 1) := by decide +kernel
theorem D16_10 : decode (mB 16) 10 = .ok (.bipush 10, 2) := by decide +kernel
theorem D16_12 : decode (mB 16) 12 = .ok (.if_icmp .le 5, 3) := by decide +kernel
theorem D16_15 : decode (mB 16) 15 = .ok (.iconst (-1), 1) := by decide +kernel
theorem D16_16 : decode (mB 16) 16 = .ok (.ireturn, 1) := by decide +kernel
theorem D16_17 : decode (mB 16) 17 = .ok (.iload_n 1, 1) := by decide +kernel
theorem D16_18 : decode (mB 16) 18 = .ok (.iconst 3, 1) := by decide +kernel
theorem D16_19 : decode (mB 16) 19 = .ok (.if_icmp .ne 7, 3) := by decide +kernel
theorem D16_22 : decode (mB 16) 22 = .ok (.iconst 1, 1) := by decide +kernel
theorem D16_23 : decode (mB 16) 23 = .ok (.goto 4, 3) := by decide +kernel
theorem D16_26 : decode (mB 16) 26 = .ok (.iconst 0, 1) := by decide +kernel
theorem D16_27 : decode (mB 16) 27 = .ok (.istore 5, 2) := by decide +kernel
theorem D16_29 : decode (mB 16) 29 = .ok (.iload 5, 2) := by decide +kernel
theorem D16_31 : decode (mB 16) 31 = .ok (.ifCond .ne 10, 3) := by decide +kernel
theorem D16_34 : decode (mB 16) 34 = .ok (.iload_n 2, 1) := by decide +kernel
theorem D16_35 : decode (mB 16) 35 = .ok (.ifCond .ge 6, 3) := by decide +kernel
theorem D16_38 : decode (mB 16) 38 = .ok (.bipush (-2), 2) := by decide +kernel
theorem D16_40 : decode (mB 16) 40 = .ok (.ireturn, 1) := by decide +kernel
theorem D16_41 : decode (mB 16) 41 = .ok (.iconst 0, 1) := by decide +kernel
theorem D16_42 : decode (mB 16) 42 = .ok (.istore 6, 2) := by decide +kernel
theorem D16_44 : decode (mB 16) 44 = .ok (.iload 6, 2) := by decide +kernel
theorem D16_46 : decode (mB 16) 46 = .ok (.bipush 10, 2) := by decide +kernel
theorem D16_48 : decode (mB 16) 48 = .ok (.if_icmp .ge 42, 3) := by decide +kernel
theorem D16_51 : decode (mB 16) 51 = .ok (.aload_n 0, 1) := by decide +kernel
theorem D16_52 : decode (mB 16) 52 = .ok (.getfield 17, 3) := by decide +kernel
theorem D16_55 : decode (mB 16) 55 = .ok (.iload 6, 2) := by decide +kernel
theorem D16_57 : decode (mB 16) 57 = .ok (.iload 5, 2) := by decide +kernel
theorem D16_59 : decode (mB 16) 59 = .ok (.ifCond .ne 9, 3) := by decide +kernel
theorem D16_62 : decode (mB 16) 62 = .ok (.iload 6, 2) := by decide +kernel
theorem D16_64 : decode (mB 16) 64 = .ok (.iload_n 2, 1) := by decide +kernel
theorem D16_65 : decode (mB 16) 65 = .ok (.if_icmp .lt 7, 3) := by decide +kernel
theorem D16_68 : decode (mB 16) 68 = .ok (.iconst 0, 1) := by decide +kernel
theorem D16_69 : decode (mB 16) 69 = .ok (.goto 14, 3) := by decide +kernel
theorem D16_72 : decode (mB 16) 72 = .ok (.iload_n 1, 1) := by decide +kernel
theorem D16_73 : decode (mB 16) 73 = .ok (.iload_n 3, 1) := by decide +kernel
theorem D16_74 : decode (mB 16) 74 = .ok (.iload 6, 2) := by decide +kernel
theorem D16_76 : decode (mB 16) 76 = .ok (.iload 4, 2) := by decide +kernel
theorem D16_78 : decode (mB 16) 78 = .ok (.imul, 1) := by decide +kernel
theorem D16_79 : decode (mB 16) 79 = .ok (.iadd, 1) := by decide +kernel
theorem D16_80 : decode (mB 16) 80 = .ok (.invokestatic 97, 3) := by decide +kernel
theorem D16_83 : decode (mB 16) 83 = .ok (.iastore, 1) := by decide +kernel
theorem D16_84 : decode (mB 16) 84 = .ok (.iinc 6 1, 3) := by decide +kernel
theorem D16_87 : decode (mB 16) 87 = .ok (.goto (-43), 3) := by decide +kernel
theorem D16_90 : decode (mB 16) 90 = .ok (.iload 5, 2) := by decide +kernel
theorem D16_92 : decode (mB 16) 92 = .ok (.ifCond .eq 8, 3) := by decide +kernel
theorem D16_95 : decode (mB 16) 95 = .ok (.bipush (-3), 2) := by decide +kernel
theorem D16_97 : decode (mB 16) 97 = .ok (.goto 7, 3) := by decide +kernel
theorem D16_100 : decode (mB 16) 100 = .ok (.aload_n 0, 1) := by decide +kernel
theorem D16_101 : decode (mB 16) 101 = .ok (.invokevirtual 101, 3) := by decide +kernel
theorem D16_104 : decode (mB 16) 104 = .ok (.ireturn, 1) := by decide +kernel
theorem D17_0 : decode (mB 17) 0 = .ok (.iload_n 0, 1) := by decide +kernel
theorem D17_1 : decode (mB 17) 1 = .ok (.ifCond .ne 8, 3) := by decide +kernel
theorem D17_4 : decode (mB 17) 4 = .ok (.iload_n 1, 1) := by decide +kernel
theorem D17_5 : decode (mB 17) 5 = .ok (.i2b, 1) := by decide +kernel
theorem D17_6 : decode (mB 17) 6 = .ok (.goto 14, 3) := by decide +kernel
theorem D17_9 : decode (mB 17) 9 = .ok (.iload_n 0, 1) := by decide +kernel
theorem D17_10 : decode (mB 17) 10 = .ok (.iconst 1, 1) := by decide +kernel
theorem D17_11 : decode (mB 17) 11 = .ok (.if_icmp .ne 8, 3) := by decide +kernel
theorem D17_14 : decode (mB 17) 14 = .ok (.iload_n 1, 1) := by decide +kernel
theorem D17_15 : decode (mB 17) 15 = .ok (.i2s, 1) := by decide +kernel
theorem D17_16 : decode (mB 17) 16 = .ok (.goto 4, 3) := by decide +kernel
theorem D17_19 : decode (mB 17) 19 = .ok (.iload_n 1, 1) := by decide +kernel
theorem D17_20 : decode (mB 17) 20 = .ok (.istore_n 2, 1) := by decide +kernel
theorem D17_21 : decode (mB 17) 21 = .ok (.bipush 99, 2) := by decide +kernel
theorem D17_23 : decode (mB 17) 23 = .ok (.iconst 0, 1) := by decide +kernel
theorem D17_24 : decode (mB 17) 24 = .ok (.iload_n 2, 1) := by decide +kernel
theorem D17_25 : decode (mB 17) 25 = .ok (.invokestatic 105, 3) := by decide +kernel
theorem D17_28 : decode (mB 17) 28 = .ok (.invokestatic 110, 3) := by decide +kernel
theorem D17_31 : decode (mB 17) 31 = .ok (.ireturn, 1) := by decide +kernel
theorem D18_0 : decode (mB 18) 0 = .ok (.iconst 0, 1) := by decide +kernel
theorem D18_1 : decode (mB 18) 1 = .ok (.istore_n 1, 1) := by decide +kernel
theorem D18_2 : decode (mB 18) 2 = .ok (.iconst 0, 1) := by decide +kernel
theorem D18_3 : decode (mB 18) 3 = .ok (.istore_n 2, 1) := by decide +kernel
theorem D18_4 : decode (mB 18) 4 = .ok (.iload_n 2, 1) := by decide +kernel
theorem D18_5 : decode (mB 18) 5 = .ok (.bipush 10, 2) := by decide +kernel
theorem D18_7 : decode (mB 18) 7 = .ok (.if_icmp .ge 18, 3) := by decide +kernel
theorem D18_10 : decode (mB 18) 10 = .ok (.iload_n 1, 1) := by decide +kernel
theorem D18_11 : decode (mB 18) 11 = .ok (.aload_n 0, 1) := by decide +kernel
theorem D18_12 : decode (mB 18) 12 = .ok (.getfield 17, 3) := by decide +kernel
theorem D18_15 : decode (mB 18) 15 = .ok (.iload_n 2, 1) := by decide +kernel
theorem D18_16 : decode (mB 18) 16 = .ok (.iaload, 1) := by decide +kernel
theorem D18_17 : decode (mB 18) 17 = .ok (.iadd, 1) := by decide +kernel
theorem D18_18 : decode (mB 18) 18 = .ok (.istore_n 1, 1) := by decide +kernel
theorem D18_19 : decode (mB 18) 19 = .ok (.iinc 2 1, 3) := by decide +kernel
theorem D18_22 : decode (mB 18) 22 = .ok (.goto (-18), 3) := by decide +kernel
theorem D18_25 : decode (mB 18) 25 = .ok (.iload_n 1, 1) := by decide +kernel
theorem D18_26 : decode (mB 18) 26 = .ok (.ireturn, 1) := by decide +kernel
theorem D19_0 : decode (mB 19) 0 = .ok (.aload_n 0, 1) := by decide +kernel
theorem D19_1 : decode (mB 19) 1 = .ok (.aload_n 1, 1) := by decide +kernel
theorem D19_2 : decode (mB 19) 2 = .ok (.getfield 56, 3) := by decide +kernel
theorem D19_5 : decode (mB 19) 5 = .ok (.putfield 56, 3) := by decide +kernel
theorem D19_8 : decode (mB 19) 8 = .ok (.iconst 0, 1) := by decide +kernel
theorem D19_9 : decode (mB 19) 9 = .ok (.istore_n 2, 1) := by decide +kernel
theorem D19_10 : decode (mB 19) 10 = .ok (.iload_n 2, 1) := by decide +kernel
theorem D19_11 : decode (mB 19) 11 = .ok (.iconst 5, 1) := by decide +kernel
theorem D19_12 : decode (mB 19) 12 = .ok (.if_icmp .ge 24, 3) := by decide +kernel
theorem D19_15 : decode (mB 19) 15 = .ok (.aload_n 0, 1) := by decide +kernel
theorem D19_16 : decode (mB 19) 16 = .ok (.getfield 11, 3) := by decide +kernel
theorem D19_19 : decode (mB 19) 19 = .ok (.iload_n 2, 1) := by decide +kernel
theorem D19_20 : decode (mB 19) 20 = .ok (.aaload, 1) := by decide +kernel
theorem D19_21 : decode (mB 19) 21 = .ok (.aload_n 1, 1) := by decide +kernel
theorem D19_22 : decode (mB 19) 22 = .ok (.getfield 11, 3) := by decide +kernel
theorem D19_25 : decode (mB 19) 25 = .ok (.iload_n 2, 1) := by decide +kernel
theorem D19_26 : decode (mB 19) 26 = .ok (.aaload, 1) := by decide +kernel
theorem D19_27 : decode (mB 19) 27 = .ok (.invokevirtual 59, 3) := by decide +kernel
theorem D19_30 : decode (mB 19) 30 = .ok (.iinc 2 1, 3) := by decide +kernel
theorem D19_33 : decode (mB 19) 33 = .ok (.goto (-23), 3) := by decide +kernel
theorem D19_36 : decode (mB 19) 36 = .ok (.aload_n 1, 1) := by decide +kernel
theorem D19_37 : decode (mB 19) 37 = .ok (.getfield 17, 3) := by decide +kernel
theorem D19_40 : decode (mB 19) 40 = .ok (.iconst 0, 1) := by decide +kernel
theorem D19_41 : decode (mB 19) 41 = .ok (.aload_n 0, 1) := by decide +kernel
theorem D19_42 : decode (mB 19) 42 = .ok (.getfield 17, 3) := by decide +kernel
theorem D19_45 : decode (mB 19) 45 = .ok (.iconst 0, 1) := by decide +kernel
theorem D19_46 : decode (mB 19) 46 = .ok (.bipush 10, 2) := by decide +kernel
theorem D19_48 : decode (mB 19) 48 = .ok (.invokestatic 63, 3) := by decide +kernel
theorem D19_51 : decode (mB 19) 51 = .ok (.aload_n 1, 1) := by decide +kernel
theorem D19_52 : decode (mB 19) 52 = .ok (.getfield 21, 3) := by decide +kernel
theorem D19_55 : decode (mB 19) 55 = .ok (.iconst 0, 1) := by decide +kernel
theorem D19_56 : decode (mB 19) 56 = .ok (.aload_n 0, 1) := by decide +kernel
theorem D19_57 : decode (mB 19) 57 = .ok (.getfield 21, 3) := by decide +kernel
theorem D19_60 : decode (mB 19) 60 = .ok (.iconst 0, 1) := by decide +kernel
theorem D19_61 : decode (mB 19) 61 = .ok (.iconst 4, 1) := by decide +kernel
theorem D19_62 : decode (mB 19) 62 = .ok (.invokestatic 63, 3) := by decide +kernel
theorem D19_65 : decode (mB 19) 65 = .ok (.aload_n 1, 1) := by decide +kernel
theorem D19_66 : decode (mB 19) 66 = .ok (.getfield 24, 3) := by decide +kernel
theorem D19_69 : decode (mB 19) 69 = .ok (.iconst 0, 1) := by decide +kernel
theorem D19_70 : decode (mB 19) 70 = .ok (.aload_n 0, 1) := by decide +kernel
theorem D19_71 : decode (mB 19) 71 = .ok (.getfield 24, 3) := by decide +kernel
theorem D19_74 : decode (mB 19) 74 = .ok (.iconst 0, 1) := by decide +kernel
theorem D19_75 : decode (mB 19) 75 = .ok (.iconst 4, 1) := by decide +kernel
theorem D19_76 : decode (mB 19) 76 = .ok (.invokestatic 63, 3) := by decide +kernel
theorem D19_79 : decode (mB 19) 79 = .ok (.aload_n 1, 1) := by decide +kernel
theorem D19_80 : decode (mB 19) 80 = .ok (.getfield 27, 3) := by decide +kernel
theorem D19_83 : decode (mB 19) 83 = .ok (.iconst 0, 1) := by decide +kernel
theorem D19_84 : decode (mB 19) 84 = .ok (.aload_n 0, 1) := by decide +kernel
theorem D19_85 : decode (mB 19) 85 = .ok (.getfield 27, 3) := by decide +kernel
theorem D19_88 : decode (mB 19) 88 = .ok (.iconst 0, 1) := by decide +kernel
theorem D19_89 : decode (mB 19) 89 = .ok (.iconst 4, 1) := by decide +kernel
theorem D19_90 : decode (mB 19) 90 = .ok (.invokestatic 63, 3) := by decide +kernel
theorem D19_93 : decode (mB 19) 93 = .ok (.aload_n 0, 1) := by decide +kernel
theorem D19_94 : decode (mB 19) 94 = .ok (.aload_n 1, 1) := by decide +kernel
theorem D19_95 : decode (mB 19) 95 = .ok (.getfield 46, 3) := by decide +kernel
theorem D19_98 : decode (mB 19) 98 = .ok (.putfield 46, 3) := by decide +kernel
theorem D19_101 : decode (mB 19) 101 = .ok (.aload_n 0, 1) := by decide +kernel
theorem D19_102 : decode (mB 19) 102 = .ok (.aload_n 1, 1) := by decide +kernel
theorem D19_103 : decode (mB 19) 103 = .ok (.getfield 69, 3) := by decide +kernel
theorem D19_106 : decode (mB 19) 106 = .ok (.putfield 69, 3) := by decide +kernel
theorem D19_109 : decode (mB 19) 109 = .ok (.aload_n 0, 1) := by decide +kernel
theorem D19_110 : decode (mB 19) 110 = .ok (.aload_n 1, 1) := by decide +kernel
theorem D19_111 : decode (mB 19) 111 = .ok (.getfield 72, 3) := by decide +kernel
theorem D19_114 : decode (mB 19) 114 = .ok (.putfield 72, 3) := by decide +kernel
theorem D19_117 : decode (mB 19) 117 = .ok (.aload_n 0, 1) := by decide +kernel
theorem D19_118 : decode (mB 19) 118 = .ok (.aload_n 1, 1) := by decide +kernel
theorem D19_119 : decode (mB 19) 119 = .ok (.getfield 75, 3) := by decide +kernel
theorem D19_122 : decode (mB 19) 122 = .ok (.putfield 75, 3) := by decide +kernel
theorem D19_125 : decode (mB 19) 125 = .ok (.aload_n 0, 1) := by decide +kernel
theorem D19_126 : decode (mB 19) 126 = .ok (.aload_n 1, 1) := by decide +kernel
theorem D19_127 : decode (mB 19) 127 = .ok (.getfield 78, 3) := by decide +kernel
theorem D19_130 : decode (mB 19) 130 = .ok (.putfield 78, 3) := by decide +kernel
theorem D19_133 : decode (mB 19) 133 = .ok (.aload_n 1, 1) := by decide +kernel
theorem D19_134 : decode (mB 19) 134 = .ok (.getfield 30, 3) := by decide +kernel
theorem D19_137 : decode (mB 19) 137 = .ok (.iconst 0, 1) := by decide +kernel
theorem D19_138 : decode (mB 19) 138 = .ok (.aload_n 0, 1) := by decide +kernel
theorem D19_139 : decode (mB 19) 139 = .ok (.getfield 30, 3) := by decide +kernel
theorem D19_142 : decode (mB 19) 142 = .ok (.iconst 0, 1) := by decide +kernel
theorem D19_143 : decode (mB 19) 143 = .ok (.iconst 4, 1) := by decide +kernel
theorem D19_144 : decode (mB 19) 144 = .ok (.invokestatic 63, 3) := by decide +kernel
theorem D19_147 : decode (mB 19) 147 = .ok (.aload_n 1, 1) := by decide +kernel
theorem D19_148 : decode (mB 19) 148 = .ok (.getfield 33, 3) := by decide +kernel
theorem D19_151 : decode (mB 19) 151 = .ok (.iconst 0, 1) := by decide +kernel
theorem D19_152 : decode (mB 19) 152 = .ok (.aload_n 0, 1) := by decide +kernel
theorem D19_153 : decode (mB 19) 153 = .ok (.getfield 33, 3) := by decide +kernel
theorem D19_156 : decode (mB 19) 156 = .ok (.iconst 0, 1) := by decide +kernel
theorem D19_157 : decode (mB 19) 157 = .ok (.iconst 4, 1) := by decide +kernel
theorem D19_158 : decode (mB 19) 158 = .ok (.invokestatic 63, 3) := by decide +kernel
theorem D19_161 : decode (mB 19) 161 = .ok (.aload_n 1, 1) := by decide +kernel
theorem D19_162 : decode (mB 19) 162 = .ok (.getfield 36, 3) := by decide +kernel
theorem D19_165 : decode (mB 19) 165 = .ok (.iconst 0, 1) := by decide +kernel
theorem D19_166 : decode (mB 19) 166 = .ok (.aload_n 0, 1) := by decide +kernel
theorem D19_167 : decode (mB 19) 167 = .ok (.getfield 36, 3) := by decide +kernel
theorem D19_170 : decode (mB 19) 170 = .ok (.iconst 0, 1) := by decide +kernel
theorem D19_171 : decode (mB 19) 171 = .ok (.iconst 4, 1) := by decide +kernel
theorem D19_172 : decode (mB 19) 172 = .ok (.invokestatic 63, 3) := by decide +kernel
theorem D19_175 : decode (mB 19) 175 = .ok (.aload_n 1, 1) := by decide +kernel
theorem D19_176 : decode (mB 19) 176 = .ok (.getfield 39, 3) := by decide +kernel
theorem D19_179 : decode (mB 19) 179 = .ok (.iconst 0, 1) := by decide +kernel
theorem D19_180 : decode (mB 19) 180 = .ok (.aload_n 0, 1) := by decide +kernel
theorem D19_181 : decode (mB 19) 181 = .ok (.getfield 39, 3) := by decide +kernel
theorem D19_184 : decode (mB 19) 184 = .ok (.iconst 0, 1) := by decide +kernel
theorem D19_185 : decode (mB 19) 185 = .ok (.iconst 4, 1) := by decide +kernel
theorem D19_186 : decode (mB 19) 186 = .ok (.invokestatic 63, 3) := by decide +kernel
theorem D19_189 : decode (mB 19) 189 = .ok (.aload_n 0, 1) := by decide +kernel
theorem D19_190 : decode (mB 19) 190 = .ok (.aload_n 1, 1) := by decide +kernel
theorem D19_191 : decode (mB 19) 191 = .ok (.getfield 81, 3) := by decide +kernel
theorem D19_194 : decode (mB 19) 194 = .ok (.putfield 81, 3) := by decide +kernel
theorem D19_197 : decode (mB 19) 197 = .ok (.aload_n 1, 1) := by decide +kernel
theorem D19_198 : decode (mB 19) 198 = .ok (.getfield 42, 3) := by decide +kernel
theorem D19_201 : decode (mB 19) 201 = .ok (.iconst 0, 1) := by decide +kernel
theorem D19_202 : decode (mB 19) 202 = .ok (.aload_n 0, 1) := by decide +kernel
theorem D19_203 : decode (mB 19) 203 = .ok (.getfield 42, 3) := by decide +kernel
theorem D19_206 : decode (mB 19) 206 = .ok (.iconst 0, 1) := by decide +kernel
theorem D19_207 : decode (mB 19) 207 = .ok (.bipush 80, 2) := by decide +kernel
theorem D19_209 : decode (mB 19) 209 = .ok (.invokestatic 63, 3) := by decide +kernel
theorem D19_212 : decode (mB 19) 212 = .ok (.return_, 1) := by decide +kernel
theorem D20_0 : decode (mB 20) 0 = .ok (.aload_n 0, 1) := by decide +kernel
theorem D20_1 : decode (mB 20) 1 = .ok (.iload_n 1, 1) := by decide +kernel
theorem D20_2 : decode (mB 20) 2 = .ok (.invokevirtual 142, 3) := by decide +kernel
theorem D20_5 : decode (mB 20) 5 = .ok (.astore 5, 2) := by decide +kernel
theorem D20_7 : decode (mB 20) 7 = .ok (.aload 5, 2) := by decide +kernel
theorem D20_9 : decode (mB 20) 9 = .ok (.ifnull 34, 3) := by decide +kernel
theorem D20_12 : decode (mB 20) 12 = .ok (.iload_n 2, 1) := by decide +kernel
theorem D20_13 : decode (mB 20) 13 = .ok (.ifCond .lt 30, 3) := by decide +kernel
theorem D20_16 : decode (mB 20) 16 = .ok (.iload_n 2, 1) := by decide +kernel
theorem D20_17 : decode (mB 20) 17 = .ok (.iconst 4, 1) := by decide +kernel
theorem D20_18 : decode (mB 20) 18 = .ok (.if_icmp .gt 25, 3) := by decide +kernel
theorem D20_21 : decode (mB 20) 21 = .ok (.iload_n 3, 1) := by decide +kernel
theorem D20_22 : decode (mB 20) 22 = .ok (.ifCond .lt 21, 3) := by decide +kernel
theorem D20_25 : decode (mB 20) 25 = .ok (.iload_n 3, 1) := by decide +kernel
theorem D20_26 : decode (mB 20) 26 = .ok (.bipush 10, 2) := by decide +kernel
theorem D20_28 : decode (mB 20) 28 = .ok (.if_icmp .ge 15, 3) := by decide +kernel
theorem D20_31 : decode (mB 20) 31 = .ok (.iload 4, 2) := by decide +kernel
theorem D20_33 : decode (mB 20) 33 = .ok (.ifCond .lt 10, 3) := by decide +kernel
theorem D20_36 : decode (mB 20) 36 = .ok (.iload 4, 2) := by decide +kernel
theorem D20_38 : decode (mB 20) 38 = .ok (.bipush 99, 2) := by decide +kernel
theorem D20_40 : decode (mB 20) 40 = .ok (.if_icmp .le 5, 3) := by decide +kernel
theorem D20_43 : decode (mB 20) 43 = .ok (.iconst (-1), 1) := by decide +kernel
theorem D20_44 : decode (mB 20) 44 = .ok (.ireturn, 1) := by decide +kernel
theorem D20_45 : decode (mB 20) 45 = .ok (.aload 5, 2) := by decide +kernel
theorem D20_47 : decode (mB 20) 47 = .ok (.iload_n 2, 1) := by decide +kernel
theorem D20_48 : decode (mB 20) 48 = .ok (.iload_n 3, 1) := by decide +kernel
theorem D20_49 : decode (mB 20) 49 = .ok (.iload 4, 2) := by decide +kernel
theorem D20_51 : decode (mB 20) 51 = .ok (.invokevirtual 146, 3) := by decide +kernel
theorem D20_54 : decode (mB 20) 54 = .ok (.ireturn, 1) := by decide +kernel
theorem D21_0 : decode (mB 21) 0 = .ok (.iload_n 1, 1) := by decide +kernel
theorem D21_1 : decode (mB 21) 1 = .ok (.ifCond .lt 25, 3) := by decide +kernel
theorem D21_4 : decode (mB 21) 4 = .ok (.iload_n 1, 1) := by decide +kernel
theorem D21_5 : decode (mB 21) 5 = .ok (.aload_n 0, 1) := by decide +kernel
theorem D21_6 : decode (mB 21) 6 = .ok (.getfield 56, 3) := by decide +kernel
theorem D21_9 : decode (mB 21) 9 = .ok (.if_icmp .ge 17, 3) := by decide +kernel
theorem D21_12 : decode (mB 21) 12 = .ok (.iload_n 1, 1) := by decide +kernel
theorem D21_13 : decode (mB 21) 13 = .ok (.iconst 5, 1) := by decide +kernel
theorem D21_14 : decode (mB 21) 14 = .ok (.if_icmp .ge 12, 3) := by decide +kernel
theorem D21_17 : decode (mB 21) 17 = .ok (.aload_n 0, 1) := by decide +kernel
theorem D21_18 : decode (mB 21) 18 = .ok (.getfield 11, 3) := by decide +kernel
theorem D21_21 : decode (mB 21) 21 = .ok (.iload_n 1, 1) := by decide +kernel
theorem D21_22 : decode (mB 21) 22 = .ok (.aaload, 1) := by decide +kernel
theorem D21_23 : decode (mB 21) 23 = .ok (.goto 4, 3) := by decide +kernel
theorem D21_26 : decode (mB 21) 26 = .ok (.aconst_null, 1) := by decide +kernel
theorem D21_27 : decode (mB 21) 27 = .ok (.areturn, 1) := by decide +kernel
theorem D22_0 : decode (mB 22) 0 = .ok (.aload_n 0, 1) := by decide +kernel
theorem D22_1 : decode (mB 22) 1 = .ok (.iload_n 1, 1) := by decide +kernel
theorem D22_2 : decode (mB 22) 2 = .ok (.invokevirtual 142, 3) := by decide +kernel
theorem D22_5 : decode (mB 22) 5 = .ok (.astore_n 2, 1) := by decide +kernel
theorem D22_6 : decode (mB 22) 6 = .ok (.aload_n 2, 1) := by decide +kernel
theorem D22_7 : decode (mB 22) 7 = .ok (.ifnonnull 5, 3) := by decide +kernel
theorem D22_10 : decode (mB 22) 10 = .ok (.iconst (-1), 1) := by decide +kernel
theorem D22_11 : decode (mB 22) 11 = .ok (.ireturn, 1) := by decide +kernel
theorem D22_12 : decode (mB 22) 12 = .ok (.aload_n 2, 1) := by decide +kernel
theorem D22_13 : decode (mB 22) 13 = .ok (.invokevirtual 150, 3) := by decide +kernel
theorem D22_16 : decode (mB 22) 16 = .ok (.istore_n 3, 1) := by decide +kernel
theorem D22_17 : decode (mB 22) 17 = .ok (.iload_n 3, 1) := by decide +kernel
theorem D22_18 : decode (mB 22) 18 = .ok (.iconst 1, 1) := by decide +kernel
theorem D22_19 : decode (mB 22) 19 = .ok (.if_icmp .ne 13, 3) := by decide +kernel
theorem D22_22 : decode (mB 22) 22 = .ok (.aload_n 0, 1) := by decide +kernel
theorem D22_23 : decode (mB 22) 23 = .ok (.dup, 1) := by decide +kernel
theorem D22_24 : decode (mB 22) 24 = .ok (.getfield 72, 3) := by decide +kernel
theorem D22_27 : decode (mB 22) 27 = .ok (.iconst 1, 1) := by decide +kernel
theorem D22_28 : decode (mB 22) 28 = .ok (.iadd, 1) := by decide +kernel
theorem D22_29 : decode (mB 22) 29 = .ok (.putfield 72, 3) := by decide +kernel
theorem D22_32 : decode (mB 22) 32 = .ok (.iload_n 3, 1) := by decide +kernel
theorem D22_33 : decode (mB 22) 33 = .ok (.ifCond .ne 13, 3) := by decide +kernel
theorem D22_36 : decode (mB 22) 36 = .ok (.aload_n 0, 1) := by decide +kernel
theorem D22_37 : decode (mB 22) 37 = .ok (.dup, 1) := by decide +kernel
theorem D22_38 : decode (mB 22) 38 = .ok (.getfield 75, 3) := by decide +kernel
theorem D22_41 : decode (mB 22) 41 = .ok (.iconst 1, 1) := by decide +kernel
theorem D22_42 : decode (mB 22) 42 = .ok (.iadd, 1) := by decide +kernel
theorem D22_43 : decode (mB 22) 43 = .ok (.putfield 75, 3) := by decide +kernel
theorem D22_46 : decode (mB 22) 46 = .ok (.iload_n 3, 1) := by decide +kernel
theorem D22_47 : decode (mB 22) 47 = .ok (.ireturn, 1) := by decide +kernel
theorem D23_0 : decode (mB 23) 0 = .ok (.iload_n 1, 1) := by decide +kernel
theorem D23_1 : decode (mB 23) 1 = .ok (.ifCond .lt 9, 3) := by decide +kernel
theorem D23_4 : decode (mB 23) 4 = .ok (.iload_n 1, 1) := by decide +kernel
theorem D23_5 : decode (mB 23) 5 = .ok (.bipush 60, 2) := by decide +kernel
theorem D23_7 : decode (mB 23) 7 = .ok (.if_icmp .le 5, 3) := by decide +kernel
theorem D23_10 : decode (mB 23) 10 = .ok (.iconst (-1), 1) := by decide +kernel
theorem D23_11 : decode (mB 23) 11 = .ok (.ireturn, 1) := by decide +kernel
theorem D23_12 : decode (mB 23) 12 = .ok (.aload_n 0, 1) := by decide +kernel
theorem D23_13 : decode (mB 23) 13 = .ok (.bipush 7, 2) := by decide +kernel
theorem D23_15 : decode (mB 23) 15 = .ok (.invokevirtual 133, 3) := by decide +kernel
theorem D23_18 : decode (mB 23) 18 = .ok (.istore 4, 2) := by decide +kernel
theorem D23_20 : decode (mB 23) 20 = .ok (.aload_n 0, 1) := by decide +kernel
theorem D23_21 : decode (mB 23) 21 = .ok (.bipush 9, 2) := by decide +kernel
theorem D23_23 : decode (mB 23) 23 = .ok (.invokevirtual 133, 3) := by decide +kernel
theorem D23_26 : decode (mB 23) 26 = .ok (.istore 5, 2) := by decide +kernel
theorem D23_28 : decode (mB 23) 28 = .ok (.iconst 0, 1) := by decide +kernel
theorem D23_29 : decode (mB 23) 29 = .ok (.istore 6, 2) := by decide +kernel
theorem D23_31 : decode (mB 23) 31 = .ok (.iconst 0, 1) := by decide +kernel
theorem D23_32 : decode (mB 23) 32 = .ok (.istore 7, 2) := by decide +kernel
theorem D23_34 : decode (mB 23) 34 = .ok (.iload 7, 2) := by decide +kernel
theorem D23_36 : decode (mB 23) 36 = .ok (.iload_n 1, 1) := by decide +kernel
theorem D23_37 : decode (mB 23) 37 = .ok (.if_icmp .ge 31, 3) := by decide +kernel
theorem D23_40 : decode (mB 23) 40 = .ok (.aload_n 0, 1) := by decide +kernel
theorem D23_41 : decode (mB 23) 41 = .ok (.aload_n 2, 1) := by decide +kernel
theorem D23_42 : decode (mB 23) 42 = .ok (.invokevirtual 242, 3) := by decide +kernel
theorem D23_45 : decode (mB 23) 45 = .ok (.iload 6, 2) := by decide +kernel
theorem D23_47 : decode (mB 23) 47 = .ok (.aload_n 0, 1) := by decide +kernel
theorem D23_48 : decode (mB 23) 48 = .ok (.getfield 78, 3) := by decide +kernel
theorem D23_51 : decode (mB 23) 51 = .ok (.ifCond .ne 7, 3) := by decide +kernel
theorem D23_54 : decode (mB 23) 54 = .ok (.iconst 1, 1) := by decide +kernel
theorem D23_55 : decode (mB 23) 55 = .ok (.goto 4, 3) := by decide +kernel
theorem D23_58 : decode (mB 23) 58 = .ok (.iconst 0, 1) := by decide +kernel
theorem D23_59 : decode (mB 23) 59 = .ok (.iadd, 1) := by decide +kernel
theorem D23_60 : decode (mB 23) 60 = .ok (.istore 6, 2) := by decide +kernel
theorem D23_62 : decode (mB 23) 62 = .ok (.iinc 7 1, 3) := by decide +kernel
theorem D23_65 : decode (mB 23) 65 = .ok (.goto (-31), 3) := by decide +kernel
theorem D23_68 : decode (mB 23) 68 = .ok (.aload_n 3, 1) := by decide +kernel
theorem D23_69 : decode (mB 23) 69 = .ok (.aload_n 0, 1) := by decide +kernel
theorem D23_70 : decode (mB 23) 70 = .ok (.bipush 7, 2) := by decide +kernel
theorem D23_72 : decode (mB 23) 72 = .ok (.invokevirtual 133, 3) := by decide +kernel
theorem D23_75 : decode (mB 23) 75 = .ok (.iload 4, 2) := by decide +kernel
theorem D23_77 : decode (mB 23) 77 = .ok (.isub, 1) := by decide +kernel
theorem D23_78 : decode (mB 23) 78 = .ok (.i2l, 1) := by decide +kernel
theorem D23_79 : decode (mB 23) 79 = .ok (.iload 6, 2) := by decide +kernel
theorem D23_81 : decode (mB 23) 81 = .ok (.i2l, 1) := by decide +kernel
theorem D23_82 : decode (mB 23) 82 = .ok (.invokevirtual 246, 3) := by decide +kernel
theorem D23_85 : decode (mB 23) 85 = .ok (.aload_n 0, 1) := by decide +kernel
theorem D23_86 : decode (mB 23) 86 = .ok (.bipush 9, 2) := by decide +kernel
theorem D23_88 : decode (mB 23) 88 = .ok (.invokevirtual 133, 3) := by decide +kernel
theorem D23_91 : decode (mB 23) 91 = .ok (.iload 5, 2) := by decide +kernel
theorem D23_93 : decode (mB 23) 93 = .ok (.isub, 1) := by decide +kernel
theorem D23_94 : decode (mB 23) 94 = .ok (.ireturn, 1) := by decide +kernel
theorem D24_0 : decode (mB 24) 0 = .ok (.iconst 0, 1) := by decide +kernel
theorem D24_1 : decode (mB 24) 1 = .ok (.istore_n 2, 1) := by decide +kernel
theorem D24_2 : decode (mB 24) 2 = .ok (.iconst 0, 1) := by decide +kernel
theorem D24_3 : decode (mB 24) 3 = .ok (.istore_n 3, 1) := by decide +kernel
theorem D24_4 : decode (mB 24) 4 = .ok (.iload_n 3, 1) := by decide +kernel
theorem D24_5 : decode (mB 24) 5 = .ok (.aload_n 0, 1) := by decide +kernel
theorem D24_6 : decode (mB 24) 6 = .ok (.getfield 56, 3) := by decide +kernel
theorem D24_9 : decode (mB 24) 9 = .ok (.if_icmp .ge 27, 3) := by decide +kernel
theorem D24_12 : decode (mB 24) 12 = .ok (.iload_n 3, 1) := by decide +kernel
theorem D24_13 : decode (mB 24) 13 = .ok (.iconst 5, 1) := by decide +kernel
theorem D24_14 : decode (mB 24) 14 = .ok (.if_icmp .ge 22, 3) := by decide +kernel
theorem D24_17 : decode (mB 24) 17 = .ok (.iload_n 2, 1) := by decide +kernel
theorem D24_18 : decode (mB 24) 18 = .ok (.aload_n 0, 1) := by decide +kernel
theorem D24_19 : decode (mB 24) 19 = .ok (.getfield 11, 3) := by decide +kernel
theorem D24_22 : decode (mB 24) 22 = .ok (.iload_n 3, 1) := by decide +kernel
theorem D24_23 : decode (mB 24) 23 = .ok (.aaload, 1) := by decide +kernel
theorem D24_24 : decode (mB 24) 24 = .ok (.iload_n 1, 1) := by decide +kernel
theorem D24_25 : decode (mB 24) 25 = .ok (.invokevirtual 130, 3) := by decide +kernel
theorem D24_28 : decode (mB 24) 28 = .ok (.iadd, 1) := by decide +kernel
theorem D24_29 : decode (mB 24) 29 = .ok (.istore_n 2, 1) := by decide +kernel
theorem D24_30 : decode (mB 24) 30 = .ok (.iinc 3 1, 3) := by decide +kernel
theorem D24_33 : decode (mB 24) 33 = .ok (.goto (-29), 3) := by decide +kernel
theorem D24_36 : decode (mB 24) 36 = .ok (.iload_n 2, 1) := by decide +kernel
theorem D24_37 : decode (mB 24) 37 = .ok (.ireturn, 1) := by decide +kernel
theorem D25_0 : decode (mB 25) 0 = .ok (.aload_n 0, 1) := by decide +kernel
theorem D25_1 : decode (mB 25) 1 = .ok (.invokevirtual 249, 3) := by decide +kernel
theorem D25_4 : decode (mB 25) 4 = .ok (.aload_n 0, 1) := by decide +kernel
theorem D25_5 : decode (mB 25) 5 = .ok (.invokevirtual 252, 3) := by decide +kernel
theorem D25_8 : decode (mB 25) 8 = .ok (.iconst 0, 1) := by decide +kernel
theorem D25_9 : decode (mB 25) 9 = .ok (.istore_n 2, 1) := by decide +kernel
theorem D25_10 : decode (mB 25) 10 = .ok (.iload_n 2, 1) := by decide +kernel
theorem D25_11 : decode (mB 25) 11 = .ok (.aload_n 0, 1) := by decide +kernel
theorem D25_12 : decode (mB 25) 12 = .ok (.getfield 56, 3) := by decide +kernel
theorem D25_15 : decode (mB 25) 15 = .ok (.if_icmp .ge 23, 3) := by decide +kernel
theorem D25_18 : decode (mB 25) 18 = .ok (.iload_n 2, 1) := by decide +kernel
theorem D25_19 : decode (mB 25) 19 = .ok (.iconst 5, 1) := by decide +kernel
theorem D25_20 : decode (mB 25) 20 = .ok (.if_icmp .ge 18, 3) := by decide +kernel
theorem D25_23 : decode (mB 25) 23 = .ok (.aload_n 0, 1) := by decide +kernel
theorem D25_24 : decode (mB 25) 24 = .ok (.getfield 11, 3) := by decide +kernel
theorem D25_27 : decode (mB 25) 27 = .ok (.iload_n 2, 1) := by decide +kernel
theorem D25_28 : decode (mB 25) 28 = .ok (.aaload, 1) := by decide +kernel
theorem D25_29 : decode (mB 25) 29 = .ok (.invokevirtual 255, 3) := by decide +kernel
theorem D25_32 : decode (mB 25) 32 = .ok (.iinc 2 1, 3) := by decide +kernel
theorem D25_35 : decode (mB 25) 35 = .ok (.goto (-25), 3) := by decide +kernel
theorem D25_38 : decode (mB 25) 38 = .ok (.iconst 0, 1) := by decide +kernel
theorem D25_39 : decode (mB 25) 39 = .ok (.istore_n 2, 1) := by decide +kernel
theorem D25_40 : decode (mB 25) 40 = .ok (.iload_n 2, 1) := by decide +kernel
theorem D25_41 : decode (mB 25) 41 = .ok (.bipush 80, 2) := by decide +kernel
theorem D25_43 : decode (mB 25) 43 = .ok (.if_icmp .ge 36, 3) := by decide +kernel
theorem D25_46 : decode (mB 25) 46 = .ok (.aload_n 0, 1) := by decide +kernel
theorem D25_47 : decode (mB 25) 47 = .ok (.getfield 78, 3) := by decide +kernel
theorem D25_50 : decode (mB 25) 50 = .ok (.aload_n 0, 1) := by decide +kernel
theorem D25_51 : decode (mB 25) 51 = .ok (.getfield 46, 3) := by decide +kernel
theorem D25_54 : decode (mB 25) 54 = .ok (.if_icmp .ge 25, 3) := by decide +kernel
theorem D25_57 : decode (mB 25) 57 = .ok (.aload_n 0, 1) := by decide +kernel
theorem D25_58 : decode (mB 25) 58 = .ok (.invokevirtual 226, 3) := by decide +kernel
theorem D25_61 : decode (mB 25) 61 = .ok (.ifCond .eq 18, 3) := by decide +kernel
theorem D25_64 : decode (mB 25) 64 = .ok (.aload_n 0, 1) := by decide +kernel
theorem D25_65 : decode (mB 25) 65 = .ok (.aload_n 0, 1) := by decide +kernel
theorem D25_66 : decode (mB 25) 66 = .ok (.invokevirtual 235, 3) := by decide +kernel
theorem D25_69 : decode (mB 25) 69 = .ok (.aload_n 1, 1) := by decide +kernel
theorem D25_70 : decode (mB 25) 70 = .ok (.invokevirtual 258, 3) := by decide +kernel
theorem D25_73 : decode (mB 25) 73 = .ok (.iinc 2 1, 3) := by decide +kernel
theorem D25_76 : decode (mB 25) 76 = .ok (.goto (-36), 3) := by decide +kernel
theorem D25_79 : decode (mB 25) 79 = .ok (.aload_n 0, 1) := by decide +kernel
theorem D25_80 : decode (mB 25) 80 = .ok (.dup, 1) := by decide +kernel
theorem D25_81 : decode (mB 25) 81 = .ok (.getfield 69, 3) := by decide +kernel
theorem D25_84 : decode (mB 25) 84 = .ok (.iconst 1, 1) := by decide +kernel
theorem D25_85 : decode (mB 25) 85 = .ok (.iadd, 1) := by decide +kernel
theorem D25_86 : decode (mB 25) 86 = .ok (.putfield 69, 3) := by decide +kernel
theorem D25_89 : decode (mB 25) 89 = .ok (.return_, 1) := by decide +kernel
theorem D26_0 : decode (mB 26) 0 = .ok (.iconst 0, 1) := by decide +kernel
theorem D26_1 : decode (mB 26) 1 = .ok (.istore_n 1, 1) := by decide +kernel
theorem D26_2 : decode (mB 26) 2 = .ok (.iconst 0, 1) := by decide +kernel
theorem D26_3 : decode (mB 26) 3 = .ok (.istore_n 2, 1) := by decide +kernel
theorem D26_4 : decode (mB 26) 4 = .ok (.iload_n 2, 1) := by decide +kernel
theorem D26_5 : decode (mB 26) 5 = .ok (.aload_n 0, 1) := by decide +kernel
theorem D26_6 : decode (mB 26) 6 = .ok (.getfield 78, 3) := by decide +kernel
theorem D26_9 : decode (mB 26) 9 = .ok (.if_icmp .ge 96, 3) := by decide +kernel
theorem D26_12 : decode (mB 26) 12 = .ok (.iload_n 2, 1) := by decide +kernel
theorem D26_13 : decode (mB 26) 13 = .ok (.iconst 4, 1) := by decide +kernel
theorem D26_14 : decode (mB 26) 14 = .ok (.if_icmp .ge 91, 3) := by decide +kernel
theorem D26_17 : decode (mB 26) 17 = .ok (.aload_n 0, 1) := by decide +kernel
theorem D26_18 : decode (mB 26) 18 = .ok (.getfield 30, 3) := by decide +kernel
theorem D26_21 : decode (mB 26) 21 = .ok (.iload_n 2, 1) := by decide +kernel
theorem D26_22 : decode (mB 26) 22 = .ok (.dup2, 1) := by decide +kernel
theorem D26_23 : decode (mB 26) 23 = .ok (.iaload, 1) := by decide +kernel
theorem D26_24 : decode (mB 26) 24 = .ok (.iconst 1, 1) := by decide +kernel
theorem D26_25 : decode (mB 26) 25 = .ok (.isub, 1) := by decide +kernel
theorem D26_26 : decode (mB 26) 26 = .ok (.iastore, 1) := by decide +kernel
theorem D26_27 : decode (mB 26) 27 = .ok (.aload_n 0, 1) := by decide +kernel
theorem D26_28 : decode (mB 26) 28 = .ok (.getfield 30, 3) := by decide +kernel
theorem D26_31 : decode (mB 26) 31 = .ok (.iload_n 2, 1) := by decide +kernel
theorem D26_32 : decode (mB 26) 32 = .ok (.iaload, 1) := by decide +kernel
theorem D26_33 : decode (mB 26) 33 = .ok (.ifCond .le 15, 3) := by decide +kernel
theorem D26_36 : decode (mB 26) 36 = .ok (.aload_n 0, 1) := by decide +kernel
theorem D26_37 : decode (mB 26) 37 = .ok (.iload_n 2, 1) := by decide +kernel
theorem D26_38 : decode (mB 26) 38 = .ok (.iload_n 1, 1) := by decide +kernel
theorem D26_39 : decode (mB 26) 39 = .ok (.invokevirtual 218, 3) := by decide +kernel
theorem D26_42 : decode (mB 26) 42 = .ok (.iinc 1 1, 3) := by decide +kernel
theorem D26_45 : decode (mB 26) 45 = .ok (.goto 54, 3) := by decide +kernel
theorem D26_48 : decode (mB 26) 48 = .ok (.aload_n 0, 1) := by decide +kernel
theorem D26_49 : decode (mB 26) 49 = .ok (.getfield 39, 3) := by decide +kernel
theorem D26_52 : decode (mB 26) 52 = .ok (.iload_n 2, 1) := by decide +kernel
theorem D26_53 : decode (mB 26) 53 = .ok (.iaload, 1) := by decide +kernel
theorem D26_54 : decode (mB 26) 54 = .ok (.iconst (-1), 1) := by decide +kernel
theorem D26_55 : decode (mB 26) 55 = .ok (.if_icmp .ne 22, 3) := by decide +kernel
theorem D26_58 : decode (mB 26) 58 = .ok (.aload_n 0, 1) := by decide +kernel
theorem D26_59 : decode (mB 26) 59 = .ok (.aload_n 0, 1) := by decide +kernel
theorem D26_60 : decode (mB 26) 60 = .ok (.getfield 33, 3) := by decide +kernel
theorem D26_63 : decode (mB 26) 63 = .ok (.iload_n 2, 1) := by decide +kernel
theorem D26_64 : decode (mB 26) 64 = .ok (.iaload, 1) := by decide +kernel
theorem D26_65 : decode (mB 26) 65 = .ok (.aload_n 0, 1) := by decide +kernel
theorem D26_66 : decode (mB 26) 66 = .ok (.getfield 36, 3) := by decide +kernel
theorem D26_69 : decode (mB 26) 69 = .ok (.iload_n 2, 1) := by decide +kernel
theorem D26_70 : decode (mB 26) 70 = .ok (.iaload, 1) := by decide +kernel
theorem D26_71 : decode (mB 26) 71 = .ok (.invokevirtual 262, 3) := by decide +kernel
theorem D26_74 : decode (mB 26) 74 = .ok (.goto 25, 3) := by decide +kernel
theorem D26_77 : decode (mB 26) 77 = .ok (.aload_n 0, 1) := by decide +kernel
theorem D26_78 : decode (mB 26) 78 = .ok (.aload_n 0, 1) := by decide +kernel
theorem D26_79 : decode (mB 26) 79 = .ok (.getfield 33, 3) := by decide +kernel
theorem D26_82 : decode (mB 26) 82 = .ok (.iload_n 2, 1) := by decide +kernel
theorem D26_83 : decode (mB 26) 83 = .ok (.iaload, 1) := by decide +kernel
theorem D26_84 : decode (mB 26) 84 = .ok (.aload_n 0, 1) := by decide +kernel
theorem D26_85 : decode (mB 26) 85 = .ok (.getfield 36, 3) := by decide +kernel
theorem D26_88 : decode (mB 26) 88 = .ok (.iload_n 2, 1) := by decide +kernel
theorem D26_89 : decode (mB 26) 89 = .ok (.iaload, 1) := by decide +kernel
theorem D26_90 : decode (mB 26) 90 = .ok (.aload_n 0, 1) := by decide +kernel
theorem D26_91 : decode (mB 26) 91 = .ok (.getfield 39, 3) := by decide +kernel
theorem D26_94 : decode (mB 26) 94 = .ok (.iload_n 2, 1) := by decide +kernel
theorem D26_95 : decode (mB 26) 95 = .ok (.iaload, 1) := by decide +kernel
theorem D26_96 : decode (mB 26) 96 = .ok (.invokevirtual 265, 3) := by decide +kernel
theorem D26_99 : decode (mB 26) 99 = .ok (.iinc 2 1, 3) := by decide +kernel
theorem D26_102 : decode (mB 26) 102 = .ok (.goto (-98), 3) := by decide +kernel
theorem D26_105 : decode (mB 26) 105 = .ok (.aload_n 0, 1) := by decide +kernel
theorem D26_106 : decode (mB 26) 106 = .ok (.iload_n 1, 1) := by decide +kernel
theorem D26_107 : decode (mB 26) 107 = .ok (.putfield 78, 3) := by decide +kernel
theorem D26_110 : decode (mB 26) 110 = .ok (.return_, 1) := by decide +kernel
theorem D27_0 : decode (mB 27) 0 = .ok (.iload_n 1, 1) := by decide +kernel
theorem D27_1 : decode (mB 27) 1 = .ok (.ifCond .lt 17, 3) := by decide +kernel
theorem D27_4 : decode (mB 27) 4 = .ok (.iload_n 1, 1) := by decide +kernel
theorem D27_5 : decode (mB 27) 5 = .ok (.iconst 4, 1) := by decide +kernel
theorem D27_6 : decode (mB 27) 6 = .ok (.if_icmp .ge 12, 3) := by decide +kernel
theorem D27_9 : decode (mB 27) 9 = .ok (.iload_n 2, 1) := by decide +kernel
theorem D27_10 : decode (mB 27) 10 = .ok (.ifCond .lt 8, 3) := by decide +kernel
theorem D27_13 : decode (mB 27) 13 = .ok (.iload_n 2, 1) := by decide +kernel
theorem D27_14 : decode (mB 27) 14 = .ok (.iconst 4, 1) := by decide +kernel
theorem D27_15 : decode (mB 27) 15 = .ok (.if_icmp .lt 4, 3) := by decide +kernel
theorem D27_18 : decode (mB 27) 18 = .ok (.return_, 1) := by decide +kernel
theorem D27_19 : decode (mB 27) 19 = .ok (.aload_n 0, 1) := by decide +kernel
theorem D27_20 : decode (mB 27) 20 = .ok (.getfield 30, 3) := by decide +kernel
theorem D27_23 : decode (mB 27) 23 = .ok (.iload_n 2, 1) := by decide +kernel
theorem D27_24 : decode (mB 27) 24 = .ok (.aload_n 0, 1) := by decide +kernel
theorem D27_25 : decode (mB 27) 25 = .ok (.getfield 30, 3) := by decide +kernel
theorem D27_28 : decode (mB 27) 28 = .ok (.iload_n 1, 1) := by decide +kernel
theorem D27_29 : decode (mB 27) 29 = .ok (.iaload, 1) := by decide +kernel
theorem D27_30 : decode (mB 27) 30 = .ok (.iastore, 1) := by decide +kernel
theorem D27_31 : decode (mB 27) 31 = .ok (.aload_n 0, 1) := by decide +kernel
theorem D27_32 : decode (mB 27) 32 = .ok (.getfield 33, 3) := by decide +kernel
theorem D27_35 : decode (mB 27) 35 = .ok (.iload_n 2, 1) := by decide +kernel
theorem D27_36 : decode (mB 27) 36 = .ok (.aload_n 0, 1) := by decide +kernel
theorem D27_37 : decode (mB 27) 37 = .ok (.getfield 33, 3) := by decide +kernel
theorem D27_40 : decode (mB 27) 40 = .ok (.iload_n 1, 1) := by decide +kernel
theorem D27_41 : decode (mB 27) 41 = .ok (.iaload, 1) := by decide +kernel
theorem D27_42 : decode (mB 27) 42 = .ok (.iastore, 1) := by decide +kernel
theorem D27_43 : decode (mB 27) 43 = .ok (.aload_n 0, 1) := by decide +kernel
theorem D27_44 : decode (mB 27) 44 = .ok (.getfield 36, 3) := by decide +kernel
theorem D27_47 : decode (mB 27) 47 = .ok (.iload_n 2, 1) := by decide +kernel
theorem D27_48 : decode (mB 27) 48 = .ok (.aload_n 0, 1) := by decide +kernel
theorem D27_49 : decode (mB 27) 49 = .ok (.getfield 36, 3) := by decide +kernel
theorem D27_52 : decode (mB 27) 52 = .ok (.iload_n 1, 1) := by decide +kernel
theorem D27_53 : decode (mB 27) 53 = .ok (.iaload, 1) := by decide +kernel
theorem D27_54 : decode (mB 27) 54 = .ok (.iastore, 1) := by decide +kernel
theorem D27_55 : decode (mB 27) 55 = .ok (.aload_n 0, 1) := by decide +kernel
theorem D27_56 : decode (mB 27) 56 = .ok (.getfield 39, 3) := by decide +kernel
theorem D27_59 : decode (mB 27) 59 = .ok (.iload_n 2, 1) := by decide +kernel
theorem D27_60 : decode (mB 27) 60 = .ok (.aload_n 0, 1) := by decide +kernel
theorem D27_61 : decode (mB 27) 61 = .ok (.getfield 39, 3) := by decide +kernel
theorem D27_64 : decode (mB 27) 64 = .ok (.iload_n 1, 1) := by decide +kernel
theorem D27_65 : decode (mB 27) 65 = .ok (.iaload, 1) := by decide +kernel
theorem D27_66 : decode (mB 27) 66 = .ok (.iastore, 1) := by decide +kernel
theorem D27_67 : decode (mB 27) 67 = .ok (.return_, 1) := by decide +kernel
theorem D28_0 : decode (mB 28) 0 = .ok (.iload_n 2, 1) := by decide +kernel
theorem D28_1 : decode (mB 28) 1 = .ok (.invokestatic 269, 3) := by decide +kernel
theorem D28_4 : decode (mB 28) 4 = .ok (.istore_n 3, 1) := by decide +kernel
theorem D28_5 : decode (mB 28) 5 = .ok (.iload_n 2, 1) := by decide +kernel
theorem D28_6 : decode (mB 28) 6 = .ok (.invokestatic 272, 3) := by decide +kernel
theorem D28_9 : decode (mB 28) 9 = .ok (.lookupswitch 65 #[(0, 27), (1, 42)], 27) := by decide +kernel
theorem D28_36 : decode (mB 28) 36 = .ok (.aload_n 0, 1) := by decide +kernel
theorem D28_37 : decode (mB 28) 37 = .ok (.iload_n 1, 1) := by decide +kernel
theorem D28_38 : decode (mB 28) 38 = .ok (.iload_n 2, 1) := by decide +kernel
theorem D28_39 : decode (mB 28) 39 = .ok (.iconst 0, 1) := by decide +kernel
theorem D28_40 : decode (mB 28) 40 = .ok (.aload_n 0, 1) := by decide +kernel
theorem D28_41 : decode (mB 28) 41 = .ok (.iload_n 3, 1) := by decide +kernel
theorem D28_42 : decode (mB 28) 42 = .ok (.invokevirtual 275, 3) := by decide +kernel
theorem D28_45 : decode (mB 28) 45 = .ok (.invokevirtual 214, 3) := by decide +kernel
theorem D28_48 : decode (mB 28) 48 = .ok (.goto 34, 3) := by decide +kernel
theorem D28_51 : decode (mB 28) 51 = .ok (.aload_n 0, 1) := by decide +kernel
theorem D28_52 : decode (mB 28) 52 = .ok (.iload_n 3, 1) := by decide +kernel
theorem D28_53 : decode (mB 28) 53 = .ok (.iload_n 2, 1) := by decide +kernel
theorem D28_54 : decode (mB 28) 54 = .ok (.invokestatic 278, 3) := by decide +kernel
theorem D28_57 : decode (mB 28) 57 = .ok (.invokevirtual 281, 3) := by decide +kernel
theorem D28_60 : decode (mB 28) 60 = .ok (.aload_n 0, 1) := by decide +kernel
theorem D28_61 : decode (mB 28) 61 = .ok (.iload_n 1, 1) := by decide +kernel
theorem D28_62 : decode (mB 28) 62 = .ok (.iload_n 2, 1) := by decide +kernel
theorem D28_63 : decode (mB 28) 63 = .ok (.iconst 0, 1) := by decide +kernel
theorem D28_64 : decode (mB 28) 64 = .ok (.iload_n 2, 1) := by decide +kernel
theorem D28_65 : decode (mB 28) 65 = .ok (.invokestatic 278, 3) := by decide +kernel
theorem D28_68 : decode (mB 28) 68 = .ok (.invokevirtual 214, 3) := by decide +kernel
theorem D28_71 : decode (mB 28) 71 = .ok (.goto 11, 3) := by decide +kernel
theorem D28_74 : decode (mB 28) 74 = .ok (.aload_n 0, 1) := by decide +kernel
theorem D28_75 : decode (mB 28) 75 = .ok (.iload_n 1, 1) := by decide +kernel
theorem D28_76 : decode (mB 28) 76 = .ok (.iload_n 2, 1) := by decide +kernel
theorem D28_77 : decode (mB 28) 77 = .ok (.iconst 0, 1) := by decide +kernel
theorem D28_78 : decode (mB 28) 78 = .ok (.iconst 0, 1) := by decide +kernel
theorem D28_79 : decode (mB 28) 79 = .ok (.invokevirtual 214, 3) := by decide +kernel
theorem D28_82 : decode (mB 28) 82 = .ok (.return_, 1) := by decide +kernel
theorem D29_0 : decode (mB 29) 0 = .ok (.iload_n 1, 1) := by decide +kernel
theorem D29_1 : decode (mB 29) 1 = .ok (.ifCond .lt 18, 3) := by decide +kernel
theorem D29_4 : decode (mB 29) 4 = .ok (.iload_n 1, 1) := by decide +kernel
theorem D29_5 : decode (mB 29) 5 = .ok (.bipush 10, 2) := by decide +kernel
theorem D29_7 : decode (mB 29) 7 = .ok (.if_icmp .ge 12, 3) := by decide +kernel
theorem D29_10 : decode (mB 29) 10 = .ok (.aload_n 0, 1) := by decide +kernel
theorem D29_11 : decode (mB 29) 11 = .ok (.getfield 17, 3) := by decide +kernel
theorem D29_14 : decode (mB 29) 14 = .ok (.iload_n 1, 1) := by decide +kernel
theorem D29_15 : decode (mB 29) 15 = .ok (.iaload, 1) := by decide +kernel
theorem D29_16 : decode (mB 29) 16 = .ok (.goto 4, 3) := by decide +kernel
theorem D29_19 : decode (mB 29) 19 = .ok (.iconst 0, 1) := by decide +kernel
theorem D29_20 : decode (mB 29) 20 = .ok (.ireturn, 1) := by decide +kernel
theorem D30_0 : decode (mB 30) 0 = .ok (.aload_n 0, 1) := by decide +kernel
theorem D30_1 : decode (mB 30) 1 = .ok (.getfield 81, 3) := by decide +kernel
theorem D30_4 : decode (mB 30) 4 = .ok (.ifCond .lt 42, 3) := by decide +kernel
theorem D30_7 : decode (mB 30) 7 = .ok (.aload_n 0, 1) := by decide +kernel
theorem D30_8 : decode (mB 30) 8 = .ok (.getfield 81, 3) := by decide +kernel
theorem D30_11 : decode (mB 30) 11 = .ok (.bipush 80, 2) := by decide +kernel
theorem D30_13 : decode (mB 30) 13 = .ok (.if_icmp .ge 33, 3) := by decide +kernel
theorem D30_16 : decode (mB 30) 16 = .ok (.aload_n 0, 1) := by decide +kernel
theorem D30_17 : decode (mB 30) 17 = .ok (.getfield 42, 3) := by decide +kernel
theorem D30_20 : decode (mB 30) 20 = .ok (.aload_n 0, 1) := by decide +kernel
theorem D30_21 : decode (mB 30) 21 = .ok (.getfield 81, 3) := by decide +kernel
theorem D30_24 : decode (mB 30) 24 = .ok (.iload_n 1, 1) := by decide +kernel
theorem D30_25 : decode (mB 30) 25 = .ok (.iload_n 2, 1) := by decide +kernel
theorem D30_26 : decode (mB 30) 26 = .ok (.invokestatic 197, 3) := by decide +kernel
theorem D30_29 : decode (mB 30) 29 = .ok (.iload_n 3, 1) := by decide +kernel
theorem D30_30 : decode (mB 30) 30 = .ok (.iload 4, 2) := by decide +kernel
theorem D30_32 : decode (mB 30) 32 = .ok (.invokestatic 284, 3) := by decide +kernel
theorem D30_35 : decode (mB 30) 35 = .ok (.iastore, 1) := by decide +kernel
theorem D30_36 : decode (mB 30) 36 = .ok (.aload_n 0, 1) := by decide +kernel
theorem D30_37 : decode (mB 30) 37 = .ok (.dup, 1) := by decide +kernel
theorem D30_38 : decode (mB 30) 38 = .ok (.getfield 81, 3) := by decide +kernel
theorem D30_41 : decode (mB 30) 41 = .ok (.iconst 1, 1) := by decide +kernel
theorem D30_42 : decode (mB 30) 42 = .ok (.iadd, 1) := by decide +kernel
theorem D30_43 : decode (mB 30) 43 = .ok (.putfield 81, 3) := by decide +kernel
theorem D30_46 : decode (mB 30) 46 = .ok (.return_, 1) := by decide +kernel
theorem D31_0 : decode (mB 31) 0 = .ok (.iload_n 1, 1) := by decide +kernel
theorem D31_1 : decode (mB 31) 1 = .ok (.ifCond .lt 16, 3) := by decide +kernel
theorem D31_4 : decode (mB 31) 4 = .ok (.iload_n 1, 1) := by decide +kernel
theorem D31_5 : decode (mB 31) 5 = .ok (.bipush 10, 2) := by decide +kernel
theorem D31_7 : decode (mB 31) 7 = .ok (.if_icmp .ge 10, 3) := by decide +kernel
theorem D31_10 : decode (mB 31) 10 = .ok (.aload_n 0, 1) := by decide +kernel
theorem D31_11 : decode (mB 31) 11 = .ok (.getfield 17, 3) := by decide +kernel
theorem D31_14 : decode (mB 31) 14 = .ok (.iload_n 1, 1) := by decide +kernel
theorem D31_15 : decode (mB 31) 15 = .ok (.iload_n 2, 1) := by decide +kernel
theorem D31_16 : decode (mB 31) 16 = .ok (.iastore, 1) := by decide +kernel
theorem D31_17 : decode (mB 31) 17 = .ok (.return_, 1) := by decide +kernel
theorem D32_0 : decode (mB 32) 0 = .ok (.aload_n 0, 1) := by decide +kernel
theorem D32_1 : decode (mB 32) 1 = .ok (.iload_n 2, 1) := by decide +kernel
theorem D32_2 : decode (mB 32) 2 = .ok (.invokestatic 269, 3) := by decide +kernel
theorem D32_5 : decode (mB 32) 5 = .ok (.invokevirtual 275, 3) := by decide +kernel
theorem D32_8 : decode (mB 32) 8 = .ok (.istore 4, 2) := by decide +kernel
theorem D32_10 : decode (mB 32) 10 = .ok (.iload 4, 2) := by decide +kernel
theorem D32_12 : decode (mB 32) 12 = .ok (.iload_n 2, 1) := by decide +kernel
theorem D32_13 : decode (mB 32) 13 = .ok (.invokestatic 278, 3) := by decide +kernel
theorem D32_16 : decode (mB 32) 16 = .ok (.if_icmp .ne 38, 3) := by decide +kernel
theorem D32_19 : decode (mB 32) 19 = .ok (.aload_n 0, 1) := by decide +kernel
theorem D32_20 : decode (mB 32) 20 = .ok (.iload_n 3, 1) := by decide +kernel
theorem D32_21 : decode (mB 32) 21 = .ok (.invokestatic 269, 3) := by decide +kernel
theorem D32_24 : decode (mB 32) 24 = .ok (.iload_n 3, 1) := by decide +kernel
theorem D32_25 : decode (mB 32) 25 = .ok (.invokestatic 278, 3) := by decide +kernel
theorem D32_28 : decode (mB 32) 28 = .ok (.invokevirtual 281, 3) := by decide +kernel
theorem D32_31 : decode (mB 32) 31 = .ok (.aload_n 0, 1) := by decide +kernel
theorem D32_32 : decode (mB 32) 32 = .ok (.iload_n 1, 1) := by decide +kernel
theorem D32_33 : decode (mB 32) 33 = .ok (.iload_n 2, 1) := by decide +kernel
theorem D32_34 : decode (mB 32) 34 = .ok (.iconst 0, 1) := by decide +kernel
theorem D32_35 : decode (mB 32) 35 = .ok (.iload 4, 2) := by decide +kernel
theorem D32_37 : decode (mB 32) 37 = .ok (.invokevirtual 214, 3) := by decide +kernel
theorem D32_40 : decode (mB 32) 40 = .ok (.aload_n 0, 1) := by decide +kernel
theorem D32_41 : decode (mB 32) 41 = .ok (.iload_n 1, 1) := by decide +kernel
theorem D32_42 : decode (mB 32) 42 = .ok (.iload_n 3, 1) := by decide +kernel
theorem D32_43 : decode (mB 32) 43 = .ok (.iconst 0, 1) := by decide +kernel
theorem D32_44 : decode (mB 32) 44 = .ok (.iload_n 3, 1) := by decide +kernel
theorem D32_45 : decode (mB 32) 45 = .ok (.invokestatic 278, 3) := by decide +kernel
theorem D32_48 : decode (mB 32) 48 = .ok (.invokevirtual 214, 3) := by decide +kernel
theorem D32_51 : decode (mB 32) 51 = .ok (.goto 20, 3) := by decide +kernel
theorem D32_54 : decode (mB 32) 54 = .ok (.aload_n 0, 1) := by decide +kernel
theorem D32_55 : decode (mB 32) 55 = .ok (.iload_n 1, 1) := by decide +kernel
theorem D32_56 : decode (mB 32) 56 = .ok (.iload_n 2, 1) := by decide +kernel
theorem D32_57 : decode (mB 32) 57 = .ok (.iconst 2, 1) := by decide +kernel
theorem D32_58 : decode (mB 32) 58 = .ok (.iload 4, 2) := by decide +kernel
theorem D32_60 : decode (mB 32) 60 = .ok (.invokevirtual 214, 3) := by decide +kernel
theorem D32_63 : decode (mB 32) 63 = .ok (.aload_n 0, 1) := by decide +kernel
theorem D32_64 : decode (mB 32) 64 = .ok (.iload_n 1, 1) := by decide +kernel
theorem D32_65 : decode (mB 32) 65 = .ok (.iload_n 3, 1) := by decide +kernel
theorem D32_66 : decode (mB 32) 66 = .ok (.iconst 3, 1) := by decide +kernel
theorem D32_67 : decode (mB 32) 67 = .ok (.iconst 0, 1) := by decide +kernel
theorem D32_68 : decode (mB 32) 68 = .ok (.invokevirtual 214, 3) := by decide +kernel
theorem D32_71 : decode (mB 32) 71 = .ok (.return_, 1) := by decide +kernel
theorem D33_0 : decode (mB 33) 0 = .ok (.iconst 0, 1) := by decide +kernel
theorem D33_1 : decode (mB 33) 1 = .ok (.istore_n 1, 1) := by decide +kernel
theorem D33_2 : decode (mB 33) 2 = .ok (.iconst 0, 1) := by decide +kernel
theorem D33_3 : decode (mB 33) 3 = .ok (.istore_n 2, 1) := by decide +kernel
theorem D33_4 : decode (mB 33) 4 = .ok (.iload_n 2, 1) := by decide +kernel
theorem D33_5 : decode (mB 33) 5 = .ok (.aload_n 0, 1) := by decide +kernel
theorem D33_6 : decode (mB 33) 6 = .ok (.getfield 81, 3) := by decide +kernel
theorem D33_9 : decode (mB 33) 9 = .ok (.if_icmp .ge 61, 3) := by decide +kernel
theorem D33_12 : decode (mB 33) 12 = .ok (.iload_n 2, 1) := by decide +kernel
theorem D33_13 : decode (mB 33) 13 = .ok (.bipush 80, 2) := by decide +kernel
theorem D33_15 : decode (mB 33) 15 = .ok (.if_icmp .ge 55, 3) := by decide +kernel
theorem D33_18 : decode (mB 33) 18 = .ok (.aload_n 0, 1) := by decide +kernel
theorem D33_19 : decode (mB 33) 19 = .ok (.aload_n 0, 1) := by decide +kernel
theorem D33_20 : decode (mB 33) 20 = .ok (.getfield 42, 3) := by decide +kernel
theorem D33_23 : decode (mB 33) 23 = .ok (.iload_n 2, 1) := by decide +kernel
theorem D33_24 : decode (mB 33) 24 = .ok (.iaload, 1) := by decide +kernel
theorem D33_25 : decode (mB 33) 25 = .ok (.invokestatic 288, 3) := by decide +kernel
theorem D33_28 : decode (mB 33) 28 = .ok (.invokevirtual 142, 3) := by decide +kernel
theorem D33_31 : decode (mB 33) 31 = .ok (.astore_n 3, 1) := by decide +kernel
theorem D33_32 : decode (mB 33) 32 = .ok (.aload_n 3, 1) := by decide +kernel
theorem D33_33 : decode (mB 33) 33 = .ok (.ifnull 16, 3) := by decide +kernel
theorem D33_36 : decode (mB 33) 36 = .ok (.aload_n 3, 1) := by decide +kernel
theorem D33_37 : decode (mB 33) 37 = .ok (.aload_n 0, 1) := by decide +kernel
theorem D33_38 : decode (mB 33) 38 = .ok (.getfield 42, 3) := by decide +kernel
theorem D33_41 : decode (mB 33) 41 = .ok (.iload_n 2, 1) := by decide +kernel
theorem D33_42 : decode (mB 33) 42 = .ok (.iaload, 1) := by decide +kernel
theorem D33_43 : decode (mB 33) 43 = .ok (.invokevirtual 291, 3) := by decide +kernel
theorem D33_46 : decode (mB 33) 46 = .ok (.ifCond .ne 18, 3) := by decide +kernel
theorem D33_49 : decode (mB 33) 49 = .ok (.aload_n 0, 1) := by decide +kernel
theorem D33_50 : decode (mB 33) 50 = .ok (.getfield 42, 3) := by decide +kernel
theorem D33_53 : decode (mB 33) 53 = .ok (.iload_n 1, 1) := by decide +kernel
theorem D33_54 : decode (mB 33) 54 = .ok (.aload_n 0, 1) := by decide +kernel
theorem D33_55 : decode (mB 33) 55 = .ok (.getfield 42, 3) := by decide +kernel
theorem D33_58 : decode (mB 33) 58 = .ok (.iload_n 2, 1) := by decide +kernel
theorem D33_59 : decode (mB 33) 59 = .ok (.iaload, 1) := by decide +kernel
theorem D33_60 : decode (mB 33) 60 = .ok (.iastore, 1) := by decide +kernel
theorem D33_61 : decode (mB 33) 61 = .ok (.iinc 1 1, 3) := by decide +kernel
theorem D33_64 : decode (mB 33) 64 = .ok (.iinc 2 1, 3) := by decide +kernel
theorem D33_67 : decode (mB 33) 67 = .ok (.goto (-63), 3) := by decide +kernel
theorem D33_70 : decode (mB 33) 70 = .ok (.aload_n 0, 1) := by decide +kernel
theorem D33_71 : decode (mB 33) 71 = .ok (.iload_n 1, 1) := by decide +kernel
theorem D33_72 : decode (mB 33) 72 = .ok (.putfield 81, 3) := by decide +kernel
theorem D33_75 : decode (mB 33) 75 = .ok (.return_, 1) := by decide +kernel
theorem D34_0 : decode (mB 34) 0 = .ok (.iconst 0, 1) := by decide +kernel
theorem D34_1 : decode (mB 34) 1 = .ok (.istore_n 1, 1) := by decide +kernel
theorem D34_2 : decode (mB 34) 2 = .ok (.iload_n 1, 1) := by decide +kernel
theorem D34_3 : decode (mB 34) 3 = .ok (.aload_n 0, 1) := by decide +kernel
theorem D34_4 : decode (mB 34) 4 = .ok (.getfield 56, 3) := by decide +kernel
theorem D34_7 : decode (mB 34) 7 = .ok (.if_icmp .ge 28, 3) := by decide +kernel
theorem D34_10 : decode (mB 34) 10 = .ok (.iload_n 1, 1) := by decide +kernel
theorem D34_11 : decode (mB 34) 11 = .ok (.iconst 5, 1) := by decide +kernel
theorem D34_12 : decode (mB 34) 12 = .ok (.if_icmp .ge 23, 3) := by decide +kernel
theorem D34_15 : decode (mB 34) 15 = .ok (.aload_n 0, 1) := by decide +kernel
theorem D34_16 : decode (mB 34) 16 = .ok (.getfield 11, 3) := by decide +kernel
theorem D34_19 : decode (mB 34) 19 = .ok (.iload_n 1, 1) := by decide +kernel
theorem D34_20 : decode (mB 34) 20 = .ok (.aaload, 1) := by decide +kernel
theorem D34_21 : decode (mB 34) 21 = .ok (.invokevirtual 222, 3) := by decide +kernel
theorem D34_24 : decode (mB 34) 24 = .ok (.ifCond .eq 5, 3) := by decide +kernel
theorem D34_27 : decode (mB 34) 27 = .ok (.iconst 1, 1) := by decide +kernel
theorem D34_28 : decode (mB 34) 28 = .ok (.ireturn, 1) := by decide +kernel
theorem D34_29 : decode (mB 34) 29 = .ok (.iinc 1 1, 3) := by decide +kernel
theorem D34_32 : decode (mB 34) 32 = .ok (.goto (-30), 3) := by decide +kernel
theorem D34_35 : decode (mB 34) 35 = .ok (.iconst 0, 1) := by decide +kernel
theorem D34_36 : decode (mB 34) 36 = .ok (.ireturn, 1) := by decide +kernel
theorem D35_0 : decode (mB 35) 0 = .ok (.aload_n 0, 1) := by decide +kernel
theorem D35_1 : decode (mB 35) 1 = .ok (.invokevirtual 226, 3) := by decide +kernel
theorem D35_4 : decode (mB 35) 4 = .ok (.ifCond .ne 5, 3) := by decide +kernel
theorem D35_7 : decode (mB 35) 7 = .ok (.iconst (-1), 1) := by decide +kernel
theorem D35_8 : decode (mB 35) 8 = .ok (.ireturn, 1) := by decide +kernel
theorem D35_9 : decode (mB 35) 9 = .ok (.aload_n 0, 1) := by decide +kernel
theorem D35_10 : decode (mB 35) 10 = .ok (.iconst 0, 1) := by decide +kernel
theorem D35_11 : decode (mB 35) 11 = .ok (.invokevirtual 229, 3) := by decide +kernel
theorem D35_14 : decode (mB 35) 14 = .ok (.istore_n 1, 1) := by decide +kernel
theorem D35_15 : decode (mB 35) 15 = .ok (.iload_n 1, 1) := by decide +kernel
theorem D35_16 : decode (mB 35) 16 = .ok (.iconst (-1), 1) := by decide +kernel
theorem D35_17 : decode (mB 35) 17 = .ok (.if_icmp .eq 12, 3) := by decide +kernel
theorem D35_20 : decode (mB 35) 20 = .ok (.aload_n 0, 1) := by decide +kernel
theorem D35_21 : decode (mB 35) 21 = .ok (.getfield 27, 3) := by decide +kernel
theorem D35_24 : decode (mB 35) 24 = .ok (.iconst 0, 1) := by decide +kernel
theorem D35_25 : decode (mB 35) 25 = .ok (.iload_n 1, 1) := by decide +kernel
theorem D35_26 : decode (mB 35) 26 = .ok (.iastore, 1) := by decide +kernel
theorem D35_27 : decode (mB 35) 27 = .ok (.iload_n 1, 1) := by decide +kernel
theorem D35_28 : decode (mB 35) 28 = .ok (.ireturn, 1) := by decide +kernel
theorem D35_29 : decode (mB 35) 29 = .ok (.aload_n 0, 1) := by decide +kernel
theorem D35_30 : decode (mB 35) 30 = .ok (.invokevirtual 232, 3) := by decide +kernel
theorem D35_33 : decode (mB 35) 33 = .ok (.istore_n 2, 1) := by decide +kernel
theorem D35_34 : decode (mB 35) 34 = .ok (.iload_n 2, 1) := by decide +kernel
theorem D35_35 : decode (mB 35) 35 = .ok (.iconst (-1), 1) := by decide +kernel
theorem D35_36 : decode (mB 35) 36 = .ok (.if_icmp .ne 22, 3) := by decide +kernel
theorem D35_39 : decode (mB 35) 39 = .ok (.aload_n 0, 1) := by decide +kernel
theorem D35_40 : decode (mB 35) 40 = .ok (.getfield 21, 3) := by decide +kernel
theorem D35_43 : decode (mB 35) 43 = .ok (.iconst 0, 1) := by decide +kernel
theorem D35_44 : decode (mB 35) 44 = .ok (.aload_n 0, 1) := by decide +kernel
theorem D35_45 : decode (mB 35) 45 = .ok (.getfield 24, 3) := by decide +kernel
theorem D35_48 : decode (mB 35) 48 = .ok (.iconst 0, 1) := by decide +kernel
theorem D35_49 : decode (mB 35) 49 = .ok (.iconst 4, 1) := by decide +kernel
theorem D35_50 : decode (mB 35) 50 = .ok (.invokestatic 63, 3) := by decide +kernel
theorem D35_53 : decode (mB 35) 53 = .ok (.aload_n 0, 1) := by decide +kernel
theorem D35_54 : decode (mB 35) 54 = .ok (.invokevirtual 232, 3) := by decide +kernel
theorem D35_57 : decode (mB 35) 57 = .ok (.istore_n 2, 1) := by decide +kernel
theorem D35_58 : decode (mB 35) 58 = .ok (.iload_n 2, 1) := by decide +kernel
theorem D35_59 : decode (mB 35) 59 = .ok (.ireturn, 1) := by decide +kernel
theorem D36_0 : decode (mB 36) 0 = .ok (.iload_n 1, 1) := by decide +kernel
theorem D36_1 : decode (mB 36) 1 = .ok (.ifCond .lt 17, 3) := by decide +kernel
theorem D36_4 : decode (mB 36) 4 = .ok (.iload_n 1, 1) := by decide +kernel
theorem D36_5 : decode (mB 36) 5 = .ok (.iconst 4, 1) := by decide +kernel
theorem D36_6 : decode (mB 36) 6 = .ok (.if_icmp .ge 12, 3) := by decide +kernel
theorem D36_9 : decode (mB 36) 9 = .ok (.aload_n 0, 1) := by decide +kernel
theorem D36_10 : decode (mB 36) 10 = .ok (.getfield 27, 3) := by decide +kernel
theorem D36_13 : decode (mB 36) 13 = .ok (.iload_n 1, 1) := by decide +kernel
theorem D36_14 : decode (mB 36) 14 = .ok (.iaload, 1) := by decide +kernel
theorem D36_15 : decode (mB 36) 15 = .ok (.goto 4, 3) := by decide +kernel
theorem D36_18 : decode (mB 36) 18 = .ok (.iconst 0, 1) := by decide +kernel
theorem D36_19 : decode (mB 36) 19 = .ok (.istore_n 2, 1) := by decide +kernel
theorem D36_20 : decode (mB 36) 20 = .ok (.iconst 1, 1) := by decide +kernel
theorem D36_21 : decode (mB 36) 21 = .ok (.istore_n 3, 1) := by decide +kernel
theorem D36_22 : decode (mB 36) 22 = .ok (.iload_n 3, 1) := by decide +kernel
theorem D36_23 : decode (mB 36) 23 = .ok (.iconst 5, 1) := by decide +kernel
theorem D36_24 : decode (mB 36) 24 = .ok (.if_icmp .gt 49, 3) := by decide +kernel
theorem D36_27 : decode (mB 36) 27 = .ok (.iload_n 2, 1) := by decide +kernel
theorem D36_28 : decode (mB 36) 28 = .ok (.iload_n 3, 1) := by decide +kernel
theorem D36_29 : decode (mB 36) 29 = .ok (.iadd, 1) := by decide +kernel
theorem D36_30 : decode (mB 36) 30 = .ok (.iconst 5, 1) := by decide +kernel
theorem D36_31 : decode (mB 36) 31 = .ok (.irem, 1) := by decide +kernel
theorem D36_32 : decode (mB 36) 32 = .ok (.istore 4, 2) := by decide +kernel
theorem D36_34 : decode (mB 36) 34 = .ok (.aload_n 0, 1) := by decide +kernel
theorem D36_35 : decode (mB 36) 35 = .ok (.iload 4, 2) := by decide +kernel
theorem D36_37 : decode (mB 36) 37 = .ok (.invokevirtual 142, 3) := by decide +kernel
theorem D36_40 : decode (mB 36) 40 = .ok (.astore 5, 2) := by decide +kernel
theorem D36_42 : decode (mB 36) 42 = .ok (.aload 5, 2) := by decide +kernel
theorem D36_44 : decode (mB 36) 44 = .ok (.ifnull 23, 3) := by decide +kernel
theorem D36_47 : decode (mB 36) 47 = .ok (.aload 5, 2) := by decide +kernel
theorem D36_49 : decode (mB 36) 49 = .ok (.getfield 90, 3) := by decide +kernel
theorem D36_52 : decode (mB 36) 52 = .ok (.iload_n 1, 1) := by decide +kernel
theorem D36_53 : decode (mB 36) 53 = .ok (.if_icmp .ne 14, 3) := by decide +kernel
theorem D36_56 : decode (mB 36) 56 = .ok (.aload 5, 2) := by decide +kernel
theorem D36_58 : decode (mB 36) 58 = .ok (.invokevirtual 222, 3) := by decide +kernel
theorem D36_61 : decode (mB 36) 61 = .ok (.ifCond .eq 6, 3) := by decide +kernel
theorem D36_64 : decode (mB 36) 64 = .ok (.iload 4, 2) := by decide +kernel
theorem D36_66 : decode (mB 36) 66 = .ok (.ireturn, 1) := by decide +kernel
theorem D36_67 : decode (mB 36) 67 = .ok (.iinc 3 1, 3) := by decide +kernel
theorem D36_70 : decode (mB 36) 70 = .ok (.goto (-48), 3) := by decide +kernel
theorem D36_73 : decode (mB 36) 73 = .ok (.iconst (-1), 1) := by decide +kernel
theorem D36_74 : decode (mB 36) 74 = .ok (.ireturn, 1) := by decide +kernel
theorem D37_0 : decode (mB 37) 0 = .ok (.iconst 1, 1) := by decide +kernel
theorem D37_1 : decode (mB 37) 1 = .ok (.istore_n 1, 1) := by decide +kernel
theorem D37_2 : decode (mB 37) 2 = .ok (.iload_n 1, 1) := by decide +kernel
theorem D37_3 : decode (mB 37) 3 = .ok (.iconst 4, 1) := by decide +kernel
theorem D37_4 : decode (mB 37) 4 = .ok (.if_icmp .ge 52, 3) := by decide +kernel
theorem D37_7 : decode (mB 37) 7 = .ok (.aload_n 0, 1) := by decide +kernel
theorem D37_8 : decode (mB 37) 8 = .ok (.getfield 24, 3) := by decide +kernel
theorem D37_11 : decode (mB 37) 11 = .ok (.iload_n 1, 1) := by decide +kernel
theorem D37_12 : decode (mB 37) 12 = .ok (.iaload, 1) := by decide +kernel
theorem D37_13 : decode (mB 37) 13 = .ok (.ifCond .le 11, 3) := by decide +kernel
theorem D37_16 : decode (mB 37) 16 = .ok (.aload_n 0, 1) := by decide +kernel
theorem D37_17 : decode (mB 37) 17 = .ok (.iload_n 1, 1) := by decide +kernel
theorem D37_18 : decode (mB 37) 18 = .ok (.invokevirtual 229, 3) := by decide +kernel
theorem D37_21 : decode (mB 37) 21 = .ok (.goto 4, 3) := by decide +kernel
theorem D37_24 : decode (mB 37) 24 = .ok (.iconst (-1), 1) := by decide +kernel
theorem D37_25 : decode (mB 37) 25 = .ok (.istore_n 2, 1) := by decide +kernel
theorem D37_26 : decode (mB 37) 26 = .ok (.iload_n 2, 1) := by decide +kernel
theorem D37_27 : decode (mB 37) 27 = .ok (.iconst (-1), 1) := by decide +kernel
theorem D37_28 : decode (mB 37) 28 = .ok (.if_icmp .eq 22, 3) := by decide +kernel
theorem D37_31 : decode (mB 37) 31 = .ok (.aload_n 0, 1) := by decide +kernel
theorem D37_32 : decode (mB 37) 32 = .ok (.getfield 24, 3) := by decide +kernel
theorem D37_35 : decode (mB 37) 35 = .ok (.iload_n 1, 1) := by decide +kernel
theorem D37_36 : decode (mB 37) 36 = .ok (.dup2, 1) := by decide +kernel
theorem D37_37 : decode (mB 37) 37 = .ok (.iaload, 1) := by decide +kernel
theorem D37_38 : decode (mB 37) 38 = .ok (.iconst 1, 1) := by decide +kernel
theorem D37_39 : decode (mB 37) 39 = .ok (.isub, 1) := by decide +kernel
theorem D37_40 : decode (mB 37) 40 = .ok (.iastore, 1) := by decide +kernel
theorem D37_41 : decode (mB 37) 41 = .ok (.aload_n 0, 1) := by decide +kernel
theorem D37_42 : decode (mB 37) 42 = .ok (.getfield 27, 3) := by decide +kernel
theorem D37_45 : decode (mB 37) 45 = .ok (.iload_n 1, 1) := by decide +kernel
theorem D37_46 : decode (mB 37) 46 = .ok (.iload_n 2, 1) := by decide +kernel
theorem D37_47 : decode (mB 37) 47 = .ok (.iastore, 1) := by decide +kernel
theorem D37_48 : decode (mB 37) 48 = .ok (.iload_n 2, 1) := by decide +kernel
theorem D37_49 : decode (mB 37) 49 = .ok (.ireturn, 1) := by decide +kernel
theorem D37_50 : decode (mB 37) 50 = .ok (.iinc 1 1, 3) := by decide +kernel
theorem D37_53 : decode (mB 37) 53 = .ok (.goto (-51), 3) := by decide +kernel
theorem D37_56 : decode (mB 37) 56 = .ok (.iconst (-1), 1) := by decide +kernel
theorem D37_57 : decode (mB 37) 57 = .ok (.ireturn, 1) := by decide +kernel
theorem D38_0 : decode (mB 38) 0 = .ok (.aload_n 0, 1) := by decide +kernel
theorem D38_1 : decode (mB 38) 1 = .ok (.iload_n 1, 1) := by decide +kernel
theorem D38_2 : decode (mB 38) 2 = .ok (.invokevirtual 142, 3) := by decide +kernel
theorem D38_5 : decode (mB 38) 5 = .ok (.astore_n 3, 1) := by decide +kernel
theorem D38_6 : decode (mB 38) 6 = .ok (.aload_n 3, 1) := by decide +kernel
theorem D38_7 : decode (mB 38) 7 = .ok (.ifnonnull 4, 3) := by decide +kernel
theorem D38_10 : decode (mB 38) 10 = .ok (.return_, 1) := by decide +kernel
theorem D38_11 : decode (mB 38) 11 = .ok (.aload_n 3, 1) := by decide +kernel
theorem D38_12 : decode (mB 38) 12 = .ok (.invokevirtual 294, 3) := by decide +kernel
theorem D38_15 : decode (mB 38) 15 = .ok (.istore 4, 2) := by decide +kernel
theorem D38_17 : decode (mB 38) 17 = .ok (.iload 4, 2) := by decide +kernel
theorem D38_19 : decode (mB 38) 19 = .ok (.invokestatic 272, 3) := by decide +kernel
theorem D38_22 : decode (mB 38) 22 = .ok (.istore 5, 2) := by decide +kernel
theorem D38_24 : decode (mB 38) 24 = .ok (.iload 4, 2) := by decide +kernel
theorem D38_26 : decode (mB 38) 26 = .ok (.invokestatic 126, 3) := by decide +kernel
theorem D38_29 : decode (mB 38) 29 = .ok (.ifCond .eq 15, 3) := by decide +kernel
theorem D38_32 : decode (mB 38) 32 = .ok (.aload_n 0, 1) := by decide +kernel
theorem D38_33 : decode (mB 38) 33 = .ok (.iload_n 1, 1) := by decide +kernel
theorem D38_34 : decode (mB 38) 34 = .ok (.iload 4, 2) := by decide +kernel
theorem D38_36 : decode (mB 38) 36 = .ok (.iconst 1, 1) := by decide +kernel
theorem D38_37 : decode (mB 38) 37 = .ok (.iconst 0, 1) := by decide +kernel
theorem D38_38 : decode (mB 38) 38 = .ok (.invokevirtual 214, 3) := by decide +kernel
theorem D38_41 : decode (mB 38) 41 = .ok (.goto 131, 3) := by decide +kernel
theorem D38_44 : decode (mB 38) 44 = .ok (.iload 5, 2) := by decide +kernel
theorem D38_46 : decode (mB 38) 46 = .ok (.iconst 3, 1) := by decide +kernel
theorem D38_47 : decode (mB 38) 47 = .ok (.if_icmp .eq 16, 3) := by decide +kernel
theorem D38_50 : decode (mB 38) 50 = .ok (.iload 5, 2) := by decide +kernel
theorem D38_52 : decode (mB 38) 52 = .ok (.iconst 2, 1) := by decide +kernel
theorem D38_53 : decode (mB 38) 53 = .ok (.if_icmp .ne 22, 3) := by decide +kernel
theorem D38_56 : decode (mB 38) 56 = .ok (.aload_n 3, 1) := by decide +kernel
theorem D38_57 : decode (mB 38) 57 = .ok (.invokevirtual 297, 3) := by decide +kernel
theorem D38_60 : decode (mB 38) 60 = .ok (.ifCond .ne 15, 3) := by decide +kernel
theorem D38_63 : decode (mB 38) 63 = .ok (.aload_n 0, 1) := by decide +kernel
theorem D38_64 : decode (mB 38) 64 = .ok (.iload_n 1, 1) := by decide +kernel
theorem D38_65 : decode (mB 38) 65 = .ok (.iload 4, 2) := by decide +kernel
theorem D38_67 : decode (mB 38) 67 = .ok (.iconst 4, 1) := by decide +kernel
theorem D38_68 : decode (mB 38) 68 = .ok (.iconst 0, 1) := by decide +kernel
theorem D38_69 : decode (mB 38) 69 = .ok (.invokevirtual 214, 3) := by decide +kernel
theorem D38_72 : decode (mB 38) 72 = .ok (.goto 100, 3) := by decide +kernel
theorem D38_75 : decode (mB 38) 75 = .ok (.aload_n 0, 1) := by decide +kernel
theorem D38_76 : decode (mB 38) 76 = .ok (.getfield 78, 3) := by decide +kernel
theorem D38_79 : decode (mB 38) 79 = .ok (.ifCond .lt 93, 3) := by decide +kernel
theorem D38_82 : decode (mB 38) 82 = .ok (.aload_n 0, 1) := by decide +kernel
theorem D38_83 : decode (mB 38) 83 = .ok (.getfield 78, 3) := by decide +kernel
theorem D38_86 : decode (mB 38) 86 = .ok (.iconst 4, 1) := by decide +kernel
theorem D38_87 : decode (mB 38) 87 = .ok (.if_icmp .ge 85, 3) := by decide +kernel
theorem D38_90 : decode (mB 38) 90 = .ok (.aload_n 0, 1) := by decide +kernel
theorem D38_91 : decode (mB 38) 91 = .ok (.getfield 30, 3) := by decide +kernel
theorem D38_94 : decode (mB 38) 94 = .ok (.aload_n 0, 1) := by decide +kernel
theorem D38_95 : decode (mB 38) 95 = .ok (.getfield 78, 3) := by decide +kernel
theorem D38_98 : decode (mB 38) 98 = .ok (.aload_n 2, 1) := by decide +kernel
theorem D38_99 : decode (mB 38) 99 = .ok (.iload 4, 2) := by decide +kernel
theorem D38_101 : decode (mB 38) 101 = .ok (.iload_n 1, 1) := by decide +kernel
theorem D38_102 : decode (mB 38) 102 = .ok (.aload_n 3, 1) := by decide +kernel
theorem D38_103 : decode (mB 38) 103 = .ok (.getfield 90, 3) := by decide +kernel
theorem D38_106 : decode (mB 38) 106 = .ok (.aload_n 0, 1) := by decide +kernel
theorem D38_107 : decode (mB 38) 107 = .ok (.getfield 78, 3) := by decide +kernel
theorem D38_110 : decode (mB 38) 110 = .ok (.aload_n 0, 1) := by decide +kernel
theorem D38_111 : decode (mB 38) 111 = .ok (.getfield 69, 3) := by decide +kernel
theorem D38_114 : decode (mB 38) 114 = .ok (.invokevirtual 300, 3) := by decide +kernel
theorem D38_117 : decode (mB 38) 117 = .ok (.iastore, 1) := by decide +kernel
theorem D38_118 : decode (mB 38) 118 = .ok (.aload_n 0, 1) := by decide +kernel
theorem D38_119 : decode (mB 38) 119 = .ok (.getfield 33, 3) := by decide +kernel
theorem D38_122 : decode (mB 38) 122 = .ok (.aload_n 0, 1) := by decide +kernel
theorem D38_123 : decode (mB 38) 123 = .ok (.getfield 78, 3) := by decide +kernel
theorem D38_126 : decode (mB 38) 126 = .ok (.iload_n 1, 1) := by decide +kernel
theorem D38_127 : decode (mB 38) 127 = .ok (.iastore, 1) := by decide +kernel
theorem D38_128 : decode (mB 38) 128 = .ok (.aload_n 0, 1) := by decide +kernel
theorem D38_129 : decode (mB 38) 129 = .ok (.getfield 36, 3) := by decide +kernel
theorem D38_132 : decode (mB 38) 132 = .ok (.aload_n 0, 1) := by decide +kernel
theorem D38_133 : decode (mB 38) 133 = .ok (.getfield 78, 3) := by decide +kernel
theorem D38_136 : decode (mB 38) 136 = .ok (.iload 4, 2) := by decide +kernel
theorem D38_138 : decode (mB 38) 138 = .ok (.iastore, 1) := by decide +kernel
theorem D38_139 : decode (mB 38) 139 = .ok (.aload_n 0, 1) := by decide +kernel
theorem D38_140 : decode (mB 38) 140 = .ok (.getfield 39, 3) := by decide +kernel
theorem D38_143 : decode (mB 38) 143 = .ok (.aload_n 0, 1) := by decide +kernel
theorem D38_144 : decode (mB 38) 144 = .ok (.getfield 78, 3) := by decide +kernel
theorem D38_147 : decode (mB 38) 147 = .ok (.iload 5, 2) := by decide +kernel
theorem D38_149 : decode (mB 38) 149 = .ok (.iconst 2, 1) := by decide +kernel
theorem D38_150 : decode (mB 38) 150 = .ok (.if_icmp .ne 10, 3) := by decide +kernel
theorem D38_153 : decode (mB 38) 153 = .ok (.aload_n 3, 1) := by decide +kernel
theorem D38_154 : decode (mB 38) 154 = .ok (.invokevirtual 294, 3) := by decide +kernel
theorem D38_157 : decode (mB 38) 157 = .ok (.goto 4, 3) := by decide +kernel
theorem D38_160 : decode (mB 38) 160 = .ok (.iconst (-1), 1) := by decide +kernel
theorem D38_161 : decode (mB 38) 161 = .ok (.iastore, 1) := by decide +kernel
theorem D38_162 : decode (mB 38) 162 = .ok (.aload_n 0, 1) := by decide +kernel
theorem D38_163 : decode (mB 38) 163 = .ok (.dup, 1) := by decide +kernel
theorem D38_164 : decode (mB 38) 164 = .ok (.getfield 78, 3) := by decide +kernel
theorem D38_167 : decode (mB 38) 167 = .ok (.iconst 1, 1) := by decide +kernel
theorem D38_168 : decode (mB 38) 168 = .ok (.iadd, 1) := by decide +kernel
theorem D38_169 : decode (mB 38) 169 = .ok (.putfield 78, 3) := by decide +kernel
theorem D38_172 : decode (mB 38) 172 = .ok (.return_, 1) := by decide +kernel
theorem D39_0 : decode (mB 39) 0 = .ok (.aload_n 0, 1) := by decide +kernel
theorem D39_1 : decode (mB 39) 1 = .ok (.iload_n 1, 1) := by decide +kernel
theorem D39_2 : decode (mB 39) 2 = .ok (.invokevirtual 142, 3) := by decide +kernel
theorem D39_5 : decode (mB 39) 5 = .ok (.astore_n 3, 1) := by decide +kernel
theorem D39_6 : decode (mB 39) 6 = .ok (.aload_n 3, 1) := by decide +kernel
theorem D39_7 : decode (mB 39) 7 = .ok (.ifnonnull 5, 3) := by decide +kernel
theorem D39_10 : decode (mB 39) 10 = .ok (.iconst (-1), 1) := by decide +kernel
theorem D39_11 : decode (mB 39) 11 = .ok (.ireturn, 1) := by decide +kernel
theorem D39_12 : decode (mB 39) 12 = .ok (.aload_n 3, 1) := by decide +kernel
theorem D39_13 : decode (mB 39) 13 = .ok (.getfield 155, 3) := by decide +kernel
theorem D39_16 : decode (mB 39) 16 = .ok (.aload_n 3, 1) := by decide +kernel
theorem D39_17 : decode (mB 39) 17 = .ok (.getfield 158, 3) := by decide +kernel
theorem D39_20 : decode (mB 39) 20 = .ok (.if_icmp .lt 6, 3) := by decide +kernel
theorem D39_23 : decode (mB 39) 23 = .ok (.bipush (-2), 2) := by decide +kernel
theorem D39_25 : decode (mB 39) 25 = .ok (.ireturn, 1) := by decide +kernel
theorem D39_26 : decode (mB 39) 26 = .ok (.aload_n 3, 1) := by decide +kernel
theorem D39_27 : decode (mB 39) 27 = .ok (.aload_n 3, 1) := by decide +kernel
theorem D39_28 : decode (mB 39) 28 = .ok (.getfield 155, 3) := by decide +kernel
theorem D39_31 : decode (mB 39) 31 = .ok (.invokevirtual 161, 3) := by decide +kernel
theorem D39_34 : decode (mB 39) 34 = .ok (.istore 4, 2) := by decide +kernel
theorem D39_36 : decode (mB 39) 36 = .ok (.aload_n 2, 1) := by decide +kernel
theorem D39_37 : decode (mB 39) 37 = .ok (.iload 4, 2) := by decide +kernel
theorem D39_39 : decode (mB 39) 39 = .ok (.invokestatic 164, 3) := by decide +kernel
theorem D39_42 : decode (mB 39) 42 = .ok (.i2l, 1) := by decide +kernel
theorem D39_43 : decode (mB 39) 43 = .ok (.aload_n 3, 1) := by decide +kernel
theorem D39_44 : decode (mB 39) 44 = .ok (.aload_n 3, 1) := by decide +kernel
theorem D39_45 : decode (mB 39) 45 = .ok (.getfield 155, 3) := by decide +kernel
theorem D39_48 : decode (mB 39) 48 = .ok (.invokevirtual 169, 3) := by decide +kernel
theorem D39_51 : decode (mB 39) 51 = .ok (.i2l, 1) := by decide +kernel
theorem D39_52 : decode (mB 39) 52 = .ok (.aload_n 3, 1) := by decide +kernel
theorem D39_53 : decode (mB 39) 53 = .ok (.aload_n 3, 1) := by decide +kernel
theorem D39_54 : decode (mB 39) 54 = .ok (.getfield 155, 3) := by decide +kernel
theorem D39_57 : decode (mB 39) 57 = .ok (.invokevirtual 172, 3) := by decide +kernel
theorem D39_60 : decode (mB 39) 60 = .ok (.i2l, 1) := by decide +kernel
theorem D39_61 : decode (mB 39) 61 = .ok (.invokevirtual 175, 3) := by decide +kernel
theorem D39_64 : decode (mB 39) 64 = .ok (.aload_n 3, 1) := by decide +kernel
theorem D39_65 : decode (mB 39) 65 = .ok (.invokevirtual 181, 3) := by decide +kernel
theorem D39_68 : decode (mB 39) 68 = .ok (.bipush 10, 2) := by decide +kernel
theorem D39_70 : decode (mB 39) 70 = .ok (.iload 4, 2) := by decide +kernel
theorem D39_72 : decode (mB 39) 72 = .ok (.invokestatic 184, 3) := by decide +kernel
theorem D39_75 : decode (mB 39) 75 = .ok (.imul, 1) := by decide +kernel
theorem D39_76 : decode (mB 39) 76 = .ok (.iload 4, 2) := by decide +kernel
theorem D39_78 : decode (mB 39) 78 = .ok (.invokestatic 187, 3) := by decide +kernel
theorem D39_81 : decode (mB 39) 81 = .ok (.iadd, 1) := by decide +kernel
theorem D39_82 : decode (mB 39) 82 = .ok (.ireturn, 1) := by decide +kernel
theorem D40_0 : decode (mB 40) 0 = .ok (.aload_n 0, 1) := by decide +kernel
theorem D40_1 : decode (mB 40) 1 = .ok (.iload_n 1, 1) := by decide +kernel
theorem D40_2 : decode (mB 40) 2 = .ok (.iload_n 2, 1) := by decide +kernel
theorem D40_3 : decode (mB 40) 3 = .ok (.invokevirtual 204, 3) := by decide +kernel
theorem D40_6 : decode (mB 40) 6 = .ok (.istore_n 3, 1) := by decide +kernel
theorem D40_7 : decode (mB 40) 7 = .ok (.aload_n 0, 1) := by decide +kernel
theorem D40_8 : decode (mB 40) 8 = .ok (.iload_n 1, 1) := by decide +kernel
theorem D40_9 : decode (mB 40) 9 = .ok (.invokevirtual 142, 3) := by decide +kernel
theorem D40_12 : decode (mB 40) 12 = .ok (.astore 4, 2) := by decide +kernel
theorem D40_14 : decode (mB 40) 14 = .ok (.iload_n 3, 1) := by decide +kernel
theorem D40_15 : decode (mB 40) 15 = .ok (.ifCond .ne 19, 3) := by decide +kernel
theorem D40_18 : decode (mB 40) 18 = .ok (.aload 4, 2) := by decide +kernel
theorem D40_20 : decode (mB 40) 20 = .ok (.ifnull 14, 3) := by decide +kernel
theorem D40_23 : decode (mB 40) 23 = .ok (.aload 4, 2) := by decide +kernel
theorem D40_25 : decode (mB 40) 25 = .ok (.aload 4, 2) := by decide +kernel
theorem D40_27 : decode (mB 40) 27 = .ok (.iload_n 2, 1) := by decide +kernel
theorem D40_28 : decode (mB 40) 28 = .ok (.invokevirtual 198, 3) := by decide +kernel
theorem D40_31 : decode (mB 40) 31 = .ok (.invokevirtual 207, 3) := by decide +kernel
theorem D40_34 : decode (mB 40) 34 = .ok (.iload_n 3, 1) := by decide +kernel
theorem D40_35 : decode (mB 40) 35 = .ok (.iconst 1, 1) := by decide +kernel
theorem D40_36 : decode (mB 40) 36 = .ok (.if_icmp .ne 13, 3) := by decide +kernel
theorem D40_39 : decode (mB 40) 39 = .ok (.aload_n 0, 1) := by decide +kernel
theorem D40_40 : decode (mB 40) 40 = .ok (.aload_n 0, 1) := by decide +kernel
theorem D40_41 : decode (mB 40) 41 = .ok (.iload_n 1, 1) := by decide +kernel
theorem D40_42 : decode (mB 40) 42 = .ok (.iload_n 2, 1) := by decide +kernel
theorem D40_43 : decode (mB 40) 43 = .ok (.invokevirtual 201, 3) := by decide +kernel
theorem D40_46 : decode (mB 40) 46 = .ok (.invokevirtual 211, 3) := by decide +kernel
theorem D40_49 : decode (mB 40) 49 = .ok (.iload_n 3, 1) := by decide +kernel
theorem D40_50 : decode (mB 40) 50 = .ok (.ireturn, 1) := by decide +kernel
theorem D41_0 : decode (mB 41) 0 = .ok (.aload_n 0, 1) := by decide +kernel
theorem D41_1 : decode (mB 41) 1 = .ok (.iload_n 1, 1) := by decide +kernel
theorem D41_2 : decode (mB 41) 2 = .ok (.invokevirtual 142, 3) := by decide +kernel
theorem D41_5 : decode (mB 41) 5 = .ok (.astore_n 3, 1) := by decide +kernel
theorem D41_6 : decode (mB 41) 6 = .ok (.aload_n 3, 1) := by decide +kernel
theorem D41_7 : decode (mB 41) 7 = .ok (.ifnull 13, 3) := by decide +kernel
theorem D41_10 : decode (mB 41) 10 = .ok (.iload_n 2, 1) := by decide +kernel
theorem D41_11 : decode (mB 41) 11 = .ok (.ifCond .lt 9, 3) := by decide +kernel
theorem D41_14 : decode (mB 41) 14 = .ok (.iload_n 2, 1) := by decide +kernel
theorem D41_15 : decode (mB 41) 15 = .ok (.bipush 16, 2) := by decide +kernel
theorem D41_17 : decode (mB 41) 17 = .ok (.if_icmp .lt 5, 3) := by decide +kernel
theorem D41_20 : decode (mB 41) 20 = .ok (.iconst (-1), 1) := by decide +kernel
theorem D41_21 : decode (mB 41) 21 = .ok (.ireturn, 1) := by decide +kernel
theorem D41_22 : decode (mB 41) 22 = .ok (.aload_n 3, 1) := by decide +kernel
theorem D41_23 : decode (mB 41) 23 = .ok (.iload_n 2, 1) := by decide +kernel
theorem D41_24 : decode (mB 41) 24 = .ok (.invokevirtual 198, 3) := by decide +kernel
theorem D41_27 : decode (mB 41) 27 = .ok (.istore 4, 2) := by decide +kernel
theorem D41_29 : decode (mB 41) 29 = .ok (.iload 4, 2) := by decide +kernel
theorem D41_31 : decode (mB 41) 31 = .ok (.iconst (-1), 1) := by decide +kernel
theorem D41_32 : decode (mB 41) 32 = .ok (.if_icmp .eq 22, 3) := by decide +kernel
theorem D41_35 : decode (mB 41) 35 = .ok (.aload_n 3, 1) := by decide +kernel
theorem D41_36 : decode (mB 41) 36 = .ok (.iload 4, 2) := by decide +kernel
theorem D41_38 : decode (mB 41) 38 = .ok (.invokevirtual 116, 3) := by decide +kernel
theorem D41_41 : decode (mB 41) 41 = .ok (.invokestatic 126, 3) := by decide +kernel
theorem D41_44 : decode (mB 41) 44 = .ok (.ifCond .eq 8, 3) := by decide +kernel
theorem D41_47 : decode (mB 41) 47 = .ok (.bipush (-3), 2) := by decide +kernel
theorem D41_49 : decode (mB 41) 49 = .ok (.goto 4, 3) := by decide +kernel
theorem D41_52 : decode (mB 41) 52 = .ok (.iconst 0, 1) := by decide +kernel
theorem D41_53 : decode (mB 41) 53 = .ok (.ireturn, 1) := by decide +kernel
theorem D41_54 : decode (mB 41) 54 = .ok (.aload_n 0, 1) := by decide +kernel
theorem D41_55 : decode (mB 41) 55 = .ok (.iload_n 1, 1) := by decide +kernel
theorem D41_56 : decode (mB 41) 56 = .ok (.iload_n 2, 1) := by decide +kernel
theorem D41_57 : decode (mB 41) 57 = .ok (.invokevirtual 201, 3) := by decide +kernel
theorem D41_60 : decode (mB 41) 60 = .ok (.istore 5, 2) := by decide +kernel
theorem D41_62 : decode (mB 41) 62 = .ok (.iload 5, 2) := by decide +kernel
theorem D41_64 : decode (mB 41) 64 = .ok (.ifCond .lt 9, 3) := by decide +kernel
theorem D41_67 : decode (mB 41) 67 = .ok (.iload 5, 2) := by decide +kernel
theorem D41_69 : decode (mB 41) 69 = .ok (.iconst 4, 1) := by decide +kernel
theorem D41_70 : decode (mB 41) 70 = .ok (.if_icmp .lt 6, 3) := by decide +kernel
theorem D41_73 : decode (mB 41) 73 = .ok (.bipush (-2), 2) := by decide +kernel
theorem D41_75 : decode (mB 41) 75 = .ok (.ireturn, 1) := by decide +kernel
theorem D41_76 : decode (mB 41) 76 = .ok (.aload_n 0, 1) := by decide +kernel
theorem D41_77 : decode (mB 41) 77 = .ok (.getfield 30, 3) := by decide +kernel
theorem D41_80 : decode (mB 41) 80 = .ok (.iload 5, 2) := by decide +kernel
theorem D41_82 : decode (mB 41) 82 = .ok (.iaload, 1) := by decide +kernel
theorem D41_83 : decode (mB 41) 83 = .ok (.iconst 2, 1) := by decide +kernel
theorem D41_84 : decode (mB 41) 84 = .ok (.if_icmp .ge 8, 3) := by decide +kernel
theorem D41_87 : decode (mB 41) 87 = .ok (.bipush (-4), 2) := by decide +kernel
theorem D41_89 : decode (mB 41) 89 = .ok (.goto 4, 3) := by decide +kernel
theorem D41_92 : decode (mB 41) 92 = .ok (.iconst 1, 1) := by decide +kernel
theorem D41_93 : decode (mB 41) 93 = .ok (.ireturn, 1) := by decide +kernel
theorem D42_0 : decode (mB 42) 0 = .ok (.iconst 0, 1) := by decide +kernel
theorem D42_1 : decode (mB 42) 1 = .ok (.istore_n 3, 1) := by decide +kernel
theorem D42_2 : decode (mB 42) 2 = .ok (.iload_n 3, 1) := by decide +kernel
theorem D42_3 : decode (mB 42) 3 = .ok (.aload_n 0, 1) := by decide +kernel
theorem D42_4 : decode (mB 42) 4 = .ok (.getfield 78, 3) := by decide +kernel
theorem D42_7 : decode (mB 42) 7 = .ok (.if_icmp .ge 86, 3) := by decide +kernel
theorem D42_10 : decode (mB 42) 10 = .ok (.iload_n 3, 1) := by decide +kernel
theorem D42_11 : decode (mB 42) 11 = .ok (.iconst 4, 1) := by decide +kernel
theorem D42_12 : decode (mB 42) 12 = .ok (.if_icmp .ge 81, 3) := by decide +kernel
theorem D42_15 : decode (mB 42) 15 = .ok (.aload_n 0, 1) := by decide +kernel
theorem D42_16 : decode (mB 42) 16 = .ok (.getfield 36, 3) := by decide +kernel
theorem D42_19 : decode (mB 42) 19 = .ok (.iload_n 3, 1) := by decide +kernel
theorem D42_20 : decode (mB 42) 20 = .ok (.iaload, 1) := by decide +kernel
theorem D42_21 : decode (mB 42) 21 = .ok (.invokestatic 197, 3) := by decide +kernel
theorem D42_24 : decode (mB 42) 24 = .ok (.iload_n 2, 1) := by decide +kernel
theorem D42_25 : decode (mB 42) 25 = .ok (.if_icmp .ne 7, 3) := by decide +kernel
theorem D42_28 : decode (mB 42) 28 = .ok (.iconst 1, 1) := by decide +kernel
theorem D42_29 : decode (mB 42) 29 = .ok (.goto 4, 3) := by decide +kernel
theorem D42_32 : decode (mB 42) 32 = .ok (.iconst 0, 1) := by decide +kernel
theorem D42_33 : decode (mB 42) 33 = .ok (.istore 4, 2) := by decide +kernel
theorem D42_35 : decode (mB 42) 35 = .ok (.aload_n 0, 1) := by decide +kernel
theorem D42_36 : decode (mB 42) 36 = .ok (.getfield 39, 3) := by decide +kernel
theorem D42_39 : decode (mB 42) 39 = .ok (.iload_n 3, 1) := by decide +kernel
theorem D42_40 : decode (mB 42) 40 = .ok (.iaload, 1) := by decide +kernel
theorem D42_41 : decode (mB 42) 41 = .ok (.iconst (-1), 1) := by decide +kernel
theorem D42_42 : decode (mB 42) 42 = .ok (.if_icmp .eq 20, 3) := by decide +kernel
theorem D42_45 : decode (mB 42) 45 = .ok (.aload_n 0, 1) := by decide +kernel
theorem D42_46 : decode (mB 42) 46 = .ok (.getfield 39, 3) := by decide +kernel
theorem D42_49 : decode (mB 42) 49 = .ok (.iload_n 3, 1) := by decide +kernel
theorem D42_50 : decode (mB 42) 50 = .ok (.iaload, 1) := by decide +kernel
theorem D42_51 : decode (mB 42) 51 = .ok (.invokestatic 197, 3) := by decide +kernel
theorem D42_54 : decode (mB 42) 54 = .ok (.iload_n 2, 1) := by decide +kernel
theorem D42_55 : decode (mB 42) 55 = .ok (.if_icmp .ne 7, 3) := by decide +kernel
theorem D42_58 : decode (mB 42) 58 = .ok (.iconst 1, 1) := by decide +kernel
theorem D42_59 : decode (mB 42) 59 = .ok (.goto 4, 3) := by decide +kernel
theorem D42_62 : decode (mB 42) 62 = .ok (.iconst 0, 1) := by decide +kernel
theorem D42_63 : decode (mB 42) 63 = .ok (.istore 5, 2) := by decide +kernel
theorem D42_65 : decode (mB 42) 65 = .ok (.aload_n 0, 1) := by decide +kernel
theorem D42_66 : decode (mB 42) 66 = .ok (.getfield 33, 3) := by decide +kernel
theorem D42_69 : decode (mB 42) 69 = .ok (.iload_n 3, 1) := by decide +kernel
theorem D42_70 : decode (mB 42) 70 = .ok (.iaload, 1) := by decide +kernel
theorem D42_71 : decode (mB 42) 71 = .ok (.iload_n 1, 1) := by decide +kernel
theorem D42_72 : decode (mB 42) 72 = .ok (.if_icmp .ne 15, 3) := by decide +kernel
theorem D42_75 : decode (mB 42) 75 = .ok (.iload 4, 2) := by decide +kernel
theorem D42_77 : decode (mB 42) 77 = .ok (.ifCond .ne 8, 3) := by decide +kernel
theorem D42_80 : decode (mB 42) 80 = .ok (.iload 5, 2) := by decide +kernel
theorem D42_82 : decode (mB 42) 82 = .ok (.ifCond .eq 5, 3) := by decide +kernel
theorem D42_85 : decode (mB 42) 85 = .ok (.iload_n 3, 1) := by decide +kernel
theorem D42_86 : decode (mB 42) 86 = .ok (.ireturn, 1) := by decide +kernel
theorem D42_87 : decode (mB 42) 87 = .ok (.iinc 3 1, 3) := by decide +kernel
theorem D42_90 : decode (mB 42) 90 = .ok (.goto (-88), 3) := by decide +kernel
theorem D42_93 : decode (mB 42) 93 = .ok (.iconst (-1), 1) := by decide +kernel
theorem D42_94 : decode (mB 42) 94 = .ok (.ireturn, 1) := by decide +kernel
theorem D43_0 : decode (mB 43) 0 = .ok (.iload_n 1, 1) := by decide +kernel
theorem D43_1 : decode (mB 43) 1 = .ok (.ifCond .lt 16, 3) := by decide +kernel
theorem D43_4 : decode (mB 43) 4 = .ok (.iload_n 1, 1) := by decide +kernel
theorem D43_5 : decode (mB 43) 5 = .ok (.aload_n 0, 1) := by decide +kernel
theorem D43_6 : decode (mB 43) 6 = .ok (.getfield 78, 3) := by decide +kernel
theorem D43_9 : decode (mB 43) 9 = .ok (.if_icmp .ge 8, 3) := by decide +kernel
theorem D43_12 : decode (mB 43) 12 = .ok (.iload_n 1, 1) := by decide +kernel
theorem D43_13 : decode (mB 43) 13 = .ok (.iconst 4, 1) := by decide +kernel
theorem D43_14 : decode (mB 43) 14 = .ok (.if_icmp .lt 4, 3) := by decide +kernel
theorem D43_17 : decode (mB 43) 17 = .ok (.return_, 1) := by decide +kernel
theorem D43_18 : decode (mB 43) 18 = .ok (.aload_n 0, 1) := by decide +kernel
theorem D43_19 : decode (mB 43) 19 = .ok (.aload_n 0, 1) := by decide +kernel
theorem D43_20 : decode (mB 43) 20 = .ok (.getfield 33, 3) := by decide +kernel
theorem D43_23 : decode (mB 43) 23 = .ok (.iload_n 1, 1) := by decide +kernel
theorem D43_24 : decode (mB 43) 24 = .ok (.iaload, 1) := by decide +kernel
theorem D43_25 : decode (mB 43) 25 = .ok (.aload_n 0, 1) := by decide +kernel
theorem D43_26 : decode (mB 43) 26 = .ok (.getfield 36, 3) := by decide +kernel
theorem D43_29 : decode (mB 43) 29 = .ok (.iload_n 1, 1) := by decide +kernel
theorem D43_30 : decode (mB 43) 30 = .ok (.iaload, 1) := by decide +kernel
theorem D43_31 : decode (mB 43) 31 = .ok (.iconst 1, 1) := by decide +kernel
theorem D43_32 : decode (mB 43) 32 = .ok (.iconst 0, 1) := by decide +kernel
theorem D43_33 : decode (mB 43) 33 = .ok (.invokevirtual 214, 3) := by decide +kernel
theorem D43_36 : decode (mB 43) 36 = .ok (.aload_n 0, 1) := by decide +kernel
theorem D43_37 : decode (mB 43) 37 = .ok (.getfield 39, 3) := by decide +kernel
theorem D43_40 : decode (mB 43) 40 = .ok (.iload_n 1, 1) := by decide +kernel
theorem D43_41 : decode (mB 43) 41 = .ok (.iaload, 1) := by decide +kernel
theorem D43_42 : decode (mB 43) 42 = .ok (.iconst (-1), 1) := by decide +kernel
theorem D43_43 : decode (mB 43) 43 = .ok (.if_icmp .eq 21, 3) := by decide +kernel
theorem D43_46 : decode (mB 43) 46 = .ok (.aload_n 0, 1) := by decide +kernel
theorem D43_47 : decode (mB 43) 47 = .ok (.aload_n 0, 1) := by decide +kernel
theorem D43_48 : decode (mB 43) 48 = .ok (.getfield 33, 3) := by decide +kernel
theorem D43_51 : decode (mB 43) 51 = .ok (.iload_n 1, 1) := by decide +kernel
theorem D43_52 : decode (mB 43) 52 = .ok (.iaload, 1) := by decide +kernel
theorem D43_53 : decode (mB 43) 53 = .ok (.aload_n 0, 1) := by decide +kernel
theorem D43_54 : decode (mB 43) 54 = .ok (.getfield 39, 3) := by decide +kernel
theorem D43_57 : decode (mB 43) 57 = .ok (.iload_n 1, 1) := by decide +kernel
theorem D43_58 : decode (mB 43) 58 = .ok (.iaload, 1) := by decide +kernel
theorem D43_59 : decode (mB 43) 59 = .ok (.iconst 1, 1) := by decide +kernel
theorem D43_60 : decode (mB 43) 60 = .ok (.iconst 0, 1) := by decide +kernel
theorem D43_61 : decode (mB 43) 61 = .ok (.invokevirtual 214, 3) := by decide +kernel
theorem D43_64 : decode (mB 43) 64 = .ok (.aload_n 0, 1) := by decide +kernel
theorem D43_65 : decode (mB 43) 65 = .ok (.dup, 1) := by decide +kernel
theorem D43_66 : decode (mB 43) 66 = .ok (.getfield 78, 3) := by decide +kernel
theorem D43_69 : decode (mB 43) 69 = .ok (.iconst 1, 1) := by decide +kernel
theorem D43_70 : decode (mB 43) 70 = .ok (.isub, 1) := by decide +kernel
theorem D43_71 : decode (mB 43) 71 = .ok (.putfield 78, 3) := by decide +kernel
theorem D43_74 : decode (mB 43) 74 = .ok (.iload_n 1, 1) := by decide +kernel
theorem D43_75 : decode (mB 43) 75 = .ok (.istore_n 2, 1) := by decide +kernel
theorem D43_76 : decode (mB 43) 76 = .ok (.iload_n 2, 1) := by decide +kernel
theorem D43_77 : decode (mB 43) 77 = .ok (.aload_n 0, 1) := by decide +kernel
theorem D43_78 : decode (mB 43) 78 = .ok (.getfield 78, 3) := by decide +kernel
theorem D43_81 : decode (mB 43) 81 = .ok (.if_icmp .ge 22, 3) := by decide +kernel
theorem D43_84 : decode (mB 43) 84 = .ok (.iload_n 2, 1) := by decide +kernel
theorem D43_85 : decode (mB 43) 85 = .ok (.iconst 3, 1) := by decide +kernel
theorem D43_86 : decode (mB 43) 86 = .ok (.if_icmp .ge 17, 3) := by decide +kernel
theorem D43_89 : decode (mB 43) 89 = .ok (.aload_n 0, 1) := by decide +kernel
theorem D43_90 : decode (mB 43) 90 = .ok (.iload_n 2, 1) := by decide +kernel
theorem D43_91 : decode (mB 43) 91 = .ok (.iconst 1, 1) := by decide +kernel
theorem D43_92 : decode (mB 43) 92 = .ok (.iadd, 1) := by decide +kernel
theorem D43_93 : decode (mB 43) 93 = .ok (.iload_n 2, 1) := by decide +kernel
theorem D43_94 : decode (mB 43) 94 = .ok (.invokevirtual 218, 3) := by decide +kernel
theorem D43_97 : decode (mB 43) 97 = .ok (.iinc 2 1, 3) := by decide +kernel
theorem D43_100 : decode (mB 43) 100 = .ok (.goto (-24), 3) := by decide +kernel
theorem D43_103 : decode (mB 43) 103 = .ok (.return_, 1) := by decide +kernel
theorem D44_0 : decode (mB 44) 0 = .ok (.aload_n 0, 1) := by decide +kernel
theorem D44_1 : decode (mB 44) 1 = .ok (.invokevirtual 190, 3) := by decide +kernel
theorem D44_4 : decode (mB 44) 4 = .ok (.istore_n 2, 1) := by decide +kernel
theorem D44_5 : decode (mB 44) 5 = .ok (.aload_n 0, 1) := by decide +kernel
theorem D44_6 : decode (mB 44) 6 = .ok (.getfield 78, 3) := by decide +kernel
theorem D44_9 : decode (mB 44) 9 = .ok (.istore_n 3, 1) := by decide +kernel
theorem D44_10 : decode (mB 44) 10 = .ok (.iconst 0, 1) := by decide +kernel
theorem D44_11 : decode (mB 44) 11 = .ok (.istore 4, 2) := by decide +kernel
theorem D44_13 : decode (mB 44) 13 = .ok (.iload 4, 2) := by decide +kernel
theorem D44_15 : decode (mB 44) 15 = .ok (.aload_n 0, 1) := by decide +kernel
theorem D44_16 : decode (mB 44) 16 = .ok (.getfield 78, 3) := by decide +kernel
theorem D44_19 : decode (mB 44) 19 = .ok (.if_icmp .ge 34, 3) := by decide +kernel
theorem D44_22 : decode (mB 44) 22 = .ok (.iload 4, 2) := by decide +kernel
theorem D44_24 : decode (mB 44) 24 = .ok (.iconst 4, 1) := by decide +kernel
theorem D44_25 : decode (mB 44) 25 = .ok (.if_icmp .ge 28, 3) := by decide +kernel
theorem D44_28 : decode (mB 44) 28 = .ok (.iload_n 3, 1) := by decide +kernel
theorem D44_29 : decode (mB 44) 29 = .ok (.aload_n 0, 1) := by decide +kernel
theorem D44_30 : decode (mB 44) 30 = .ok (.getfield 39, 3) := by decide +kernel
theorem D44_33 : decode (mB 44) 33 = .ok (.iload 4, 2) := by decide +kernel
theorem D44_35 : decode (mB 44) 35 = .ok (.iaload, 1) := by decide +kernel
theorem D44_36 : decode (mB 44) 36 = .ok (.iconst (-1), 1) := by decide +kernel
theorem D44_37 : decode (mB 44) 37 = .ok (.if_icmp .ne 7, 3) := by decide +kernel
theorem D44_40 : decode (mB 44) 40 = .ok (.iconst 0, 1) := by decide +kernel
theorem D44_41 : decode (mB 44) 41 = .ok (.goto 4, 3) := by decide +kernel
theorem D44_44 : decode (mB 44) 44 = .ok (.iconst 1, 1) := by decide +kernel
theorem D44_45 : decode (mB 44) 45 = .ok (.iadd, 1) := by decide +kernel
theorem D44_46 : decode (mB 44) 46 = .ok (.istore_n 3, 1) := by decide +kernel
theorem D44_47 : decode (mB 44) 47 = .ok (.iinc 4 1, 3) := by decide +kernel
theorem D44_50 : decode (mB 44) 50 = .ok (.goto (-37), 3) := by decide +kernel
theorem D44_53 : decode (mB 44) 53 = .ok (.aload_n 0, 1) := by decide +kernel
theorem D44_54 : decode (mB 44) 54 = .ok (.invokevirtual 193, 3) := by decide +kernel
theorem D44_57 : decode (mB 44) 57 = .ok (.istore 4, 2) := by decide +kernel
theorem D44_59 : decode (mB 44) 59 = .ok (.iconst 0, 1) := by decide +kernel
theorem D44_60 : decode (mB 44) 60 = .ok (.istore 5, 2) := by decide +kernel
theorem D44_62 : decode (mB 44) 62 = .ok (.iload 5, 2) := by decide +kernel
theorem D44_64 : decode (mB 44) 64 = .ok (.iconst 5, 1) := by decide +kernel
theorem D44_65 : decode (mB 44) 65 = .ok (.if_icmp .ge 19, 3) := by decide +kernel
theorem D44_68 : decode (mB 44) 68 = .ok (.aload_n 0, 1) := by decide +kernel
theorem D44_69 : decode (mB 44) 69 = .ok (.getfield 11, 3) := by decide +kernel
theorem D44_72 : decode (mB 44) 72 = .ok (.iload 5, 2) := by decide +kernel
theorem D44_74 : decode (mB 44) 74 = .ok (.aaload, 1) := by decide +kernel
theorem D44_75 : decode (mB 44) 75 = .ok (.invokevirtual 194, 3) := by decide +kernel
theorem D44_78 : decode (mB 44) 78 = .ok (.iinc 5 1, 3) := by decide +kernel
theorem D44_81 : decode (mB 44) 81 = .ok (.goto (-19), 3) := by decide +kernel
theorem D44_84 : decode (mB 44) 84 = .ok (.aload_n 0, 1) := by decide +kernel
theorem D44_85 : decode (mB 44) 85 = .ok (.iconst 0, 1) := by decide +kernel
theorem D44_86 : decode (mB 44) 86 = .ok (.putfield 78, 3) := by decide +kernel
theorem D44_89 : decode (mB 44) 89 = .ok (.aload_n 0, 1) := by decide +kernel
theorem D44_90 : decode (mB 44) 90 = .ok (.iconst 0, 1) := by decide +kernel
theorem D44_91 : decode (mB 44) 91 = .ok (.putfield 81, 3) := by decide +kernel
theorem D44_94 : decode (mB 44) 94 = .ok (.aload_n 0, 1) := by decide +kernel
theorem D44_95 : decode (mB 44) 95 = .ok (.getfield 21, 3) := by decide +kernel
theorem D44_98 : decode (mB 44) 98 = .ok (.iconst 0, 1) := by decide +kernel
theorem D44_99 : decode (mB 44) 99 = .ok (.aload_n 0, 1) := by decide +kernel
theorem D44_100 : decode (mB 44) 100 = .ok (.getfield 24, 3) := by decide +kernel
theorem D44_103 : decode (mB 44) 103 = .ok (.iconst 0, 1) := by decide +kernel
theorem D44_104 : decode (mB 44) 104 = .ok (.iconst 4, 1) := by decide +kernel
theorem D44_105 : decode (mB 44) 105 = .ok (.invokestatic 63, 3) := by decide +kernel
theorem D44_108 : decode (mB 44) 108 = .ok (.aload_n 0, 1) := by decide +kernel
theorem D44_109 : decode (mB 44) 109 = .ok (.getfield 27, 3) := by decide +kernel
theorem D44_112 : decode (mB 44) 112 = .ok (.iconst 4, 1) := by decide +kernel
theorem D44_113 : decode (mB 44) 113 = .ok (.invokestatic 50, 3) := by decide +kernel
theorem D44_116 : decode (mB 44) 116 = .ok (.aload_n 1, 1) := by decide +kernel
theorem D44_117 : decode (mB 44) 117 = .ok (.iload_n 2, 1) := by decide +kernel
theorem D44_118 : decode (mB 44) 118 = .ok (.i2l, 1) := by decide +kernel
theorem D44_119 : decode (mB 44) 119 = .ok (.iload_n 3, 1) := by decide +kernel
theorem D44_120 : decode (mB 44) 120 = .ok (.i2l, 1) := by decide +kernel
theorem D44_121 : decode (mB 44) 121 = .ok (.iload 4, 2) := by decide +kernel
theorem D44_123 : decode (mB 44) 123 = .ok (.iload_n 2, 1) := by decide +kernel
theorem D44_124 : decode (mB 44) 124 = .ok (.isub, 1) := by decide +kernel
theorem D44_125 : decode (mB 44) 125 = .ok (.iload_n 3, 1) := by decide +kernel
theorem D44_126 : decode (mB 44) 126 = .ok (.isub, 1) := by decide +kernel
theorem D44_127 : decode (mB 44) 127 = .ok (.i2l, 1) := by decide +kernel
theorem D44_128 : decode (mB 44) 128 = .ok (.invokevirtual 175, 3) := by decide +kernel
theorem D44_131 : decode (mB 44) 131 = .ok (.iload 4, 2) := by decide +kernel
theorem D44_133 : decode (mB 44) 133 = .ok (.ireturn, 1) := by decide +kernel
theorem D45_0 : decode (mB 45) 0 = .ok (.aload_n 0, 1) := by decide +kernel
theorem D45_1 : decode (mB 45) 1 = .ok (.iconst 4, 1) := by decide +kernel
theorem D45_2 : decode (mB 45) 2 = .ok (.invokevirtual 133, 3) := by decide +kernel
theorem D45_5 : decode (mB 45) 5 = .ok (.aload_n 0, 1) := by decide +kernel
theorem D45_6 : decode (mB 45) 6 = .ok (.bipush 7, 2) := by decide +kernel
theorem D45_8 : decode (mB 45) 8 = .ok (.invokevirtual 133, 3) := by decide +kernel
theorem D45_11 : decode (mB 45) 11 = .ok (.isub, 1) := by decide +kernel
theorem D45_12 : decode (mB 45) 12 = .ok (.ireturn, 1) := by decide +kernel
theorem D46_0 : decode (mB 46) 0 = .ok (.iconst 0, 1) := by decide +kernel
theorem D46_1 : decode (mB 46) 1 = .ok (.istore_n 1, 1) := by decide +kernel
theorem D46_2 : decode (mB 46) 2 = .ok (.iconst 0, 1) := by decide +kernel
theorem D46_3 : decode (mB 46) 3 = .ok (.istore_n 2, 1) := by decide +kernel
theorem D46_4 : decode (mB 46) 4 = .ok (.iload_n 2, 1) := by decide +kernel
theorem D46_5 : decode (mB 46) 5 = .ok (.aload_n 0, 1) := by decide +kernel
theorem D46_6 : decode (mB 46) 6 = .ok (.getfield 56, 3) := by decide +kernel
theorem D46_9 : decode (mB 46) 9 = .ok (.if_icmp .ge 26, 3) := by decide +kernel
theorem D46_12 : decode (mB 46) 12 = .ok (.iload_n 2, 1) := by decide +kernel
theorem D46_13 : decode (mB 46) 13 = .ok (.iconst 5, 1) := by decide +kernel
theorem D46_14 : decode (mB 46) 14 = .ok (.if_icmp .ge 21, 3) := by decide +kernel
theorem D46_17 : decode (mB 46) 17 = .ok (.iload_n 1, 1) := by decide +kernel
theorem D46_18 : decode (mB 46) 18 = .ok (.aload_n 0, 1) := by decide +kernel
theorem D46_19 : decode (mB 46) 19 = .ok (.getfield 11, 3) := by decide +kernel
theorem D46_22 : decode (mB 46) 22 = .ok (.iload_n 2, 1) := by decide +kernel
theorem D46_23 : decode (mB 46) 23 = .ok (.aaload, 1) := by decide +kernel
theorem D46_24 : decode (mB 46) 24 = .ok (.invokevirtual 139, 3) := by decide +kernel
theorem D46_27 : decode (mB 46) 27 = .ok (.iadd, 1) := by decide +kernel
theorem D46_28 : decode (mB 46) 28 = .ok (.istore_n 1, 1) := by decide +kernel
theorem D46_29 : decode (mB 46) 29 = .ok (.iinc 2 1, 3) := by decide +kernel
theorem D46_32 : decode (mB 46) 32 = .ok (.goto (-28), 3) := by decide +kernel
theorem D46_35 : decode (mB 46) 35 = .ok (.iload_n 1, 1) := by decide +kernel
theorem D46_36 : decode (mB 46) 36 = .ok (.ireturn, 1) := by decide +kernel
theorem D47_0 : decode (mB 47) 0 = .ok (.iload_n 1, 1) := by decide +kernel
theorem D47_1 : decode (mB 47) 1 = .ok (.iconst 1, 1) := by decide +kernel
theorem D47_2 : decode (mB 47) 2 = .ok (.if_icmp .lt 19, 3) := by decide +kernel
theorem D47_5 : decode (mB 47) 5 = .ok (.iload_n 1, 1) := by decide +kernel
theorem D47_6 : decode (mB 47) 6 = .ok (.iconst 4, 1) := by decide +kernel
theorem D47_7 : decode (mB 47) 7 = .ok (.if_icmp .ge 14, 3) := by decide +kernel
theorem D47_10 : decode (mB 47) 10 = .ok (.iload_n 2, 1) := by decide +kernel
theorem D47_11 : decode (mB 47) 11 = .ok (.iconst 1, 1) := by decide +kernel
theorem D47_12 : decode (mB 47) 12 = .ok (.if_icmp .lt 9, 3) := by decide +kernel
theorem D47_15 : decode (mB 47) 15 = .ok (.iload_n 2, 1) := by decide +kernel
theorem D47_16 : decode (mB 47) 16 = .ok (.bipush 9, 2) := by decide +kernel
theorem D47_18 : decode (mB 47) 18 = .ok (.if_icmp .le 5, 3) := by decide +kernel
theorem D47_21 : decode (mB 47) 21 = .ok (.iconst (-1), 1) := by decide +kernel
theorem D47_22 : decode (mB 47) 22 = .ok (.ireturn, 1) := by decide +kernel
theorem D47_23 : decode (mB 47) 23 = .ok (.aload_n 0, 1) := by decide +kernel
theorem D47_24 : decode (mB 47) 24 = .ok (.getfield 21, 3) := by decide +kernel
theorem D47_27 : decode (mB 47) 27 = .ok (.iload_n 1, 1) := by decide +kernel
theorem D47_28 : decode (mB 47) 28 = .ok (.iaload, 1) := by decide +kernel
theorem D47_29 : decode (mB 47) 29 = .ok (.istore_n 3, 1) := by decide +kernel
theorem D47_30 : decode (mB 47) 30 = .ok (.iload_n 3, 1) := by decide +kernel
theorem D47_31 : decode (mB 47) 31 = .ok (.iload_n 2, 1) := by decide +kernel
theorem D47_32 : decode (mB 47) 32 = .ok (.if_icmp .ne 6, 3) := by decide +kernel
theorem D47_35 : decode (mB 47) 35 = .ok (.bipush (-2), 2) := by decide +kernel
theorem D47_37 : decode (mB 47) 37 = .ok (.ireturn, 1) := by decide +kernel
theorem D47_38 : decode (mB 47) 38 = .ok (.aload_n 0, 1) := by decide +kernel
theorem D47_39 : decode (mB 47) 39 = .ok (.getfield 21, 3) := by decide +kernel
theorem D47_42 : decode (mB 47) 42 = .ok (.iload_n 1, 1) := by decide +kernel
theorem D47_43 : decode (mB 47) 43 = .ok (.iload_n 2, 1) := by decide +kernel
theorem D47_44 : decode (mB 47) 44 = .ok (.iastore, 1) := by decide +kernel
theorem D47_45 : decode (mB 47) 45 = .ok (.aload_n 0, 1) := by decide +kernel
theorem D47_46 : decode (mB 47) 46 = .ok (.getfield 24, 3) := by decide +kernel
theorem D47_49 : decode (mB 47) 49 = .ok (.iload_n 1, 1) := by decide +kernel
theorem D47_50 : decode (mB 47) 50 = .ok (.iload_n 2, 1) := by decide +kernel
theorem D47_51 : decode (mB 47) 51 = .ok (.iastore, 1) := by decide +kernel
theorem D47_52 : decode (mB 47) 52 = .ok (.bipush 10, 2) := by decide +kernel
theorem D47_54 : decode (mB 47) 54 = .ok (.iload_n 3, 1) := by decide +kernel
theorem D47_55 : decode (mB 47) 55 = .ok (.iadd, 1) := by decide +kernel
theorem D47_56 : decode (mB 47) 56 = .ok (.ireturn, 1) := by decide +kernel
theorem D48_0 : decode (mB 48) 0 = .ok (.iload_n 1, 1) := by decide +kernel
theorem D48_1 : decode (mB 48) 1 = .ok (.iconst 1, 1) := by decide +kernel
theorem D48_2 : decode (mB 48) 2 = .ok (.if_icmp .lt 8, 3) := by decide +kernel
theorem D48_5 : decode (mB 48) 5 = .ok (.iload_n 1, 1) := by decide +kernel
theorem D48_6 : decode (mB 48) 6 = .ok (.iconst 4, 1) := by decide +kernel
theorem D48_7 : decode (mB 48) 7 = .ok (.if_icmp .le 5, 3) := by decide +kernel
theorem D48_10 : decode (mB 48) 10 = .ok (.iconst (-1), 1) := by decide +kernel
theorem D48_11 : decode (mB 48) 11 = .ok (.ireturn, 1) := by decide +kernel
theorem D48_12 : decode (mB 48) 12 = .ok (.aload_n 0, 1) := by decide +kernel
theorem D48_13 : decode (mB 48) 13 = .ok (.getfield 46, 3) := by decide +kernel
theorem D48_16 : decode (mB 48) 16 = .ok (.istore_n 2, 1) := by decide +kernel
theorem D48_17 : decode (mB 48) 17 = .ok (.iload_n 2, 1) := by decide +kernel
theorem D48_18 : decode (mB 48) 18 = .ok (.iload_n 1, 1) := by decide +kernel
theorem D48_19 : decode (mB 48) 19 = .ok (.if_icmp .ne 6, 3) := by decide +kernel
theorem D48_22 : decode (mB 48) 22 = .ok (.bipush (-2), 2) := by decide +kernel
theorem D48_24 : decode (mB 48) 24 = .ok (.ireturn, 1) := by decide +kernel
theorem D48_25 : decode (mB 48) 25 = .ok (.aload_n 0, 1) := by decide +kernel
theorem D48_26 : decode (mB 48) 26 = .ok (.iload_n 1, 1) := by decide +kernel
theorem D48_27 : decode (mB 48) 27 = .ok (.putfield 46, 3) := by decide +kernel
theorem D48_30 : decode (mB 48) 30 = .ok (.bipush 10, 2) := by decide +kernel
theorem D48_32 : decode (mB 48) 32 = .ok (.iload_n 2, 1) := by decide +kernel
theorem D48_33 : decode (mB 48) 33 = .ok (.iadd, 1) := by decide +kernel
theorem D48_34 : decode (mB 48) 34 = .ok (.ireturn, 1) := by decide +kernel
theorem D49_0 : decode (mB 49) 0 = .ok (.aload_n 1, 1) := by decide +kernel
theorem D49_1 : decode (mB 49) 1 = .ok (.invokevirtual 306, 3) := by decide +kernel
theorem D49_4 : decode (mB 49) 4 = .ok (.iconst 0, 1) := by decide +kernel
theorem D49_5 : decode (mB 49) 5 = .ok (.istore_n 2, 1) := by decide +kernel
theorem D49_6 : decode (mB 49) 6 = .ok (.iload_n 2, 1) := by decide +kernel
theorem D49_7 : decode (mB 49) 7 = .ok (.aload_n 0, 1) := by decide +kernel
theorem D49_8 : decode (mB 49) 8 = .ok (.getfield 78, 3) := by decide +kernel
theorem D49_11 : decode (mB 49) 11 = .ok (.if_icmp .ge 49, 3) := by decide +kernel
theorem D49_14 : decode (mB 49) 14 = .ok (.iload_n 2, 1) := by decide +kernel
theorem D49_15 : decode (mB 49) 15 = .ok (.iconst 4, 1) := by decide +kernel
theorem D49_16 : decode (mB 49) 16 = .ok (.if_icmp .ge 44, 3) := by decide +kernel
theorem D49_19 : decode (mB 49) 19 = .ok (.aload_n 1, 1) := by decide +kernel
theorem D49_20 : decode (mB 49) 20 = .ok (.sipush 1000, 3) := by decide +kernel
theorem D49_23 : decode (mB 49) 23 = .ok (.aload_n 0, 1) := by decide +kernel
theorem D49_24 : decode (mB 49) 24 = .ok (.getfield 33, 3) := by decide +kernel
theorem D49_27 : decode (mB 49) 27 = .ok (.iload_n 2, 1) := by decide +kernel
theorem D49_28 : decode (mB 49) 28 = .ok (.iaload, 1) := by decide +kernel
theorem D49_29 : decode (mB 49) 29 = .ok (.imul, 1) := by decide +kernel
theorem D49_30 : decode (mB 49) 30 = .ok (.bipush 10, 2) := by decide +kernel
theorem D49_32 : decode (mB 49) 32 = .ok (.aload_n 0, 1) := by decide +kernel
theorem D49_33 : decode (mB 49) 33 = .ok (.getfield 36, 3) := by decide +kernel
theorem D49_36 : decode (mB 49) 36 = .ok (.iload_n 2, 1) := by decide +kernel
theorem D49_37 : decode (mB 49) 37 = .ok (.iaload, 1) := by decide +kernel
theorem D49_38 : decode (mB 49) 38 = .ok (.invokestatic 197, 3) := by decide +kernel
theorem D49_41 : decode (mB 49) 41 = .ok (.imul, 1) := by decide +kernel
theorem D49_42 : decode (mB 49) 42 = .ok (.iadd, 1) := by decide +kernel
theorem D49_43 : decode (mB 49) 43 = .ok (.aload_n 0, 1) := by decide +kernel
theorem D49_44 : decode (mB 49) 44 = .ok (.getfield 30, 3) := by decide +kernel
theorem D49_47 : decode (mB 49) 47 = .ok (.iload_n 2, 1) := by decide +kernel
theorem D49_48 : decode (mB 49) 48 = .ok (.iaload, 1) := by decide +kernel
theorem D49_49 : decode (mB 49) 49 = .ok (.iadd, 1) := by decide +kernel
theorem D49_50 : decode (mB 49) 50 = .ok (.i2l, 1) := by decide +kernel
theorem D49_51 : decode (mB 49) 51 = .ok (.invokevirtual 238, 3) := by decide +kernel
theorem D49_54 : decode (mB 49) 54 = .ok (.iinc 2 1, 3) := by decide +kernel
theorem D49_57 : decode (mB 49) 57 = .ok (.goto (-51), 3) := by decide +kernel
theorem D49_60 : decode (mB 49) 60 = .ok (.aload_n 0, 1) := by decide +kernel
theorem D49_61 : decode (mB 49) 61 = .ok (.getfield 78, 3) := by decide +kernel
theorem D49_64 : decode (mB 49) 64 = .ok (.ireturn, 1) := by decide +kernel
theorem D50_0 : decode (mB 50) 0 = .ok (.aload_n 1, 1) := by decide +kernel
theorem D50_1 : decode (mB 50) 1 = .ok (.invokevirtual 306, 3) := by decide +kernel
theorem D50_4 : decode (mB 50) 4 = .ok (.iconst 0, 1) := by decide +kernel
theorem D50_5 : decode (mB 50) 5 = .ok (.istore_n 2, 1) := by decide +kernel
theorem D50_6 : decode (mB 50) 6 = .ok (.iload_n 2, 1) := by decide +kernel
theorem D50_7 : decode (mB 50) 7 = .ok (.aload_n 0, 1) := by decide +kernel
theorem D50_8 : decode (mB 50) 8 = .ok (.getfield 81, 3) := by decide +kernel
theorem D50_11 : decode (mB 50) 11 = .ok (.if_icmp .ge 48, 3) := by decide +kernel
theorem D50_14 : decode (mB 50) 14 = .ok (.iload_n 2, 1) := by decide +kernel
theorem D50_15 : decode (mB 50) 15 = .ok (.bipush 12, 2) := by decide +kernel
theorem D50_17 : decode (mB 50) 17 = .ok (.if_icmp .ge 42, 3) := by decide +kernel
theorem D50_20 : decode (mB 50) 20 = .ok (.aload_n 0, 1) := by decide +kernel
theorem D50_21 : decode (mB 50) 21 = .ok (.getfield 42, 3) := by decide +kernel
theorem D50_24 : decode (mB 50) 24 = .ok (.iload_n 2, 1) := by decide +kernel
theorem D50_25 : decode (mB 50) 25 = .ok (.iaload, 1) := by decide +kernel
theorem D50_26 : decode (mB 50) 26 = .ok (.istore_n 3, 1) := by decide +kernel
theorem D50_27 : decode (mB 50) 27 = .ok (.aload_n 1, 1) := by decide +kernel
theorem D50_28 : decode (mB 50) 28 = .ok (.sipush 1000, 3) := by decide +kernel
theorem D50_31 : decode (mB 50) 31 = .ok (.iload_n 3, 1) := by decide +kernel
theorem D50_32 : decode (mB 50) 32 = .ok (.invokestatic 288, 3) := by decide +kernel
theorem D50_35 : decode (mB 50) 35 = .ok (.imul, 1) := by decide +kernel
theorem D50_36 : decode (mB 50) 36 = .ok (.bipush 10, 2) := by decide +kernel
theorem D50_38 : decode (mB 50) 38 = .ok (.iload_n 3, 1) := by decide +kernel
theorem D50_39 : decode (mB 50) 39 = .ok (.invokestatic 184, 3) := by decide +kernel
theorem D50_42 : decode (mB 50) 42 = .ok (.imul, 1) := by decide +kernel
theorem D50_43 : decode (mB 50) 43 = .ok (.iadd, 1) := by decide +kernel
theorem D50_44 : decode (mB 50) 44 = .ok (.iload_n 3, 1) := by decide +kernel
theorem D50_45 : decode (mB 50) 45 = .ok (.invokestatic 187, 3) := by decide +kernel
theorem D50_48 : decode (mB 50) 48 = .ok (.iadd, 1) := by decide +kernel
theorem D50_49 : decode (mB 50) 49 = .ok (.i2l, 1) := by decide +kernel
theorem D50_50 : decode (mB 50) 50 = .ok (.invokevirtual 238, 3) := by decide +kernel
theorem D50_53 : decode (mB 50) 53 = .ok (.iinc 2 1, 3) := by decide +kernel
theorem D50_56 : decode (mB 50) 56 = .ok (.goto (-50), 3) := by decide +kernel
theorem D50_59 : decode (mB 50) 59 = .ok (.aload_n 0, 1) := by decide +kernel
theorem D50_60 : decode (mB 50) 60 = .ok (.getfield 81, 3) := by decide +kernel
theorem D50_63 : decode (mB 50) 63 = .ok (.ireturn, 1) := by decide +kernel
theorem D51_0 : decode (mB 51) 0 = .ok (.iconst 0, 1) := by decide +kernel
theorem D51_1 : decode (mB 51) 1 = .ok (.istore_n 2, 1) := by decide +kernel
theorem D51_2 : decode (mB 51) 2 = .ok (.iconst 0, 1) := by decide +kernel
theorem D51_3 : decode (mB 51) 3 = .ok (.istore_n 3, 1) := by decide +kernel
theorem D51_4 : decode (mB 51) 4 = .ok (.iload_n 3, 1) := by decide +kernel
theorem D51_5 : decode (mB 51) 5 = .ok (.aload_n 0, 1) := by decide +kernel
theorem D51_6 : decode (mB 51) 6 = .ok (.getfield 56, 3) := by decide +kernel
theorem D51_9 : decode (mB 51) 9 = .ok (.if_icmp .ge 70, 3) := by decide +kernel
theorem D51_12 : decode (mB 51) 12 = .ok (.iload_n 3, 1) := by decide +kernel
theorem D51_13 : decode (mB 51) 13 = .ok (.iconst 5, 1) := by decide +kernel
theorem D51_14 : decode (mB 51) 14 = .ok (.if_icmp .ge 65, 3) := by decide +kernel
theorem D51_17 : decode (mB 51) 17 = .ok (.iconst 0, 1) := by decide +kernel
theorem D51_18 : decode (mB 51) 18 = .ok (.istore 4, 2) := by decide +kernel
theorem D51_20 : decode (mB 51) 20 = .ok (.iload 4, 2) := by decide +kernel
theorem D51_22 : decode (mB 51) 22 = .ok (.aload_n 0, 1) := by decide +kernel
theorem D51_23 : decode (mB 51) 23 = .ok (.getfield 11, 3) := by decide +kernel
theorem D51_26 : decode (mB 51) 26 = .ok (.iload_n 3, 1) := by decide +kernel
theorem D51_27 : decode (mB 51) 27 = .ok (.aaload, 1) := by decide +kernel
theorem D51_28 : decode (mB 51) 28 = .ok (.invokevirtual 113, 3) := by decide +kernel
theorem D51_31 : decode (mB 51) 31 = .ok (.if_icmp .ge 42, 3) := by decide +kernel
theorem D51_34 : decode (mB 51) 34 = .ok (.aload_n 0, 1) := by decide +kernel
theorem D51_35 : decode (mB 51) 35 = .ok (.getfield 11, 3) := by decide +kernel
theorem D51_38 : decode (mB 51) 38 = .ok (.iload_n 3, 1) := by decide +kernel
theorem D51_39 : decode (mB 51) 39 = .ok (.aaload, 1) := by decide +kernel
theorem D51_40 : decode (mB 51) 40 = .ok (.iload 4, 2) := by decide +kernel
theorem D51_42 : decode (mB 51) 42 = .ok (.invokevirtual 116, 3) := by decide +kernel
theorem D51_45 : decode (mB 51) 45 = .ok (.istore 5, 2) := by decide +kernel
theorem D51_47 : decode (mB 51) 47 = .ok (.iload 5, 2) := by decide +kernel
theorem D51_49 : decode (mB 51) 49 = .ok (.iload_n 1, 1) := by decide +kernel
theorem D51_50 : decode (mB 51) 50 = .ok (.invokestatic 120, 3) := by decide +kernel
theorem D51_53 : decode (mB 51) 53 = .ok (.ifCond .eq 14, 3) := by decide +kernel
theorem D51_56 : decode (mB 51) 56 = .ok (.iload 5, 2) := by decide +kernel
theorem D51_58 : decode (mB 51) 58 = .ok (.invokestatic 126, 3) := by decide +kernel
theorem D51_61 : decode (mB 51) 61 = .ok (.ifCond .ne 6, 3) := by decide +kernel
theorem D51_64 : decode (mB 51) 64 = .ok (.iinc 2 1, 3) := by decide +kernel
theorem D51_67 : decode (mB 51) 67 = .ok (.iinc 4 1, 3) := by decide +kernel
theorem D51_70 : decode (mB 51) 70 = .ok (.goto (-50), 3) := by decide +kernel
theorem D51_73 : decode (mB 51) 73 = .ok (.iinc 3 1, 3) := by decide +kernel
theorem D51_76 : decode (mB 51) 76 = .ok (.goto (-72), 3) := by decide +kernel
theorem D51_79 : decode (mB 51) 79 = .ok (.iload_n 2, 1) := by decide +kernel
theorem D51_80 : decode (mB 51) 80 = .ok (.ireturn, 1) := by decide +kernel
theorem D52_0 : decode (mB 52) 0 = .ok (.iconst 0, 1) := by decide +kernel
theorem D52_1 : decode (mB 52) 1 = .ok (.istore_n 2, 1) := by decide +kernel
theorem D52_2 : decode (mB 52) 2 = .ok (.iconst 0, 1) := by decide +kernel
theorem D52_3 : decode (mB 52) 3 = .ok (.istore_n 3, 1) := by decide +kernel
theorem D52_4 : decode (mB 52) 4 = .ok (.iload_n 3, 1) := by decide +kernel
theorem D52_5 : decode (mB 52) 5 = .ok (.aload_n 0, 1) := by decide +kernel
theorem D52_6 : decode (mB 52) 6 = .ok (.getfield 78, 3) := by decide +kernel
theorem D52_9 : decode (mB 52) 9 = .ok (.if_icmp .ge 53, 3) := by decide +kernel
theorem D52_12 : decode (mB 52) 12 = .ok (.iload_n 3, 1) := by decide +kernel
theorem D52_13 : decode (mB 52) 13 = .ok (.iconst 4, 1) := by decide +kernel
theorem D52_14 : decode (mB 52) 14 = .ok (.if_icmp .ge 48, 3) := by decide +kernel
theorem D52_17 : decode (mB 52) 17 = .ok (.aload_n 0, 1) := by decide +kernel
theorem D52_18 : decode (mB 52) 18 = .ok (.getfield 39, 3) := by decide +kernel
theorem D52_21 : decode (mB 52) 21 = .ok (.iload_n 3, 1) := by decide +kernel
theorem D52_22 : decode (mB 52) 22 = .ok (.iaload, 1) := by decide +kernel
theorem D52_23 : decode (mB 52) 23 = .ok (.iconst (-1), 1) := by decide +kernel
theorem D52_24 : decode (mB 52) 24 = .ok (.if_icmp .ne 12, 3) := by decide +kernel
theorem D52_27 : decode (mB 52) 27 = .ok (.aload_n 0, 1) := by decide +kernel
theorem D52_28 : decode (mB 52) 28 = .ok (.getfield 36, 3) := by decide +kernel
theorem D52_31 : decode (mB 52) 31 = .ok (.iload_n 3, 1) := by decide +kernel
theorem D52_32 : decode (mB 52) 32 = .ok (.iaload, 1) := by decide +kernel
theorem D52_33 : decode (mB 52) 33 = .ok (.goto 9, 3) := by decide +kernel
theorem D52_36 : decode (mB 52) 36 = .ok (.aload_n 0, 1) := by decide +kernel
theorem D52_37 : decode (mB 52) 37 = .ok (.getfield 39, 3) := by decide +kernel
theorem D52_40 : decode (mB 52) 40 = .ok (.iload_n 3, 1) := by decide +kernel
theorem D52_41 : decode (mB 52) 41 = .ok (.iaload, 1) := by decide +kernel
theorem D52_42 : decode (mB 52) 42 = .ok (.istore 4, 2) := by decide +kernel
theorem D52_44 : decode (mB 52) 44 = .ok (.iload 4, 2) := by decide +kernel
theorem D52_46 : decode (mB 52) 46 = .ok (.iload_n 1, 1) := by decide +kernel
theorem D52_47 : decode (mB 52) 47 = .ok (.invokestatic 120, 3) := by decide +kernel
theorem D52_50 : decode (mB 52) 50 = .ok (.ifCond .eq 6, 3) := by decide +kernel
theorem D52_53 : decode (mB 52) 53 = .ok (.iinc 2 1, 3) := by decide +kernel
theorem D52_56 : decode (mB 52) 56 = .ok (.iinc 3 1, 3) := by decide +kernel
theorem D52_59 : decode (mB 52) 59 = .ok (.goto (-55), 3) := by decide +kernel
theorem D52_62 : decode (mB 52) 62 = .ok (.iload_n 2, 1) := by decide +kernel
theorem D52_63 : decode (mB 52) 63 = .ok (.ireturn, 1) := by decide +kernel
theorem D53_0 : decode (mB 53) 0 = .ok (.iload_n 1, 1) := by decide +kernel
theorem D53_1 : decode (mB 53) 1 = .ok (.ifCond .le 17, 3) := by decide +kernel
theorem D53_4 : decode (mB 53) 4 = .ok (.iload_n 1, 1) := by decide +kernel
theorem D53_5 : decode (mB 53) 5 = .ok (.iconst 4, 1) := by decide +kernel
theorem D53_6 : decode (mB 53) 6 = .ok (.if_icmp .ge 12, 3) := by decide +kernel
theorem D53_9 : decode (mB 53) 9 = .ok (.aload_n 0, 1) := by decide +kernel
theorem D53_10 : decode (mB 53) 10 = .ok (.getfield 24, 3) := by decide +kernel
theorem D53_13 : decode (mB 53) 13 = .ok (.iload_n 1, 1) := by decide +kernel
theorem D53_14 : decode (mB 53) 14 = .ok (.iaload, 1) := by decide +kernel
theorem D53_15 : decode (mB 53) 15 = .ok (.goto 4, 3) := by decide +kernel
theorem D53_18 : decode (mB 53) 18 = .ok (.iconst 0, 1) := by decide +kernel
theorem D53_19 : decode (mB 53) 19 = .ok (.ireturn, 1) := by decide +kernel
theorem D54_0 : decode (mB 54) 0 = .ok (.iconst 5, 1) := by decide +kernel
theorem D54_1 : decode (mB 54) 1 = .ok (.newarray .int, 2) := by decide +kernel
theorem D54_3 : decode (mB 54) 3 = .ok (.astore_n 3, 1) := by decide +kernel
theorem D54_4 : decode (mB 54) 4 = .ok (.iconst 4, 1) := by decide +kernel
theorem D54_5 : decode (mB 54) 5 = .ok (.newarray .int, 2) := by decide +kernel
theorem D54_7 : decode (mB 54) 7 = .ok (.astore 4, 2) := by decide +kernel
theorem D54_9 : decode (mB 54) 9 = .ok (.iconst 0, 1) := by decide +kernel
theorem D54_10 : decode (mB 54) 10 = .ok (.istore 5, 2) := by decide +kernel
theorem D54_12 : decode (mB 54) 12 = .ok (.iload 5, 2) := by decide +kernel
theorem D54_14 : decode (mB 54) 14 = .ok (.iload_n 1, 1) := by decide +kernel
theorem D54_15 : decode (mB 54) 15 = .ok (.if_icmp .ge 71, 3) := by decide +kernel
theorem D54_18 : decode (mB 54) 18 = .ok (.aload_n 0, 1) := by decide +kernel
theorem D54_19 : decode (mB 54) 19 = .ok (.invokevirtual 235, 3) := by decide +kernel
theorem D54_22 : decode (mB 54) 22 = .ok (.istore 6, 2) := by decide +kernel
theorem D54_24 : decode (mB 54) 24 = .ok (.aload_n 0, 1) := by decide +kernel
theorem D54_25 : decode (mB 54) 25 = .ok (.iload 6, 2) := by decide +kernel
theorem D54_27 : decode (mB 54) 27 = .ok (.invokevirtual 142, 3) := by decide +kernel
theorem D54_30 : decode (mB 54) 30 = .ok (.astore 7, 2) := by decide +kernel
theorem D54_32 : decode (mB 54) 32 = .ok (.aload 7, 2) := by decide +kernel
theorem D54_34 : decode (mB 54) 34 = .ok (.ifnull 46, 3) := by decide +kernel
theorem D54_37 : decode (mB 54) 37 = .ok (.aload 7, 2) := by decide +kernel
theorem D54_39 : decode (mB 54) 39 = .ok (.getfield 90, 3) := by decide +kernel
theorem D54_42 : decode (mB 54) 42 = .ok (.ifCond .lt 38, 3) := by decide +kernel
theorem D54_45 : decode (mB 54) 45 = .ok (.aload 7, 2) := by decide +kernel
theorem D54_47 : decode (mB 54) 47 = .ok (.getfield 90, 3) := by decide +kernel
theorem D54_50 : decode (mB 54) 50 = .ok (.iconst 4, 1) := by decide +kernel
theorem D54_51 : decode (mB 54) 51 = .ok (.if_icmp .ge 29, 3) := by decide +kernel
theorem D54_54 : decode (mB 54) 54 = .ok (.iload 6, 2) := by decide +kernel
theorem D54_56 : decode (mB 54) 56 = .ok (.iconst 5, 1) := by decide +kernel
theorem D54_57 : decode (mB 54) 57 = .ok (.if_icmp .ge 23, 3) := by decide +kernel
theorem D54_60 : decode (mB 54) 60 = .ok (.aload_n 3, 1) := by decide +kernel
theorem D54_61 : decode (mB 54) 61 = .ok (.iload 6, 2) := by decide +kernel
theorem D54_63 : decode (mB 54) 63 = .ok (.dup2, 1) := by decide +kernel
theorem D54_64 : decode (mB 54) 64 = .ok (.iaload, 1) := by decide +kernel
theorem D54_65 : decode (mB 54) 65 = .ok (.iconst 1, 1) := by decide +kernel
theorem D54_66 : decode (mB 54) 66 = .ok (.iadd, 1) := by decide +kernel
theorem D54_67 : decode (mB 54) 67 = .ok (.iastore, 1) := by decide +kernel
theorem D54_68 : decode (mB 54) 68 = .ok (.aload 4, 2) := by decide +kernel
theorem D54_70 : decode (mB 54) 70 = .ok (.aload 7, 2) := by decide +kernel
theorem D54_72 : decode (mB 54) 72 = .ok (.getfield 90, 3) := by decide +kernel
theorem D54_75 : decode (mB 54) 75 = .ok (.dup2, 1) := by decide +kernel
theorem D54_76 : decode (mB 54) 76 = .ok (.iaload, 1) := by decide +kernel
theorem D54_77 : decode (mB 54) 77 = .ok (.iconst 1, 1) := by decide +kernel
theorem D54_78 : decode (mB 54) 78 = .ok (.iadd, 1) := by decide +kernel
theorem D54_79 : decode (mB 54) 79 = .ok (.iastore, 1) := by decide +kernel
theorem D54_80 : decode (mB 54) 80 = .ok (.iinc 5 1, 3) := by decide +kernel
theorem D54_83 : decode (mB 54) 83 = .ok (.goto (-71), 3) := by decide +kernel
theorem D54_86 : decode (mB 54) 86 = .ok (.aload_n 2, 1) := by decide +kernel
theorem D54_87 : decode (mB 54) 87 = .ok (.aload 4, 2) := by decide +kernel
theorem D54_89 : decode (mB 54) 89 = .ok (.iconst 1, 1) := by decide +kernel
theorem D54_90 : decode (mB 54) 90 = .ok (.iaload, 1) := by decide +kernel
theorem D54_91 : decode (mB 54) 91 = .ok (.i2l, 1) := by decide +kernel
theorem D54_92 : decode (mB 54) 92 = .ok (.aload 4, 2) := by decide +kernel
theorem D54_94 : decode (mB 54) 94 = .ok (.iconst 2, 1) := by decide +kernel
theorem D54_95 : decode (mB 54) 95 = .ok (.iaload, 1) := by decide +kernel
theorem D54_96 : decode (mB 54) 96 = .ok (.i2l, 1) := by decide +kernel
theorem D54_97 : decode (mB 54) 97 = .ok (.aload 4, 2) := by decide +kernel
theorem D54_99 : decode (mB 54) 99 = .ok (.iconst 3, 1) := by decide +kernel
theorem D54_100 : decode (mB 54) 100 = .ok (.iaload, 1) := by decide +kernel
theorem D54_101 : decode (mB 54) 101 = .ok (.i2l, 1) := by decide +kernel
theorem D54_102 : decode (mB 54) 102 = .ok (.invokevirtual 175, 3) := by decide +kernel
theorem D54_105 : decode (mB 54) 105 = .ok (.iconst 0, 1) := by decide +kernel
theorem D54_106 : decode (mB 54) 106 = .ok (.istore 5, 2) := by decide +kernel
theorem D54_108 : decode (mB 54) 108 = .ok (.iload 5, 2) := by decide +kernel
theorem D54_110 : decode (mB 54) 110 = .ok (.iconst 5, 1) := by decide +kernel
theorem D54_111 : decode (mB 54) 111 = .ok (.if_icmp .ge 18, 3) := by decide +kernel
theorem D54_114 : decode (mB 54) 114 = .ok (.aload_n 2, 1) := by decide +kernel
theorem D54_115 : decode (mB 54) 115 = .ok (.aload_n 3, 1) := by decide +kernel
theorem D54_116 : decode (mB 54) 116 = .ok (.iload 5, 2) := by decide +kernel
theorem D54_118 : decode (mB 54) 118 = .ok (.iaload, 1) := by decide +kernel
theorem D54_119 : decode (mB 54) 119 = .ok (.i2l, 1) := by decide +kernel
theorem D54_120 : decode (mB 54) 120 = .ok (.invokevirtual 238, 3) := by decide +kernel
theorem D54_123 : decode (mB 54) 123 = .ok (.iinc 5 1, 3) := by decide +kernel
theorem D54_126 : decode (mB 54) 126 = .ok (.goto (-18), 3) := by decide +kernel
theorem D54_129 : decode (mB 54) 129 = .ok (.aload 4, 2) := by decide +kernel
theorem D54_131 : decode (mB 54) 131 = .ok (.iconst 0, 1) := by decide +kernel
theorem D54_132 : decode (mB 54) 132 = .ok (.iaload, 1) := by decide +kernel
theorem D54_133 : decode (mB 54) 133 = .ok (.ireturn, 1) := by decide +kernel
theorem D55_0 : decode (mB 55) 0 = .ok (.aload_n 0, 1) := by decide +kernel
theorem D55_1 : decode (mB 55) 1 = .ok (.iload_n 1, 1) := by decide +kernel
theorem D55_2 : decode (mB 55) 2 = .ok (.invokevirtual 142, 3) := by decide +kernel
theorem D55_5 : decode (mB 55) 5 = .ok (.astore 5, 2) := by decide +kernel
theorem D55_7 : decode (mB 55) 7 = .ok (.aload 5, 2) := by decide +kernel
theorem D55_9 : decode (mB 55) 9 = .ok (.ifnonnull 5, 3) := by decide +kernel
theorem D55_12 : decode (mB 55) 12 = .ok (.iconst (-1), 1) := by decide +kernel
theorem D55_13 : decode (mB 55) 13 = .ok (.ireturn, 1) := by decide +kernel
theorem D55_14 : decode (mB 55) 14 = .ok (.iconst 1, 1) := by decide +kernel
theorem D55_15 : decode (mB 55) 15 = .ok (.istore 6, 2) := by decide +kernel
theorem D55_17 : decode (mB 55) 17 = .ok (.iload 6, 2) := by decide +kernel
theorem D55_19 : decode (mB 55) 19 = .ok (.bipush 99, 2) := by decide +kernel
theorem D55_21 : decode (mB 55) 21 = .ok (.if_icmp .gt 57, 3) := by decide +kernel
theorem D55_24 : decode (mB 55) 24 = .ok (.aload_n 0, 1) := by decide +kernel
theorem D55_25 : decode (mB 55) 25 = .ok (.aload_n 3, 1) := by decide +kernel
theorem D55_26 : decode (mB 55) 26 = .ok (.invokevirtual 242, 3) := by decide +kernel
theorem D55_29 : decode (mB 55) 29 = .ok (.aload 5, 2) := by decide +kernel
theorem D55_31 : decode (mB 55) 31 = .ok (.iload_n 2, 1) := by decide +kernel
theorem D55_32 : decode (mB 55) 32 = .ok (.invokevirtual 318, 3) := by decide +kernel
theorem D55_35 : decode (mB 55) 35 = .ok (.istore 7, 2) := by decide +kernel
theorem D55_37 : decode (mB 55) 37 = .ok (.iload 7, 2) := by decide +kernel
theorem D55_39 : decode (mB 55) 39 = .ok (.iconst (-1), 1) := by decide +kernel
theorem D55_40 : decode (mB 55) 40 = .ok (.if_icmp .eq 32, 3) := by decide +kernel
theorem D55_43 : decode (mB 55) 43 = .ok (.aload 5, 2) := by decide +kernel
theorem D55_45 : decode (mB 55) 45 = .ok (.iload 7, 2) := by decide +kernel
theorem D55_47 : decode (mB 55) 47 = .ok (.invokevirtual 161, 3) := by decide +kernel
theorem D55_50 : decode (mB 55) 50 = .ok (.istore 8, 2) := by decide +kernel
theorem D55_52 : decode (mB 55) 52 = .ok (.aload 4, 2) := by decide +kernel
theorem D55_54 : decode (mB 55) 54 = .ok (.iload 8, 2) := by decide +kernel
theorem D55_56 : decode (mB 55) 56 = .ok (.invokestatic 187, 3) := by decide +kernel
theorem D55_59 : decode (mB 55) 59 = .ok (.i2l, 1) := by decide +kernel
theorem D55_60 : decode (mB 55) 60 = .ok (.iload 8, 2) := by decide +kernel
theorem D55_62 : decode (mB 55) 62 = .ok (.invokestatic 164, 3) := by decide +kernel
theorem D55_65 : decode (mB 55) 65 = .ok (.i2l, 1) := by decide +kernel
theorem D55_66 : decode (mB 55) 66 = .ok (.invokevirtual 246, 3) := by decide +kernel
theorem D55_69 : decode (mB 55) 69 = .ok (.iload 6, 2) := by decide +kernel
theorem D55_71 : decode (mB 55) 71 = .ok (.ireturn, 1) := by decide +kernel
theorem D55_72 : decode (mB 55) 72 = .ok (.iinc 6 1, 3) := by decide +kernel
theorem D55_75 : decode (mB 55) 75 = .ok (.goto (-58), 3) := by decide +kernel
theorem D55_78 : decode (mB 55) 78 = .ok (.bipush (-2), 2) := by decide +kernel
theorem D55_80 : decode (mB 55) 80 = .ok (.ireturn, 1) := by decide +kernel
theorem D56_0 : decode (mB 56) 0 = .ok (.iconst 0, 1) := by decide +kernel
theorem D56_1 : decode (mB 56) 1 = .ok (.istore_n 2, 1) := by decide +kernel
theorem D56_2 : decode (mB 56) 2 = .ok (.iload_n 2, 1) := by decide +kernel
theorem D56_3 : decode (mB 56) 3 = .ok (.bipush 99, 2) := by decide +kernel
theorem D56_5 : decode (mB 56) 5 = .ok (.if_icmp .ge 53, 3) := by decide +kernel
theorem D56_8 : decode (mB 56) 8 = .ok (.aload_n 0, 1) := by decide +kernel
theorem D56_9 : decode (mB 56) 9 = .ok (.invokevirtual 312, 3) := by decide +kernel
theorem D56_12 : decode (mB 56) 12 = .ok (.ifCond .eq 5, 3) := by decide +kernel
theorem D56_15 : decode (mB 56) 15 = .ok (.iload_n 2, 1) := by decide +kernel
theorem D56_16 : decode (mB 56) 16 = .ok (.ireturn, 1) := by decide +kernel
theorem D56_17 : decode (mB 56) 17 = .ok (.iconst 0, 1) := by decide +kernel
theorem D56_18 : decode (mB 56) 18 = .ok (.istore_n 3, 1) := by decide +kernel
theorem D56_19 : decode (mB 56) 19 = .ok (.iload_n 3, 1) := by decide +kernel
theorem D56_20 : decode (mB 56) 20 = .ok (.aload_n 0, 1) := by decide +kernel
theorem D56_21 : decode (mB 56) 21 = .ok (.getfield 56, 3) := by decide +kernel
theorem D56_24 : decode (mB 56) 24 = .ok (.if_icmp .ge 23, 3) := by decide +kernel
theorem D56_27 : decode (mB 56) 27 = .ok (.iload_n 3, 1) := by decide +kernel
theorem D56_28 : decode (mB 56) 28 = .ok (.iconst 5, 1) := by decide +kernel
theorem D56_29 : decode (mB 56) 29 = .ok (.if_icmp .ge 18, 3) := by decide +kernel
theorem D56_32 : decode (mB 56) 32 = .ok (.aload_n 0, 1) := by decide +kernel
theorem D56_33 : decode (mB 56) 33 = .ok (.getfield 11, 3) := by decide +kernel
theorem D56_36 : decode (mB 56) 36 = .ok (.iload_n 3, 1) := by decide +kernel
theorem D56_37 : decode (mB 56) 37 = .ok (.aaload, 1) := by decide +kernel
theorem D56_38 : decode (mB 56) 38 = .ok (.invokevirtual 315, 3) := by decide +kernel
theorem D56_41 : decode (mB 56) 41 = .ok (.iinc 3 1, 3) := by decide +kernel
theorem D56_44 : decode (mB 56) 44 = .ok (.goto (-25), 3) := by decide +kernel
theorem D56_47 : decode (mB 56) 47 = .ok (.aload_n 0, 1) := by decide +kernel
theorem D56_48 : decode (mB 56) 48 = .ok (.aload_n 1, 1) := by decide +kernel
theorem D56_49 : decode (mB 56) 49 = .ok (.invokevirtual 242, 3) := by decide +kernel
theorem D56_52 : decode (mB 56) 52 = .ok (.iinc 2 1, 3) := by decide +kernel
theorem D56_55 : decode (mB 56) 55 = .ok (.goto (-53), 3) := by decide +kernel
theorem D56_58 : decode (mB 56) 58 = .ok (.aload_n 0, 1) := by decide +kernel
theorem D56_59 : decode (mB 56) 59 = .ok (.invokevirtual 312, 3) := by decide +kernel
theorem D56_62 : decode (mB 56) 62 = .ok (.ifCond .eq 8, 3) := by decide +kernel
theorem D56_65 : decode (mB 56) 65 = .ok (.bipush 99, 2) := by decide +kernel
theorem D56_67 : decode (mB 56) 67 = .ok (.goto 5, 3) := by decide +kernel
theorem D56_70 : decode (mB 56) 70 = .ok (.bipush (-2), 2) := by decide +kernel
theorem D56_72 : decode (mB 56) 72 = .ok (.ireturn, 1) := by decide +kernel
theorem D57_0 : decode (mB 57) 0 = .ok (.iconst 0, 1) := by decide +kernel
theorem D57_1 : decode (mB 57) 1 = .ok (.istore_n 1, 1) := by decide +kernel
theorem D57_2 : decode (mB 57) 2 = .ok (.iload_n 1, 1) := by decide +kernel
theorem D57_3 : decode (mB 57) 3 = .ok (.aload_n 0, 1) := by decide +kernel
theorem D57_4 : decode (mB 57) 4 = .ok (.getfield 56, 3) := by decide +kernel
theorem D57_7 : decode (mB 57) 7 = .ok (.if_icmp .ge 37, 3) := by decide +kernel
theorem D57_10 : decode (mB 57) 10 = .ok (.iload_n 1, 1) := by decide +kernel
theorem D57_11 : decode (mB 57) 11 = .ok (.iconst 5, 1) := by decide +kernel
theorem D57_12 : decode (mB 57) 12 = .ok (.if_icmp .ge 32, 3) := by decide +kernel
theorem D57_15 : decode (mB 57) 15 = .ok (.aload_n 0, 1) := by decide +kernel
theorem D57_16 : decode (mB 57) 16 = .ok (.getfield 11, 3) := by decide +kernel
theorem D57_19 : decode (mB 57) 19 = .ok (.iload_n 1, 1) := by decide +kernel
theorem D57_20 : decode (mB 57) 20 = .ok (.aaload, 1) := by decide +kernel
theorem D57_21 : decode (mB 57) 21 = .ok (.getfield 309, 3) := by decide +kernel
theorem D57_24 : decode (mB 57) 24 = .ok (.aload_n 0, 1) := by decide +kernel
theorem D57_25 : decode (mB 57) 25 = .ok (.getfield 11, 3) := by decide +kernel
theorem D57_28 : decode (mB 57) 28 = .ok (.iload_n 1, 1) := by decide +kernel
theorem D57_29 : decode (mB 57) 29 = .ok (.aaload, 1) := by decide +kernel
theorem D57_30 : decode (mB 57) 30 = .ok (.getfield 136, 3) := by decide +kernel
theorem D57_33 : decode (mB 57) 33 = .ok (.if_icmp .le 5, 3) := by decide +kernel
theorem D57_36 : decode (mB 57) 36 = .ok (.iconst 0, 1) := by decide +kernel
theorem D57_37 : decode (mB 57) 37 = .ok (.ireturn, 1) := by decide +kernel
theorem D57_38 : decode (mB 57) 38 = .ok (.iinc 1 1, 3) := by decide +kernel
theorem D57_41 : decode (mB 57) 41 = .ok (.goto (-39), 3) := by decide +kernel
theorem D57_44 : decode (mB 57) 44 = .ok (.aload_n 0, 1) := by decide +kernel
theorem D57_45 : decode (mB 57) 45 = .ok (.getfield 78, 3) := by decide +kernel
theorem D57_48 : decode (mB 57) 48 = .ok (.ifCond .ne 14, 3) := by decide +kernel
theorem D57_51 : decode (mB 57) 51 = .ok (.aload_n 0, 1) := by decide +kernel
theorem D57_52 : decode (mB 57) 52 = .ok (.getfield 81, 3) := by decide +kernel
theorem D57_55 : decode (mB 57) 55 = .ok (.ifCond .ne 7, 3) := by decide +kernel
theorem D57_58 : decode (mB 57) 58 = .ok (.iconst 1, 1) := by decide +kernel
theorem D57_59 : decode (mB 57) 59 = .ok (.goto 4, 3) := by decide +kernel
theorem D57_62 : decode (mB 57) 62 = .ok (.iconst 0, 1) := by decide +kernel
theorem D57_63 : decode (mB 57) 63 = .ok (.ireturn, 1) := by decide +kernel
theorem D58_0 : decode (mB 58) 0 = .ok (.iconst 0, 1) := by decide +kernel
theorem D58_1 : decode (mB 58) 1 = .ok (.istore_n 1, 1) := by decide +kernel
theorem D58_2 : decode (mB 58) 2 = .ok (.iload_n 1, 1) := by decide +kernel
theorem D58_3 : decode (mB 58) 3 = .ok (.aload_n 0, 1) := by decide +kernel
theorem D58_4 : decode (mB 58) 4 = .ok (.getfield 56, 3) := by decide +kernel
theorem D58_7 : decode (mB 58) 7 = .ok (.if_icmp .ge 15, 3) := by decide +kernel
theorem D58_10 : decode (mB 58) 10 = .ok (.aload_n 0, 1) := by decide +kernel
theorem D58_11 : decode (mB 58) 11 = .ok (.iload_n 1, 1) := by decide +kernel
theorem D58_12 : decode (mB 58) 12 = .ok (.invokevirtual 153, 3) := by decide +kernel
theorem D58_15 : decode (mB 58) 15 = .ok (.pop, 1) := by decide +kernel
theorem D58_16 : decode (mB 58) 16 = .ok (.iinc 1 1, 3) := by decide +kernel
theorem D58_19 : decode (mB 58) 19 = .ok (.goto (-17), 3) := by decide +kernel
theorem D58_22 : decode (mB 58) 22 = .ok (.return_, 1) := by decide +kernel
theorem D59_0 : decode (mB 59) 0 = .ok (.aload_n 0, 1) := by decide +kernel
theorem D59_1 : decode (mB 59) 1 = .ok (.iload_n 1, 1) := by decide +kernel
theorem D59_2 : decode (mB 59) 2 = .ok (.iload_n 2, 1) := by decide +kernel
theorem D59_3 : decode (mB 59) 3 = .ok (.invokevirtual 201, 3) := by decide +kernel
theorem D59_6 : decode (mB 59) 6 = .ok (.istore_n 3, 1) := by decide +kernel
theorem D59_7 : decode (mB 59) 7 = .ok (.iload_n 3, 1) := by decide +kernel
theorem D59_8 : decode (mB 59) 8 = .ok (.ifCond .lt 17, 3) := by decide +kernel
theorem D59_11 : decode (mB 59) 11 = .ok (.iload_n 3, 1) := by decide +kernel
theorem D59_12 : decode (mB 59) 12 = .ok (.iconst 4, 1) := by decide +kernel
theorem D59_13 : decode (mB 59) 13 = .ok (.if_icmp .ge 12, 3) := by decide +kernel
theorem D59_16 : decode (mB 59) 16 = .ok (.aload_n 0, 1) := by decide +kernel
theorem D59_17 : decode (mB 59) 17 = .ok (.getfield 30, 3) := by decide +kernel
theorem D59_20 : decode (mB 59) 20 = .ok (.iload_n 3, 1) := by decide +kernel
theorem D59_21 : decode (mB 59) 21 = .ok (.iaload, 1) := by decide +kernel
theorem D59_22 : decode (mB 59) 22 = .ok (.goto 4, 3) := by decide +kernel
theorem D59_25 : decode (mB 59) 25 = .ok (.iconst 0, 1) := by decide +kernel
theorem D59_26 : decode (mB 59) 26 = .ok (.ireturn, 1) := by decide +kernel
theorem D60_0 : decode (mB 60) 0 = .ok (.aload_n 0, 1) := by decide +kernel
theorem D60_1 : decode (mB 60) 1 = .ok (.iload_n 1, 1) := by decide +kernel
theorem D60_2 : decode (mB 60) 2 = .ok (.invokevirtual 142, 3) := by decide +kernel
theorem D60_5 : decode (mB 60) 5 = .ok (.astore_n 3, 1) := by decide +kernel
theorem D60_6 : decode (mB 60) 6 = .ok (.aload_n 3, 1) := by decide +kernel
theorem D60_7 : decode (mB 60) 7 = .ok (.ifnonnull 7, 3) := by decide +kernel
theorem D60_10 : decode (mB 60) 10 = .ok (.iconst (-1), 1) := by decide +kernel
theorem D60_11 : decode (mB 60) 11 = .ok (.goto 8, 3) := by decide +kernel
theorem D60_14 : decode (mB 60) 14 = .ok (.aload_n 3, 1) := by decide +kernel
theorem D60_15 : decode (mB 60) 15 = .ok (.iload_n 2, 1) := by decide +kernel
theorem D60_16 : decode (mB 60) 16 = .ok (.invokevirtual 198, 3) := by decide +kernel
theorem D60_19 : decode (mB 60) 19 = .ok (.istore 4, 2) := by decide +kernel
theorem D60_21 : decode (mB 60) 21 = .ok (.iload 4, 2) := by decide +kernel
theorem D60_23 : decode (mB 60) 23 = .ok (.iconst (-1), 1) := by decide +kernel
theorem D60_24 : decode (mB 60) 24 = .ok (.if_icmp .eq 8, 3) := by decide +kernel
theorem D60_27 : decode (mB 60) 27 = .ok (.iload 4, 2) := by decide +kernel
theorem D60_29 : decode (mB 60) 29 = .ok (.goto 9, 3) := by decide +kernel
theorem D60_32 : decode (mB 60) 32 = .ok (.aload_n 0, 1) := by decide +kernel
theorem D60_33 : decode (mB 60) 33 = .ok (.iload_n 1, 1) := by decide +kernel
theorem D60_34 : decode (mB 60) 34 = .ok (.iload_n 2, 1) := by decide +kernel
theorem D60_35 : decode (mB 60) 35 = .ok (.invokevirtual 201, 3) := by decide +kernel
theorem D60_38 : decode (mB 60) 38 = .ok (.ireturn, 1) := by decide +kernel
theorem D61_0 : decode (mB 61) 0 = .ok (.iconst 0, 1) := by decide +kernel
theorem D61_1 : decode (mB 61) 1 = .ok (.istore_n 2, 1) := by decide +kernel
theorem D61_2 : decode (mB 61) 2 = .ok (.iconst 0, 1) := by decide +kernel
theorem D61_3 : decode (mB 61) 3 = .ok (.istore_n 3, 1) := by decide +kernel
theorem D61_4 : decode (mB 61) 4 = .ok (.iload_n 3, 1) := by decide +kernel
theorem D61_5 : decode (mB 61) 5 = .ok (.aload_n 0, 1) := by decide +kernel
theorem D61_6 : decode (mB 61) 6 = .ok (.getfield 56, 3) := by decide +kernel
theorem D61_9 : decode (mB 61) 9 = .ok (.if_icmp .ge 43, 3) := by decide +kernel
theorem D61_12 : decode (mB 61) 12 = .ok (.iload_n 3, 1) := by decide +kernel
theorem D61_13 : decode (mB 61) 13 = .ok (.iconst 5, 1) := by decide +kernel
theorem D61_14 : decode (mB 61) 14 = .ok (.if_icmp .ge 38, 3) := by decide +kernel
theorem D61_17 : decode (mB 61) 17 = .ok (.iload_n 2, 1) := by decide +kernel
theorem D61_18 : decode (mB 61) 18 = .ok (.aload_n 0, 1) := by decide +kernel
theorem D61_19 : decode (mB 61) 19 = .ok (.getfield 11, 3) := by decide +kernel
theorem D61_22 : decode (mB 61) 22 = .ok (.iload_n 3, 1) := by decide +kernel
theorem D61_23 : decode (mB 61) 23 = .ok (.aaload, 1) := by decide +kernel
theorem D61_24 : decode (mB 61) 24 = .ok (.getfield 90, 3) := by decide +kernel
theorem D61_27 : decode (mB 61) 27 = .ok (.iload_n 1, 1) := by decide +kernel
theorem D61_28 : decode (mB 61) 28 = .ok (.if_icmp .ne 15, 3) := by decide +kernel
theorem D61_31 : decode (mB 61) 31 = .ok (.aload_n 0, 1) := by decide +kernel
theorem D61_32 : decode (mB 61) 32 = .ok (.getfield 11, 3) := by decide +kernel
theorem D61_35 : decode (mB 61) 35 = .ok (.iload_n 3, 1) := by decide +kernel
theorem D61_36 : decode (mB 61) 36 = .ok (.aaload, 1) := by decide +kernel
theorem D61_37 : decode (mB 61) 37 = .ok (.getfield 136, 3) := by decide +kernel
theorem D61_40 : decode (mB 61) 40 = .ok (.goto 4, 3) := by decide +kernel
theorem D61_43 : decode (mB 61) 43 = .ok (.iconst 0, 1) := by decide +kernel
theorem D61_44 : decode (mB 61) 44 = .ok (.iadd, 1) := by decide +kernel
theorem D61_45 : decode (mB 61) 45 = .ok (.istore_n 2, 1) := by decide +kernel
theorem D61_46 : decode (mB 61) 46 = .ok (.iinc 3 1, 3) := by decide +kernel
theorem D61_49 : decode (mB 61) 49 = .ok (.goto (-45), 3) := by decide +kernel
theorem D61_52 : decode (mB 61) 52 = .ok (.iload_n 2, 1) := by decide +kernel
theorem D61_53 : decode (mB 61) 53 = .ok (.ireturn, 1) := by decide +kernel
theorem D62_0 : decode (mB 62) 0 = .ok (.aload_n 0, 1) := by decide +kernel
theorem D62_1 : decode (mB 62) 1 = .ok (.iload_n 1, 1) := by decide +kernel
theorem D62_2 : decode (mB 62) 2 = .ok (.invokevirtual 142, 3) := by decide +kernel
theorem D62_5 : decode (mB 62) 5 = .ok (.astore_n 3, 1) := by decide +kernel
theorem D62_6 : decode (mB 62) 6 = .ok (.aload_n 3, 1) := by decide +kernel
theorem D62_7 : decode (mB 62) 7 = .ok (.ifnonnull 5, 3) := by decide +kernel
theorem D62_10 : decode (mB 62) 10 = .ok (.iconst (-1), 1) := by decide +kernel
theorem D62_11 : decode (mB 62) 11 = .ok (.ireturn, 1) := by decide +kernel
theorem D62_12 : decode (mB 62) 12 = .ok (.aload_n 3, 1) := by decide +kernel
theorem D62_13 : decode (mB 62) 13 = .ok (.iload_n 2, 1) := by decide +kernel
theorem D62_14 : decode (mB 62) 14 = .ok (.invokevirtual 198, 3) := by decide +kernel
theorem D62_17 : decode (mB 62) 17 = .ok (.istore 4, 2) := by decide +kernel
theorem D62_19 : decode (mB 62) 19 = .ok (.iload 4, 2) := by decide +kernel
theorem D62_21 : decode (mB 62) 21 = .ok (.iconst (-1), 1) := by decide +kernel
theorem D62_22 : decode (mB 62) 22 = .ok (.if_icmp .eq 10, 3) := by decide +kernel
theorem D62_25 : decode (mB 62) 25 = .ok (.aload_n 3, 1) := by decide +kernel
theorem D62_26 : decode (mB 62) 26 = .ok (.iload 4, 2) := by decide +kernel
theorem D62_28 : decode (mB 62) 28 = .ok (.invokevirtual 116, 3) := by decide +kernel
theorem D62_31 : decode (mB 62) 31 = .ok (.ireturn, 1) := by decide +kernel
theorem D62_32 : decode (mB 62) 32 = .ok (.aload_n 0, 1) := by decide +kernel
theorem D62_33 : decode (mB 62) 33 = .ok (.iload_n 1, 1) := by decide +kernel
theorem D62_34 : decode (mB 62) 34 = .ok (.iload_n 2, 1) := by decide +kernel
theorem D62_35 : decode (mB 62) 35 = .ok (.invokevirtual 201, 3) := by decide +kernel
theorem D62_38 : decode (mB 62) 38 = .ok (.istore 5, 2) := by decide +kernel
theorem D62_40 : decode (mB 62) 40 = .ok (.iload 5, 2) := by decide +kernel
theorem D62_42 : decode (mB 62) 42 = .ok (.ifCond .lt 9, 3) := by decide +kernel
theorem D62_45 : decode (mB 62) 45 = .ok (.iload 5, 2) := by decide +kernel
theorem D62_47 : decode (mB 62) 47 = .ok (.iconst 4, 1) := by decide +kernel
theorem D62_48 : decode (mB 62) 48 = .ok (.if_icmp .lt 5, 3) := by decide +kernel
theorem D62_51 : decode (mB 62) 51 = .ok (.iconst (-1), 1) := by decide +kernel
theorem D62_52 : decode (mB 62) 52 = .ok (.ireturn, 1) := by decide +kernel
theorem D62_53 : decode (mB 62) 53 = .ok (.aload_n 0, 1) := by decide +kernel
theorem D62_54 : decode (mB 62) 54 = .ok (.getfield 36, 3) := by decide +kernel
theorem D62_57 : decode (mB 62) 57 = .ok (.iload 5, 2) := by decide +kernel
theorem D62_59 : decode (mB 62) 59 = .ok (.iaload, 1) := by decide +kernel
theorem D62_60 : decode (mB 62) 60 = .ok (.invokestatic 197, 3) := by decide +kernel
theorem D62_63 : decode (mB 62) 63 = .ok (.iload_n 2, 1) := by decide +kernel
theorem D62_64 : decode (mB 62) 64 = .ok (.if_icmp .ne 13, 3) := by decide +kernel
theorem D62_67 : decode (mB 62) 67 = .ok (.aload_n 0, 1) := by decide +kernel
theorem D62_68 : decode (mB 62) 68 = .ok (.getfield 36, 3) := by decide +kernel
theorem D62_71 : decode (mB 62) 71 = .ok (.iload 5, 2) := by decide +kernel
theorem D62_73 : decode (mB 62) 73 = .ok (.iaload, 1) := by decide +kernel
theorem D62_74 : decode (mB 62) 74 = .ok (.goto 10, 3) := by decide +kernel
theorem D62_77 : decode (mB 62) 77 = .ok (.aload_n 0, 1) := by decide +kernel
theorem D62_78 : decode (mB 62) 78 = .ok (.getfield 39, 3) := by decide +kernel
theorem D62_81 : decode (mB 62) 81 = .ok (.iload 5, 2) := by decide +kernel
theorem D62_83 : decode (mB 62) 83 = .ok (.iaload, 1) := by decide +kernel
theorem D62_84 : decode (mB 62) 84 = .ok (.ireturn, 1) := by decide +kernel
theorem D63_0 : decode (mB 63) 0 = .ok (.aload_n 0, 1) := by decide +kernel
theorem D63_1 : decode (mB 63) 1 = .ok (.iload_n 1, 1) := by decide +kernel
theorem D63_2 : decode (mB 63) 2 = .ok (.iload_n 2, 1) := by decide +kernel
theorem D63_3 : decode (mB 63) 3 = .ok (.invokevirtual 201, 3) := by decide +kernel
theorem D63_6 : decode (mB 63) 6 = .ok (.iconst (-1), 1) := by decide +kernel
theorem D63_7 : decode (mB 63) 7 = .ok (.if_icmp .eq 7, 3) := by decide +kernel
theorem D63_10 : decode (mB 63) 10 = .ok (.iconst 1, 1) := by decide +kernel
theorem D63_11 : decode (mB 63) 11 = .ok (.goto 4, 3) := by decide +kernel
theorem D63_14 : decode (mB 63) 14 = .ok (.iconst 0, 1) := by decide +kernel
theorem D63_15 : decode (mB 63) 15 = .ok (.ireturn, 1) := by decide +kernel
theorem D64_0 : decode (mB 64) 0 = .ok (.aload_n 1, 1) := by decide +kernel
theorem D64_1 : decode (mB 64) 1 = .ok (.bipush 6, 2) := by decide +kernel
theorem D64_3 : decode (mB 64) 3 = .ok (.invokevirtual 321, 3) := by decide +kernel
theorem D64_6 : decode (mB 64) 6 = .ok (.istore 4, 2) := by decide +kernel
theorem D64_8 : decode (mB 64) 8 = .ok (.aload_n 0, 1) := by decide +kernel
theorem D64_9 : decode (mB 64) 9 = .ok (.getfield 56, 3) := by decide +kernel
theorem D64_12 : decode (mB 64) 12 = .ok (.ifCond .ne 4, 3) := by decide +kernel
theorem D64_15 : decode (mB 64) 15 = .ok (.return_, 1) := by decide +kernel
theorem D64_16 : decode (mB 64) 16 = .ok (.aload_n 1, 1) := by decide +kernel
theorem D64_17 : decode (mB 64) 17 = .ok (.aload_n 0, 1) := by decide +kernel
theorem D64_18 : decode (mB 64) 18 = .ok (.getfield 56, 3) := by decide +kernel
theorem D64_21 : decode (mB 64) 21 = .ok (.invokevirtual 321, 3) := by decide +kernel
theorem D64_24 : decode (mB 64) 24 = .ok (.istore 5, 2) := by decide +kernel
theorem D64_26 : decode (mB 64) 26 = .ok (.iload 4, 2) := by decide +kernel
theorem D64_28 : decode (mB 64) 28 = .ok (.tableswitch 77 2 5 #[32, 42, 50, 61], 32) := by decide +kernel
theorem D64_60 : decode (mB 64) 60 = .ok (.aload_n 0, 1) := by decide +kernel
theorem D64_61 : decode (mB 64) 61 = .ok (.iload 5, 2) := by decide +kernel
theorem D64_63 : decode (mB 64) 63 = .ok (.invokevirtual 153, 3) := by decide +kernel
theorem D64_66 : decode (mB 64) 66 = .ok (.pop, 1) := by decide +kernel
theorem D64_67 : decode (mB 64) 67 = .ok (.goto 70, 3) := by decide +kernel
theorem D64_70 : decode (mB 64) 70 = .ok (.aload_n 0, 1) := by decide +kernel
theorem D64_71 : decode (mB 64) 71 = .ok (.aload_n 2, 1) := by decide +kernel
theorem D64_72 : decode (mB 64) 72 = .ok (.invokevirtual 242, 3) := by decide +kernel
theorem D64_75 : decode (mB 64) 75 = .ok (.goto 62, 3) := by decide +kernel
theorem D64_78 : decode (mB 64) 78 = .ok (.aload_n 0, 1) := by decide +kernel
theorem D64_79 : decode (mB 64) 79 = .ok (.iload 5, 2) := by decide +kernel
theorem D64_81 : decode (mB 64) 81 = .ok (.aload_n 3, 1) := by decide +kernel
theorem D64_82 : decode (mB 64) 82 = .ok (.invokevirtual 325, 3) := by decide +kernel
theorem D64_85 : decode (mB 64) 85 = .ok (.pop, 1) := by decide +kernel
theorem D64_86 : decode (mB 64) 86 = .ok (.goto 51, 3) := by decide +kernel
theorem D64_89 : decode (mB 64) 89 = .ok (.aload_n 0, 1) := by decide +kernel
theorem D64_90 : decode (mB 64) 90 = .ok (.iload 5, 2) := by decide +kernel
theorem D64_92 : decode (mB 64) 92 = .ok (.aload_n 1, 1) := by decide +kernel
theorem D64_93 : decode (mB 64) 93 = .ok (.bipush 16, 2) := by decide +kernel
theorem D64_95 : decode (mB 64) 95 = .ok (.invokevirtual 321, 3) := by decide +kernel
theorem D64_98 : decode (mB 64) 98 = .ok (.invokevirtual 328, 3) := by decide +kernel
theorem D64_101 : decode (mB 64) 101 = .ok (.pop, 1) := by decide +kernel
theorem D64_102 : decode (mB 64) 102 = .ok (.goto 35, 3) := by decide +kernel
theorem D64_105 : decode (mB 64) 105 = .ok (.aload_n 1, 1) := by decide +kernel
theorem D64_106 : decode (mB 64) 106 = .ok (.iconst 5, 1) := by decide +kernel
theorem D64_107 : decode (mB 64) 107 = .ok (.invokevirtual 321, 3) := by decide +kernel
theorem D64_110 : decode (mB 64) 110 = .ok (.istore 6, 2) := by decide +kernel
theorem D64_112 : decode (mB 64) 112 = .ok (.aload_n 1, 1) := by decide +kernel
theorem D64_113 : decode (mB 64) 113 = .ok (.bipush 10, 2) := by decide +kernel
theorem D64_115 : decode (mB 64) 115 = .ok (.invokevirtual 321, 3) := by decide +kernel
theorem D64_118 : decode (mB 64) 118 = .ok (.istore 7, 2) := by decide +kernel
theorem D64_120 : decode (mB 64) 120 = .ok (.aload_n 0, 1) := by decide +kernel
theorem D64_121 : decode (mB 64) 121 = .ok (.iload 5, 2) := by decide +kernel
theorem D64_123 : decode (mB 64) 123 = .ok (.iload 6, 2) := by decide +kernel
theorem D64_125 : decode (mB 64) 125 = .ok (.iload 7, 2) := by decide +kernel
theorem D64_127 : decode (mB 64) 127 = .ok (.aload_n 1, 1) := by decide +kernel
theorem D64_128 : decode (mB 64) 128 = .ok (.bipush 100, 2) := by decide +kernel
theorem D64_130 : decode (mB 64) 130 = .ok (.invokevirtual 321, 3) := by decide +kernel
theorem D64_133 : decode (mB 64) 133 = .ok (.invokevirtual 331, 3) := by decide +kernel
theorem D64_136 : decode (mB 64) 136 = .ok (.pop, 1) := by decide +kernel
theorem D64_137 : decode (mB 64) 137 = .ok (.return_, 1) := by decide +kernel
theorem E0_0 {d : Nat} {a0 a1 a2 a3 : Int} {S : SS} {I : II}  : ev d 0 0 [(0, a0), (0, a1), (0, a2), (0, a3)] [] S I = some ((0, iOr (iOr (iOr a0 (iShl a1 4)) (iShl a2 7)) (iShl a3 11)), S, I) := by
  refine (sx_iload_n D0_0 rfl).trans ?_
  refine (sx_iload_n D0_1 rfl).trans ?_
  refine (sx_iconst D0_2).trans ?_
  refine (sx_ishl D0_3).trans ?_
  refine (sx_ior D0_4).trans ?_
  refine (sx_iload_n D0_5 rfl).trans ?_
  refine (sx_bipush D0_6 (by decide)).trans ?_
  refine (sx_ishl D0_8).trans ?_
  refine (sx_ior D0_9).trans ?_
  refine (sx_iload_n D0_10 rfl).trans ?_
  refine (sx_bipush D0_11 (by decide)).trans ?_
  refine (sx_ishl D0_13).trans ?_
  refine (sx_ior D0_14).trans ?_
  exact sx_ireturn D0_15 (by decide +kernel)
theorem E1_0 {d : Nat} {a0 : Int} {S : SS} {I : II}  : ev d 1 0 [(0, a0)] [] S I = some ((0, iAnd (iShr a0 7) 15), S, I) := by
  refine (sx_iload_n D1_0 rfl).trans ?_
  refine (sx_bipush D1_1 (by decide)).trans ?_
  refine (sx_ishr D1_3).trans ?_
  refine (sx_bipush D1_4 (by decide)).trans ?_
  refine (sx_iand D1_6).trans ?_
  exact sx_ireturn D1_7 (by decide +kernel)
theorem E2_0 {d : Nat} {a0 : Int} {S : SS} {I : II}  : ev d 2 0 [(0, a0)] [] S I = some ((0, iAnd (iShr a0 4) 7), S, I) := by
  refine (sx_iload_n D2_0 rfl).trans ?_
  refine (sx_iconst D2_1).trans ?_
  refine (sx_ishr D2_2).trans ?_
  refine (sx_bipush D2_3 (by decide)).trans ?_
  refine (sx_iand D2_5).trans ?_
  exact sx_ireturn D2_6 (by decide +kernel)
theorem E3_0 {d : Nat} {a0 : Int} {S : SS} {I : II}  : ev d 3 0 [(0, a0)] [] S I = some ((0, iAnd a0 15), S, I) := by
  refine (sx_iload_n D3_0 rfl).trans ?_
  refine (sx_bipush D3_1 (by decide)).trans ?_
  refine (sx_iand D3_3).trans ?_
  exact sx_ireturn D3_4 (by decide +kernel)
theorem E4_0 {d : Nat} {a0 : Int} {S : SS} {I : II}  : ev d 4 0 [(0, a0)] [] S I = some ((0, iAnd (iShr a0 11) 127), S, I) := by
  refine (sx_iload_n D4_0 rfl).trans ?_
  refine (sx_bipush D4_1 (by decide)).trans ?_
  refine (sx_ishr D4_3).trans ?_
  refine (sx_bipush D4_4 (by decide)).trans ?_
  refine (sx_iand D4_6).trans ?_
  exact sx_ireturn D4_7 (by decide +kernel)
theorem E5_0 {d : Nat} {a0 : Int} {S : SS} {I : II}  : ev d 5 0 [(0, a0)] [] S I = if iAnd a0 262144 = 0 then (ev d 5 12 [(0, a0)] [(0, 0)] S I) else (ev d 5 12 [(0, a0)] [(0, 1)] S I) := by
  refine (sx_iload_n D5_0 rfl).trans ?_
  refine (sx_ldcI (q := (262144, 696)) D5_1 (by decide +kernel)).trans ?_
  refine (sx_iand D5_3).trans ?_
  refine sx_i0_eq (pc' := 11) D5_4 (by decide) (by decide) ?_ ?_ (w_toInt _)
  · refine (sx_iconst D5_11).trans ?_
    exact rfl
  · refine (sx_iconst D5_7).trans ?_
    refine (sx_goto (pc' := 12) D5_8 (by decide) (by decide)).trans ?_
    exact rfl
theorem E5_12 {d : Nat} {a0 s0 : Int} {S : SS} {I : II} (h0 : s0 = 0 ∨ s0 = 1) : ev d 5 12 [(0, a0)] [(0, s0)] S I = some ((0, s0), S, I) := by
  exact sx_zreturn D5_12 (by decide +kernel) h0
theorem E6_0 {d : Nat} {a0 a1 : Int} {S : SS} {I : II}  : ev (d + 1) 6 0 [(0, a0), (0, a1)] [] S I = (ev d 2 0 [(0, a0)] [] S I).bind (fun q => ev (d + 1) 6 4 [(0, a0), (0, a1)] (psh q.1 []) q.2.1 q.2.2) := by
  refine (sx_iload_n D6_0 rfl).trans ?_
  exact sx_stat (ag := [(0, a0)]) (r := []) (al' := [(0, a0)]) (np := 1) (nl := 1) (q := (0, 2, 982)) D6_1 (by decide +kernel) (by decide) mP_2 mL_2 (Nat.le_of_ble_eq_true rfl) rfl rfl (by simp [cat]) rfl rfl
theorem E6_4 {d : Nat} {a0 a1 s0 : Int} {S : SS} {I : II}  : ev (d + 1) 6 4 [(0, a0), (0, a1)] [(0, s0)] S I = if w s0 = 1 then (ev (d + 1) 6 16 [(0, a0), (0, a1)] [] S I) else ((ev d 2 0 [(0, a0)] [] S I).bind (fun q => ev (d + 1) 6 12 [(0, a0), (0, a1)] (psh q.1 []) q.2.1 q.2.2)) := by
  refine (sx_iconst D6_4).trans ?_
  refine sx_if_eq (pc' := 16) D6_5 (by decide) (by decide) ?_ ?_ rfl (w_small (by decide) (by decide))
  · exact rfl
  · refine (sx_iload_n D6_8 rfl).trans ?_
    exact sx_stat (ag := [(0, a0)]) (r := []) (al' := [(0, a0)]) (np := 1) (nl := 1) (q := (0, 2, 982)) D6_9 (by decide +kernel) (by decide) mP_2 mL_2 (Nat.le_of_ble_eq_true rfl) rfl rfl (by simp [cat]) rfl rfl
theorem E6_12 {d : Nat} {a0 a1 s0 : Int} {S : SS} {I : II}  : ev d 6 12 [(0, a0), (0, a1)] [(0, s0)] S I = if w s0 = 3 then (ev d 6 16 [(0, a0), (0, a1)] [] S I) else (ev d 6 28 [(0, a0), (0, a1)] [] S I) := by
  refine (sx_iconst D6_12).trans ?_
  refine sx_if_ne (pc' := 28) D6_13 (by decide) (by decide) ?_ ?_ rfl (w_small (by decide) (by decide))
  · exact rfl
  · exact rfl
theorem E6_16 {d : Nat} {a0 a1 : Int} {S : SS} {I : II}  : ev (d + 1) 6 16 [(0, a0), (0, a1)] [] S I = (ev d 1 0 [(0, a0)] [] S I).bind (fun q => ev (d + 1) 6 20 [(0, a0), (0, a1)] (psh q.1 []) q.2.1 q.2.2) := by
  refine (sx_iload_n D6_16 rfl).trans ?_
  exact sx_stat (ag := [(0, a0)]) (r := []) (al' := [(0, a0)]) (np := 1) (nl := 1) (q := (0, 1, 983)) D6_17 (by decide +kernel) (by decide) mP_1 mL_1 (Nat.le_of_ble_eq_true rfl) rfl rfl (by simp [cat]) rfl rfl
theorem E6_20 {d : Nat} {a0 a1 s0 : Int} {S : SS} {I : II}  : ev d 6 20 [(0, a0), (0, a1)] [(0, s0)] S I = if w s0 = w a1 then (ev d 6 29 [(0, a0), (0, a1)] [(0, 1)] S I) else (ev d 6 28 [(0, a0), (0, a1)] [] S I) := by
  refine (sx_iload_n D6_20 rfl).trans ?_
  refine sx_if_ne (pc' := 28) D6_21 (by decide) (by decide) ?_ ?_ rfl rfl
  · refine (sx_iconst D6_24).trans ?_
    refine (sx_goto (pc' := 29) D6_25 (by decide) (by decide)).trans ?_
    exact rfl
  · exact rfl
theorem E6_28 {d : Nat} {a0 a1 : Int} {S : SS} {I : II}  : ev d 6 28 [(0, a0), (0, a1)] [] S I = ev d 6 29 [(0, a0), (0, a1)] [(0, 0)] S I := by
  refine (sx_iconst D6_28).trans ?_
  exact rfl
theorem E6_29 {d : Nat} {a0 a1 s0 : Int} {S : SS} {I : II} (h0 : s0 = 0 ∨ s0 = 1) : ev d 6 29 [(0, a0), (0, a1)] [(0, s0)] S I = some ((0, s0), S, I) := by
  exact sx_zreturn D6_29 (by decide +kernel) h0
theorem E7_0 {d : Nat} {a0 a1 a2 a3 : Int} {S : SS} {I : II}  : ev d 7 0 [(0, a0), (0, a1), (0, a2), (0, a3)] [] S I = some ((0, iOr (iOr (iOr a0 (iShl a1 3)) (iShl a2 7)) (iShl a3 10)), S, I) := by
  refine (sx_iload_n D7_0 rfl).trans ?_
  refine (sx_iload_n D7_1 rfl).trans ?_
  refine (sx_iconst D7_2).trans ?_
  refine (sx_ishl D7_3).trans ?_
  refine (sx_ior D7_4).trans ?_
  refine (sx_iload_n D7_5 rfl).trans ?_
  refine (sx_bipush D7_6 (by decide)).trans ?_
  refine (sx_ishl D7_8).trans ?_
  refine (sx_ior D7_9).trans ?_
  refine (sx_iload_n D7_10 rfl).trans ?_
  refine (sx_bipush D7_11 (by decide)).trans ?_
  refine (sx_ishl D7_13).trans ?_
  refine (sx_ior D7_14).trans ?_
  exact sx_ireturn D7_15 (by decide +kernel)
theorem E8_0 {d : Nat} {a0 : Int} {S : SS} {I : II}  : ev d 8 0 [(0, a0)] [] S I = some ((0, iAnd a0 7), S, I) := by
  refine (sx_iload_n D8_0 rfl).trans ?_
  refine (sx_bipush D8_1 (by decide)).trans ?_
  refine (sx_iand D8_3).trans ?_
  exact sx_ireturn D8_4 (by decide +kernel)
theorem E9_0 {d : Nat} {a0 : Int} {S : SS} {I : II}  : ev d 9 0 [(0, a0)] [] S I = some ((0, iAnd (iShr a0 10) 127), S, I) := by
  refine (sx_iload_n D9_0 rfl).trans ?_
  refine (sx_bipush D9_1 (by decide)).trans ?_
  refine (sx_ishr D9_3).trans ?_
  refine (sx_bipush D9_4 (by decide)).trans ?_
  refine (sx_iand D9_6).trans ?_
  exact sx_ireturn D9_7 (by decide +kernel)
theorem E10_0 {d : Nat} {a0 : Int} {S : SS} {I : II}  : ev d 10 0 [(0, a0)] [] S I = some ((0, iAnd (iShr a0 3) 15), S, I) := by
  refine (sx_iload_n D10_0 rfl).trans ?_
  refine (sx_iconst D10_1).trans ?_
  refine (sx_ishr D10_2).trans ?_
  refine (sx_bipush D10_3 (by decide)).trans ?_
  refine (sx_iand D10_5).trans ?_
  exact sx_ireturn D10_6 (by decide +kernel)
theorem E11_0 {d : Nat} {a0 : Int} {S : SS} {I : II}  : ev d 11 0 [(0, a0)] [] S I = some ((0, iAnd (iShr a0 7) 7), S, I) := by
  refine (sx_iload_n D11_0 rfl).trans ?_
  refine (sx_bipush D11_1 (by decide)).trans ?_
  refine (sx_ishr D11_3).trans ?_
  refine (sx_bipush D11_4 (by decide)).trans ?_
  refine (sx_iand D11_6).trans ?_
  exact sx_ireturn D11_7 (by decide +kernel)
theorem E12_0 {d : Nat} {a0 a1 : Int} {S : SS} {I : II} (h0 : (0 : Int) ≤ a0) (h1 : KO S a0 0) : ev d 12 0 [(2, a0), (0, a1)] [] S I = some (uU, S, (up2 I a0 0 a1)) := by
  refine (sx_aload_n D12_0 rfl).trans ?_
  refine (sx_obj (q := (10, 0, 1162)) D12_1 (by decide +kernel) rfl h0 (by simp [cat])).trans ?_
  refine (sx_aload_n D12_4 rfl).trans ?_
  refine (sx_iload_n D12_5 rfl).trans ?_
  refine (sx_pfI (q := (0, 0, 0, 1163)) (j := 0) D12_6 (by decide +kernel) (by decide) (by decide) h1 rfl).trans ?_
  exact sx_return D12_9 (by decide +kernel)
theorem E13_0 {d : Nat} {a0 a1 : Int} {S : SS} {I : II} (h0 : WA S a0) : ev d 13 0 [(2, a0), (0, a1)] [] S I = if 0 < w a1 then (gdR (w a1 ≠ 0) (ev d 13 32 [(2, a0), (0, a1)] [(0, iRem (iUshr (((I a0 0) * 1103515245) + 12345) 16) a1)] S (up2 I a0 0 (((I a0 0) * 1103515245) + 12345)))) else (ev d 13 32 [(2, a0), (0, a1)] [(0, 0)] S (up2 I a0 0 (((I a0 0) * 1103515245) + 12345))) := by
  refine (sx_aload_n D13_0 rfl).trans ?_
  refine (sx_aload_n D13_1 rfl).trans ?_
  refine (sx_gfI (q := (0, 0, 0, 1163)) (j := 0) D13_2 (by decide +kernel) (by decide +kernel) (by decide) (WA_o h0) rfl rfl).trans ?_
  refine (sx_ldcI (q := (1103515245, 1175)) D13_5 (by decide +kernel)).trans ?_
  refine (sx_imul D13_7).trans ?_
  refine (sx_sipush D13_8 (by decide)).trans ?_
  refine (sx_iadd D13_11).trans ?_
  refine (sx_pfI (q := (0, 0, 0, 1163)) (j := 0) D13_12 (by decide +kernel) (by decide) (by decide) (WA_o h0) rfl).trans ?_
  refine (sx_iload_n D13_15 rfl).trans ?_
  refine sx_i0_le (pc' := 31) D13_16 (by decide) (by decide) ?_ ?_ rfl
  · refine (sx_aload_n D13_19 rfl).trans ?_
    refine (sx_gfI (q := (0, 0, 0, 1163)) (j := 0) D13_20 (by decide +kernel) (by decide +kernel) (by decide) (WA_o h0) rfl (up2_same _ _ _ _)).trans ?_
    refine (sx_bipush D13_23 (by decide)).trans ?_
    refine (sx_iushr D13_25).trans ?_
    refine (sx_iload_n D13_26 rfl).trans ?_
    refine (sx_irem D13_27).trans (gdR_to fun g1 => ?_)
    refine (sx_goto (pc' := 32) D13_28 (by decide) (by decide)).trans ?_
    exact rfl
  · refine (sx_iconst D13_31).trans ?_
    exact rfl
theorem E13_32 {d : Nat} {a0 a1 s0 : Int} {S : SS} {I : II}  : ev d 13 32 [(2, a0), (0, a1)] [(0, s0)] S I = some ((0, s0), S, I) := by
  exact sx_ireturn D13_32 (by decide +kernel)
theorem E14_0 {d : Nat} {a0 : Int} {S : SS} {I : II} (h0 : (0 : Int) ≤ a0) : ev d 14 0 [(2, a0), uU] [] S I = ev d 14 9 [(2, a0), uU] [(2, (S.1 : Int)), (2, a0)] (newS S 25 5) (newI S I) := by
  refine (sx_aload_n D14_0 rfl).trans ?_
  refine (sx_obj (q := (10, 0, 70)) D14_1 (by decide +kernel) rfl h0 (by simp [cat])).trans ?_
  refine (sx_aload_n D14_4 rfl).trans ?_
  refine (sx_iconst D14_5).trans ?_
  refine (sx_newref (kk := 25) (q := (3, 71)) D14_6 (by decide +kernel) (by decide) (by decide)).trans ?_
  exact rfl
theorem E14_9 {d : Nat} {a0 s0 s1 : Int} {S : SS} {I : II} (h0 : (0 : Int) ≤ s1) (h1 : KO S s0 1) : ev d 14 9 [(2, a0), uU] [(2, s1), (2, s0)] S I = ev d 14 12 [(2, a0), uU] [] (S.1, S.2.1, S.2.2.1, up2 (sG S) s0 1 s1) I := by
  refine (sx_pfR (q := (1, 1, 0, 149)) (j := 1) D14_9 (by decide +kernel) (by decide +kernel) (by decide) h1 h0 rfl).trans ?_
  exact rfl
theorem E14_12 {d : Nat} {a0 : Int} {S : SS} {I : II}  : ev d 14 12 [(2, a0), uU] [] S I = ev d 14 17 [(2, a0), uU] [(2, (S.1 : Int)), (2, a0)] (newS S 20 10) (newI S I) := by
  refine (sx_aload_n D14_12 rfl).trans ?_
  refine (sx_bipush D14_13 (by decide)).trans ?_
  refine (sx_newarr (kk := 20) D14_15 (by decide) (by decide)).trans ?_
  exact rfl
theorem E14_17 {d : Nat} {a0 s0 s1 : Int} {S : SS} {I : II} (h0 : (0 : Int) ≤ s1) (h1 : KO S s0 1) : ev d 14 17 [(2, a0), uU] [(2, s1), (2, s0)] S I = ev d 14 20 [(2, a0), uU] [] (S.1, S.2.1, S.2.2.1, up2 (sG S) s0 2 s1) I := by
  refine (sx_pfR (q := (1, 2, 0, 150)) (j := 2) D14_17 (by decide +kernel) (by decide +kernel) (by decide) h1 h0 rfl).trans ?_
  exact rfl
theorem E14_20 {d : Nat} {a0 : Int} {S : SS} {I : II}  : ev d 14 20 [(2, a0), uU] [] S I = ev d 14 24 [(2, a0), uU] [(2, (S.1 : Int)), (2, a0)] (newS S 20 4) (newI S I) := by
  refine (sx_aload_n D14_20 rfl).trans ?_
  refine (sx_iconst D14_21).trans ?_
  refine (sx_newarr (kk := 20) D14_22 (by decide) (by decide)).trans ?_
  exact rfl
theorem E14_24 {d : Nat} {a0 s0 s1 : Int} {S : SS} {I : II} (h0 : (0 : Int) ≤ s1) (h1 : KO S s0 1) : ev d 14 24 [(2, a0), uU] [(2, s1), (2, s0)] S I = ev d 14 27 [(2, a0), uU] [] (S.1, S.2.1, S.2.2.1, up2 (sG S) s0 3 s1) I := by
  refine (sx_pfR (q := (1, 3, 0, 151)) (j := 3) D14_24 (by decide +kernel) (by decide +kernel) (by decide) h1 h0 rfl).trans ?_
  exact rfl
theorem E14_27 {d : Nat} {a0 : Int} {S : SS} {I : II}  : ev d 14 27 [(2, a0), uU] [] S I = ev d 14 31 [(2, a0), uU] [(2, (S.1 : Int)), (2, a0)] (newS S 20 4) (newI S I) := by
  refine (sx_aload_n D14_27 rfl).trans ?_
  refine (sx_iconst D14_28).trans ?_
  refine (sx_newarr (kk := 20) D14_29 (by decide) (by decide)).trans ?_
  exact rfl
theorem E14_31 {d : Nat} {a0 s0 s1 : Int} {S : SS} {I : II} (h0 : (0 : Int) ≤ s1) (h1 : KO S s0 1) : ev d 14 31 [(2, a0), uU] [(2, s1), (2, s0)] S I = ev d 14 34 [(2, a0), uU] [] (S.1, S.2.1, S.2.2.1, up2 (sG S) s0 4 s1) I := by
  refine (sx_pfR (q := (1, 4, 0, 152)) (j := 4) D14_31 (by decide +kernel) (by decide +kernel) (by decide) h1 h0 rfl).trans ?_
  exact rfl
theorem E14_34 {d : Nat} {a0 : Int} {S : SS} {I : II}  : ev d 14 34 [(2, a0), uU] [] S I = ev d 14 38 [(2, a0), uU] [(2, (S.1 : Int)), (2, a0)] (newS S 20 4) (newI S I) := by
  refine (sx_aload_n D14_34 rfl).trans ?_
  refine (sx_iconst D14_35).trans ?_
  refine (sx_newarr (kk := 20) D14_36 (by decide) (by decide)).trans ?_
  exact rfl
theorem E14_38 {d : Nat} {a0 s0 s1 : Int} {S : SS} {I : II} (h0 : (0 : Int) ≤ s1) (h1 : KO S s0 1) : ev d 14 38 [(2, a0), uU] [(2, s1), (2, s0)] S I = ev d 14 41 [(2, a0), uU] [] (S.1, S.2.1, S.2.2.1, up2 (sG S) s0 5 s1) I := by
  refine (sx_pfR (q := (1, 5, 0, 153)) (j := 5) D14_38 (by decide +kernel) (by decide +kernel) (by decide) h1 h0 rfl).trans ?_
  exact rfl
theorem E14_41 {d : Nat} {a0 : Int} {S : SS} {I : II}  : ev d 14 41 [(2, a0), uU] [] S I = ev d 14 45 [(2, a0), uU] [(2, (S.1 : Int)), (2, a0)] (newS S 20 4) (newI S I) := by
  refine (sx_aload_n D14_41 rfl).trans ?_
  refine (sx_iconst D14_42).trans ?_
  refine (sx_newarr (kk := 20) D14_43 (by decide) (by decide)).trans ?_
  exact rfl
theorem E14_45 {d : Nat} {a0 s0 s1 : Int} {S : SS} {I : II} (h0 : (0 : Int) ≤ s1) (h1 : KO S s0 1) : ev d 14 45 [(2, a0), uU] [(2, s1), (2, s0)] S I = ev d 14 48 [(2, a0), uU] [] (S.1, S.2.1, S.2.2.1, up2 (sG S) s0 11 s1) I := by
  refine (sx_pfR (q := (1, 11, 0, 164)) (j := 11) D14_45 (by decide +kernel) (by decide +kernel) (by decide) h1 h0 rfl).trans ?_
  exact rfl
theorem E14_48 {d : Nat} {a0 : Int} {S : SS} {I : II}  : ev d 14 48 [(2, a0), uU] [] S I = ev d 14 52 [(2, a0), uU] [(2, (S.1 : Int)), (2, a0)] (newS S 20 4) (newI S I) := by
  refine (sx_aload_n D14_48 rfl).trans ?_
  refine (sx_iconst D14_49).trans ?_
  refine (sx_newarr (kk := 20) D14_50 (by decide) (by decide)).trans ?_
  exact rfl
theorem E14_52 {d : Nat} {a0 s0 s1 : Int} {S : SS} {I : II} (h0 : (0 : Int) ≤ s1) (h1 : KO S s0 1) : ev d 14 52 [(2, a0), uU] [(2, s1), (2, s0)] S I = ev d 14 55 [(2, a0), uU] [] (S.1, S.2.1, S.2.2.1, up2 (sG S) s0 12 s1) I := by
  refine (sx_pfR (q := (1, 12, 0, 165)) (j := 12) D14_52 (by decide +kernel) (by decide +kernel) (by decide) h1 h0 rfl).trans ?_
  exact rfl
theorem E14_55 {d : Nat} {a0 : Int} {S : SS} {I : II}  : ev d 14 55 [(2, a0), uU] [] S I = ev d 14 59 [(2, a0), uU] [(2, (S.1 : Int)), (2, a0)] (newS S 20 4) (newI S I) := by
  refine (sx_aload_n D14_55 rfl).trans ?_
  refine (sx_iconst D14_56).trans ?_
  refine (sx_newarr (kk := 20) D14_57 (by decide) (by decide)).trans ?_
  exact rfl
theorem E14_59 {d : Nat} {a0 s0 s1 : Int} {S : SS} {I : II} (h0 : (0 : Int) ≤ s1) (h1 : KO S s0 1) : ev d 14 59 [(2, a0), uU] [(2, s1), (2, s0)] S I = ev d 14 62 [(2, a0), uU] [] (S.1, S.2.1, S.2.2.1, up2 (sG S) s0 13 s1) I := by
  refine (sx_pfR (q := (1, 13, 0, 166)) (j := 13) D14_59 (by decide +kernel) (by decide +kernel) (by decide) h1 h0 rfl).trans ?_
  exact rfl
theorem E14_62 {d : Nat} {a0 : Int} {S : SS} {I : II}  : ev d 14 62 [(2, a0), uU] [] S I = ev d 14 66 [(2, a0), uU] [(2, (S.1 : Int)), (2, a0)] (newS S 20 4) (newI S I) := by
  refine (sx_aload_n D14_62 rfl).trans ?_
  refine (sx_iconst D14_63).trans ?_
  refine (sx_newarr (kk := 20) D14_64 (by decide) (by decide)).trans ?_
  exact rfl
theorem E14_66 {d : Nat} {a0 s0 s1 : Int} {S : SS} {I : II} (h0 : (0 : Int) ≤ s1) (h1 : KO S s0 1) : ev d 14 66 [(2, a0), uU] [(2, s1), (2, s0)] S I = ev d 14 69 [(2, a0), uU] [] (S.1, S.2.1, S.2.2.1, up2 (sG S) s0 14 s1) I := by
  refine (sx_pfR (q := (1, 14, 0, 167)) (j := 14) D14_66 (by decide +kernel) (by decide +kernel) (by decide) h1 h0 rfl).trans ?_
  exact rfl
theorem E14_69 {d : Nat} {a0 : Int} {S : SS} {I : II}  : ev d 14 69 [(2, a0), uU] [] S I = ev d 14 74 [(2, a0), uU] [(2, (S.1 : Int)), (2, a0)] (newS S 20 80) (newI S I) := by
  refine (sx_aload_n D14_69 rfl).trans ?_
  refine (sx_bipush D14_70 (by decide)).trans ?_
  refine (sx_newarr (kk := 20) D14_72 (by decide) (by decide)).trans ?_
  exact rfl
theorem E14_74 {d : Nat} {a0 s0 s1 : Int} {S : SS} {I : II} (h0 : (0 : Int) ≤ s1) (h1 : KO S s0 1) : ev d 14 74 [(2, a0), uU] [(2, s1), (2, s0)] S I = ev d 14 77 [(2, a0), uU] [] (S.1, S.2.1, S.2.2.1, up2 (sG S) s0 16 s1) I := by
  refine (sx_pfR (q := (1, 16, 0, 170)) (j := 16) D14_74 (by decide +kernel) (by decide +kernel) (by decide) h1 h0 rfl).trans ?_
  exact rfl
theorem E14_77 {d : Nat} {a0 : Int} {S : SS} {I : II}  : ev d 14 77 [(2, a0), uU] [] S I = ev d 14 79 [(2, a0), (0, 0)] [] S I := by
  refine (sx_iconst D14_77).trans ?_
  refine (sx_istore_n (al' := [(2, a0), (0, 0)]) D14_78 (Nat.le_of_ble_eq_true rfl) rfl rfl).trans ?_
  exact rfl
theorem E14_79 {d : Nat} {a0 a1 : Int} {S : SS} {I : II} (h0 : KO S a0 1) : ev d 14 79 [(2, a0), (0, a1)] [] S I = if w a1 < 5 then (ev d 14 92 [(2, a0), (0, a1)] [(2, (S.1 : Int)), (0, a1), (2, sG S a0 1)] (newS S 3 17) (newI S I)) else (ev d 14 110 [(2, a0), (0, 1)] [] S (up2 I a0 6 2)) := by
  refine (sx_iload_n D14_79 rfl).trans ?_
  refine (sx_iconst D14_80).trans ?_
  refine sx_if_ge (pc' := 103) D14_81 (by decide) (by decide) ?_ ?_ rfl (w_small (by decide) (by decide))
  · refine (sx_aload_n D14_84 rfl).trans ?_
    refine (sx_gfR (q := (1, 1, 0, 149)) (b := sG S a0 1) D14_85 (by decide +kernel) (by decide +kernel) (by decide) h0 rfl).trans ?_
    refine (sx_iload_n D14_88 rfl).trans ?_
    refine (sx_newobj (q := (3, 71)) D14_89 (by decide +kernel)).trans ?_
    exact rfl
  · refine (sx_aload_n D14_103 rfl).trans ?_
    refine (sx_iconst D14_104).trans ?_
    refine (sx_pfI (q := (1, 6, 0, 154)) (j := 6) D14_105 (by decide +kernel) (by decide) (by decide) h0 rfl).trans ?_
    refine (sx_iconst D14_108).trans ?_
    refine (sx_istore_n (al' := [(2, a0), (0, 1)]) D14_109 (Nat.le_of_ble_eq_true rfl) rfl rfl).trans ?_
    exact rfl
theorem E14_92 {d : Nat} {a0 a1 s0 s1 s2 : Int} {S : SS} {I : II} (h0 : (0 : Int) ≤ s2) : ev (d + 1) 14 92 [(2, a0), (0, a1)] [(2, s2), (0, s1), (2, s0)] S I = (ev d 74 0 [(2, s2)] [] S I).bind (fun q => ev (d + 1) 14 96 [(2, a0), (0, a1)] (psh q.1 [(2, s2), (0, s1), (2, s0)]) q.2.1 q.2.2) := by
  refine (sx_dup D14_92 (by decide)).trans ?_
  exact sx_spec (ag := [(2, s2)]) (r := [(2, s2), (0, s1), (2, s0)]) (al' := [(2, s2)]) (np := 0) (nl := 1) (q := (5, 74, 74)) D14_93 (by decide +kernel) (by decide) mP_74 mL_74 (Nat.le_of_ble_eq_true rfl) rfl rfl (by simp [cat]) h0 rfl rfl
theorem E14_96 {d : Nat} {a0 a1 s0 s1 s2 ln0 : Int} {S : SS} {I : II} (h0 : KA S s0 25 ln0) (h1 : KO S s2 3) (h2 : 0 ≤ w s1 ∧ w s1 < ln0) : ev d 14 96 [(2, a0), (0, a1)] [(2, s2), (0, s1), (2, s0)] S I = ev d 14 97 [(2, a0), (0, a1)] [] (S.1, S.2.1, S.2.2.1, up2 (sG S) s0 (w s1) s2) I := by
  refine (sx_rs (kk := 25) D14_96 (Or.inr ⟨rfl, h1⟩) h0 h2).trans ?_
  exact rfl
theorem E14_97 {d : Nat} {a0 a1 : Int} {S : SS} {I : II}  : ev d 14 97 [(2, a0), (0, a1)] [] S I = ev d 14 79 [(2, a0), (0, a1 + 1)] [] S I := by
  refine (sx_iinc (al' := [(2, a0), (0, a1 + 1)]) D14_97 rfl rfl).trans ?_
  refine (sx_goto (pc' := 79) D14_100 (by decide) (by decide)).trans ?_
  exact rfl
theorem E14_110 {d : Nat} {a0 a1 ln1 ln2 : Int} {S : SS} {I : II} (h0 : KO S a0 1) (h1 : KA S (sG S a0 3) 20 ln1) (h2 : KA S (sG S a0 4) 20 ln2) : ev (d + 1) 14 110 [(2, a0), (0, a1)] [] S I = if w a1 < 4 then (gdR (0 ≤ w a1 ∧ w a1 < ln1) (gdR (0 ≤ w a1 ∧ w a1 < ln2) (ev (d + 1) 14 110 [(2, a0), (0, a1 + 1)] [] S (up2 (up2 I (sG S a0 3) (w a1) (4 - a1)) (sG S a0 4) (w a1) (4 - a1))))) else ((ev d 323 0 [(2, sG S a0 5), (0, 4), uU, uU] [] S I).bind (fun q => ev (d + 1) 14 147 [(2, a0), (0, a1)] (psh q.1 []) q.2.1 q.2.2)) := by
  refine (sx_iload_n D14_110 rfl).trans ?_
  refine (sx_iconst D14_111).trans ?_
  refine sx_if_ge (pc' := 139) D14_112 (by decide) (by decide) ?_ ?_ rfl (w_small (by decide) (by decide))
  · refine (sx_aload_n D14_115 rfl).trans ?_
    refine (sx_gfR (q := (1, 3, 0, 151)) (b := sG S a0 3) D14_116 (by decide +kernel) (by decide +kernel) (by decide) h0 rfl).trans ?_
    refine (sx_iload_n D14_119 rfl).trans ?_
    refine (sx_iconst D14_120).trans ?_
    refine (sx_iload_n D14_121 rfl).trans ?_
    refine (sx_isub D14_122).trans ?_
    refine (sx_is D14_123 h1).trans (gdR_to fun g1 => ?_)
    refine (sx_aload_n D14_124 rfl).trans ?_
    refine (sx_gfR (q := (1, 4, 0, 152)) (b := sG S a0 4) D14_125 (by decide +kernel) (by decide +kernel) (by decide) h0 rfl).trans ?_
    refine (sx_iload_n D14_128 rfl).trans ?_
    refine (sx_iconst D14_129).trans ?_
    refine (sx_iload_n D14_130 rfl).trans ?_
    refine (sx_isub D14_131).trans ?_
    refine (sx_is D14_132 h2).trans (gdR_to fun g2 => ?_)
    refine (sx_iinc (al' := [(2, a0), (0, a1 + 1)]) D14_133 rfl rfl).trans ?_
    refine (sx_goto (pc' := 110) D14_136 (by decide) (by decide)).trans ?_
    exact rfl
  · refine (sx_aload_n D14_139 rfl).trans ?_
    refine (sx_gfR (q := (1, 5, 0, 153)) (b := sG S a0 5) D14_140 (by decide +kernel) (by decide +kernel) (by decide) h0 rfl).trans ?_
    refine (sx_iconst D14_143).trans ?_
    exact sx_stat (ag := [(2, sG S a0 5), (0, 4)]) (r := []) (al' := [(2, sG S a0 5), (0, 4), uU, uU]) (np := 2) (nl := 4) (q := (0, 323, 143)) D14_144 (by decide +kernel) (by decide) mP_323 mL_323 (Nat.le_of_ble_eq_true rfl) rfl rfl (by simp [cat]) rfl rfl
theorem E14_147 {d : Nat} {a0 a1 : Int} {S : SS} {I : II}  : ev d 14 147 [(2, a0), (0, a1)] [] S I = some (uU, S, I) := by
  exact sx_return D14_147 (by decide +kernel)
theorem E15_0 {d : Nat} {a0 a1 a2 a3 a4 : Int} {S : SS} {I : II} (h0 : DA S a0) : ev d 15 0 [(2, a0), (0, a1), (0, a2), (0, a3), (0, a4), uU] [] S I = if w (I a0 0) < 0 then (ev d 15 15 [(2, a0), (0, a1), (0, a2), (0, a3), (0, a4), uU] [] S I) else (if w (I a0 0) < 5 then (gdR (0 ≤ w (I a0 0) ∧ w (I a0 0) < 5) (gdR (a4 = 0 ∨ a4 = 1) (some ((0, ((up2 (up2 (up2 (up2 (up2 I a0 0 ((I a0 0) + 1)) (a0 + 11 + 4 * (w (I a0 0))) 0 a1) (a0 + 11 + 4 * (w (I a0 0))) 1 a2) (a0 + 11 + 4 * (w (I a0 0))) 2 a3) (a0 + 11 + 4 * (w (I a0 0))) 3 a4) a0 0) - 1), S, (up2 (up2 (up2 (up2 (up2 I a0 0 ((I a0 0) + 1)) (a0 + 11 + 4 * (w (I a0 0))) 0 a1) (a0 + 11 + 4 * (w (I a0 0))) 1 a2) (a0 + 11 + 4 * (w (I a0 0))) 2 a3) (a0 + 11 + 4 * (w (I a0 0))) 3 a4))))) else (ev d 15 15 [(2, a0), (0, a1), (0, a2), (0, a3), (0, a4), uU] [] S I)) := by
  refine (sx_aload_n D15_0 rfl).trans ?_
  refine (sx_gfI (q := (1, 0, 0, 146)) (j := 0) D15_1 (by decide +kernel) (by decide +kernel) (by decide) (DA_o h0) rfl rfl).trans ?_
  refine sx_i0_lt (pc' := 15) D15_4 (by decide) (by decide) ?_ ?_ rfl
  · exact rfl
  · refine (sx_aload_n D15_7 rfl).trans ?_
    refine (sx_gfI (q := (1, 0, 0, 146)) (j := 0) D15_8 (by decide +kernel) (by decide +kernel) (by decide) (DA_o h0) rfl rfl).trans ?_
    refine (sx_iconst D15_11).trans ?_
    refine sx_if_lt (pc' := 18) D15_12 (by decide) (by decide) ?_ ?_ rfl (w_small (by decide) (by decide))
    · refine (sx_aload_n D15_18 rfl).trans ?_
      refine (sx_gfR (q := (1, 1, 0, 149)) (b := a0 + 1) D15_19 (by decide +kernel) (by decide +kernel) (by decide) (DA_o h0) (DA_g1 h0)).trans ?_
      refine (sx_aload_n D15_22 rfl).trans ?_
      refine (sx_gfI (q := (1, 0, 0, 146)) (j := 0) D15_23 (by decide +kernel) (by decide +kernel) (by decide) (DA_o h0) rfl rfl).trans ?_
      refine (sx_ra D15_26 (Or.inr rfl) (DA_k1 h0)).trans (gdR_to fun g1 => ?_)
      rw [(DA_e1 h0 _ g1.1 g1.2).1]
      refine (sx_astore (al' := [(2, a0), (0, a1), (0, a2), (0, a3), (0, a4), (2, a0 + 11 + 4 * (w (I a0 0)))]) D15_27 (Nat.le_of_ble_eq_true rfl) rfl rfl).trans ?_
      refine (sx_aload_n D15_29 rfl).trans ?_
      refine (sx_dup D15_30 (by decide)).trans ?_
      refine (sx_gfI (q := (1, 0, 0, 146)) (j := 0) D15_31 (by decide +kernel) (by decide +kernel) (by decide) (DA_o h0) rfl rfl).trans ?_
      refine (sx_iconst D15_34).trans ?_
      refine (sx_iadd D15_35).trans ?_
      refine (sx_pfI (q := (1, 0, 0, 146)) (j := 0) D15_36 (by decide +kernel) (by decide) (by decide) (DA_o h0) rfl).trans ?_
      refine (sx_aload D15_39 rfl).trans ?_
      refine (sx_iload_n D15_41 rfl).trans ?_
      refine (sx_pfI (q := (3, 0, 1, 79)) (j := 0) D15_42 (by decide +kernel) (by decide) (by decide) (LA_o (DA_e1 h0 _ g1.1 g1.2).2) rfl).trans ?_
      refine (sx_aload D15_45 rfl).trans ?_
      refine (sx_iload_n D15_47 rfl).trans ?_
      refine (sx_pfI (q := (3, 1, 1, 81)) (j := 1) D15_48 (by decide +kernel) (by decide) (by decide) (LA_o (DA_e1 h0 _ g1.1 g1.2).2) rfl).trans ?_
      refine (sx_aload D15_51 rfl).trans ?_
      refine (sx_iload_n D15_53 rfl).trans ?_
      refine (sx_pfI (q := (3, 2, 1, 84)) (j := 2) D15_54 (by decide +kernel) (by decide) (by decide) (LA_o (DA_e1 h0 _ g1.1 g1.2).2) rfl).trans ?_
      refine (sx_aload D15_57 rfl).trans ?_
      refine (sx_iload D15_59 rfl).trans ?_
      refine (sx_pfZ (q := (3, 3, 1, 87)) (j := 3) D15_61 (by decide +kernel) (by decide) (by decide) (LA_o (DA_e1 h0 _ g1.1 g1.2).2) rfl).trans (gdR_to fun g2 => ?_)
      refine (sx_aload_n D15_64 rfl).trans ?_
      refine (sx_gfI (q := (1, 0, 0, 146)) (j := 0) D15_65 (by decide +kernel) (by decide +kernel) (by decide) (DA_o h0) rfl rfl).trans ?_
      refine (sx_iconst D15_68).trans ?_
      refine (sx_isub D15_69).trans ?_
      exact sx_ireturn D15_70 (by decide +kernel)
    · exact rfl
theorem E15_15 {d : Nat} {a0 a1 a2 a3 a4 : Int} {S : SS} {I : II}  : ev d 15 15 [(2, a0), (0, a1), (0, a2), (0, a3), (0, a4), uU] [] S I = some ((0, (-100)), S, I) := by
  refine (sx_bipush D15_15 (by decide)).trans ?_
  exact sx_ireturn D15_17 (by decide +kernel)
theorem E16_0 {d : Nat} {a0 a1 a2 a3 a4 : Int} {S : SS} {I : II}  : ev d 16 0 [(2, a0), (0, a1), (0, a2), (0, a3), (0, a4), uU, uU] [] S I = if w a1 < 0 then (ev d 16 15 [(2, a0), (0, a1), (0, a2), (0, a3), (0, a4), uU, uU] [] S I) else (if 3 < w a1 then (ev d 16 15 [(2, a0), (0, a1), (0, a2), (0, a3), (0, a4), uU, uU] [] S I) else (if 10 < w a2 then (ev d 16 15 [(2, a0), (0, a1), (0, a2), (0, a3), (0, a4), uU, uU] [] S I) else (if w a1 = 3 then (ev d 16 27 [(2, a0), (0, a1), (0, a2), (0, a3), (0, a4), uU, uU] [(0, 1)] S I) else (ev d 16 27 [(2, a0), (0, a1), (0, a2), (0, a3), (0, a4), uU, uU] [(0, 0)] S I)))) := by
  refine (sx_iload_n D16_0 rfl).trans ?_
  refine sx_i0_lt (pc' := 15) D16_1 (by decide) (by decide) ?_ ?_ rfl
  · exact rfl
  · refine (sx_iload_n D16_4 rfl).trans ?_
    refine (sx_iconst D16_5).trans ?_
    refine sx_if_gt (pc' := 15) D16_6 (by decide) (by decide) ?_ ?_ rfl (w_small (by decide) (by decide))
    · exact rfl
    · refine (sx_iload_n D16_9 rfl).trans ?_
      refine (sx_bipush D16_10 (by decide)).trans ?_
      refine sx_if_le (pc' := 17) D16_12 (by decide) (by decide) ?_ ?_ rfl (w_small (by decide) (by decide))
      · exact rfl
      · refine (sx_iload_n D16_17 rfl).trans ?_
        refine (sx_iconst D16_18).trans ?_
        refine sx_if_ne (pc' := 26) D16_19 (by decide) (by decide) ?_ ?_ rfl (w_small (by decide) (by decide))
        · refine (sx_iconst D16_22).trans ?_
          refine (sx_goto (pc' := 27) D16_23 (by decide) (by decide)).trans ?_
          exact rfl
        · refine (sx_iconst D16_26).trans ?_
          exact rfl
theorem E16_15 {d : Nat} {a0 a1 a2 a3 a4 : Int} {S : SS} {I : II}  : ev d 16 15 [(2, a0), (0, a1), (0, a2), (0, a3), (0, a4), uU, uU] [] S I = some ((0, (-1)), S, I) := by
  refine (sx_iconst D16_15).trans ?_
  exact sx_ireturn D16_16 (by decide +kernel)
theorem E16_27 {d : Nat} {a0 a1 a2 a3 a4 s0 : Int} {S : SS} {I : II}  : ev d 16 27 [(2, a0), (0, a1), (0, a2), (0, a3), (0, a4), uU, uU] [(0, s0)] S I = if w s0 = 0 then (if w a2 < 0 then (some ((0, (-2)), S, I)) else (ev d 16 41 [(2, a0), (0, a1), (0, a2), (0, a3), (0, a4), (0, s0), uU] [] S I)) else (ev d 16 41 [(2, a0), (0, a1), (0, a2), (0, a3), (0, a4), (0, s0), uU] [] S I) := by
  refine (sx_istore (al' := [(2, a0), (0, a1), (0, a2), (0, a3), (0, a4), (0, s0), uU]) D16_27 (Nat.le_of_ble_eq_true rfl) rfl rfl).trans ?_
  refine (sx_iload D16_29 rfl).trans ?_
  refine sx_i0_ne (pc' := 41) D16_31 (by decide) (by decide) ?_ ?_ rfl
  · refine (sx_iload_n D16_34 rfl).trans ?_
    refine sx_i0_ge (pc' := 41) D16_35 (by decide) (by decide) ?_ ?_ rfl
    · refine (sx_bipush D16_38 (by decide)).trans ?_
      exact sx_ireturn D16_40 (by decide +kernel)
    · exact rfl
  · exact rfl
theorem E16_41 {d : Nat} {a0 a1 a2 a3 a4 a5 : Int} {S : SS} {I : II}  : ev d 16 41 [(2, a0), (0, a1), (0, a2), (0, a3), (0, a4), (0, a5), uU] [] S I = ev d 16 44 [(2, a0), (0, a1), (0, a2), (0, a3), (0, a4), (0, a5), (0, 0)] [] S I := by
  refine (sx_iconst D16_41).trans ?_
  refine (sx_istore (al' := [(2, a0), (0, a1), (0, a2), (0, a3), (0, a4), (0, a5), (0, 0)]) D16_42 (Nat.le_of_ble_eq_true rfl) rfl rfl).trans ?_
  exact rfl
theorem E16_44 {d : Nat} {a0 a1 a2 a3 a4 a5 a6 : Int} {S : SS} {I : II} (h0 : DA S a0) : ev (d + 1) 16 44 [(2, a0), (0, a1), (0, a2), (0, a3), (0, a4), (0, a5), (0, a6)] [] S I = if w a6 < 10 then (if w a5 = 0 then (if w a6 < w a2 then ((ev d 17 0 [(0, a1), (0, a3 + (a6 * a4)), uU] [] S I).bind (fun q => ev (d + 1) 16 83 [(2, a0), (0, a1), (0, a2), (0, a3), (0, a4), (0, a5), (0, a6)] (psh q.1 [(0, a6), (2, a0 + 2)]) q.2.1 q.2.2)) else (ev (d + 1) 16 68 [(2, a0), (0, a1), (0, a2), (0, a3), (0, a4), (0, a5), (0, a6)] [(0, a6), (2, a0 + 2)] S I)) else (ev (d + 1) 16 68 [(2, a0), (0, a1), (0, a2), (0, a3), (0, a4), (0, a5), (0, a6)] [(0, a6), (2, a0 + 2)] S I)) else (if w a5 = 0 then ((ev d 18 0 [(2, a0), uU, uU] [] S I).bind (fun q => ev (d + 1) 16 104 [(2, a0), (0, a1), (0, a2), (0, a3), (0, a4), (0, a5), (0, a6)] (psh q.1 []) q.2.1 q.2.2)) else (ev (d + 1) 16 104 [(2, a0), (0, a1), (0, a2), (0, a3), (0, a4), (0, a5), (0, a6)] [(0, (-3))] S I)) := by
  refine (sx_iload D16_44 rfl).trans ?_
  refine (sx_bipush D16_46 (by decide)).trans ?_
  refine sx_if_ge (pc' := 90) D16_48 (by decide) (by decide) ?_ ?_ rfl (w_small (by decide) (by decide))
  · refine (sx_aload_n D16_51 rfl).trans ?_
    refine (sx_gfR (q := (1, 2, 0, 150)) (b := a0 + 2) D16_52 (by decide +kernel) (by decide +kernel) (by decide) (DA_o h0) (DA_g2 h0)).trans ?_
    refine (sx_iload D16_55 rfl).trans ?_
    refine (sx_iload D16_57 rfl).trans ?_
    refine sx_i0_ne (pc' := 68) D16_59 (by decide) (by decide) ?_ ?_ rfl
    · refine (sx_iload D16_62 rfl).trans ?_
      refine (sx_iload_n D16_64 rfl).trans ?_
      refine sx_if_lt (pc' := 72) D16_65 (by decide) (by decide) ?_ ?_ rfl rfl
      · refine (sx_iload_n D16_72 rfl).trans ?_
        refine (sx_iload_n D16_73 rfl).trans ?_
        refine (sx_iload D16_74 rfl).trans ?_
        refine (sx_iload D16_76 rfl).trans ?_
        refine (sx_imul D16_78).trans ?_
        refine (sx_iadd D16_79).trans ?_
        exact sx_stat (ag := [(0, a1), (0, a3 + (a6 * a4))]) (r := [(0, a6), (2, a0 + 2)]) (al' := [(0, a1), (0, a3 + (a6 * a4)), uU]) (np := 2) (nl := 3) (q := (0, 17, 512)) D16_80 (by decide +kernel) (by decide) mP_17 mL_17 (Nat.le_of_ble_eq_true rfl) rfl rfl (by simp [cat]) rfl rfl
      · exact rfl
    · exact rfl
  · refine (sx_iload D16_90 rfl).trans ?_
    refine sx_i0_eq (pc' := 100) D16_92 (by decide) (by decide) ?_ ?_ rfl
    · refine (sx_aload_n D16_100 rfl).trans ?_
      exact sx_virt (c := 3) (ag := [(2, a0)]) (r := []) (al' := [(2, a0), uU, uU]) (np := 0) (nl := 3) (q := (1, 18, 517)) D16_101 (by decide +kernel) (by decide) mP_18 mL_18 mC_18 (Nat.le_of_ble_eq_true rfl) rfl rfl (by simp [cat]) (by decide) (DA_o h0) rfl rfl
    · refine (sx_bipush D16_95 (by decide)).trans ?_
      refine (sx_goto (pc' := 104) D16_97 (by decide) (by decide)).trans ?_
      exact rfl
theorem E16_68 {d : Nat} {a0 a1 a2 a3 a4 a5 a6 s0 s1 : Int} {S : SS} {I : II}  : ev d 16 68 [(2, a0), (0, a1), (0, a2), (0, a3), (0, a4), (0, a5), (0, a6)] [(0, s1), (2, s0)] S I = ev d 16 83 [(2, a0), (0, a1), (0, a2), (0, a3), (0, a4), (0, a5), (0, a6)] [(0, 0), (0, s1), (2, s0)] S I := by
  refine (sx_iconst D16_68).trans ?_
  refine (sx_goto (pc' := 83) D16_69 (by decide) (by decide)).trans ?_
  exact rfl
theorem E16_83 {d : Nat} {a0 a1 a2 a3 a4 a5 a6 s0 s1 s2 ln0 : Int} {S : SS} {I : II} (h0 : KA S s0 20 ln0) : ev d 16 83 [(2, a0), (0, a1), (0, a2), (0, a3), (0, a4), (0, a5), (0, a6)] [(0, s2), (0, s1), (2, s0)] S I = gdR (0 ≤ w s1 ∧ w s1 < ln0) (ev d 16 44 [(2, a0), (0, a1), (0, a2), (0, a3), (0, a4), (0, a5), (0, a6 + 1)] [] S (up2 I s0 (w s1) s2)) := by
  refine (sx_is D16_83 h0).trans (gdR_to fun g1 => ?_)
  refine (sx_iinc (al' := [(2, a0), (0, a1), (0, a2), (0, a3), (0, a4), (0, a5), (0, a6 + 1)]) D16_84 rfl rfl).trans ?_
  refine (sx_goto (pc' := 44) D16_87 (by decide) (by decide)).trans ?_
  exact rfl
theorem E16_104 {d : Nat} {a0 a1 a2 a3 a4 a5 a6 s0 : Int} {S : SS} {I : II}  : ev d 16 104 [(2, a0), (0, a1), (0, a2), (0, a3), (0, a4), (0, a5), (0, a6)] [(0, s0)] S I = some ((0, s0), S, I) := by
  exact sx_ireturn D16_104 (by decide +kernel)
theorem E17_0 {d : Nat} {a0 a1 : Int} {S : SS} {I : II}  : ev d 17 0 [(0, a0), (0, a1), uU] [] S I = if w a0 = 0 then (ev d 17 20 [(0, a0), (0, a1), uU] [(0, iB a1)] S I) else (if w a0 = 1 then (ev d 17 20 [(0, a0), (0, a1), uU] [(0, iS a1)] S I) else (ev d 17 20 [(0, a0), (0, a1), uU] [(0, a1)] S I)) := by
  refine (sx_iload_n D17_0 rfl).trans ?_
  refine sx_i0_ne (pc' := 9) D17_1 (by decide) (by decide) ?_ ?_ rfl
  · refine (sx_iload_n D17_4 rfl).trans ?_
    refine (sx_i2b D17_5).trans ?_
    refine (sx_goto (pc' := 20) D17_6 (by decide) (by decide)).trans ?_
    exact rfl
  · refine (sx_iload_n D17_9 rfl).trans ?_
    refine (sx_iconst D17_10).trans ?_
    refine sx_if_ne (pc' := 19) D17_11 (by decide) (by decide) ?_ ?_ rfl (w_small (by decide) (by decide))
    · refine (sx_iload_n D17_14 rfl).trans ?_
      refine (sx_i2s D17_15).trans ?_
      refine (sx_goto (pc' := 20) D17_16 (by decide) (by decide)).trans ?_
      exact rfl
    · refine (sx_iload_n D17_19 rfl).trans ?_
      exact rfl
theorem E17_20 {d : Nat} {a0 a1 s0 : Int} {S : SS} {I : II}  : ev d 17 20 [(0, a0), (0, a1), uU] [(0, s0)] S I = some ((0, if (if 0 < w s0 then w s0 else 0) < 99 then (if 0 < w s0 then w s0 else 0) else 99), S, I) := by
  refine (sx_istore_n (al' := [(0, a0), (0, a1), (0, s0)]) D17_20 (Nat.le_of_ble_eq_true rfl) rfl rfl).trans ?_
  refine (sx_bipush D17_21 (by decide)).trans ?_
  refine (sx_iconst D17_23).trans ?_
  refine (sx_iload_n D17_24 rfl).trans ?_
  refine (sx_max (q := (12, 0, 515)) D17_25 (by decide +kernel) rfl (by simp [cat]) (w_small (by decide) (by decide)) rfl).trans ?_
  refine (sx_min (q := (13, 0, 516)) D17_28 (by decide +kernel) rfl (by simp [cat]) (w_small (by decide) (by decide)) (w_ite (w_toInt _) (w_small (by decide) (by decide)))).trans ?_
  exact sx_ireturn D17_31 (by decide +kernel)
theorem E18_0 {d : Nat} {a0 : Int} {S : SS} {I : II}  : ev d 18 0 [(2, a0), uU, uU] [] S I = ev d 18 4 [(2, a0), (0, 0), (0, 0)] [] S I := by
  refine (sx_iconst D18_0).trans ?_
  refine (sx_istore_n (al' := [(2, a0), (0, 0), uU]) D18_1 (Nat.le_of_ble_eq_true rfl) rfl rfl).trans ?_
  refine (sx_iconst D18_2).trans ?_
  refine (sx_istore_n (al' := [(2, a0), (0, 0), (0, 0)]) D18_3 (Nat.le_of_ble_eq_true rfl) rfl rfl).trans ?_
  exact rfl
theorem E18_4 {d : Nat} {a0 a1 a2 : Int} {S : SS} {I : II} (h0 : DA S a0) : ev d 18 4 [(2, a0), (0, a1), (0, a2)] [] S I = if w a2 < 10 then (gdR (0 ≤ w a2 ∧ w a2 < 10) (ev d 18 4 [(2, a0), (0, a1 + (I (a0 + 2) (w a2))), (0, a2 + 1)] [] S I)) else (some ((0, a1), S, I)) := by
  refine (sx_iload_n D18_4 rfl).trans ?_
  refine (sx_bipush D18_5 (by decide)).trans ?_
  refine sx_if_ge (pc' := 25) D18_7 (by decide) (by decide) ?_ ?_ rfl (w_small (by decide) (by decide))
  · refine (sx_iload_n D18_10 rfl).trans ?_
    refine (sx_aload_n D18_11 rfl).trans ?_
    refine (sx_gfR (q := (1, 2, 0, 150)) (b := a0 + 2) D18_12 (by decide +kernel) (by decide +kernel) (by decide) (DA_o h0) (DA_g2 h0)).trans ?_
    refine (sx_iload_n D18_15 rfl).trans ?_
    refine (sx_ia D18_16 (DA_k2 h0) rfl).trans (gdR_to fun g1 => ?_)
    refine (sx_iadd D18_17).trans ?_
    refine (sx_istore_n (al' := [(2, a0), (0, a1 + (I (a0 + 2) (w a2))), (0, a2)]) D18_18 (Nat.le_of_ble_eq_true rfl) rfl rfl).trans ?_
    refine (sx_iinc (al' := [(2, a0), (0, a1 + (I (a0 + 2) (w a2))), (0, a2 + 1)]) D18_19 rfl rfl).trans ?_
    refine (sx_goto (pc' := 4) D18_22 (by decide) (by decide)).trans ?_
    exact rfl
  · refine (sx_iload_n D18_25 rfl).trans ?_
    exact sx_ireturn D18_26 (by decide +kernel)
theorem E19_0 {d : Nat} {a0 a1 : Int} {S : SS} {I : II} (h0 : DA S a1) (h1 : DA S a0) : ev d 19 0 [(2, a0), (2, a1), uU] [] S I = ev d 19 10 [(2, a0), (2, a1), (0, 0)] [] S (up2 I a0 0 (I a1 0)) := by
  refine (sx_aload_n D19_0 rfl).trans ?_
  refine (sx_aload_n D19_1 rfl).trans ?_
  refine (sx_gfI (q := (1, 0, 0, 146)) (j := 0) D19_2 (by decide +kernel) (by decide +kernel) (by decide) (DA_o h0) rfl rfl).trans ?_
  refine (sx_pfI (q := (1, 0, 0, 146)) (j := 0) D19_5 (by decide +kernel) (by decide) (by decide) (DA_o h1) rfl).trans ?_
  refine (sx_iconst D19_8).trans ?_
  refine (sx_istore_n (al' := [(2, a0), (2, a1), (0, 0)]) D19_9 (Nat.le_of_ble_eq_true rfl) rfl rfl).trans ?_
  exact rfl
theorem E19_10 {d : Nat} {a0 a1 a2 : Int} {S : SS} {I : II} (h0 : DA S a0) (h1 : DA S a1) (h2 : a0 + 31 ≤ a1 ∨ a1 + 31 ≤ a0) : ev (d + 1) 19 10 [(2, a0), (2, a1), (0, a2)] [] S I = if w a2 < 5 then (gdR (0 ≤ w a2 ∧ w a2 < 5) (gdR (0 ≤ w a2 ∧ w a2 < 5) ((ev d 75 0 [(2, a0 + 11 + 4 * (w a2)), (2, a1 + 11 + 4 * (w a2))] [] S I).bind (fun q => ev (d + 1) 19 30 [(2, a0), (2, a1), (0, a2)] (psh q.1 []) q.2.1 q.2.2)))) else (some (uU, S, (cpy (up2 (cpy (cpy (cpy (cpy (up2 (up2 (up2 (up2 (up2 (cpy (cpy (cpy (cpy I (a1 + 2) 0 (a0 + 2) 0 10) (a1 + 3) 0 (a0 + 3) 0 4) (a1 + 4) 0 (a0 + 4) 0 4) (a1 + 5) 0 (a0 + 5) 0 4) a0 6 (I a1 6)) a0 7 (I a1 7)) a0 8 (I a1 8)) a0 9 (I a1 9)) a0 10 (I a1 10)) (a1 + 6) 0 (a0 + 6) 0 4) (a1 + 7) 0 (a0 + 7) 0 4) (a1 + 8) 0 (a0 + 8) 0 4) (a1 + 9) 0 (a0 + 9) 0 4) a0 15 (I a1 15)) (a1 + 10) 0 (a0 + 10) 0 80))) := by
  refine (sx_iload_n D19_10 rfl).trans ?_
  refine (sx_iconst D19_11).trans ?_
  refine sx_if_ge (pc' := 36) D19_12 (by decide) (by decide) ?_ ?_ rfl (w_small (by decide) (by decide))
  · refine (sx_aload_n D19_15 rfl).trans ?_
    refine (sx_gfR (q := (1, 1, 0, 149)) (b := a0 + 1) D19_16 (by decide +kernel) (by decide +kernel) (by decide) (DA_o h0) (DA_g1 h0)).trans ?_
    refine (sx_iload_n D19_19 rfl).trans ?_
    refine (sx_ra D19_20 (Or.inr rfl) (DA_k1 h0)).trans (gdR_to fun g1 => ?_)
    rw [(DA_e1 h0 _ g1.1 g1.2).1]
    refine (sx_aload_n D19_21 rfl).trans ?_
    refine (sx_gfR (q := (1, 1, 0, 149)) (b := a1 + 1) D19_22 (by decide +kernel) (by decide +kernel) (by decide) (DA_o h1) (DA_g1 h1)).trans ?_
    refine (sx_iload_n D19_25 rfl).trans ?_
    refine (sx_ra D19_26 (Or.inr rfl) (DA_k1 h1)).trans (gdR_to fun g2 => ?_)
    rw [(DA_e1 h1 _ g2.1 g2.2).1]
    exact sx_virt (c := 5) (ag := [(2, a0 + 11 + 4 * (w a2)), (2, a1 + 11 + 4 * (w a2))]) (r := []) (al' := [(2, a0 + 11 + 4 * (w a2)), (2, a1 + 11 + 4 * (w a2))]) (np := 1) (nl := 2) (q := (1, 75, 533)) D19_27 (by decide +kernel) (by decide) mP_75 mL_75 mC_75 (Nat.le_of_ble_eq_true rfl) rfl rfl (by simp [cat]) (by decide) (LA_o (DA_e1 h0 _ g1.1 g1.2).2) rfl rfl
  · refine (sx_aload_n D19_36 rfl).trans ?_
    refine (sx_gfR (q := (1, 2, 0, 150)) (b := a1 + 2) D19_37 (by decide +kernel) (by decide +kernel) (by decide) (DA_o h1) (DA_g2 h1)).trans ?_
    refine (sx_iconst D19_40).trans ?_
    refine (sx_aload_n D19_41 rfl).trans ?_
    refine (sx_gfR (q := (1, 2, 0, 150)) (b := a0 + 2) D19_42 (by decide +kernel) (by decide +kernel) (by decide) (DA_o h0) (DA_g2 h0)).trans ?_
    refine (sx_iconst D19_45).trans ?_
    refine (sx_bipush D19_46 (by decide)).trans ?_
    refine (sx_acpy (q := (11, 0, 538)) D19_48 (by decide +kernel) rfl (DA_k2 h1) (DA_k2 h0) (by decide) (by simp [cat])).trans ?_
    show ev (d + 1) 19 51 [(2, a0), (2, a1), (0, a2)] [] S (cpy I (a1 + 2) 0 (a0 + 2) 0 10) = _
    refine (sx_aload_n D19_51 rfl).trans ?_
    refine (sx_gfR (q := (1, 3, 0, 151)) (b := a1 + 3) D19_52 (by decide +kernel) (by decide +kernel) (by decide) (DA_o h1) (DA_g3 h1)).trans ?_
    refine (sx_iconst D19_55).trans ?_
    refine (sx_aload_n D19_56 rfl).trans ?_
    refine (sx_gfR (q := (1, 3, 0, 151)) (b := a0 + 3) D19_57 (by decide +kernel) (by decide +kernel) (by decide) (DA_o h0) (DA_g3 h0)).trans ?_
    refine (sx_iconst D19_60).trans ?_
    refine (sx_iconst D19_61).trans ?_
    refine (sx_acpy (q := (11, 0, 538)) D19_62 (by decide +kernel) rfl (DA_k3 h1) (DA_k3 h0) (by decide) (by simp [cat])).trans ?_
    show ev (d + 1) 19 65 [(2, a0), (2, a1), (0, a2)] [] S (cpy (cpy I (a1 + 2) 0 (a0 + 2) 0 10) (a1 + 3) 0 (a0 + 3) 0 4) = _
    refine (sx_aload_n D19_65 rfl).trans ?_
    refine (sx_gfR (q := (1, 4, 0, 152)) (b := a1 + 4) D19_66 (by decide +kernel) (by decide +kernel) (by decide) (DA_o h1) (DA_g4 h1)).trans ?_
    refine (sx_iconst D19_69).trans ?_
    refine (sx_aload_n D19_70 rfl).trans ?_
    refine (sx_gfR (q := (1, 4, 0, 152)) (b := a0 + 4) D19_71 (by decide +kernel) (by decide +kernel) (by decide) (DA_o h0) (DA_g4 h0)).trans ?_
    refine (sx_iconst D19_74).trans ?_
    refine (sx_iconst D19_75).trans ?_
    refine (sx_acpy (q := (11, 0, 538)) D19_76 (by decide +kernel) rfl (DA_k4 h1) (DA_k4 h0) (by decide) (by simp [cat])).trans ?_
    show ev (d + 1) 19 79 [(2, a0), (2, a1), (0, a2)] [] S (cpy (cpy (cpy I (a1 + 2) 0 (a0 + 2) 0 10) (a1 + 3) 0 (a0 + 3) 0 4) (a1 + 4) 0 (a0 + 4) 0 4) = _
    refine (sx_aload_n D19_79 rfl).trans ?_
    refine (sx_gfR (q := (1, 5, 0, 153)) (b := a1 + 5) D19_80 (by decide +kernel) (by decide +kernel) (by decide) (DA_o h1) (DA_g5 h1)).trans ?_
    refine (sx_iconst D19_83).trans ?_
    refine (sx_aload_n D19_84 rfl).trans ?_
    refine (sx_gfR (q := (1, 5, 0, 153)) (b := a0 + 5) D19_85 (by decide +kernel) (by decide +kernel) (by decide) (DA_o h0) (DA_g5 h0)).trans ?_
    refine (sx_iconst D19_88).trans ?_
    refine (sx_iconst D19_89).trans ?_
    refine (sx_acpy (q := (11, 0, 538)) D19_90 (by decide +kernel) rfl (DA_k5 h1) (DA_k5 h0) (by decide) (by simp [cat])).trans ?_
    show ev (d + 1) 19 93 [(2, a0), (2, a1), (0, a2)] [] S (cpy (cpy (cpy (cpy I (a1 + 2) 0 (a0 + 2) 0 10) (a1 + 3) 0 (a0 + 3) 0 4) (a1 + 4) 0 (a0 + 4) 0 4) (a1 + 5) 0 (a0 + 5) 0 4) = _
    refine (sx_aload_n D19_93 rfl).trans ?_
    refine (sx_aload_n D19_94 rfl).trans ?_
    refine (sx_gfI (q := (1, 6, 0, 154)) (j := 6) D19_95 (by decide +kernel) (by decide +kernel) (by decide) (DA_o h1) rfl ((cpy_cell (by omega)).trans ((cpy_cell (by omega)).trans ((cpy_cell (by omega)).trans (cpy_cell (by omega)))))).trans ?_
    refine (sx_pfI (q := (1, 6, 0, 154)) (j := 6) D19_98 (by decide +kernel) (by decide) (by decide) (DA_o h0) rfl).trans ?_
    refine (sx_aload_n D19_101 rfl).trans ?_
    refine (sx_aload_n D19_102 rfl).trans ?_
    refine (sx_gfI (q := (1, 7, 0, 156)) (j := 7) D19_103 (by decide +kernel) (by decide +kernel) (by decide) (DA_o h1) rfl ((up2_cell (by omega)).trans ((cpy_cell (by omega)).trans ((cpy_cell (by omega)).trans ((cpy_cell (by omega)).trans (cpy_cell (by omega))))))).trans ?_
    refine (sx_pfI (q := (1, 7, 0, 156)) (j := 7) D19_106 (by decide +kernel) (by decide) (by decide) (DA_o h0) rfl).trans ?_
    refine (sx_aload_n D19_109 rfl).trans ?_
    refine (sx_aload_n D19_110 rfl).trans ?_
    refine (sx_gfI (q := (1, 8, 0, 158)) (j := 8) D19_111 (by decide +kernel) (by decide +kernel) (by decide) (DA_o h1) rfl ((up2_cell (by omega)).trans ((up2_cell (by omega)).trans ((cpy_cell (by omega)).trans ((cpy_cell (by omega)).trans ((cpy_cell (by omega)).trans (cpy_cell (by omega)))))))).trans ?_
    refine (sx_pfI (q := (1, 8, 0, 158)) (j := 8) D19_114 (by decide +kernel) (by decide) (by decide) (DA_o h0) rfl).trans ?_
    refine (sx_aload_n D19_117 rfl).trans ?_
    refine (sx_aload_n D19_118 rfl).trans ?_
    refine (sx_gfI (q := (1, 9, 0, 160)) (j := 9) D19_119 (by decide +kernel) (by decide +kernel) (by decide) (DA_o h1) rfl ((up2_cell (by omega)).trans ((up2_cell (by omega)).trans ((up2_cell (by omega)).trans ((cpy_cell (by omega)).trans ((cpy_cell (by omega)).trans ((cpy_cell (by omega)).trans (cpy_cell (by omega))))))))).trans ?_
    refine (sx_pfI (q := (1, 9, 0, 160)) (j := 9) D19_122 (by decide +kernel) (by decide) (by decide) (DA_o h0) rfl).trans ?_
    refine (sx_aload_n D19_125 rfl).trans ?_
    refine (sx_aload_n D19_126 rfl).trans ?_
    refine (sx_gfI (q := (1, 10, 0, 162)) (j := 10) D19_127 (by decide +kernel) (by decide +kernel) (by decide) (DA_o h1) rfl ((up2_cell (by omega)).trans ((up2_cell (by omega)).trans ((up2_cell (by omega)).trans ((up2_cell (by omega)).trans ((cpy_cell (by omega)).trans ((cpy_cell (by omega)).trans ((cpy_cell (by omega)).trans (cpy_cell (by omega)))))))))).trans ?_
    refine (sx_pfI (q := (1, 10, 0, 162)) (j := 10) D19_130 (by decide +kernel) (by decide) (by decide) (DA_o h0) rfl).trans ?_
    refine (sx_aload_n D19_133 rfl).trans ?_
    refine (sx_gfR (q := (1, 11, 0, 164)) (b := a1 + 6) D19_134 (by decide +kernel) (by decide +kernel) (by decide) (DA_o h1) (DA_g11 h1)).trans ?_
    refine (sx_iconst D19_137).trans ?_
    refine (sx_aload_n D19_138 rfl).trans ?_
    refine (sx_gfR (q := (1, 11, 0, 164)) (b := a0 + 6) D19_139 (by decide +kernel) (by decide +kernel) (by decide) (DA_o h0) (DA_g11 h0)).trans ?_
    refine (sx_iconst D19_142).trans ?_
    refine (sx_iconst D19_143).trans ?_
    refine (sx_acpy (q := (11, 0, 538)) D19_144 (by decide +kernel) rfl (DA_k11 h1) (DA_k11 h0) (by decide) (by simp [cat])).trans ?_
    show ev (d + 1) 19 147 [(2, a0), (2, a1), (0, a2)] [] S (cpy (up2 (up2 (up2 (up2 (up2 (cpy (cpy (cpy (cpy I (a1 + 2) 0 (a0 + 2) 0 10) (a1 + 3) 0 (a0 + 3) 0 4) (a1 + 4) 0 (a0 + 4) 0 4) (a1 + 5) 0 (a0 + 5) 0 4) a0 6 (I a1 6)) a0 7 (I a1 7)) a0 8 (I a1 8)) a0 9 (I a1 9)) a0 10 (I a1 10)) (a1 + 6) 0 (a0 + 6) 0 4) = _
    refine (sx_aload_n D19_147 rfl).trans ?_
    refine (sx_gfR (q := (1, 12, 0, 165)) (b := a1 + 7) D19_148 (by decide +kernel) (by decide +kernel) (by decide) (DA_o h1) (DA_g12 h1)).trans ?_
    refine (sx_iconst D19_151).trans ?_
    refine (sx_aload_n D19_152 rfl).trans ?_
    refine (sx_gfR (q := (1, 12, 0, 165)) (b := a0 + 7) D19_153 (by decide +kernel) (by decide +kernel) (by decide) (DA_o h0) (DA_g12 h0)).trans ?_
    refine (sx_iconst D19_156).trans ?_
    refine (sx_iconst D19_157).trans ?_
    refine (sx_acpy (q := (11, 0, 538)) D19_158 (by decide +kernel) rfl (DA_k12 h1) (DA_k12 h0) (by decide) (by simp [cat])).trans ?_
    show ev (d + 1) 19 161 [(2, a0), (2, a1), (0, a2)] [] S (cpy (cpy (up2 (up2 (up2 (up2 (up2 (cpy (cpy (cpy (cpy I (a1 + 2) 0 (a0 + 2) 0 10) (a1 + 3) 0 (a0 + 3) 0 4) (a1 + 4) 0 (a0 + 4) 0 4) (a1 + 5) 0 (a0 + 5) 0 4) a0 6 (I a1 6)) a0 7 (I a1 7)) a0 8 (I a1 8)) a0 9 (I a1 9)) a0 10 (I a1 10)) (a1 + 6) 0 (a0 + 6) 0 4) (a1 + 7) 0 (a0 + 7) 0 4) = _
    refine (sx_aload_n D19_161 rfl).trans ?_
    refine (sx_gfR (q := (1, 13, 0, 166)) (b := a1 + 8) D19_162 (by decide +kernel) (by decide +kernel) (by decide) (DA_o h1) (DA_g13 h1)).trans ?_
    refine (sx_iconst D19_165).trans ?_
    refine (sx_aload_n D19_166 rfl).trans ?_
    refine (sx_gfR (q := (1, 13, 0, 166)) (b := a0 + 8) D19_167 (by decide +kernel) (by decide +kernel) (by decide) (DA_o h0) (DA_g13 h0)).trans ?_
    refine (sx_iconst D19_170).trans ?_
    refine (sx_iconst D19_171).trans ?_
    refine (sx_acpy (q := (11, 0, 538)) D19_172 (by decide +kernel) rfl (DA_k13 h1) (DA_k13 h0) (by decide) (by simp [cat])).trans ?_
    show ev (d + 1) 19 175 [(2, a0), (2, a1), (0, a2)] [] S (cpy (cpy (cpy (up2 (up2 (up2 (up2 (up2 (cpy (cpy (cpy (cpy I (a1 + 2) 0 (a0 + 2) 0 10) (a1 + 3) 0 (a0 + 3) 0 4) (a1 + 4) 0 (a0 + 4) 0 4) (a1 + 5) 0 (a0 + 5) 0 4) a0 6 (I a1 6)) a0 7 (I a1 7)) a0 8 (I a1 8)) a0 9 (I a1 9)) a0 10 (I a1 10)) (a1 + 6) 0 (a0 + 6) 0 4) (a1 + 7) 0 (a0 + 7) 0 4) (a1 + 8) 0 (a0 + 8) 0 4) = _
    refine (sx_aload_n D19_175 rfl).trans ?_
    refine (sx_gfR (q := (1, 14, 0, 167)) (b := a1 + 9) D19_176 (by decide +kernel) (by decide +kernel) (by decide) (DA_o h1) (DA_g14 h1)).trans ?_
    refine (sx_iconst D19_179).trans ?_
    refine (sx_aload_n D19_180 rfl).trans ?_
    refine (sx_gfR (q := (1, 14, 0, 167)) (b := a0 + 9) D19_181 (by decide +kernel) (by decide +kernel) (by decide) (DA_o h0) (DA_g14 h0)).trans ?_
    refine (sx_iconst D19_184).trans ?_
    refine (sx_iconst D19_185).trans ?_
    refine (sx_acpy (q := (11, 0, 538)) D19_186 (by decide +kernel) rfl (DA_k14 h1) (DA_k14 h0) (by decide) (by simp [cat])).trans ?_
    show ev (d + 1) 19 189 [(2, a0), (2, a1), (0, a2)] [] S (cpy (cpy (cpy (cpy (up2 (up2 (up2 (up2 (up2 (cpy (cpy (cpy (cpy I (a1 + 2) 0 (a0 + 2) 0 10) (a1 + 3) 0 (a0 + 3) 0 4) (a1 + 4) 0 (a0 + 4) 0 4) (a1 + 5) 0 (a0 + 5) 0 4) a0 6 (I a1 6)) a0 7 (I a1 7)) a0 8 (I a1 8)) a0 9 (I a1 9)) a0 10 (I a1 10)) (a1 + 6) 0 (a0 + 6) 0 4) (a1 + 7) 0 (a0 + 7) 0 4) (a1 + 8) 0 (a0 + 8) 0 4) (a1 + 9) 0 (a0 + 9) 0 4) = _
    refine (sx_aload_n D19_189 rfl).trans ?_
    refine (sx_aload_n D19_190 rfl).trans ?_
    refine (sx_gfI (q := (1, 15, 0, 168)) (j := 15) D19_191 (by decide +kernel) (by decide +kernel) (by decide) (DA_o h1) rfl ((cpy_cell (by omega)).trans ((cpy_cell (by omega)).trans ((cpy_cell (by omega)).trans ((cpy_cell (by omega)).trans ((up2_cell (by omega)).trans ((up2_cell (by omega)).trans ((up2_cell (by omega)).trans ((up2_cell (by omega)).trans ((up2_cell (by omega)).trans ((cpy_cell (by omega)).trans ((cpy_cell (by omega)).trans ((cpy_cell (by omega)).trans (cpy_cell (by omega))))))))))))))).trans ?_
    refine (sx_pfI (q := (1, 15, 0, 168)) (j := 15) D19_194 (by decide +kernel) (by decide) (by decide) (DA_o h0) rfl).trans ?_
    refine (sx_aload_n D19_197 rfl).trans ?_
    refine (sx_gfR (q := (1, 16, 0, 170)) (b := a1 + 10) D19_198 (by decide +kernel) (by decide +kernel) (by decide) (DA_o h1) (DA_g16 h1)).trans ?_
    refine (sx_iconst D19_201).trans ?_
    refine (sx_aload_n D19_202 rfl).trans ?_
    refine (sx_gfR (q := (1, 16, 0, 170)) (b := a0 + 10) D19_203 (by decide +kernel) (by decide +kernel) (by decide) (DA_o h0) (DA_g16 h0)).trans ?_
    refine (sx_iconst D19_206).trans ?_
    refine (sx_bipush D19_207 (by decide)).trans ?_
    refine (sx_acpy (q := (11, 0, 538)) D19_209 (by decide +kernel) rfl (DA_k16 h1) (DA_k16 h0) (by decide) (by simp [cat])).trans ?_
    show ev (d + 1) 19 212 [(2, a0), (2, a1), (0, a2)] [] S (cpy (up2 (cpy (cpy (cpy (cpy (up2 (up2 (up2 (up2 (up2 (cpy (cpy (cpy (cpy I (a1 + 2) 0 (a0 + 2) 0 10) (a1 + 3) 0 (a0 + 3) 0 4) (a1 + 4) 0 (a0 + 4) 0 4) (a1 + 5) 0 (a0 + 5) 0 4) a0 6 (I a1 6)) a0 7 (I a1 7)) a0 8 (I a1 8)) a0 9 (I a1 9)) a0 10 (I a1 10)) (a1 + 6) 0 (a0 + 6) 0 4) (a1 + 7) 0 (a0 + 7) 0 4) (a1 + 8) 0 (a0 + 8) 0 4) (a1 + 9) 0 (a0 + 9) 0 4) a0 15 (I a1 15)) (a1 + 10) 0 (a0 + 10) 0 80) = _
    exact sx_return D19_212 (by decide +kernel)
theorem E19_30 {d : Nat} {a0 a1 a2 : Int} {S : SS} {I : II}  : ev d 19 30 [(2, a0), (2, a1), (0, a2)] [] S I = ev d 19 10 [(2, a0), (2, a1), (0, a2 + 1)] [] S I := by
  refine (sx_iinc (al' := [(2, a0), (2, a1), (0, a2 + 1)]) D19_30 rfl rfl).trans ?_
  refine (sx_goto (pc' := 10) D19_33 (by decide) (by decide)).trans ?_
  exact rfl
theorem E20_0 {d : Nat} {a0 a1 a2 a3 a4 : Int} {S : SS} {I : II} (h0 : DA S a0) : ev (d + 1) 20 0 [(2, a0), (0, a1), (0, a2), (0, a3), (0, a4), uU] [] S I = (ev d 21 0 [(2, a0), (0, a1)] [] S I).bind (fun q => ev (d + 1) 20 5 [(2, a0), (0, a1), (0, a2), (0, a3), (0, a4), uU] (psh q.1 []) q.2.1 q.2.2) := by
  refine (sx_aload_n D20_0 rfl).trans ?_
  refine (sx_iload_n D20_1 rfl).trans ?_
  exact sx_virt (c := 3) (ag := [(2, a0), (0, a1)]) (r := []) (al' := [(2, a0), (0, a1)]) (np := 1) (nl := 2) (q := (1, 21, 543)) D20_2 (by decide +kernel) (by decide) mP_21 mL_21 mC_21 (Nat.le_of_ble_eq_true rfl) rfl rfl (by simp [cat]) (by decide) (DA_o h0) rfl rfl
theorem E20_5 {d : Nat} {a0 a1 a2 a3 a4 s0 : Int} {S : SS} {I : II} (h0 : s0 = -1 ∨ LA S s0) : ev (d + 1) 20 5 [(2, a0), (0, a1), (0, a2), (0, a3), (0, a4), uU] [(2, s0)] S I = if s0 = -1 then (ev (d + 1) 20 43 [(2, a0), (0, a1), (0, a2), (0, a3), (0, a4), (2, s0)] [] S I) else (if w a2 < 0 then (ev (d + 1) 20 43 [(2, a0), (0, a1), (0, a2), (0, a3), (0, a4), (2, s0)] [] S I) else (if 4 < w a2 then (ev (d + 1) 20 43 [(2, a0), (0, a1), (0, a2), (0, a3), (0, a4), (2, s0)] [] S I) else (if w a3 < 0 then (ev (d + 1) 20 43 [(2, a0), (0, a1), (0, a2), (0, a3), (0, a4), (2, s0)] [] S I) else (if w a3 < 10 then (if w a4 < 0 then (ev (d + 1) 20 43 [(2, a0), (0, a1), (0, a2), (0, a3), (0, a4), (2, s0)] [] S I) else (if 99 < w a4 then (ev (d + 1) 20 43 [(2, a0), (0, a1), (0, a2), (0, a3), (0, a4), (2, s0)] [] S I) else ((ev d 76 0 [(2, s0), (0, a2), (0, a3), (0, a4), uU] [] S I).bind (fun q => ev (d + 1) 20 54 [(2, a0), (0, a1), (0, a2), (0, a3), (0, a4), (2, s0)] (psh q.1 []) q.2.1 q.2.2)))) else (ev (d + 1) 20 43 [(2, a0), (0, a1), (0, a2), (0, a3), (0, a4), (2, s0)] [] S I))))) := by
  refine (sx_astore (al' := [(2, a0), (0, a1), (0, a2), (0, a3), (0, a4), (2, s0)]) D20_5 (Nat.le_of_ble_eq_true rfl) rfl rfl).trans ?_
  refine (sx_aload D20_7 rfl).trans ?_
  refine sx_ifnull (pc' := 43) D20_9 (by decide) (by decide) (null_ok (h0.imp id (fun h => (LA_o h).1))) (fun _ => ?_) (fun n1 => ?_)
  · exact rfl
  · refine (sx_iload_n D20_12 rfl).trans ?_
    refine sx_i0_lt (pc' := 43) D20_13 (by decide) (by decide) ?_ ?_ rfl
    · exact rfl
    · refine (sx_iload_n D20_16 rfl).trans ?_
      refine (sx_iconst D20_17).trans ?_
      refine sx_if_gt (pc' := 43) D20_18 (by decide) (by decide) ?_ ?_ rfl (w_small (by decide) (by decide))
      · exact rfl
      · refine (sx_iload_n D20_21 rfl).trans ?_
        refine sx_i0_lt (pc' := 43) D20_22 (by decide) (by decide) ?_ ?_ rfl
        · exact rfl
        · refine (sx_iload_n D20_25 rfl).trans ?_
          refine (sx_bipush D20_26 (by decide)).trans ?_
          refine sx_if_ge (pc' := 43) D20_28 (by decide) (by decide) ?_ ?_ rfl (w_small (by decide) (by decide))
          · refine (sx_iload D20_31 rfl).trans ?_
            refine sx_i0_lt (pc' := 43) D20_33 (by decide) (by decide) ?_ ?_ rfl
            · exact rfl
            · refine (sx_iload D20_36 rfl).trans ?_
              refine (sx_bipush D20_38 (by decide)).trans ?_
              refine sx_if_le (pc' := 45) D20_40 (by decide) (by decide) ?_ ?_ rfl (w_small (by decide) (by decide))
              · exact rfl
              · refine (sx_aload D20_45 rfl).trans ?_
                refine (sx_iload_n D20_47 rfl).trans ?_
                refine (sx_iload_n D20_48 rfl).trans ?_
                refine (sx_iload D20_49 rfl).trans ?_
                exact sx_virt (c := 5) (ag := [(2, s0), (0, a2), (0, a3), (0, a4)]) (r := []) (al' := [(2, s0), (0, a2), (0, a3), (0, a4), uU]) (np := 3) (nl := 5) (q := (1, 76, 547)) D20_51 (by decide +kernel) (by decide) mP_76 mL_76 mC_76 (Nat.le_of_ble_eq_true rfl) rfl rfl (by simp [cat]) (by decide) (LA_o (h0.resolve_left n1)) rfl rfl
          · exact rfl
theorem E20_43 {d : Nat} {a0 a1 a2 a3 a4 a5 : Int} {S : SS} {I : II}  : ev d 20 43 [(2, a0), (0, a1), (0, a2), (0, a3), (0, a4), (2, a5)] [] S I = some ((0, (-1)), S, I) := by
  refine (sx_iconst D20_43).trans ?_
  exact sx_ireturn D20_44 (by decide +kernel)
theorem E20_54 {d : Nat} {a0 a1 a2 a3 a4 a5 s0 : Int} {S : SS} {I : II}  : ev d 20 54 [(2, a0), (0, a1), (0, a2), (0, a3), (0, a4), (2, a5)] [(0, s0)] S I = some ((0, s0), S, I) := by
  exact sx_ireturn D20_54 (by decide +kernel)
theorem E21_0 {d : Nat} {a0 a1 : Int} {S : SS} {I : II} (h0 : DA S a0) : ev d 21 0 [(2, a0), (0, a1)] [] S I = if w a1 < 0 then (ev d 21 26 [(2, a0), (0, a1)] [] S I) else (if w a1 < w (I a0 0) then (if w a1 < 5 then (gdR (0 ≤ w a1 ∧ w a1 < 5) (ev d 21 27 [(2, a0), (0, a1)] [(2, a0 + 11 + 4 * (w a1))] S I)) else (ev d 21 26 [(2, a0), (0, a1)] [] S I)) else (ev d 21 26 [(2, a0), (0, a1)] [] S I)) := by
  refine (sx_iload_n D21_0 rfl).trans ?_
  refine sx_i0_lt (pc' := 26) D21_1 (by decide) (by decide) ?_ ?_ rfl
  · exact rfl
  · refine (sx_iload_n D21_4 rfl).trans ?_
    refine (sx_aload_n D21_5 rfl).trans ?_
    refine (sx_gfI (q := (1, 0, 0, 146)) (j := 0) D21_6 (by decide +kernel) (by decide +kernel) (by decide) (DA_o h0) rfl rfl).trans ?_
    refine sx_if_ge (pc' := 26) D21_9 (by decide) (by decide) ?_ ?_ rfl rfl
    · refine (sx_iload_n D21_12 rfl).trans ?_
      refine (sx_iconst D21_13).trans ?_
      refine sx_if_ge (pc' := 26) D21_14 (by decide) (by decide) ?_ ?_ rfl (w_small (by decide) (by decide))
      · refine (sx_aload_n D21_17 rfl).trans ?_
        refine (sx_gfR (q := (1, 1, 0, 149)) (b := a0 + 1) D21_18 (by decide +kernel) (by decide +kernel) (by decide) (DA_o h0) (DA_g1 h0)).trans ?_
        refine (sx_iload_n D21_21 rfl).trans ?_
        refine (sx_ra D21_22 (Or.inr rfl) (DA_k1 h0)).trans (gdR_to fun g1 => ?_)
        rw [(DA_e1 h0 _ g1.1 g1.2).1]
        refine (sx_goto (pc' := 27) D21_23 (by decide) (by decide)).trans ?_
        exact rfl
      · exact rfl
    · exact rfl
theorem E21_26 {d : Nat} {a0 a1 : Int} {S : SS} {I : II}  : ev d 21 26 [(2, a0), (0, a1)] [] S I = ev d 21 27 [(2, a0), (0, a1)] [(2, (-1))] S I := by
  refine (sx_aconst_null D21_26).trans ?_
  exact rfl
theorem E21_27 {d : Nat} {a0 a1 s0 : Int} {S : SS} {I : II}  : ev d 21 27 [(2, a0), (0, a1)] [(2, s0)] S I = some ((2, s0), S, I) := by
  exact sx_areturn (s := "QueueDrive$Lane") D21_27 (by decide +kernel)
theorem E22_0 {d : Nat} {a0 a1 : Int} {S : SS} {I : II} (h0 : DA S a0) : ev (d + 1) 22 0 [(2, a0), (0, a1), uU, uU] [] S I = (ev d 21 0 [(2, a0), (0, a1)] [] S I).bind (fun q => ev (d + 1) 22 5 [(2, a0), (0, a1), uU, uU] (psh q.1 []) q.2.1 q.2.2) := by
  refine (sx_aload_n D22_0 rfl).trans ?_
  refine (sx_iload_n D22_1 rfl).trans ?_
  exact sx_virt (c := 3) (ag := [(2, a0), (0, a1)]) (r := []) (al' := [(2, a0), (0, a1)]) (np := 1) (nl := 2) (q := (1, 21, 543)) D22_2 (by decide +kernel) (by decide) mP_21 mL_21 mC_21 (Nat.le_of_ble_eq_true rfl) rfl rfl (by simp [cat]) (by decide) (DA_o h0) rfl rfl
theorem E22_5 {d : Nat} {a0 a1 s0 : Int} {S : SS} {I : II} (h0 : s0 = -1 ∨ LA S s0) : ev (d + 1) 22 5 [(2, a0), (0, a1), uU, uU] [(2, s0)] S I = if s0 = -1 then (some ((0, (-1)), S, I)) else ((ev d 80 0 [(2, s0), uU] [] S I).bind (fun q => ev (d + 1) 22 16 [(2, a0), (0, a1), (2, s0), uU] (psh q.1 []) q.2.1 q.2.2)) := by
  refine (sx_astore_n (al' := [(2, a0), (0, a1), (2, s0), uU]) D22_5 (Nat.le_of_ble_eq_true rfl) rfl rfl).trans ?_
  refine (sx_aload_n D22_6 rfl).trans ?_
  refine sx_ifnonnull (pc' := 12) D22_7 (by decide) (by decide) (null_ok (h0.imp id (fun h => (LA_o h).1))) (fun _ => ?_) (fun n1 => ?_)
  · refine (sx_iconst D22_10).trans ?_
    exact sx_ireturn D22_11 (by decide +kernel)
  · refine (sx_aload_n D22_12 rfl).trans ?_
    exact sx_virt (c := 5) (ag := [(2, s0)]) (r := []) (al' := [(2, s0), uU]) (np := 0) (nl := 2) (q := (1, 80, 579)) D22_13 (by decide +kernel) (by decide) mP_80 mL_80 mC_80 (Nat.le_of_ble_eq_true rfl) rfl rfl (by simp [cat]) (by decide) (LA_o (h0.resolve_left n1)) rfl rfl
theorem E22_16 {d : Nat} {a0 a1 a2 s0 : Int} {S : SS} {I : II} (h0 : DA S a0) : ev d 22 16 [(2, a0), (0, a1), (2, a2), uU] [(0, s0)] S I = if w s0 = 1 then (ev d 22 32 [(2, a0), (0, a1), (2, a2), (0, s0)] [] S (up2 I a0 8 ((I a0 8) + 1))) else (ev d 22 32 [(2, a0), (0, a1), (2, a2), (0, s0)] [] S I) := by
  refine (sx_istore_n (al' := [(2, a0), (0, a1), (2, a2), (0, s0)]) D22_16 (Nat.le_of_ble_eq_true rfl) rfl rfl).trans ?_
  refine (sx_iload_n D22_17 rfl).trans ?_
  refine (sx_iconst D22_18).trans ?_
  refine sx_if_ne (pc' := 32) D22_19 (by decide) (by decide) ?_ ?_ rfl (w_small (by decide) (by decide))
  · refine (sx_aload_n D22_22 rfl).trans ?_
    refine (sx_dup D22_23 (by decide)).trans ?_
    refine (sx_gfI (q := (1, 8, 0, 158)) (j := 8) D22_24 (by decide +kernel) (by decide +kernel) (by decide) (DA_o h0) rfl rfl).trans ?_
    refine (sx_iconst D22_27).trans ?_
    refine (sx_iadd D22_28).trans ?_
    refine (sx_pfI (q := (1, 8, 0, 158)) (j := 8) D22_29 (by decide +kernel) (by decide) (by decide) (DA_o h0) rfl).trans ?_
    exact rfl
  · exact rfl
theorem E22_32 {d : Nat} {a0 a1 a2 a3 : Int} {S : SS} {I : II} (h0 : DA S a0) : ev d 22 32 [(2, a0), (0, a1), (2, a2), (0, a3)] [] S I = if w a3 = 0 then (ev d 22 46 [(2, a0), (0, a1), (2, a2), (0, a3)] [] S (up2 I a0 9 ((I a0 9) + 1))) else (ev d 22 46 [(2, a0), (0, a1), (2, a2), (0, a3)] [] S I) := by
  refine (sx_iload_n D22_32 rfl).trans ?_
  refine sx_i0_ne (pc' := 46) D22_33 (by decide) (by decide) ?_ ?_ rfl
  · refine (sx_aload_n D22_36 rfl).trans ?_
    refine (sx_dup D22_37 (by decide)).trans ?_
    refine (sx_gfI (q := (1, 9, 0, 160)) (j := 9) D22_38 (by decide +kernel) (by decide +kernel) (by decide) (DA_o h0) rfl rfl).trans ?_
    refine (sx_iconst D22_41).trans ?_
    refine (sx_iadd D22_42).trans ?_
    refine (sx_pfI (q := (1, 9, 0, 160)) (j := 9) D22_43 (by decide +kernel) (by decide) (by decide) (DA_o h0) rfl).trans ?_
    exact rfl
  · exact rfl
theorem E22_46 {d : Nat} {a0 a1 a2 a3 : Int} {S : SS} {I : II}  : ev d 22 46 [(2, a0), (0, a1), (2, a2), (0, a3)] [] S I = some ((0, a3), S, I) := by
  refine (sx_iload_n D22_46 rfl).trans ?_
  exact sx_ireturn D22_47 (by decide +kernel)
theorem E23_0 {d : Nat} {a0 a1 a2 : Int} {S : SS} {I : II} (h0 : DA S a0) : ev (d + 1) 23 0 [(2, a0), (0, a1), (2, a2), (2, 3), uU, uU, uU, uU] [] S I = if w a1 < 0 then (ev (d + 1) 23 10 [(2, a0), (0, a1), (2, a2), (2, 3), uU, uU, uU, uU] [] S I) else (if 60 < w a1 then (ev (d + 1) 23 10 [(2, a0), (0, a1), (2, a2), (2, 3), uU, uU, uU, uU] [] S I) else ((ev d 24 0 [(2, a0), (0, 7), uU, uU] [] S I).bind (fun q => ev (d + 1) 23 18 [(2, a0), (0, a1), (2, a2), (2, 3), uU, uU, uU, uU] (psh q.1 []) q.2.1 q.2.2))) := by
  refine (sx_iload_n D23_0 rfl).trans ?_
  refine sx_i0_lt (pc' := 10) D23_1 (by decide) (by decide) ?_ ?_ rfl
  · exact rfl
  · refine (sx_iload_n D23_4 rfl).trans ?_
    refine (sx_bipush D23_5 (by decide)).trans ?_
    refine sx_if_le (pc' := 12) D23_7 (by decide) (by decide) ?_ ?_ rfl (w_small (by decide) (by decide))
    · exact rfl
    · refine (sx_aload_n D23_12 rfl).trans ?_
      refine (sx_bipush D23_13 (by decide)).trans ?_
      exact sx_virt (c := 3) (ag := [(2, a0), (0, 7)]) (r := []) (al' := [(2, a0), (0, 7), uU, uU]) (np := 1) (nl := 4) (q := (1, 24, 591)) D23_15 (by decide +kernel) (by decide) mP_24 mL_24 mC_24 (Nat.le_of_ble_eq_true rfl) rfl rfl (by simp [cat]) (by decide) (DA_o h0) rfl rfl
theorem E23_10 {d : Nat} {a0 a1 a2 : Int} {S : SS} {I : II}  : ev d 23 10 [(2, a0), (0, a1), (2, a2), (2, 3), uU, uU, uU, uU] [] S I = some ((0, (-1)), S, I) := by
  refine (sx_iconst D23_10).trans ?_
  exact sx_ireturn D23_11 (by decide +kernel)
theorem E23_18 {d : Nat} {a0 a1 a2 s0 : Int} {S : SS} {I : II} (h0 : DA S a0) : ev (d + 1) 23 18 [(2, a0), (0, a1), (2, a2), (2, 3), uU, uU, uU, uU] [(0, s0)] S I = (ev d 24 0 [(2, a0), (0, 9), uU, uU] [] S I).bind (fun q => ev (d + 1) 23 26 [(2, a0), (0, a1), (2, a2), (2, 3), (0, s0), uU, uU, uU] (psh q.1 []) q.2.1 q.2.2) := by
  refine (sx_istore (al' := [(2, a0), (0, a1), (2, a2), (2, 3), (0, s0), uU, uU, uU]) D23_18 (Nat.le_of_ble_eq_true rfl) rfl rfl).trans ?_
  refine (sx_aload_n D23_20 rfl).trans ?_
  refine (sx_bipush D23_21 (by decide)).trans ?_
  exact sx_virt (c := 3) (ag := [(2, a0), (0, 9)]) (r := []) (al' := [(2, a0), (0, 9), uU, uU]) (np := 1) (nl := 4) (q := (1, 24, 591)) D23_23 (by decide +kernel) (by decide) mP_24 mL_24 mC_24 (Nat.le_of_ble_eq_true rfl) rfl rfl (by simp [cat]) (by decide) (DA_o h0) rfl rfl
theorem E23_26 {d : Nat} {a0 a1 a2 a4 s0 : Int} {S : SS} {I : II}  : ev d 23 26 [(2, a0), (0, a1), (2, a2), (2, 3), (0, a4), uU, uU, uU] [(0, s0)] S I = ev d 23 34 [(2, a0), (0, a1), (2, a2), (2, 3), (0, a4), (0, s0), (0, 0), (0, 0)] [] S I := by
  refine (sx_istore (al' := [(2, a0), (0, a1), (2, a2), (2, 3), (0, a4), (0, s0), uU, uU]) D23_26 (Nat.le_of_ble_eq_true rfl) rfl rfl).trans ?_
  refine (sx_iconst D23_28).trans ?_
  refine (sx_istore (al' := [(2, a0), (0, a1), (2, a2), (2, 3), (0, a4), (0, s0), (0, 0), uU]) D23_29 (Nat.le_of_ble_eq_true rfl) rfl rfl).trans ?_
  refine (sx_iconst D23_31).trans ?_
  refine (sx_istore (al' := [(2, a0), (0, a1), (2, a2), (2, 3), (0, a4), (0, s0), (0, 0), (0, 0)]) D23_32 (Nat.le_of_ble_eq_true rfl) rfl rfl).trans ?_
  exact rfl
theorem E23_34 {d : Nat} {a0 a1 a2 a4 a5 a6 a7 : Int} {S : SS} {I : II} (h0 : DA S a0) : ev (d + 1) 23 34 [(2, a0), (0, a1), (2, a2), (2, 3), (0, a4), (0, a5), (0, a6), (0, a7)] [] S I = if w a7 < w a1 then ((ev d 25 0 [(2, a0), (2, a2), uU] [] S I).bind (fun q => ev (d + 1) 23 45 [(2, a0), (0, a1), (2, a2), (2, 3), (0, a4), (0, a5), (0, a6), (0, a7)] (psh q.1 []) q.2.1 q.2.2)) else ((ev d 24 0 [(2, a0), (0, 7), uU, uU] [] S I).bind (fun q => ev (d + 1) 23 75 [(2, a0), (0, a1), (2, a2), (2, 3), (0, a4), (0, a5), (0, a6), (0, a7)] (psh q.1 [(2, 3)]) q.2.1 q.2.2)) := by
  refine (sx_iload D23_34 rfl).trans ?_
  refine (sx_iload_n D23_36 rfl).trans ?_
  refine sx_if_ge (pc' := 68) D23_37 (by decide) (by decide) ?_ ?_ rfl rfl
  · refine (sx_aload_n D23_40 rfl).trans ?_
    refine (sx_aload_n D23_41 rfl).trans ?_
    exact sx_virt (c := 3) (ag := [(2, a0), (2, a2)]) (r := []) (al' := [(2, a0), (2, a2), uU]) (np := 1) (nl := 3) (q := (1, 25, 599)) D23_42 (by decide +kernel) (by decide) mP_25 mL_25 mC_25 (Nat.le_of_ble_eq_true rfl) rfl rfl (by simp [cat]) (by decide) (DA_o h0) rfl rfl
  · refine (sx_aload_n D23_68 rfl).trans ?_
    refine (sx_aload_n D23_69 rfl).trans ?_
    refine (sx_bipush D23_70 (by decide)).trans ?_
    exact sx_virt (c := 3) (ag := [(2, a0), (0, 7)]) (r := [(2, 3)]) (al' := [(2, a0), (0, 7), uU, uU]) (np := 1) (nl := 4) (q := (1, 24, 591)) D23_72 (by decide +kernel) (by decide) mP_24 mL_24 mC_24 (Nat.le_of_ble_eq_true rfl) rfl rfl (by simp [cat]) (by decide) (DA_o h0) rfl rfl
theorem E23_45 {d : Nat} {a0 a1 a2 a4 a5 a6 a7 : Int} {S : SS} {I : II} (h0 : DA S a0) : ev d 23 45 [(2, a0), (0, a1), (2, a2), (2, 3), (0, a4), (0, a5), (0, a6), (0, a7)] [] S I = if w (I a0 10) = 0 then (ev d 23 59 [(2, a0), (0, a1), (2, a2), (2, 3), (0, a4), (0, a5), (0, a6), (0, a7)] [(0, 1), (0, a6)] S I) else (ev d 23 59 [(2, a0), (0, a1), (2, a2), (2, 3), (0, a4), (0, a5), (0, a6), (0, a7)] [(0, 0), (0, a6)] S I) := by
  refine (sx_iload D23_45 rfl).trans ?_
  refine (sx_aload_n D23_47 rfl).trans ?_
  refine (sx_gfI (q := (1, 10, 0, 162)) (j := 10) D23_48 (by decide +kernel) (by decide +kernel) (by decide) (DA_o h0) rfl rfl).trans ?_
  refine sx_i0_ne (pc' := 58) D23_51 (by decide) (by decide) ?_ ?_ rfl
  · refine (sx_iconst D23_54).trans ?_
    refine (sx_goto (pc' := 59) D23_55 (by decide) (by decide)).trans ?_
    exact rfl
  · refine (sx_iconst D23_58).trans ?_
    exact rfl
theorem E23_59 {d : Nat} {a0 a1 a2 a4 a5 a6 a7 s0 s1 : Int} {S : SS} {I : II}  : ev d 23 59 [(2, a0), (0, a1), (2, a2), (2, 3), (0, a4), (0, a5), (0, a6), (0, a7)] [(0, s1), (0, s0)] S I = ev d 23 34 [(2, a0), (0, a1), (2, a2), (2, 3), (0, a4), (0, a5), (0, s0 + s1), (0, a7 + 1)] [] S I := by
  refine (sx_iadd D23_59).trans ?_
  refine (sx_istore (al' := [(2, a0), (0, a1), (2, a2), (2, 3), (0, a4), (0, a5), (0, s0 + s1), (0, a7)]) D23_60 (Nat.le_of_ble_eq_true rfl) rfl rfl).trans ?_
  refine (sx_iinc (al' := [(2, a0), (0, a1), (2, a2), (2, 3), (0, a4), (0, a5), (0, s0 + s1), (0, a7 + 1)]) D23_62 rfl rfl).trans ?_
  refine (sx_goto (pc' := 34) D23_65 (by decide) (by decide)).trans ?_
  exact rfl
theorem E23_75 {d : Nat} {a0 a1 a2 a4 a5 a6 a7 s1 : Int} {S : SS} {I : II} (h0 : RA S 3) : ev (d + 1) 23 75 [(2, a0), (0, a1), (2, a2), (2, 3), (0, a4), (0, a5), (0, a6), (0, a7)] [(0, s1), (2, 3)] S I = (ev d 109 0 [(2, 3), (1, w (s1 - a4)), uU, (1, w a6), uU] [] S I).bind (fun q => ev (d + 1) 23 85 [(2, a0), (0, a1), (2, a2), (2, 3), (0, a4), (0, a5), (0, a6), (0, a7)] (psh q.1 []) q.2.1 q.2.2) := by
  refine (sx_iload D23_75 rfl).trans ?_
  refine (sx_isub D23_77).trans ?_
  refine (sx_i2l D23_78).trans ?_
  refine (sx_iload D23_79 rfl).trans ?_
  refine (sx_i2l D23_81).trans ?_
  exact sx_virt (c := 7) (ag := [(2, 3), (1, w (s1 - a4)), (1, w a6)]) (r := []) (al' := [(2, 3), (1, w (s1 - a4)), uU, (1, w a6), uU]) (np := 2) (nl := 5) (q := (1, 109, 723)) D23_82 (by decide +kernel) (by decide) mP_109 mL_109 mC_109 (Nat.le_of_ble_eq_true rfl) rfl rfl (by simp [cat]) (by decide) (RA_o h0) rfl rfl
theorem E23_85 {d : Nat} {a0 a1 a2 a4 a5 a6 a7 : Int} {S : SS} {I : II} (h0 : DA S a0) : ev (d + 1) 23 85 [(2, a0), (0, a1), (2, a2), (2, 3), (0, a4), (0, a5), (0, a6), (0, a7)] [] S I = (ev d 24 0 [(2, a0), (0, 9), uU, uU] [] S I).bind (fun q => ev (d + 1) 23 91 [(2, a0), (0, a1), (2, a2), (2, 3), (0, a4), (0, a5), (0, a6), (0, a7)] (psh q.1 []) q.2.1 q.2.2) := by
  refine (sx_aload_n D23_85 rfl).trans ?_
  refine (sx_bipush D23_86 (by decide)).trans ?_
  exact sx_virt (c := 3) (ag := [(2, a0), (0, 9)]) (r := []) (al' := [(2, a0), (0, 9), uU, uU]) (np := 1) (nl := 4) (q := (1, 24, 591)) D23_88 (by decide +kernel) (by decide) mP_24 mL_24 mC_24 (Nat.le_of_ble_eq_true rfl) rfl rfl (by simp [cat]) (by decide) (DA_o h0) rfl rfl
theorem E23_91 {d : Nat} {a0 a1 a2 a4 a5 a6 a7 s0 : Int} {S : SS} {I : II}  : ev d 23 91 [(2, a0), (0, a1), (2, a2), (2, 3), (0, a4), (0, a5), (0, a6), (0, a7)] [(0, s0)] S I = some ((0, s0 - a5), S, I) := by
  refine (sx_iload D23_91 rfl).trans ?_
  refine (sx_isub D23_93).trans ?_
  exact sx_ireturn D23_94 (by decide +kernel)
theorem E24_0 {d : Nat} {a0 a1 : Int} {S : SS} {I : II}  : ev d 24 0 [(2, a0), (0, a1), uU, uU] [] S I = ev d 24 4 [(2, a0), (0, a1), (0, 0), (0, 0)] [] S I := by
  refine (sx_iconst D24_0).trans ?_
  refine (sx_istore_n (al' := [(2, a0), (0, a1), (0, 0), uU]) D24_1 (Nat.le_of_ble_eq_true rfl) rfl rfl).trans ?_
  refine (sx_iconst D24_2).trans ?_
  refine (sx_istore_n (al' := [(2, a0), (0, a1), (0, 0), (0, 0)]) D24_3 (Nat.le_of_ble_eq_true rfl) rfl rfl).trans ?_
  exact rfl
theorem E24_4 {d : Nat} {a0 a1 a2 a3 : Int} {S : SS} {I : II} (h0 : DA S a0) : ev (d + 1) 24 4 [(2, a0), (0, a1), (0, a2), (0, a3)] [] S I = if w a3 < w (I a0 0) then (if w a3 < 5 then (gdR (0 ≤ w a3 ∧ w a3 < 5) ((ev d 81 0 [(2, a0 + 11 + 4 * (w a3)), (0, a1)] [] S I).bind (fun q => ev (d + 1) 24 28 [(2, a0), (0, a1), (0, a2), (0, a3)] (psh q.1 [(0, a2)]) q.2.1 q.2.2))) else (ev (d + 1) 24 36 [(2, a0), (0, a1), (0, a2), (0, a3)] [] S I)) else (ev (d + 1) 24 36 [(2, a0), (0, a1), (0, a2), (0, a3)] [] S I) := by
  refine (sx_iload_n D24_4 rfl).trans ?_
  refine (sx_aload_n D24_5 rfl).trans ?_
  refine (sx_gfI (q := (1, 0, 0, 146)) (j := 0) D24_6 (by decide +kernel) (by decide +kernel) (by decide) (DA_o h0) rfl rfl).trans ?_
  refine sx_if_ge (pc' := 36) D24_9 (by decide) (by decide) ?_ ?_ rfl rfl
  · refine (sx_iload_n D24_12 rfl).trans ?_
    refine (sx_iconst D24_13).trans ?_
    refine sx_if_ge (pc' := 36) D24_14 (by decide) (by decide) ?_ ?_ rfl (w_small (by decide) (by decide))
    · refine (sx_iload_n D24_17 rfl).trans ?_
      refine (sx_aload_n D24_18 rfl).trans ?_
      refine (sx_gfR (q := (1, 1, 0, 149)) (b := a0 + 1) D24_19 (by decide +kernel) (by decide +kernel) (by decide) (DA_o h0) (DA_g1 h0)).trans ?_
      refine (sx_iload_n D24_22 rfl).trans ?_
      refine (sx_ra D24_23 (Or.inr rfl) (DA_k1 h0)).trans (gdR_to fun g1 => ?_)
      rw [(DA_e1 h0 _ g1.1 g1.2).1]
      refine (sx_iload_n D24_24 rfl).trans ?_
      exact sx_virt (c := 5) (ag := [(2, a0 + 11 + 4 * (w a3)), (0, a1)]) (r := [(0, a2)]) (al' := [(2, a0 + 11 + 4 * (w a3)), (0, a1)]) (np := 1) (nl := 2) (q := (1, 81, 595)) D24_25 (by decide +kernel) (by decide) mP_81 mL_81 mC_81 (Nat.le_of_ble_eq_true rfl) rfl rfl (by simp [cat]) (by decide) (LA_o (DA_e1 h0 _ g1.1 g1.2).2) rfl rfl
    · exact rfl
  · exact rfl
theorem E24_28 {d : Nat} {a0 a1 a2 a3 s0 s1 : Int} {S : SS} {I : II}  : ev d 24 28 [(2, a0), (0, a1), (0, a2), (0, a3)] [(0, s1), (0, s0)] S I = ev d 24 4 [(2, a0), (0, a1), (0, s0 + s1), (0, a3 + 1)] [] S I := by
  refine (sx_iadd D24_28).trans ?_
  refine (sx_istore_n (al' := [(2, a0), (0, a1), (0, s0 + s1), (0, a3)]) D24_29 (Nat.le_of_ble_eq_true rfl) rfl rfl).trans ?_
  refine (sx_iinc (al' := [(2, a0), (0, a1), (0, s0 + s1), (0, a3 + 1)]) D24_30 rfl rfl).trans ?_
  refine (sx_goto (pc' := 4) D24_33 (by decide) (by decide)).trans ?_
  exact rfl
theorem E24_36 {d : Nat} {a0 a1 a2 a3 : Int} {S : SS} {I : II}  : ev d 24 36 [(2, a0), (0, a1), (0, a2), (0, a3)] [] S I = some ((0, a2), S, I) := by
  refine (sx_iload_n D24_36 rfl).trans ?_
  exact sx_ireturn D24_37 (by decide +kernel)
theorem E25_0 {d : Nat} {a0 a1 : Int} {S : SS} {I : II} (h0 : DA S a0) : ev (d + 1) 25 0 [(2, a0), (2, a1), uU] [] S I = (ev d 26 0 [(2, a0), uU, uU] [] S I).bind (fun q => ev (d + 1) 25 4 [(2, a0), (2, a1), uU] (psh q.1 []) q.2.1 q.2.2) := by
  refine (sx_aload_n D25_0 rfl).trans ?_
  exact sx_virt (c := 3) (ag := [(2, a0)]) (r := []) (al' := [(2, a0), uU, uU]) (np := 0) (nl := 3) (q := (1, 26, 603)) D25_1 (by decide +kernel) (by decide) mP_26 mL_26 mC_26 (Nat.le_of_ble_eq_true rfl) rfl rfl (by simp [cat]) (by decide) (DA_o h0) rfl rfl
theorem E25_4 {d : Nat} {a0 a1 : Int} {S : SS} {I : II} (h0 : DA S a0) : ev (d + 1) 25 4 [(2, a0), (2, a1), uU] [] S I = (ev d 33 0 [(2, a0), uU, uU, uU] [] S I).bind (fun q => ev (d + 1) 25 8 [(2, a0), (2, a1), uU] (psh q.1 []) q.2.1 q.2.2) := by
  refine (sx_aload_n D25_4 rfl).trans ?_
  exact sx_virt (c := 3) (ag := [(2, a0)]) (r := []) (al' := [(2, a0), uU, uU, uU]) (np := 0) (nl := 4) (q := (1, 33, 646)) D25_5 (by decide +kernel) (by decide) mP_33 mL_33 mC_33 (Nat.le_of_ble_eq_true rfl) rfl rfl (by simp [cat]) (by decide) (DA_o h0) rfl rfl
theorem E25_8 {d : Nat} {a0 a1 : Int} {S : SS} {I : II}  : ev d 25 8 [(2, a0), (2, a1), uU] [] S I = ev d 25 10 [(2, a0), (2, a1), (0, 0)] [] S I := by
  refine (sx_iconst D25_8).trans ?_
  refine (sx_istore_n (al' := [(2, a0), (2, a1), (0, 0)]) D25_9 (Nat.le_of_ble_eq_true rfl) rfl rfl).trans ?_
  exact rfl
theorem E25_10 {d : Nat} {a0 a1 a2 : Int} {S : SS} {I : II} (h0 : DA S a0) : ev (d + 1) 25 10 [(2, a0), (2, a1), (0, a2)] [] S I = if w a2 < w (I a0 0) then (if w a2 < 5 then (gdR (0 ≤ w a2 ∧ w a2 < 5) ((ev d 83 0 [(2, a0 + 11 + 4 * (w a2))] [] S I).bind (fun q => ev (d + 1) 25 32 [(2, a0), (2, a1), (0, a2)] (psh q.1 []) q.2.1 q.2.2))) else (ev (d + 1) 25 38 [(2, a0), (2, a1), (0, a2)] [] S I)) else (ev (d + 1) 25 38 [(2, a0), (2, a1), (0, a2)] [] S I) := by
  refine (sx_iload_n D25_10 rfl).trans ?_
  refine (sx_aload_n D25_11 rfl).trans ?_
  refine (sx_gfI (q := (1, 0, 0, 146)) (j := 0) D25_12 (by decide +kernel) (by decide +kernel) (by decide) (DA_o h0) rfl rfl).trans ?_
  refine sx_if_ge (pc' := 38) D25_15 (by decide) (by decide) ?_ ?_ rfl rfl
  · refine (sx_iload_n D25_18 rfl).trans ?_
    refine (sx_iconst D25_19).trans ?_
    refine sx_if_ge (pc' := 38) D25_20 (by decide) (by decide) ?_ ?_ rfl (w_small (by decide) (by decide))
    · refine (sx_aload_n D25_23 rfl).trans ?_
      refine (sx_gfR (q := (1, 1, 0, 149)) (b := a0 + 1) D25_24 (by decide +kernel) (by decide +kernel) (by decide) (DA_o h0) (DA_g1 h0)).trans ?_
      refine (sx_iload_n D25_27 rfl).trans ?_
      refine (sx_ra D25_28 (Or.inr rfl) (DA_k1 h0)).trans (gdR_to fun g1 => ?_)
      rw [(DA_e1 h0 _ g1.1 g1.2).1]
      exact sx_virt (c := 5) (ag := [(2, a0 + 11 + 4 * (w a2))]) (r := []) (al' := [(2, a0 + 11 + 4 * (w a2))]) (np := 0) (nl := 1) (q := (1, 83, 657)) D25_29 (by decide +kernel) (by decide) mP_83 mL_83 mC_83 (Nat.le_of_ble_eq_true rfl) rfl rfl (by simp [cat]) (by decide) (LA_o (DA_e1 h0 _ g1.1 g1.2).2) rfl rfl
    · exact rfl
  · exact rfl
theorem E25_32 {d : Nat} {a0 a1 a2 : Int} {S : SS} {I : II}  : ev d 25 32 [(2, a0), (2, a1), (0, a2)] [] S I = ev d 25 10 [(2, a0), (2, a1), (0, a2 + 1)] [] S I := by
  refine (sx_iinc (al' := [(2, a0), (2, a1), (0, a2 + 1)]) D25_32 rfl rfl).trans ?_
  refine (sx_goto (pc' := 10) D25_35 (by decide) (by decide)).trans ?_
  exact rfl
theorem E25_38 {d : Nat} {a0 a1 a2 : Int} {S : SS} {I : II}  : ev d 25 38 [(2, a0), (2, a1), (0, a2)] [] S I = ev d 25 40 [(2, a0), (2, a1), (0, 0)] [] S I := by
  refine (sx_iconst D25_38).trans ?_
  refine (sx_istore_n (al' := [(2, a0), (2, a1), (0, 0)]) D25_39 (Nat.le_of_ble_eq_true rfl) rfl rfl).trans ?_
  exact rfl
theorem E25_40 {d : Nat} {a0 a1 a2 : Int} {S : SS} {I : II} (h0 : DA S a0) : ev (d + 1) 25 40 [(2, a0), (2, a1), (0, a2)] [] S I = if w a2 < 80 then (if w (I a0 10) < w (I a0 6) then ((ev d 34 0 [(2, a0), uU] [] S I).bind (fun q => ev (d + 1) 25 61 [(2, a0), (2, a1), (0, a2)] (psh q.1 []) q.2.1 q.2.2)) else (ev (d + 1) 25 79 [(2, a0), (2, a1), (0, a2)] [] S I)) else (ev (d + 1) 25 79 [(2, a0), (2, a1), (0, a2)] [] S I) := by
  refine (sx_iload_n D25_40 rfl).trans ?_
  refine (sx_bipush D25_41 (by decide)).trans ?_
  refine sx_if_ge (pc' := 79) D25_43 (by decide) (by decide) ?_ ?_ rfl (w_small (by decide) (by decide))
  · refine (sx_aload_n D25_46 rfl).trans ?_
    refine (sx_gfI (q := (1, 10, 0, 162)) (j := 10) D25_47 (by decide +kernel) (by decide +kernel) (by decide) (DA_o h0) rfl rfl).trans ?_
    refine (sx_aload_n D25_50 rfl).trans ?_
    refine (sx_gfI (q := (1, 6, 0, 154)) (j := 6) D25_51 (by decide +kernel) (by decide +kernel) (by decide) (DA_o h0) rfl rfl).trans ?_
    refine sx_if_ge (pc' := 79) D25_54 (by decide) (by decide) ?_ ?_ rfl rfl
    · refine (sx_aload_n D25_57 rfl).trans ?_
      exact sx_virt (c := 3) (ag := [(2, a0)]) (r := []) (al' := [(2, a0), uU]) (np := 0) (nl := 2) (q := (1, 34, 661)) D25_58 (by decide +kernel) (by decide) mP_34 mL_34 mC_34 (Nat.le_of_ble_eq_true rfl) rfl rfl (by simp [cat]) (by decide) (DA_o h0) rfl rfl
    · exact rfl
  · exact rfl
theorem E25_61 {d : Nat} {a0 a1 a2 s0 : Int} {S : SS} {I : II} (h0 : DA S a0) : ev (d + 1) 25 61 [(2, a0), (2, a1), (0, a2)] [(0, s0)] S I = if w s0 = 0 then (ev (d + 1) 25 79 [(2, a0), (2, a1), (0, a2)] [] S I) else ((ev d 35 0 [(2, a0), uU, uU] [] S I).bind (fun q => ev (d + 1) 25 69 [(2, a0), (2, a1), (0, a2)] (psh q.1 [(2, a0)]) q.2.1 q.2.2)) := by
  refine sx_i0_eq (pc' := 79) D25_61 (by decide) (by decide) ?_ ?_ rfl
  · exact rfl
  · refine (sx_aload_n D25_64 rfl).trans ?_
    refine (sx_aload_n D25_65 rfl).trans ?_
    exact sx_virt (c := 3) (ag := [(2, a0)]) (r := [(2, a0)]) (al' := [(2, a0), uU, uU]) (np := 0) (nl := 3) (q := (1, 35, 669)) D25_66 (by decide +kernel) (by decide) mP_35 mL_35 mC_35 (Nat.le_of_ble_eq_true rfl) rfl rfl (by simp [cat]) (by decide) (DA_o h0) rfl rfl
theorem E25_69 {d : Nat} {a0 a1 a2 s0 s1 : Int} {S : SS} {I : II} (h0 : DA S s0) : ev (d + 1) 25 69 [(2, a0), (2, a1), (0, a2)] [(0, s1), (2, s0)] S I = (ev d 38 0 [(2, s0), (0, s1), (2, a1), uU, uU, uU] [] S I).bind (fun q => ev (d + 1) 25 73 [(2, a0), (2, a1), (0, a2)] (psh q.1 []) q.2.1 q.2.2) := by
  refine (sx_aload_n D25_69 rfl).trans ?_
  exact sx_virt (c := 3) (ag := [(2, s0), (0, s1), (2, a1)]) (r := []) (al' := [(2, s0), (0, s1), (2, a1), uU, uU, uU]) (np := 2) (nl := 6) (q := (1, 38, 681)) D25_70 (by decide +kernel) (by decide) mP_38 mL_38 mC_38 (Nat.le_of_ble_eq_true rfl) rfl rfl (by simp [cat]) (by decide) (DA_o h0) rfl rfl
theorem E25_73 {d : Nat} {a0 a1 a2 : Int} {S : SS} {I : II}  : ev d 25 73 [(2, a0), (2, a1), (0, a2)] [] S I = ev d 25 40 [(2, a0), (2, a1), (0, a2 + 1)] [] S I := by
  refine (sx_iinc (al' := [(2, a0), (2, a1), (0, a2 + 1)]) D25_73 rfl rfl).trans ?_
  refine (sx_goto (pc' := 40) D25_76 (by decide) (by decide)).trans ?_
  exact rfl
theorem E25_79 {d : Nat} {a0 a1 a2 : Int} {S : SS} {I : II} (h0 : DA S a0) : ev d 25 79 [(2, a0), (2, a1), (0, a2)] [] S I = some (uU, S, (up2 I a0 7 ((I a0 7) + 1))) := by
  refine (sx_aload_n D25_79 rfl).trans ?_
  refine (sx_dup D25_80 (by decide)).trans ?_
  refine (sx_gfI (q := (1, 7, 0, 156)) (j := 7) D25_81 (by decide +kernel) (by decide +kernel) (by decide) (DA_o h0) rfl rfl).trans ?_
  refine (sx_iconst D25_84).trans ?_
  refine (sx_iadd D25_85).trans ?_
  refine (sx_pfI (q := (1, 7, 0, 156)) (j := 7) D25_86 (by decide +kernel) (by decide) (by decide) (DA_o h0) rfl).trans ?_
  exact sx_return D25_89 (by decide +kernel)
theorem E26_0 {d : Nat} {a0 : Int} {S : SS} {I : II}  : ev d 26 0 [(2, a0), uU, uU] [] S I = ev d 26 4 [(2, a0), (0, 0), (0, 0)] [] S I := by
  refine (sx_iconst D26_0).trans ?_
  refine (sx_istore_n (al' := [(2, a0), (0, 0), uU]) D26_1 (Nat.le_of_ble_eq_true rfl) rfl rfl).trans ?_
  refine (sx_iconst D26_2).trans ?_
  refine (sx_istore_n (al' := [(2, a0), (0, 0), (0, 0)]) D26_3 (Nat.le_of_ble_eq_true rfl) rfl rfl).trans ?_
  exact rfl
theorem E26_4 {d : Nat} {a0 a1 a2 : Int} {S : SS} {I : II} (h0 : DA S a0) : ev (d + 1) 26 4 [(2, a0), (0, a1), (0, a2)] [] S I = if w a2 < w (I a0 10) then (if w a2 < 4 then (gdR (0 ≤ w a2 ∧ w a2 < 4) (gdR (0 ≤ w a2 ∧ w a2 < 4) (gdR (0 ≤ w a2 ∧ w a2 < 4) (if 0 < w ((I (a0 + 6) (w a2)) - 1) then ((ev d 27 0 [(2, a0), (0, a2), (0, a1)] [] S (up2 I (a0 + 6) (w a2) ((I (a0 + 6) (w a2)) - 1))).bind (fun q => ev (d + 1) 26 42 [(2, a0), (0, a1), (0, a2)] (psh q.1 []) q.2.1 q.2.2)) else (gdR (0 ≤ w a2 ∧ w a2 < 4) (if w (I (a0 + 9) (w a2)) = (-1) then (gdR (0 ≤ w a2 ∧ w a2 < 4) (gdR (0 ≤ w a2 ∧ w a2 < 4) ((ev d 28 0 [(2, a0), (0, I (a0 + 7) (w a2)), (0, I (a0 + 8) (w a2)), uU] [] S (up2 I (a0 + 6) (w a2) ((I (a0 + 6) (w a2)) - 1))).bind (fun q => ev (d + 1) 26 74 [(2, a0), (0, a1), (0, a2)] (psh q.1 []) q.2.1 q.2.2)))) else (gdR (0 ≤ w a2 ∧ w a2 < 4) (gdR (0 ≤ w a2 ∧ w a2 < 4) (gdR (0 ≤ w a2 ∧ w a2 < 4) ((ev d 32 0 [(2, a0), (0, I (a0 + 7) (w a2)), (0, I (a0 + 8) (w a2)), (0, I (a0 + 9) (w a2)), uU] [] S (up2 I (a0 + 6) (w a2) ((I (a0 + 6) (w a2)) - 1))).bind (fun q => ev (d + 1) 26 99 [(2, a0), (0, a1), (0, a2)] (psh q.1 []) q.2.1 q.2.2))))))))))) else (ev (d + 1) 26 105 [(2, a0), (0, a1), (0, a2)] [] S I)) else (ev (d + 1) 26 105 [(2, a0), (0, a1), (0, a2)] [] S I) := by
  refine (sx_iload_n D26_4 rfl).trans ?_
  refine (sx_aload_n D26_5 rfl).trans ?_
  refine (sx_gfI (q := (1, 10, 0, 162)) (j := 10) D26_6 (by decide +kernel) (by decide +kernel) (by decide) (DA_o h0) rfl rfl).trans ?_
  refine sx_if_ge (pc' := 105) D26_9 (by decide) (by decide) ?_ ?_ rfl rfl
  · refine (sx_iload_n D26_12 rfl).trans ?_
    refine (sx_iconst D26_13).trans ?_
    refine sx_if_ge (pc' := 105) D26_14 (by decide) (by decide) ?_ ?_ rfl (w_small (by decide) (by decide))
    · refine (sx_aload_n D26_17 rfl).trans ?_
      refine (sx_gfR (q := (1, 11, 0, 164)) (b := a0 + 6) D26_18 (by decide +kernel) (by decide +kernel) (by decide) (DA_o h0) (DA_g11 h0)).trans ?_
      refine (sx_iload_n D26_21 rfl).trans ?_
      refine (sx_dup2 D26_22 (by decide) (by decide)).trans ?_
      refine (sx_ia D26_23 (DA_k11 h0) rfl).trans (gdR_to fun g1 => ?_)
      refine (sx_iconst D26_24).trans ?_
      refine (sx_isub D26_25).trans ?_
      refine (sx_is D26_26 (DA_k11 h0)).trans (gdR_to fun g2 => ?_)
      refine (sx_aload_n D26_27 rfl).trans ?_
      refine (sx_gfR (q := (1, 11, 0, 164)) (b := a0 + 6) D26_28 (by decide +kernel) (by decide +kernel) (by decide) (DA_o h0) (DA_g11 h0)).trans ?_
      refine (sx_iload_n D26_31 rfl).trans ?_
      refine (sx_ia D26_32 (DA_k11 h0) (up2_same _ _ _ _)).trans (gdR_to fun g3 => ?_)
      refine sx_i0_le (pc' := 48) D26_33 (by decide) (by decide) ?_ ?_ rfl
      · refine (sx_aload_n D26_36 rfl).trans ?_
        refine (sx_iload_n D26_37 rfl).trans ?_
        refine (sx_iload_n D26_38 rfl).trans ?_
        exact sx_virt (c := 3) (ag := [(2, a0), (0, a2), (0, a1)]) (r := []) (al' := [(2, a0), (0, a2), (0, a1)]) (np := 2) (nl := 3) (q := (1, 27, 607)) D26_39 (by decide +kernel) (by decide) mP_27 mL_27 mC_27 (Nat.le_of_ble_eq_true rfl) rfl rfl (by simp [cat]) (by decide) (DA_o h0) rfl rfl
      · refine (sx_aload_n D26_48 rfl).trans ?_
        refine (sx_gfR (q := (1, 14, 0, 167)) (b := a0 + 9) D26_49 (by decide +kernel) (by decide +kernel) (by decide) (DA_o h0) (DA_g14 h0)).trans ?_
        refine (sx_iload_n D26_52 rfl).trans ?_
        refine (sx_ia D26_53 (DA_k14 h0) (up2_cell (by omega))).trans (gdR_to fun g4 => ?_)
        refine (sx_iconst D26_54).trans ?_
        refine sx_if_ne (pc' := 77) D26_55 (by decide) (by decide) ?_ ?_ rfl (w_small (by decide) (by decide))
        · refine (sx_aload_n D26_58 rfl).trans ?_
          refine (sx_aload_n D26_59 rfl).trans ?_
          refine (sx_gfR (q := (1, 12, 0, 165)) (b := a0 + 7) D26_60 (by decide +kernel) (by decide +kernel) (by decide) (DA_o h0) (DA_g12 h0)).trans ?_
          refine (sx_iload_n D26_63 rfl).trans ?_
          refine (sx_ia D26_64 (DA_k12 h0) (up2_cell (by omega))).trans (gdR_to fun g5 => ?_)
          refine (sx_aload_n D26_65 rfl).trans ?_
          refine (sx_gfR (q := (1, 13, 0, 166)) (b := a0 + 8) D26_66 (by decide +kernel) (by decide +kernel) (by decide) (DA_o h0) (DA_g13 h0)).trans ?_
          refine (sx_iload_n D26_69 rfl).trans ?_
          refine (sx_ia D26_70 (DA_k13 h0) (up2_cell (by omega))).trans (gdR_to fun g6 => ?_)
          exact sx_virt (c := 3) (ag := [(2, a0), (0, I (a0 + 7) (w a2)), (0, I (a0 + 8) (w a2))]) (r := []) (al' := [(2, a0), (0, I (a0 + 7) (w a2)), (0, I (a0 + 8) (w a2)), uU]) (np := 2) (nl := 4) (q := (1, 28, 611)) D26_71 (by decide +kernel) (by decide) mP_28 mL_28 mC_28 (Nat.le_of_ble_eq_true rfl) rfl rfl (by simp [cat]) (by decide) (DA_o h0) rfl rfl
        · refine (sx_aload_n D26_77 rfl).trans ?_
          refine (sx_aload_n D26_78 rfl).trans ?_
          refine (sx_gfR (q := (1, 12, 0, 165)) (b := a0 + 7) D26_79 (by decide +kernel) (by decide +kernel) (by decide) (DA_o h0) (DA_g12 h0)).trans ?_
          refine (sx_iload_n D26_82 rfl).trans ?_
          refine (sx_ia D26_83 (DA_k12 h0) (up2_cell (by omega))).trans (gdR_to fun g7 => ?_)
          refine (sx_aload_n D26_84 rfl).trans ?_
          refine (sx_gfR (q := (1, 13, 0, 166)) (b := a0 + 8) D26_85 (by decide +kernel) (by decide +kernel) (by decide) (DA_o h0) (DA_g13 h0)).trans ?_
          refine (sx_iload_n D26_88 rfl).trans ?_
          refine (sx_ia D26_89 (DA_k13 h0) (up2_cell (by omega))).trans (gdR_to fun g8 => ?_)
          refine (sx_aload_n D26_90 rfl).trans ?_
          refine (sx_gfR (q := (1, 14, 0, 167)) (b := a0 + 9) D26_91 (by decide +kernel) (by decide +kernel) (by decide) (DA_o h0) (DA_g14 h0)).trans ?_
          refine (sx_iload_n D26_94 rfl).trans ?_
          refine (sx_ia D26_95 (DA_k14 h0) (up2_cell (by omega))).trans (gdR_to fun g9 => ?_)
          exact sx_virt (c := 3) (ag := [(2, a0), (0, I (a0 + 7) (w a2)), (0, I (a0 + 8) (w a2)), (0, I (a0 + 9) (w a2))]) (r := []) (al' := [(2, a0), (0, I (a0 + 7) (w a2)), (0, I (a0 + 8) (w a2)), (0, I (a0 + 9) (w a2)), uU]) (np := 3) (nl := 5) (q := (1, 32, 642)) D26_96 (by decide +kernel) (by decide) mP_32 mL_32 mC_32 (Nat.le_of_ble_eq_true rfl) rfl rfl (by simp [cat]) (by decide) (DA_o h0) rfl rfl
    · exact rfl
  · exact rfl
theorem E26_42 {d : Nat} {a0 a1 a2 : Int} {S : SS} {I : II}  : ev d 26 42 [(2, a0), (0, a1), (0, a2)] [] S I = ev d 26 99 [(2, a0), (0, a1 + 1), (0, a2)] [] S I := by
  refine (sx_iinc (al' := [(2, a0), (0, a1 + 1), (0, a2)]) D26_42 rfl rfl).trans ?_
  refine (sx_goto (pc' := 99) D26_45 (by decide) (by decide)).trans ?_
  exact rfl
theorem E26_74 {d : Nat} {a0 a1 a2 : Int} {S : SS} {I : II}  : ev d 26 74 [(2, a0), (0, a1), (0, a2)] [] S I = ev d 26 99 [(2, a0), (0, a1), (0, a2)] [] S I := by
  refine (sx_goto (pc' := 99) D26_74 (by decide) (by decide)).trans ?_
  exact rfl
theorem E26_99 {d : Nat} {a0 a1 a2 : Int} {S : SS} {I : II}  : ev d 26 99 [(2, a0), (0, a1), (0, a2)] [] S I = ev d 26 4 [(2, a0), (0, a1), (0, a2 + 1)] [] S I := by
  refine (sx_iinc (al' := [(2, a0), (0, a1), (0, a2 + 1)]) D26_99 rfl rfl).trans ?_
  refine (sx_goto (pc' := 4) D26_102 (by decide) (by decide)).trans ?_
  exact rfl
theorem E26_105 {d : Nat} {a0 a1 a2 : Int} {S : SS} {I : II} (h0 : DA S a0) : ev d 26 105 [(2, a0), (0, a1), (0, a2)] [] S I = some (uU, S, (up2 I a0 10 a1)) := by
  refine (sx_aload_n D26_105 rfl).trans ?_
  refine (sx_iload_n D26_106 rfl).trans ?_
  refine (sx_pfI (q := (1, 10, 0, 162)) (j := 10) D26_107 (by decide +kernel) (by decide) (by decide) (DA_o h0) rfl).trans ?_
  exact sx_return D26_110 (by decide +kernel)
theorem E27_0 {d : Nat} {a0 a1 a2 : Int} {S : SS} {I : II} (h0 : DA S a0) : ev d 27 0 [(2, a0), (0, a1), (0, a2)] [] S I = if w a1 < 0 then (ev d 27 18 [(2, a0), (0, a1), (0, a2)] [] S I) else (if w a1 < 4 then (if w a2 < 0 then (ev d 27 18 [(2, a0), (0, a1), (0, a2)] [] S I) else (if w a2 < 4 then (gdR (0 ≤ w a1 ∧ w a1 < 4) (gdR (0 ≤ w a2 ∧ w a2 < 4) (gdR (0 ≤ w a1 ∧ w a1 < 4) (gdR (0 ≤ w a2 ∧ w a2 < 4) (gdR (0 ≤ w a1 ∧ w a1 < 4) (gdR (0 ≤ w a2 ∧ w a2 < 4) (gdR (0 ≤ w a1 ∧ w a1 < 4) (gdR (0 ≤ w a2 ∧ w a2 < 4) (some (uU, S, (up2 (up2 (up2 (up2 I (a0 + 6) (w a2) (I (a0 + 6) (w a1))) (a0 + 7) (w a2) (I (a0 + 7) (w a1))) (a0 + 8) (w a2) (I (a0 + 8) (w a1))) (a0 + 9) (w a2) (I (a0 + 9) (w a1))))))))))))) else (ev d 27 18 [(2, a0), (0, a1), (0, a2)] [] S I))) else (ev d 27 18 [(2, a0), (0, a1), (0, a2)] [] S I)) := by
  refine (sx_iload_n D27_0 rfl).trans ?_
  refine sx_i0_lt (pc' := 18) D27_1 (by decide) (by decide) ?_ ?_ rfl
  · exact rfl
  · refine (sx_iload_n D27_4 rfl).trans ?_
    refine (sx_iconst D27_5).trans ?_
    refine sx_if_ge (pc' := 18) D27_6 (by decide) (by decide) ?_ ?_ rfl (w_small (by decide) (by decide))
    · refine (sx_iload_n D27_9 rfl).trans ?_
      refine sx_i0_lt (pc' := 18) D27_10 (by decide) (by decide) ?_ ?_ rfl
      · exact rfl
      · refine (sx_iload_n D27_13 rfl).trans ?_
        refine (sx_iconst D27_14).trans ?_
        refine sx_if_lt (pc' := 19) D27_15 (by decide) (by decide) ?_ ?_ rfl (w_small (by decide) (by decide))
        · refine (sx_aload_n D27_19 rfl).trans ?_
          refine (sx_gfR (q := (1, 11, 0, 164)) (b := a0 + 6) D27_20 (by decide +kernel) (by decide +kernel) (by decide) (DA_o h0) (DA_g11 h0)).trans ?_
          refine (sx_iload_n D27_23 rfl).trans ?_
          refine (sx_aload_n D27_24 rfl).trans ?_
          refine (sx_gfR (q := (1, 11, 0, 164)) (b := a0 + 6) D27_25 (by decide +kernel) (by decide +kernel) (by decide) (DA_o h0) (DA_g11 h0)).trans ?_
          refine (sx_iload_n D27_28 rfl).trans ?_
          refine (sx_ia D27_29 (DA_k11 h0) rfl).trans (gdR_to fun g1 => ?_)
          refine (sx_is D27_30 (DA_k11 h0)).trans (gdR_to fun g2 => ?_)
          refine (sx_aload_n D27_31 rfl).trans ?_
          refine (sx_gfR (q := (1, 12, 0, 165)) (b := a0 + 7) D27_32 (by decide +kernel) (by decide +kernel) (by decide) (DA_o h0) (DA_g12 h0)).trans ?_
          refine (sx_iload_n D27_35 rfl).trans ?_
          refine (sx_aload_n D27_36 rfl).trans ?_
          refine (sx_gfR (q := (1, 12, 0, 165)) (b := a0 + 7) D27_37 (by decide +kernel) (by decide +kernel) (by decide) (DA_o h0) (DA_g12 h0)).trans ?_
          refine (sx_iload_n D27_40 rfl).trans ?_
          refine (sx_ia D27_41 (DA_k12 h0) (up2_cell (by omega))).trans (gdR_to fun g3 => ?_)
          refine (sx_is D27_42 (DA_k12 h0)).trans (gdR_to fun g4 => ?_)
          refine (sx_aload_n D27_43 rfl).trans ?_
          refine (sx_gfR (q := (1, 13, 0, 166)) (b := a0 + 8) D27_44 (by decide +kernel) (by decide +kernel) (by decide) (DA_o h0) (DA_g13 h0)).trans ?_
          refine (sx_iload_n D27_47 rfl).trans ?_
          refine (sx_aload_n D27_48 rfl).trans ?_
          refine (sx_gfR (q := (1, 13, 0, 166)) (b := a0 + 8) D27_49 (by decide +kernel) (by decide +kernel) (by decide) (DA_o h0) (DA_g13 h0)).trans ?_
          refine (sx_iload_n D27_52 rfl).trans ?_
          refine (sx_ia D27_53 (DA_k13 h0) ((up2_cell (by omega)).trans (up2_cell (by omega)))).trans (gdR_to fun g5 => ?_)
          refine (sx_is D27_54 (DA_k13 h0)).trans (gdR_to fun g6 => ?_)
          refine (sx_aload_n D27_55 rfl).trans ?_
          refine (sx_gfR (q := (1, 14, 0, 167)) (b := a0 + 9) D27_56 (by decide +kernel) (by decide +kernel) (by decide) (DA_o h0) (DA_g14 h0)).trans ?_
          refine (sx_iload_n D27_59 rfl).trans ?_
          refine (sx_aload_n D27_60 rfl).trans ?_
          refine (sx_gfR (q := (1, 14, 0, 167)) (b := a0 + 9) D27_61 (by decide +kernel) (by decide +kernel) (by decide) (DA_o h0) (DA_g14 h0)).trans ?_
          refine (sx_iload_n D27_64 rfl).trans ?_
          refine (sx_ia D27_65 (DA_k14 h0) ((up2_cell (by omega)).trans ((up2_cell (by omega)).trans (up2_cell (by omega))))).trans (gdR_to fun g7 => ?_)
          refine (sx_is D27_66 (DA_k14 h0)).trans (gdR_to fun g8 => ?_)
          exact sx_return D27_67 (by decide +kernel)
        · exact rfl
    · exact rfl
theorem E27_18 {d : Nat} {a0 a1 a2 : Int} {S : SS} {I : II}  : ev d 27 18 [(2, a0), (0, a1), (0, a2)] [] S I = some (uU, S, I) := by
  exact sx_return D27_18 (by decide +kernel)
theorem E28_0 {d : Nat} {a0 a1 a2 : Int} {S : SS} {I : II}  : ev (d + 1) 28 0 [(2, a0), (0, a1), (0, a2), uU] [] S I = (ev d 1 0 [(0, a2)] [] S I).bind (fun q => ev (d + 1) 28 4 [(2, a0), (0, a1), (0, a2), uU] (psh q.1 []) q.2.1 q.2.2) := by
  refine (sx_iload_n D28_0 rfl).trans ?_
  exact sx_stat (ag := [(0, a2)]) (r := []) (al' := [(0, a2)]) (np := 1) (nl := 1) (q := (0, 1, 615)) D28_1 (by decide +kernel) (by decide) mP_1 mL_1 (Nat.le_of_ble_eq_true rfl) rfl rfl (by simp [cat]) rfl rfl
theorem E28_4 {d : Nat} {a0 a1 a2 s0 : Int} {S : SS} {I : II}  : ev (d + 1) 28 4 [(2, a0), (0, a1), (0, a2), uU] [(0, s0)] S I = (ev d 2 0 [(0, a2)] [] S I).bind (fun q => ev (d + 1) 28 9 [(2, a0), (0, a1), (0, a2), (0, s0)] (psh q.1 []) q.2.1 q.2.2) := by
  refine (sx_istore_n (al' := [(2, a0), (0, a1), (0, a2), (0, s0)]) D28_4 (Nat.le_of_ble_eq_true rfl) rfl rfl).trans ?_
  refine (sx_iload_n D28_5 rfl).trans ?_
  exact sx_stat (ag := [(0, a2)]) (r := []) (al' := [(0, a2)]) (np := 1) (nl := 1) (q := (0, 2, 618)) D28_6 (by decide +kernel) (by decide) mP_2 mL_2 (Nat.le_of_ble_eq_true rfl) rfl rfl (by simp [cat]) rfl rfl
theorem E28_9 {d : Nat} {a0 a1 a2 a3 s0 : Int} {S : SS} {I : II} (h0 : DA S a0) : ev (d + 1) 28 9 [(2, a0), (0, a1), (0, a2), (0, a3)] [(0, s0)] S I = if w s0 = 0 then ((ev d 29 0 [(2, a0), (0, a3)] [] S I).bind (fun q => ev (d + 1) 28 45 [(2, a0), (0, a1), (0, a2), (0, a3)] (psh q.1 [(0, 0), (0, a2), (0, a1), (2, a0)]) q.2.1 q.2.2)) else (if w s0 = 1 then ((ev d 4 0 [(0, a2)] [] S I).bind (fun q => ev (d + 1) 28 57 [(2, a0), (0, a1), (0, a2), (0, a3)] (psh q.1 [(0, a3), (2, a0)]) q.2.1 q.2.2)) else ((ev d 30 0 [(2, a0), (0, a1), (0, a2), (0, 0), (0, 0)] [] S I).bind (fun q => ev (d + 1) 28 82 [(2, a0), (0, a1), (0, a2), (0, a3)] (psh q.1 []) q.2.1 q.2.2))) := by
  refine ite_go (c := w s0 = 0) (fun x1 => ?_) (fun x1 => ?_)
  · refine (sx_lsw (pc' := 36) D28_9 (by decide) (by rw [(rfl).trans x1]) (by decide) (by decide)).trans ?_
    refine (sx_aload_n D28_36 rfl).trans ?_
    refine (sx_iload_n D28_37 rfl).trans ?_
    refine (sx_iload_n D28_38 rfl).trans ?_
    refine (sx_iconst D28_39).trans ?_
    refine (sx_aload_n D28_40 rfl).trans ?_
    refine (sx_iload_n D28_41 rfl).trans ?_
    exact sx_virt (c := 3) (ag := [(2, a0), (0, a3)]) (r := [(0, 0), (0, a2), (0, a1), (2, a0)]) (al' := [(2, a0), (0, a3)]) (np := 1) (nl := 2) (q := (1, 29, 621)) D28_42 (by decide +kernel) (by decide) mP_29 mL_29 mC_29 (Nat.le_of_ble_eq_true rfl) rfl rfl (by simp [cat]) (by decide) (DA_o h0) rfl rfl
  refine ite_go (c := w s0 = 1) (fun x2 => ?_) (fun x2 => ?_)
  · refine (sx_lsw (pc' := 51) D28_9 (by decide) (by rw [(rfl).trans x2]) (by decide) (by decide)).trans ?_
    refine (sx_aload_n D28_51 rfl).trans ?_
    refine (sx_iload_n D28_52 rfl).trans ?_
    refine (sx_iload_n D28_53 rfl).trans ?_
    exact sx_stat (ag := [(0, a2)]) (r := [(0, a3), (2, a0)]) (al' := [(0, a2)]) (np := 1) (nl := 1) (q := (0, 4, 635)) D28_54 (by decide +kernel) (by decide) mP_4 mL_4 (Nat.le_of_ble_eq_true rfl) rfl rfl (by simp [cat]) rfl rfl
  refine (sx_lsw (pc' := 74) (o := 65) D28_9 (by decide) (by rw [show w _ = _ from rfl]; simp [Op.lookupswitch.offset, Ne.symm x1, Ne.symm x2]) (by decide) (by decide)).trans ?_
  refine (sx_aload_n D28_74 rfl).trans ?_
  refine (sx_iload_n D28_75 rfl).trans ?_
  refine (sx_iload_n D28_76 rfl).trans ?_
  refine (sx_iconst D28_77).trans ?_
  refine (sx_iconst D28_78).trans ?_
  exact sx_virt (c := 3) (ag := [(2, a0), (0, a1), (0, a2), (0, 0), (0, 0)]) (r := []) (al' := [(2, a0), (0, a1), (0, a2), (0, 0), (0, 0)]) (np := 4) (nl := 5) (q := (1, 30, 625)) D28_79 (by decide +kernel) (by decide) mP_30 mL_30 mC_30 (Nat.le_of_ble_eq_true rfl) rfl rfl (by simp [cat]) (by decide) (DA_o h0) rfl rfl
theorem E28_45 {d : Nat} {a0 a1 a2 a3 s0 s1 s2 s3 s4 : Int} {S : SS} {I : II} (h0 : DA S s0) : ev (d + 1) 28 45 [(2, a0), (0, a1), (0, a2), (0, a3)] [(0, s4), (0, s3), (0, s2), (0, s1), (2, s0)] S I = (ev d 30 0 [(2, s0), (0, s1), (0, s2), (0, s3), (0, s4)] [] S I).bind (fun q => ev (d + 1) 28 48 [(2, a0), (0, a1), (0, a2), (0, a3)] (psh q.1 []) q.2.1 q.2.2) := by
  exact sx_virt (c := 3) (ag := [(2, s0), (0, s1), (0, s2), (0, s3), (0, s4)]) (r := []) (al' := [(2, s0), (0, s1), (0, s2), (0, s3), (0, s4)]) (np := 4) (nl := 5) (q := (1, 30, 625)) D28_45 (by decide +kernel) (by decide) mP_30 mL_30 mC_30 (Nat.le_of_ble_eq_true rfl) rfl rfl (by simp [cat]) (by decide) (DA_o h0) rfl rfl
theorem E28_48 {d : Nat} {a0 a1 a2 a3 : Int} {S : SS} {I : II}  : ev d 28 48 [(2, a0), (0, a1), (0, a2), (0, a3)] [] S I = ev d 28 82 [(2, a0), (0, a1), (0, a2), (0, a3)] [] S I := by
  refine (sx_goto (pc' := 82) D28_48 (by decide) (by decide)).trans ?_
  exact rfl
theorem E28_57 {d : Nat} {a0 a1 a2 a3 s0 s1 s2 : Int} {S : SS} {I : II} (h0 : DA S s0) : ev (d + 1) 28 57 [(2, a0), (0, a1), (0, a2), (0, a3)] [(0, s2), (0, s1), (2, s0)] S I = (ev d 31 0 [(2, s0), (0, s1), (0, s2)] [] S I).bind (fun q => ev (d + 1) 28 60 [(2, a0), (0, a1), (0, a2), (0, a3)] (psh q.1 []) q.2.1 q.2.2) := by
  exact sx_virt (c := 3) (ag := [(2, s0), (0, s1), (0, s2)]) (r := []) (al' := [(2, s0), (0, s1), (0, s2)]) (np := 2) (nl := 3) (q := (1, 31, 638)) D28_57 (by decide +kernel) (by decide) mP_31 mL_31 mC_31 (Nat.le_of_ble_eq_true rfl) rfl rfl (by simp [cat]) (by decide) (DA_o h0) rfl rfl
theorem E28_60 {d : Nat} {a0 a1 a2 a3 : Int} {S : SS} {I : II}  : ev (d + 1) 28 60 [(2, a0), (0, a1), (0, a2), (0, a3)] [] S I = (ev d 4 0 [(0, a2)] [] S I).bind (fun q => ev (d + 1) 28 68 [(2, a0), (0, a1), (0, a2), (0, a3)] (psh q.1 [(0, 0), (0, a2), (0, a1), (2, a0)]) q.2.1 q.2.2) := by
  refine (sx_aload_n D28_60 rfl).trans ?_
  refine (sx_iload_n D28_61 rfl).trans ?_
  refine (sx_iload_n D28_62 rfl).trans ?_
  refine (sx_iconst D28_63).trans ?_
  refine (sx_iload_n D28_64 rfl).trans ?_
  exact sx_stat (ag := [(0, a2)]) (r := [(0, 0), (0, a2), (0, a1), (2, a0)]) (al' := [(0, a2)]) (np := 1) (nl := 1) (q := (0, 4, 635)) D28_65 (by decide +kernel) (by decide) mP_4 mL_4 (Nat.le_of_ble_eq_true rfl) rfl rfl (by simp [cat]) rfl rfl
theorem E28_68 {d : Nat} {a0 a1 a2 a3 s0 s1 s2 s3 s4 : Int} {S : SS} {I : II} (h0 : DA S s0) : ev (d + 1) 28 68 [(2, a0), (0, a1), (0, a2), (0, a3)] [(0, s4), (0, s3), (0, s2), (0, s1), (2, s0)] S I = (ev d 30 0 [(2, s0), (0, s1), (0, s2), (0, s3), (0, s4)] [] S I).bind (fun q => ev (d + 1) 28 71 [(2, a0), (0, a1), (0, a2), (0, a3)] (psh q.1 []) q.2.1 q.2.2) := by
  exact sx_virt (c := 3) (ag := [(2, s0), (0, s1), (0, s2), (0, s3), (0, s4)]) (r := []) (al' := [(2, s0), (0, s1), (0, s2), (0, s3), (0, s4)]) (np := 4) (nl := 5) (q := (1, 30, 625)) D28_68 (by decide +kernel) (by decide) mP_30 mL_30 mC_30 (Nat.le_of_ble_eq_true rfl) rfl rfl (by simp [cat]) (by decide) (DA_o h0) rfl rfl
theorem E28_71 {d : Nat} {a0 a1 a2 a3 : Int} {S : SS} {I : II}  : ev d 28 71 [(2, a0), (0, a1), (0, a2), (0, a3)] [] S I = ev d 28 82 [(2, a0), (0, a1), (0, a2), (0, a3)] [] S I := by
  refine (sx_goto (pc' := 82) D28_71 (by decide) (by decide)).trans ?_
  exact rfl
theorem E28_82 {d : Nat} {a0 a1 a2 a3 : Int} {S : SS} {I : II}  : ev d 28 82 [(2, a0), (0, a1), (0, a2), (0, a3)] [] S I = some (uU, S, I) := by
  exact sx_return D28_82 (by decide +kernel)
theorem E29_0 {d : Nat} {a0 a1 : Int} {S : SS} {I : II} (h0 : DA S a0) : ev d 29 0 [(2, a0), (0, a1)] [] S I = if w a1 < 0 then (ev d 29 19 [(2, a0), (0, a1)] [] S I) else (if w a1 < 10 then (gdR (0 ≤ w a1 ∧ w a1 < 10) (ev d 29 20 [(2, a0), (0, a1)] [(0, I (a0 + 2) (w a1))] S I)) else (ev d 29 19 [(2, a0), (0, a1)] [] S I)) := by
  refine (sx_iload_n D29_0 rfl).trans ?_
  refine sx_i0_lt (pc' := 19) D29_1 (by decide) (by decide) ?_ ?_ rfl
  · exact rfl
  · refine (sx_iload_n D29_4 rfl).trans ?_
    refine (sx_bipush D29_5 (by decide)).trans ?_
    refine sx_if_ge (pc' := 19) D29_7 (by decide) (by decide) ?_ ?_ rfl (w_small (by decide) (by decide))
    · refine (sx_aload_n D29_10 rfl).trans ?_
      refine (sx_gfR (q := (1, 2, 0, 150)) (b := a0 + 2) D29_11 (by decide +kernel) (by decide +kernel) (by decide) (DA_o h0) (DA_g2 h0)).trans ?_
      refine (sx_iload_n D29_14 rfl).trans ?_
      refine (sx_ia D29_15 (DA_k2 h0) rfl).trans (gdR_to fun g1 => ?_)
      refine (sx_goto (pc' := 20) D29_16 (by decide) (by decide)).trans ?_
      exact rfl
    · exact rfl
theorem E29_19 {d : Nat} {a0 a1 : Int} {S : SS} {I : II}  : ev d 29 19 [(2, a0), (0, a1)] [] S I = ev d 29 20 [(2, a0), (0, a1)] [(0, 0)] S I := by
  refine (sx_iconst D29_19).trans ?_
  exact rfl
theorem E29_20 {d : Nat} {a0 a1 s0 : Int} {S : SS} {I : II}  : ev d 29 20 [(2, a0), (0, a1)] [(0, s0)] S I = some ((0, s0), S, I) := by
  exact sx_ireturn D29_20 (by decide +kernel)
theorem E30_0 {d : Nat} {a0 a1 a2 a3 a4 : Int} {S : SS} {I : II} (h0 : DA S a0) : ev (d + 1) 30 0 [(2, a0), (0, a1), (0, a2), (0, a3), (0, a4)] [] S I = if w (I a0 15) < 0 then (ev (d + 1) 30 46 [(2, a0), (0, a1), (0, a2), (0, a3), (0, a4)] [] S I) else (if w (I a0 15) < 80 then ((ev d 3 0 [(0, a2)] [] S I).bind (fun q => ev (d + 1) 30 29 [(2, a0), (0, a1), (0, a2), (0, a3), (0, a4)] (psh q.1 [(0, a1), (0, I a0 15), (2, a0 + 10)]) q.2.1 q.2.2)) else (ev (d + 1) 30 46 [(2, a0), (0, a1), (0, a2), (0, a3), (0, a4)] [] S I)) := by
  refine (sx_aload_n D30_0 rfl).trans ?_
  refine (sx_gfI (q := (1, 15, 0, 168)) (j := 15) D30_1 (by decide +kernel) (by decide +kernel) (by decide) (DA_o h0) rfl rfl).trans ?_
  refine sx_i0_lt (pc' := 46) D30_4 (by decide) (by decide) ?_ ?_ rfl
  · exact rfl
  · refine (sx_aload_n D30_7 rfl).trans ?_
    refine (sx_gfI (q := (1, 15, 0, 168)) (j := 15) D30_8 (by decide +kernel) (by decide +kernel) (by decide) (DA_o h0) rfl rfl).trans ?_
    refine (sx_bipush D30_11 (by decide)).trans ?_
    refine sx_if_ge (pc' := 46) D30_13 (by decide) (by decide) ?_ ?_ rfl (w_small (by decide) (by decide))
    · refine (sx_aload_n D30_16 rfl).trans ?_
      refine (sx_gfR (q := (1, 16, 0, 170)) (b := a0 + 10) D30_17 (by decide +kernel) (by decide +kernel) (by decide) (DA_o h0) (DA_g16 h0)).trans ?_
      refine (sx_aload_n D30_20 rfl).trans ?_
      refine (sx_gfI (q := (1, 15, 0, 168)) (j := 15) D30_21 (by decide +kernel) (by decide +kernel) (by decide) (DA_o h0) rfl rfl).trans ?_
      refine (sx_iload_n D30_24 rfl).trans ?_
      refine (sx_iload_n D30_25 rfl).trans ?_
      exact sx_stat (ag := [(0, a2)]) (r := [(0, a1), (0, I a0 15), (2, a0 + 10)]) (al' := [(0, a2)]) (np := 1) (nl := 1) (q := (0, 3, 629)) D30_26 (by decide +kernel) (by decide) mP_3 mL_3 (Nat.le_of_ble_eq_true rfl) rfl rfl (by simp [cat]) rfl rfl
    · exact rfl
theorem E30_29 {d : Nat} {a0 a1 a2 a3 a4 s0 s1 s2 s3 : Int} {S : SS} {I : II}  : ev (d + 1) 30 29 [(2, a0), (0, a1), (0, a2), (0, a3), (0, a4)] [(0, s3), (0, s2), (0, s1), (2, s0)] S I = (ev d 7 0 [(0, s2), (0, s3), (0, a3), (0, a4)] [] S I).bind (fun q => ev (d + 1) 30 35 [(2, a0), (0, a1), (0, a2), (0, a3), (0, a4)] (psh q.1 [(0, s1), (2, s0)]) q.2.1 q.2.2) := by
  refine (sx_iload_n D30_29 rfl).trans ?_
  refine (sx_iload D30_30 rfl).trans ?_
  exact sx_stat (ag := [(0, s2), (0, s3), (0, a3), (0, a4)]) (r := [(0, s1), (2, s0)]) (al' := [(0, s2), (0, s3), (0, a3), (0, a4)]) (np := 4) (nl := 4) (q := (0, 7, 632)) D30_32 (by decide +kernel) (by decide) mP_7 mL_7 (Nat.le_of_ble_eq_true rfl) rfl rfl (by simp [cat]) rfl rfl
theorem E30_35 {d : Nat} {a0 a1 a2 a3 a4 s0 s1 s2 ln0 : Int} {S : SS} {I : II} (h0 : KA S s0 20 ln0) (h1 : DA S a0) : ev d 30 35 [(2, a0), (0, a1), (0, a2), (0, a3), (0, a4)] [(0, s2), (0, s1), (2, s0)] S I = gdR (0 ≤ w s1 ∧ w s1 < ln0) (ev d 30 46 [(2, a0), (0, a1), (0, a2), (0, a3), (0, a4)] [] S (up2 (up2 I s0 (w s1) s2) a0 15 (((up2 I s0 (w s1) s2) a0 15) + 1))) := by
  refine (sx_is D30_35 h0).trans (gdR_to fun g1 => ?_)
  refine (sx_aload_n D30_36 rfl).trans ?_
  refine (sx_dup D30_37 (by decide)).trans ?_
  refine (sx_gfI (q := (1, 15, 0, 168)) (j := 15) D30_38 (by decide +kernel) (by decide +kernel) (by decide) (DA_o h1) rfl rfl).trans ?_
  refine (sx_iconst D30_41).trans ?_
  refine (sx_iadd D30_42).trans ?_
  refine (sx_pfI (q := (1, 15, 0, 168)) (j := 15) D30_43 (by decide +kernel) (by decide) (by decide) (DA_o h1) rfl).trans ?_
  exact rfl
theorem E30_46 {d : Nat} {a0 a1 a2 a3 a4 : Int} {S : SS} {I : II}  : ev d 30 46 [(2, a0), (0, a1), (0, a2), (0, a3), (0, a4)] [] S I = some (uU, S, I) := by
  exact sx_return D30_46 (by decide +kernel)
theorem E31_0 {d : Nat} {a0 a1 a2 : Int} {S : SS} {I : II} (h0 : DA S a0) : ev d 31 0 [(2, a0), (0, a1), (0, a2)] [] S I = if w a1 < 0 then (ev d 31 17 [(2, a0), (0, a1), (0, a2)] [] S I) else (if w a1 < 10 then (gdR (0 ≤ w a1 ∧ w a1 < 10) (ev d 31 17 [(2, a0), (0, a1), (0, a2)] [] S (up2 I (a0 + 2) (w a1) a2))) else (ev d 31 17 [(2, a0), (0, a1), (0, a2)] [] S I)) := by
  refine (sx_iload_n D31_0 rfl).trans ?_
  refine sx_i0_lt (pc' := 17) D31_1 (by decide) (by decide) ?_ ?_ rfl
  · exact rfl
  · refine (sx_iload_n D31_4 rfl).trans ?_
    refine (sx_bipush D31_5 (by decide)).trans ?_
    refine sx_if_ge (pc' := 17) D31_7 (by decide) (by decide) ?_ ?_ rfl (w_small (by decide) (by decide))
    · refine (sx_aload_n D31_10 rfl).trans ?_
      refine (sx_gfR (q := (1, 2, 0, 150)) (b := a0 + 2) D31_11 (by decide +kernel) (by decide +kernel) (by decide) (DA_o h0) (DA_g2 h0)).trans ?_
      refine (sx_iload_n D31_14 rfl).trans ?_
      refine (sx_iload_n D31_15 rfl).trans ?_
      refine (sx_is D31_16 (DA_k2 h0)).trans (gdR_to fun g1 => ?_)
      exact rfl
    · exact rfl
theorem E31_17 {d : Nat} {a0 a1 a2 : Int} {S : SS} {I : II}  : ev d 31 17 [(2, a0), (0, a1), (0, a2)] [] S I = some (uU, S, I) := by
  exact sx_return D31_17 (by decide +kernel)
theorem E32_0 {d : Nat} {a0 a1 a2 a3 : Int} {S : SS} {I : II}  : ev (d + 1) 32 0 [(2, a0), (0, a1), (0, a2), (0, a3), uU] [] S I = (ev d 1 0 [(0, a2)] [] S I).bind (fun q => ev (d + 1) 32 5 [(2, a0), (0, a1), (0, a2), (0, a3), uU] (psh q.1 [(2, a0)]) q.2.1 q.2.2) := by
  refine (sx_aload_n D32_0 rfl).trans ?_
  refine (sx_iload_n D32_1 rfl).trans ?_
  exact sx_stat (ag := [(0, a2)]) (r := [(2, a0)]) (al' := [(0, a2)]) (np := 1) (nl := 1) (q := (0, 1, 615)) D32_2 (by decide +kernel) (by decide) mP_1 mL_1 (Nat.le_of_ble_eq_true rfl) rfl rfl (by simp [cat]) rfl rfl
theorem E32_5 {d : Nat} {a0 a1 a2 a3 s0 s1 : Int} {S : SS} {I : II} (h0 : DA S s0) : ev (d + 1) 32 5 [(2, a0), (0, a1), (0, a2), (0, a3), uU] [(0, s1), (2, s0)] S I = (ev d 29 0 [(2, s0), (0, s1)] [] S I).bind (fun q => ev (d + 1) 32 8 [(2, a0), (0, a1), (0, a2), (0, a3), uU] (psh q.1 []) q.2.1 q.2.2) := by
  exact sx_virt (c := 3) (ag := [(2, s0), (0, s1)]) (r := []) (al' := [(2, s0), (0, s1)]) (np := 1) (nl := 2) (q := (1, 29, 621)) D32_5 (by decide +kernel) (by decide) mP_29 mL_29 mC_29 (Nat.le_of_ble_eq_true rfl) rfl rfl (by simp [cat]) (by decide) (DA_o h0) rfl rfl
theorem E32_8 {d : Nat} {a0 a1 a2 a3 s0 : Int} {S : SS} {I : II}  : ev (d + 1) 32 8 [(2, a0), (0, a1), (0, a2), (0, a3), uU] [(0, s0)] S I = (ev d 4 0 [(0, a2)] [] S I).bind (fun q => ev (d + 1) 32 16 [(2, a0), (0, a1), (0, a2), (0, a3), (0, s0)] (psh q.1 [(0, s0)]) q.2.1 q.2.2) := by
  refine (sx_istore (al' := [(2, a0), (0, a1), (0, a2), (0, a3), (0, s0)]) D32_8 (Nat.le_of_ble_eq_true rfl) rfl rfl).trans ?_
  refine (sx_iload D32_10 rfl).trans ?_
  refine (sx_iload_n D32_12 rfl).trans ?_
  exact sx_stat (ag := [(0, a2)]) (r := [(0, s0)]) (al' := [(0, a2)]) (np := 1) (nl := 1) (q := (0, 4, 635)) D32_13 (by decide +kernel) (by decide) mP_4 mL_4 (Nat.le_of_ble_eq_true rfl) rfl rfl (by simp [cat]) rfl rfl
theorem E32_16 {d : Nat} {a0 a1 a2 a3 a4 s0 s1 : Int} {S : SS} {I : II} (h0 : DA S a0) : ev (d + 1) 32 16 [(2, a0), (0, a1), (0, a2), (0, a3), (0, a4)] [(0, s1), (0, s0)] S I = if w s0 = w s1 then ((ev d 1 0 [(0, a3)] [] S I).bind (fun q => ev (d + 1) 32 24 [(2, a0), (0, a1), (0, a2), (0, a3), (0, a4)] (psh q.1 [(2, a0)]) q.2.1 q.2.2)) else ((ev d 30 0 [(2, a0), (0, a1), (0, a2), (0, 2), (0, a4)] [] S I).bind (fun q => ev (d + 1) 32 63 [(2, a0), (0, a1), (0, a2), (0, a3), (0, a4)] (psh q.1 []) q.2.1 q.2.2)) := by
  refine sx_if_ne (pc' := 54) D32_16 (by decide) (by decide) ?_ ?_ rfl rfl
  · refine (sx_aload_n D32_19 rfl).trans ?_
    refine (sx_iload_n D32_20 rfl).trans ?_
    exact sx_stat (ag := [(0, a3)]) (r := [(2, a0)]) (al' := [(0, a3)]) (np := 1) (nl := 1) (q := (0, 1, 615)) D32_21 (by decide +kernel) (by decide) mP_1 mL_1 (Nat.le_of_ble_eq_true rfl) rfl rfl (by simp [cat]) rfl rfl
  · refine (sx_aload_n D32_54 rfl).trans ?_
    refine (sx_iload_n D32_55 rfl).trans ?_
    refine (sx_iload_n D32_56 rfl).trans ?_
    refine (sx_iconst D32_57).trans ?_
    refine (sx_iload D32_58 rfl).trans ?_
    exact sx_virt (c := 3) (ag := [(2, a0), (0, a1), (0, a2), (0, 2), (0, a4)]) (r := []) (al' := [(2, a0), (0, a1), (0, a2), (0, 2), (0, a4)]) (np := 4) (nl := 5) (q := (1, 30, 625)) D32_60 (by decide +kernel) (by decide) mP_30 mL_30 mC_30 (Nat.le_of_ble_eq_true rfl) rfl rfl (by simp [cat]) (by decide) (DA_o h0) rfl rfl
theorem E32_24 {d : Nat} {a0 a1 a2 a3 a4 s0 s1 : Int} {S : SS} {I : II}  : ev (d + 1) 32 24 [(2, a0), (0, a1), (0, a2), (0, a3), (0, a4)] [(0, s1), (2, s0)] S I = (ev d 4 0 [(0, a3)] [] S I).bind (fun q => ev (d + 1) 32 28 [(2, a0), (0, a1), (0, a2), (0, a3), (0, a4)] (psh q.1 [(0, s1), (2, s0)]) q.2.1 q.2.2) := by
  refine (sx_iload_n D32_24 rfl).trans ?_
  exact sx_stat (ag := [(0, a3)]) (r := [(0, s1), (2, s0)]) (al' := [(0, a3)]) (np := 1) (nl := 1) (q := (0, 4, 635)) D32_25 (by decide +kernel) (by decide) mP_4 mL_4 (Nat.le_of_ble_eq_true rfl) rfl rfl (by simp [cat]) rfl rfl
theorem E32_28 {d : Nat} {a0 a1 a2 a3 a4 s0 s1 s2 : Int} {S : SS} {I : II} (h0 : DA S s0) : ev (d + 1) 32 28 [(2, a0), (0, a1), (0, a2), (0, a3), (0, a4)] [(0, s2), (0, s1), (2, s0)] S I = (ev d 31 0 [(2, s0), (0, s1), (0, s2)] [] S I).bind (fun q => ev (d + 1) 32 31 [(2, a0), (0, a1), (0, a2), (0, a3), (0, a4)] (psh q.1 []) q.2.1 q.2.2) := by
  exact sx_virt (c := 3) (ag := [(2, s0), (0, s1), (0, s2)]) (r := []) (al' := [(2, s0), (0, s1), (0, s2)]) (np := 2) (nl := 3) (q := (1, 31, 638)) D32_28 (by decide +kernel) (by decide) mP_31 mL_31 mC_31 (Nat.le_of_ble_eq_true rfl) rfl rfl (by simp [cat]) (by decide) (DA_o h0) rfl rfl
theorem E32_31 {d : Nat} {a0 a1 a2 a3 a4 : Int} {S : SS} {I : II} (h0 : DA S a0) : ev (d + 1) 32 31 [(2, a0), (0, a1), (0, a2), (0, a3), (0, a4)] [] S I = (ev d 30 0 [(2, a0), (0, a1), (0, a2), (0, 0), (0, a4)] [] S I).bind (fun q => ev (d + 1) 32 40 [(2, a0), (0, a1), (0, a2), (0, a3), (0, a4)] (psh q.1 []) q.2.1 q.2.2) := by
  refine (sx_aload_n D32_31 rfl).trans ?_
  refine (sx_iload_n D32_32 rfl).trans ?_
  refine (sx_iload_n D32_33 rfl).trans ?_
  refine (sx_iconst D32_34).trans ?_
  refine (sx_iload D32_35 rfl).trans ?_
  exact sx_virt (c := 3) (ag := [(2, a0), (0, a1), (0, a2), (0, 0), (0, a4)]) (r := []) (al' := [(2, a0), (0, a1), (0, a2), (0, 0), (0, a4)]) (np := 4) (nl := 5) (q := (1, 30, 625)) D32_37 (by decide +kernel) (by decide) mP_30 mL_30 mC_30 (Nat.le_of_ble_eq_true rfl) rfl rfl (by simp [cat]) (by decide) (DA_o h0) rfl rfl
theorem E32_40 {d : Nat} {a0 a1 a2 a3 a4 : Int} {S : SS} {I : II}  : ev (d + 1) 32 40 [(2, a0), (0, a1), (0, a2), (0, a3), (0, a4)] [] S I = (ev d 4 0 [(0, a3)] [] S I).bind (fun q => ev (d + 1) 32 48 [(2, a0), (0, a1), (0, a2), (0, a3), (0, a4)] (psh q.1 [(0, 0), (0, a3), (0, a1), (2, a0)]) q.2.1 q.2.2) := by
  refine (sx_aload_n D32_40 rfl).trans ?_
  refine (sx_iload_n D32_41 rfl).trans ?_
  refine (sx_iload_n D32_42 rfl).trans ?_
  refine (sx_iconst D32_43).trans ?_
  refine (sx_iload_n D32_44 rfl).trans ?_
  exact sx_stat (ag := [(0, a3)]) (r := [(0, 0), (0, a3), (0, a1), (2, a0)]) (al' := [(0, a3)]) (np := 1) (nl := 1) (q := (0, 4, 635)) D32_45 (by decide +kernel) (by decide) mP_4 mL_4 (Nat.le_of_ble_eq_true rfl) rfl rfl (by simp [cat]) rfl rfl
theorem E32_48 {d : Nat} {a0 a1 a2 a3 a4 s0 s1 s2 s3 s4 : Int} {S : SS} {I : II} (h0 : DA S s0) : ev (d + 1) 32 48 [(2, a0), (0, a1), (0, a2), (0, a3), (0, a4)] [(0, s4), (0, s3), (0, s2), (0, s1), (2, s0)] S I = (ev d 30 0 [(2, s0), (0, s1), (0, s2), (0, s3), (0, s4)] [] S I).bind (fun q => ev (d + 1) 32 51 [(2, a0), (0, a1), (0, a2), (0, a3), (0, a4)] (psh q.1 []) q.2.1 q.2.2) := by
  exact sx_virt (c := 3) (ag := [(2, s0), (0, s1), (0, s2), (0, s3), (0, s4)]) (r := []) (al' := [(2, s0), (0, s1), (0, s2), (0, s3), (0, s4)]) (np := 4) (nl := 5) (q := (1, 30, 625)) D32_48 (by decide +kernel) (by decide) mP_30 mL_30 mC_30 (Nat.le_of_ble_eq_true rfl) rfl rfl (by simp [cat]) (by decide) (DA_o h0) rfl rfl
theorem E32_51 {d : Nat} {a0 a1 a2 a3 a4 : Int} {S : SS} {I : II}  : ev d 32 51 [(2, a0), (0, a1), (0, a2), (0, a3), (0, a4)] [] S I = ev d 32 71 [(2, a0), (0, a1), (0, a2), (0, a3), (0, a4)] [] S I := by
  refine (sx_goto (pc' := 71) D32_51 (by decide) (by decide)).trans ?_
  exact rfl
theorem E32_63 {d : Nat} {a0 a1 a2 a3 a4 : Int} {S : SS} {I : II} (h0 : DA S a0) : ev (d + 1) 32 63 [(2, a0), (0, a1), (0, a2), (0, a3), (0, a4)] [] S I = (ev d 30 0 [(2, a0), (0, a1), (0, a3), (0, 3), (0, 0)] [] S I).bind (fun q => ev (d + 1) 32 71 [(2, a0), (0, a1), (0, a2), (0, a3), (0, a4)] (psh q.1 []) q.2.1 q.2.2) := by
  refine (sx_aload_n D32_63 rfl).trans ?_
  refine (sx_iload_n D32_64 rfl).trans ?_
  refine (sx_iload_n D32_65 rfl).trans ?_
  refine (sx_iconst D32_66).trans ?_
  refine (sx_iconst D32_67).trans ?_
  exact sx_virt (c := 3) (ag := [(2, a0), (0, a1), (0, a3), (0, 3), (0, 0)]) (r := []) (al' := [(2, a0), (0, a1), (0, a3), (0, 3), (0, 0)]) (np := 4) (nl := 5) (q := (1, 30, 625)) D32_68 (by decide +kernel) (by decide) mP_30 mL_30 mC_30 (Nat.le_of_ble_eq_true rfl) rfl rfl (by simp [cat]) (by decide) (DA_o h0) rfl rfl
theorem E32_71 {d : Nat} {a0 a1 a2 a3 a4 : Int} {S : SS} {I : II}  : ev d 32 71 [(2, a0), (0, a1), (0, a2), (0, a3), (0, a4)] [] S I = some (uU, S, I) := by
  exact sx_return D32_71 (by decide +kernel)
theorem E33_0 {d : Nat} {a0 : Int} {S : SS} {I : II}  : ev d 33 0 [(2, a0), uU, uU, uU] [] S I = ev d 33 4 [(2, a0), (0, 0), (0, 0), uU] [] S I := by
  refine (sx_iconst D33_0).trans ?_
  refine (sx_istore_n (al' := [(2, a0), (0, 0), uU, uU]) D33_1 (Nat.le_of_ble_eq_true rfl) rfl rfl).trans ?_
  refine (sx_iconst D33_2).trans ?_
  refine (sx_istore_n (al' := [(2, a0), (0, 0), (0, 0), uU]) D33_3 (Nat.le_of_ble_eq_true rfl) rfl rfl).trans ?_
  exact rfl
theorem E33_4 {d : Nat} {a0 a1 a2 : Int} {a3 : AV} {S : SS} {I : II} (h0 : DA S a0) : ev (d + 1) 33 4 [(2, a0), (0, a1), (0, a2), a3] [] S I = if w a2 < w (I a0 15) then (if w a2 < 80 then (gdR (0 ≤ w a2 ∧ w a2 < 80) ((ev d 8 0 [(0, I (a0 + 10) (w a2))] [] S I).bind (fun q => ev (d + 1) 33 28 [(2, a0), (0, a1), (0, a2), a3] (psh q.1 [(2, a0)]) q.2.1 q.2.2))) else (ev (d + 1) 33 70 [(2, a0), (0, a1), (0, a2), a3] [] S I)) else (ev (d + 1) 33 70 [(2, a0), (0, a1), (0, a2), a3] [] S I) := by
  refine (sx_iload_n D33_4 rfl).trans ?_
  refine (sx_aload_n D33_5 rfl).trans ?_
  refine (sx_gfI (q := (1, 15, 0, 168)) (j := 15) D33_6 (by decide +kernel) (by decide +kernel) (by decide) (DA_o h0) rfl rfl).trans ?_
  refine sx_if_ge (pc' := 70) D33_9 (by decide) (by decide) ?_ ?_ rfl rfl
  · refine (sx_iload_n D33_12 rfl).trans ?_
    refine (sx_bipush D33_13 (by decide)).trans ?_
    refine sx_if_ge (pc' := 70) D33_15 (by decide) (by decide) ?_ ?_ rfl (w_small (by decide) (by decide))
    · refine (sx_aload_n D33_18 rfl).trans ?_
      refine (sx_aload_n D33_19 rfl).trans ?_
      refine (sx_gfR (q := (1, 16, 0, 170)) (b := a0 + 10) D33_20 (by decide +kernel) (by decide +kernel) (by decide) (DA_o h0) (DA_g16 h0)).trans ?_
      refine (sx_iload_n D33_23 rfl).trans ?_
      refine (sx_ia D33_24 (DA_k16 h0) rfl).trans (gdR_to fun g1 => ?_)
      exact sx_stat (ag := [(0, I (a0 + 10) (w a2))]) (r := [(2, a0)]) (al' := [(0, I (a0 + 10) (w a2))]) (np := 1) (nl := 1) (q := (0, 8, 650)) D33_25 (by decide +kernel) (by decide) mP_8 mL_8 (Nat.le_of_ble_eq_true rfl) rfl rfl (by simp [cat]) rfl rfl
    · exact rfl
  · exact rfl
theorem E33_28 {d : Nat} {a0 a1 a2 s0 s1 : Int} {a3 : AV} {S : SS} {I : II} (h0 : DA S s0) : ev (d + 1) 33 28 [(2, a0), (0, a1), (0, a2), a3] [(0, s1), (2, s0)] S I = (ev d 21 0 [(2, s0), (0, s1)] [] S I).bind (fun q => ev (d + 1) 33 31 [(2, a0), (0, a1), (0, a2), a3] (psh q.1 []) q.2.1 q.2.2) := by
  exact sx_virt (c := 3) (ag := [(2, s0), (0, s1)]) (r := []) (al' := [(2, s0), (0, s1)]) (np := 1) (nl := 2) (q := (1, 21, 543)) D33_28 (by decide +kernel) (by decide) mP_21 mL_21 mC_21 (Nat.le_of_ble_eq_true rfl) rfl rfl (by simp [cat]) (by decide) (DA_o h0) rfl rfl
theorem E33_31 {d : Nat} {a0 a1 a2 s0 : Int} {a3 : AV} {S : SS} {I : II} (h0 : s0 = -1 ∨ LA S s0) (h1 : DA S a0) : ev (d + 1) 33 31 [(2, a0), (0, a1), (0, a2), a3] [(2, s0)] S I = if s0 = -1 then (ev (d + 1) 33 49 [(2, a0), (0, a1), (0, a2), (2, s0)] [] S I) else (gdR (0 ≤ w a2 ∧ w a2 < 80) ((ev d 82 0 [(2, s0), (0, I (a0 + 10) (w a2))] [] S I).bind (fun q => ev (d + 1) 33 46 [(2, a0), (0, a1), (0, a2), (2, s0)] (psh q.1 []) q.2.1 q.2.2))) := by
  refine (sx_astore_n (al' := [(2, a0), (0, a1), (0, a2), (2, s0)]) D33_31 (Nat.le_of_ble_eq_true rfl) rfl rfl).trans ?_
  refine (sx_aload_n D33_32 rfl).trans ?_
  refine sx_ifnull (pc' := 49) D33_33 (by decide) (by decide) (null_ok (h0.imp id (fun h => (LA_o h).1))) (fun _ => ?_) (fun n1 => ?_)
  · exact rfl
  · refine (sx_aload_n D33_36 rfl).trans ?_
    refine (sx_aload_n D33_37 rfl).trans ?_
    refine (sx_gfR (q := (1, 16, 0, 170)) (b := a0 + 10) D33_38 (by decide +kernel) (by decide +kernel) (by decide) (DA_o h1) (DA_g16 h1)).trans ?_
    refine (sx_iload_n D33_41 rfl).trans ?_
    refine (sx_ia D33_42 (DA_k16 h1) rfl).trans (gdR_to fun g2 => ?_)
    exact sx_virt (c := 5) (ag := [(2, s0), (0, I (a0 + 10) (w a2))]) (r := []) (al' := [(2, s0), (0, I (a0 + 10) (w a2))]) (np := 1) (nl := 2) (q := (1, 82, 653)) D33_43 (by decide +kernel) (by decide) mP_82 mL_82 mC_82 (Nat.le_of_ble_eq_true rfl) rfl rfl (by simp [cat]) (by decide) (LA_o (h0.resolve_left n1)) rfl rfl
theorem E33_46 {d : Nat} {a0 a1 a2 a3 s0 : Int} {S : SS} {I : II}  : ev d 33 46 [(2, a0), (0, a1), (0, a2), (2, a3)] [(0, s0)] S I = if w s0 = 0 then (ev d 33 49 [(2, a0), (0, a1), (0, a2), (2, a3)] [] S I) else (ev d 33 64 [(2, a0), (0, a1), (0, a2), (2, a3)] [] S I) := by
  refine sx_i0_ne (pc' := 64) D33_46 (by decide) (by decide) ?_ ?_ rfl
  · exact rfl
  · exact rfl
theorem E33_49 {d : Nat} {a0 a1 a2 a3 : Int} {S : SS} {I : II} (h0 : DA S a0) : ev d 33 49 [(2, a0), (0, a1), (0, a2), (2, a3)] [] S I = gdR (0 ≤ w a2 ∧ w a2 < 80) (gdR (0 ≤ w a1 ∧ w a1 < 80) (ev d 33 64 [(2, a0), (0, a1 + 1), (0, a2), (2, a3)] [] S (up2 I (a0 + 10) (w a1) (I (a0 + 10) (w a2))))) := by
  refine (sx_aload_n D33_49 rfl).trans ?_
  refine (sx_gfR (q := (1, 16, 0, 170)) (b := a0 + 10) D33_50 (by decide +kernel) (by decide +kernel) (by decide) (DA_o h0) (DA_g16 h0)).trans ?_
  refine (sx_iload_n D33_53 rfl).trans ?_
  refine (sx_aload_n D33_54 rfl).trans ?_
  refine (sx_gfR (q := (1, 16, 0, 170)) (b := a0 + 10) D33_55 (by decide +kernel) (by decide +kernel) (by decide) (DA_o h0) (DA_g16 h0)).trans ?_
  refine (sx_iload_n D33_58 rfl).trans ?_
  refine (sx_ia D33_59 (DA_k16 h0) rfl).trans (gdR_to fun g1 => ?_)
  refine (sx_is D33_60 (DA_k16 h0)).trans (gdR_to fun g2 => ?_)
  refine (sx_iinc (al' := [(2, a0), (0, a1 + 1), (0, a2), (2, a3)]) D33_61 rfl rfl).trans ?_
  exact rfl
theorem E33_64 {d : Nat} {a0 a1 a2 a3 : Int} {S : SS} {I : II}  : ev d 33 64 [(2, a0), (0, a1), (0, a2), (2, a3)] [] S I = ev d 33 4 [(2, a0), (0, a1), (0, a2 + 1), (2, a3)] [] S I := by
  refine (sx_iinc (al' := [(2, a0), (0, a1), (0, a2 + 1), (2, a3)]) D33_64 rfl rfl).trans ?_
  refine (sx_goto (pc' := 4) D33_67 (by decide) (by decide)).trans ?_
  exact rfl
theorem E33_70 {d : Nat} {a0 a1 a2 : Int} {a3 : AV} {S : SS} {I : II} (h0 : DA S a0) : ev d 33 70 [(2, a0), (0, a1), (0, a2), a3] [] S I = some (uU, S, (up2 I a0 15 a1)) := by
  refine (sx_aload_n D33_70 rfl).trans ?_
  refine (sx_iload_n D33_71 rfl).trans ?_
  refine (sx_pfI (q := (1, 15, 0, 168)) (j := 15) D33_72 (by decide +kernel) (by decide) (by decide) (DA_o h0) rfl).trans ?_
  exact sx_return D33_75 (by decide +kernel)
theorem E34_0 {d : Nat} {a0 : Int} {S : SS} {I : II}  : ev d 34 0 [(2, a0), uU] [] S I = ev d 34 2 [(2, a0), (0, 0)] [] S I := by
  refine (sx_iconst D34_0).trans ?_
  refine (sx_istore_n (al' := [(2, a0), (0, 0)]) D34_1 (Nat.le_of_ble_eq_true rfl) rfl rfl).trans ?_
  exact rfl
theorem E34_2 {d : Nat} {a0 a1 : Int} {S : SS} {I : II} (h0 : DA S a0) : ev (d + 1) 34 2 [(2, a0), (0, a1)] [] S I = if w a1 < w (I a0 0) then (if w a1 < 5 then (gdR (0 ≤ w a1 ∧ w a1 < 5) ((ev d 84 0 [(2, a0 + 11 + 4 * (w a1))] [] S I).bind (fun q => ev (d + 1) 34 24 [(2, a0), (0, a1)] (psh q.1 []) q.2.1 q.2.2))) else (ev (d + 1) 34 35 [(2, a0), (0, a1)] [] S I)) else (ev (d + 1) 34 35 [(2, a0), (0, a1)] [] S I) := by
  refine (sx_iload_n D34_2 rfl).trans ?_
  refine (sx_aload_n D34_3 rfl).trans ?_
  refine (sx_gfI (q := (1, 0, 0, 146)) (j := 0) D34_4 (by decide +kernel) (by decide +kernel) (by decide) (DA_o h0) rfl rfl).trans ?_
  refine sx_if_ge (pc' := 35) D34_7 (by decide) (by decide) ?_ ?_ rfl rfl
  · refine (sx_iload_n D34_10 rfl).trans ?_
    refine (sx_iconst D34_11).trans ?_
    refine sx_if_ge (pc' := 35) D34_12 (by decide) (by decide) ?_ ?_ rfl (w_small (by decide) (by decide))
    · refine (sx_aload_n D34_15 rfl).trans ?_
      refine (sx_gfR (q := (1, 1, 0, 149)) (b := a0 + 1) D34_16 (by decide +kernel) (by decide +kernel) (by decide) (DA_o h0) (DA_g1 h0)).trans ?_
      refine (sx_iload_n D34_19 rfl).trans ?_
      refine (sx_ra D34_20 (Or.inr rfl) (DA_k1 h0)).trans (gdR_to fun g1 => ?_)
      rw [(DA_e1 h0 _ g1.1 g1.2).1]
      exact sx_virt (c := 5) (ag := [(2, a0 + 11 + 4 * (w a1))]) (r := []) (al' := [(2, a0 + 11 + 4 * (w a1))]) (np := 0) (nl := 1) (q := (1, 84, 665)) D34_21 (by decide +kernel) (by decide) mP_84 mL_84 mC_84 (Nat.le_of_ble_eq_true rfl) rfl rfl (by simp [cat]) (by decide) (LA_o (DA_e1 h0 _ g1.1 g1.2).2) rfl rfl
    · exact rfl
  · exact rfl
theorem E34_24 {d : Nat} {a0 a1 s0 : Int} {S : SS} {I : II}  : ev d 34 24 [(2, a0), (0, a1)] [(0, s0)] S I = if w s0 = 0 then (ev d 34 2 [(2, a0), (0, a1 + 1)] [] S I) else (some ((0, 1), S, I)) := by
  refine sx_i0_eq (pc' := 29) D34_24 (by decide) (by decide) ?_ ?_ rfl
  · refine (sx_iinc (al' := [(2, a0), (0, a1 + 1)]) D34_29 rfl rfl).trans ?_
    refine (sx_goto (pc' := 2) D34_32 (by decide) (by decide)).trans ?_
    exact rfl
  · refine (sx_iconst D34_27).trans ?_
    exact sx_zreturn D34_28 (by decide +kernel) (by decide)
theorem E34_35 {d : Nat} {a0 a1 : Int} {S : SS} {I : II}  : ev d 34 35 [(2, a0), (0, a1)] [] S I = some ((0, 0), S, I) := by
  refine (sx_iconst D34_35).trans ?_
  exact sx_zreturn D34_36 (by decide +kernel) (by decide)
theorem E35_0 {d : Nat} {a0 : Int} {S : SS} {I : II} (h0 : DA S a0) : ev (d + 1) 35 0 [(2, a0), uU, uU] [] S I = (ev d 34 0 [(2, a0), uU] [] S I).bind (fun q => ev (d + 1) 35 4 [(2, a0), uU, uU] (psh q.1 []) q.2.1 q.2.2) := by
  refine (sx_aload_n D35_0 rfl).trans ?_
  exact sx_virt (c := 3) (ag := [(2, a0)]) (r := []) (al' := [(2, a0), uU]) (np := 0) (nl := 2) (q := (1, 34, 661)) D35_1 (by decide +kernel) (by decide) mP_34 mL_34 mC_34 (Nat.le_of_ble_eq_true rfl) rfl rfl (by simp [cat]) (by decide) (DA_o h0) rfl rfl
theorem E35_4 {d : Nat} {a0 s0 : Int} {S : SS} {I : II} (h0 : DA S a0) : ev (d + 1) 35 4 [(2, a0), uU, uU] [(0, s0)] S I = if w s0 = 0 then (some ((0, (-1)), S, I)) else ((ev d 36 0 [(2, a0), (0, 0), uU, uU, uU, uU] [] S I).bind (fun q => ev (d + 1) 35 14 [(2, a0), uU, uU] (psh q.1 []) q.2.1 q.2.2)) := by
  refine sx_i0_ne (pc' := 9) D35_4 (by decide) (by decide) ?_ ?_ rfl
  · refine (sx_iconst D35_7).trans ?_
    exact sx_ireturn D35_8 (by decide +kernel)
  · refine (sx_aload_n D35_9 rfl).trans ?_
    refine (sx_iconst D35_10).trans ?_
    exact sx_virt (c := 3) (ag := [(2, a0), (0, 0)]) (r := []) (al' := [(2, a0), (0, 0), uU, uU, uU, uU]) (np := 1) (nl := 6) (q := (1, 36, 673)) D35_11 (by decide +kernel) (by decide) mP_36 mL_36 mC_36 (Nat.le_of_ble_eq_true rfl) rfl rfl (by simp [cat]) (by decide) (DA_o h0) rfl rfl
theorem E35_14 {d : Nat} {a0 s0 : Int} {S : SS} {I : II} (h0 : DA S a0) : ev (d + 1) 35 14 [(2, a0), uU, uU] [(0, s0)] S I = if w s0 = (-1) then ((ev d 37 0 [(2, a0), uU, uU] [] S I).bind (fun q => ev (d + 1) 35 33 [(2, a0), (0, s0), uU] (psh q.1 []) q.2.1 q.2.2)) else (some ((0, s0), S, (up2 I (a0 + 5) 0 s0))) := by
  refine (sx_istore_n (al' := [(2, a0), (0, s0), uU]) D35_14 (Nat.le_of_ble_eq_true rfl) rfl rfl).trans ?_
  refine (sx_iload_n D35_15 rfl).trans ?_
  refine (sx_iconst D35_16).trans ?_
  refine sx_if_eq (pc' := 29) D35_17 (by decide) (by decide) ?_ ?_ rfl (w_small (by decide) (by decide))
  · refine (sx_aload_n D35_29 rfl).trans ?_
    exact sx_virt (c := 3) (ag := [(2, a0)]) (r := []) (al' := [(2, a0), uU, uU]) (np := 0) (nl := 3) (q := (1, 37, 677)) D35_30 (by decide +kernel) (by decide) mP_37 mL_37 mC_37 (Nat.le_of_ble_eq_true rfl) rfl rfl (by simp [cat]) (by decide) (DA_o h0) rfl rfl
  · refine (sx_aload_n D35_20 rfl).trans ?_
    refine (sx_gfR (q := (1, 5, 0, 153)) (b := a0 + 5) D35_21 (by decide +kernel) (by decide +kernel) (by decide) (DA_o h0) (DA_g5 h0)).trans ?_
    refine (sx_iconst D35_24).trans ?_
    refine (sx_iload_n D35_25 rfl).trans ?_
    refine (sx_isK (j := 0) D35_26 (DA_k5 h0) (w_small (by decide) (by decide)) (by decide) (by decide)).trans ?_
    refine (sx_iload_n D35_27 rfl).trans ?_
    exact sx_ireturn D35_28 (by decide +kernel)
theorem E35_33 {d : Nat} {a0 a1 s0 : Int} {S : SS} {I : II} (h0 : DA S a0) : ev (d + 1) 35 33 [(2, a0), (0, a1), uU] [(0, s0)] S I = if w s0 = (-1) then ((ev d 37 0 [(2, a0), uU, uU] [] S (cpy I (a0 + 3) 0 (a0 + 4) 0 4)).bind (fun q => ev (d + 1) 35 57 [(2, a0), (0, a1), (0, s0)] (psh q.1 []) q.2.1 q.2.2)) else (ev (d + 1) 35 58 [(2, a0), (0, a1), (0, s0)] [] S I) := by
  refine (sx_istore_n (al' := [(2, a0), (0, a1), (0, s0)]) D35_33 (Nat.le_of_ble_eq_true rfl) rfl rfl).trans ?_
  refine (sx_iload_n D35_34 rfl).trans ?_
  refine (sx_iconst D35_35).trans ?_
  refine sx_if_ne (pc' := 58) D35_36 (by decide) (by decide) ?_ ?_ rfl (w_small (by decide) (by decide))
  · refine (sx_aload_n D35_39 rfl).trans ?_
    refine (sx_gfR (q := (1, 3, 0, 151)) (b := a0 + 3) D35_40 (by decide +kernel) (by decide +kernel) (by decide) (DA_o h0) (DA_g3 h0)).trans ?_
    refine (sx_iconst D35_43).trans ?_
    refine (sx_aload_n D35_44 rfl).trans ?_
    refine (sx_gfR (q := (1, 4, 0, 152)) (b := a0 + 4) D35_45 (by decide +kernel) (by decide +kernel) (by decide) (DA_o h0) (DA_g4 h0)).trans ?_
    refine (sx_iconst D35_48).trans ?_
    refine (sx_iconst D35_49).trans ?_
    refine (sx_acpy (q := (11, 0, 538)) D35_50 (by decide +kernel) rfl (DA_k3 h0) (DA_k4 h0) (by decide) (by simp [cat])).trans ?_
    show ev (d + 1) 35 53 [(2, a0), (0, a1), (0, s0)] [] S (cpy I (a0 + 3) 0 (a0 + 4) 0 4) = _
    refine (sx_aload_n D35_53 rfl).trans ?_
    exact sx_virt (c := 3) (ag := [(2, a0)]) (r := []) (al' := [(2, a0), uU, uU]) (np := 0) (nl := 3) (q := (1, 37, 677)) D35_54 (by decide +kernel) (by decide) mP_37 mL_37 mC_37 (Nat.le_of_ble_eq_true rfl) rfl rfl (by simp [cat]) (by decide) (DA_o h0) rfl rfl
  · exact rfl
theorem E35_57 {d : Nat} {a0 a1 a2 s0 : Int} {S : SS} {I : II}  : ev d 35 57 [(2, a0), (0, a1), (0, a2)] [(0, s0)] S I = ev d 35 58 [(2, a0), (0, a1), (0, s0)] [] S I := by
  refine (sx_istore_n (al' := [(2, a0), (0, a1), (0, s0)]) D35_57 (Nat.le_of_ble_eq_true rfl) rfl rfl).trans ?_
  exact rfl
theorem E35_58 {d : Nat} {a0 a1 a2 : Int} {S : SS} {I : II}  : ev d 35 58 [(2, a0), (0, a1), (0, a2)] [] S I = some ((0, a2), S, I) := by
  refine (sx_iload_n D35_58 rfl).trans ?_
  exact sx_ireturn D35_59 (by decide +kernel)
theorem E36_0 {d : Nat} {a0 a1 : Int} {S : SS} {I : II} (h0 : DA S a0) : ev d 36 0 [(2, a0), (0, a1), uU, uU, uU, uU] [] S I = if w a1 < 0 then (ev d 36 18 [(2, a0), (0, a1), uU, uU, uU, uU] [] S I) else (if w a1 < 4 then (gdR (0 ≤ w a1 ∧ w a1 < 4) (ev d 36 19 [(2, a0), (0, a1), uU, uU, uU, uU] [(0, I (a0 + 5) (w a1))] S I)) else (ev d 36 18 [(2, a0), (0, a1), uU, uU, uU, uU] [] S I)) := by
  refine (sx_iload_n D36_0 rfl).trans ?_
  refine sx_i0_lt (pc' := 18) D36_1 (by decide) (by decide) ?_ ?_ rfl
  · exact rfl
  · refine (sx_iload_n D36_4 rfl).trans ?_
    refine (sx_iconst D36_5).trans ?_
    refine sx_if_ge (pc' := 18) D36_6 (by decide) (by decide) ?_ ?_ rfl (w_small (by decide) (by decide))
    · refine (sx_aload_n D36_9 rfl).trans ?_
      refine (sx_gfR (q := (1, 5, 0, 153)) (b := a0 + 5) D36_10 (by decide +kernel) (by decide +kernel) (by decide) (DA_o h0) (DA_g5 h0)).trans ?_
      refine (sx_iload_n D36_13 rfl).trans ?_
      refine (sx_ia D36_14 (DA_k5 h0) rfl).trans (gdR_to fun g1 => ?_)
      refine (sx_goto (pc' := 19) D36_15 (by decide) (by decide)).trans ?_
      exact rfl
    · exact rfl
theorem E36_18 {d : Nat} {a0 a1 : Int} {S : SS} {I : II}  : ev d 36 18 [(2, a0), (0, a1), uU, uU, uU, uU] [] S I = ev d 36 19 [(2, a0), (0, a1), uU, uU, uU, uU] [(0, 0)] S I := by
  refine (sx_iconst D36_18).trans ?_
  exact rfl
theorem E36_19 {d : Nat} {a0 a1 s0 : Int} {S : SS} {I : II}  : ev d 36 19 [(2, a0), (0, a1), uU, uU, uU, uU] [(0, s0)] S I = ev d 36 22 [(2, a0), (0, a1), (0, s0), (0, 1), uU, uU] [] S I := by
  refine (sx_istore_n (al' := [(2, a0), (0, a1), (0, s0), uU, uU, uU]) D36_19 (Nat.le_of_ble_eq_true rfl) rfl rfl).trans ?_
  refine (sx_iconst D36_20).trans ?_
  refine (sx_istore_n (al' := [(2, a0), (0, a1), (0, s0), (0, 1), uU, uU]) D36_21 (Nat.le_of_ble_eq_true rfl) rfl rfl).trans ?_
  exact rfl
theorem E36_22 {d : Nat} {a0 a1 a2 a3 : Int} {a4 a5 : AV} {S : SS} {I : II} (h0 : DA S a0) : ev (d + 1) 36 22 [(2, a0), (0, a1), (0, a2), (0, a3), a4, a5] [] S I = if 5 < w a3 then (some ((0, (-1)), S, I)) else ((ev d 21 0 [(2, a0), (0, iRem (a2 + a3) 5)] [] S I).bind (fun q => ev (d + 1) 36 40 [(2, a0), (0, a1), (0, a2), (0, a3), (0, iRem (a2 + a3) 5), a5] (psh q.1 []) q.2.1 q.2.2)) := by
  refine (sx_iload_n D36_22 rfl).trans ?_
  refine (sx_iconst D36_23).trans ?_
  refine sx_if_gt (pc' := 73) D36_24 (by decide) (by decide) ?_ ?_ rfl (w_small (by decide) (by decide))
  · refine (sx_iconst D36_73).trans ?_
    exact sx_ireturn D36_74 (by decide +kernel)
  · refine (sx_iload_n D36_27 rfl).trans ?_
    refine (sx_iload_n D36_28 rfl).trans ?_
    refine (sx_iadd D36_29).trans ?_
    refine (sx_iconst D36_30).trans ?_
    refine ((sx_irem D36_31).trans (gdR_pos (by decide))).trans ?_
    refine (sx_istore (al' := [(2, a0), (0, a1), (0, a2), (0, a3), (0, iRem (a2 + a3) 5), a5]) D36_32 (Nat.le_of_ble_eq_true rfl) rfl rfl).trans ?_
    refine (sx_aload_n D36_34 rfl).trans ?_
    refine (sx_iload D36_35 rfl).trans ?_
    exact sx_virt (c := 3) (ag := [(2, a0), (0, iRem (a2 + a3) 5)]) (r := []) (al' := [(2, a0), (0, iRem (a2 + a3) 5)]) (np := 1) (nl := 2) (q := (1, 21, 543)) D36_37 (by decide +kernel) (by decide) mP_21 mL_21 mC_21 (Nat.le_of_ble_eq_true rfl) rfl rfl (by simp [cat]) (by decide) (DA_o h0) rfl rfl
theorem E36_40 {d : Nat} {a0 a1 a2 a3 a4 s0 : Int} {a5 : AV} {S : SS} {I : II} (h0 : s0 = -1 ∨ LA S s0) : ev (d + 1) 36 40 [(2, a0), (0, a1), (0, a2), (0, a3), (0, a4), a5] [(2, s0)] S I = if s0 = -1 then (ev (d + 1) 36 67 [(2, a0), (0, a1), (0, a2), (0, a3), (0, a4), (2, s0)] [] S I) else (if w (I s0 2) = w a1 then ((ev d 84 0 [(2, s0)] [] S I).bind (fun q => ev (d + 1) 36 61 [(2, a0), (0, a1), (0, a2), (0, a3), (0, a4), (2, s0)] (psh q.1 []) q.2.1 q.2.2)) else (ev (d + 1) 36 67 [(2, a0), (0, a1), (0, a2), (0, a3), (0, a4), (2, s0)] [] S I)) := by
  refine (sx_astore (al' := [(2, a0), (0, a1), (0, a2), (0, a3), (0, a4), (2, s0)]) D36_40 (Nat.le_of_ble_eq_true rfl) rfl rfl).trans ?_
  refine (sx_aload D36_42 rfl).trans ?_
  refine sx_ifnull (pc' := 67) D36_44 (by decide) (by decide) (null_ok (h0.imp id (fun h => (LA_o h).1))) (fun _ => ?_) (fun n1 => ?_)
  · exact rfl
  · refine (sx_aload D36_47 rfl).trans ?_
    refine (sx_gfI (q := (3, 2, 1, 84)) (j := 2) D36_49 (by decide +kernel) (by decide +kernel) (by decide) (LA_o (h0.resolve_left n1)) rfl rfl).trans ?_
    refine (sx_iload_n D36_52 rfl).trans ?_
    refine sx_if_ne (pc' := 67) D36_53 (by decide) (by decide) ?_ ?_ rfl rfl
    · refine (sx_aload D36_56 rfl).trans ?_
      exact sx_virt (c := 5) (ag := [(2, s0)]) (r := []) (al' := [(2, s0)]) (np := 0) (nl := 1) (q := (1, 84, 665)) D36_58 (by decide +kernel) (by decide) mP_84 mL_84 mC_84 (Nat.le_of_ble_eq_true rfl) rfl rfl (by simp [cat]) (by decide) (LA_o (h0.resolve_left n1)) rfl rfl
    · exact rfl
theorem E36_61 {d : Nat} {a0 a1 a2 a3 a4 a5 s0 : Int} {S : SS} {I : II}  : ev d 36 61 [(2, a0), (0, a1), (0, a2), (0, a3), (0, a4), (2, a5)] [(0, s0)] S I = if w s0 = 0 then (ev d 36 67 [(2, a0), (0, a1), (0, a2), (0, a3), (0, a4), (2, a5)] [] S I) else (some ((0, a4), S, I)) := by
  refine sx_i0_eq (pc' := 67) D36_61 (by decide) (by decide) ?_ ?_ rfl
  · exact rfl
  · refine (sx_iload D36_64 rfl).trans ?_
    exact sx_ireturn D36_66 (by decide +kernel)
theorem E36_67 {d : Nat} {a0 a1 a2 a3 a4 a5 : Int} {S : SS} {I : II}  : ev d 36 67 [(2, a0), (0, a1), (0, a2), (0, a3), (0, a4), (2, a5)] [] S I = ev d 36 22 [(2, a0), (0, a1), (0, a2), (0, a3 + 1), (0, a4), (2, a5)] [] S I := by
  refine (sx_iinc (al' := [(2, a0), (0, a1), (0, a2), (0, a3 + 1), (0, a4), (2, a5)]) D36_67 rfl rfl).trans ?_
  refine (sx_goto (pc' := 22) D36_70 (by decide) (by decide)).trans ?_
  exact rfl
theorem E37_0 {d : Nat} {a0 : Int} {S : SS} {I : II}  : ev d 37 0 [(2, a0), uU, uU] [] S I = ev d 37 2 [(2, a0), (0, 1), uU] [] S I := by
  refine (sx_iconst D37_0).trans ?_
  refine (sx_istore_n (al' := [(2, a0), (0, 1), uU]) D37_1 (Nat.le_of_ble_eq_true rfl) rfl rfl).trans ?_
  exact rfl
theorem E37_2 {d : Nat} {a0 a1 : Int} {a2 : AV} {S : SS} {I : II} (h0 : DA S a0) : ev (d + 1) 37 2 [(2, a0), (0, a1), a2] [] S I = if w a1 < 4 then (gdR (0 ≤ w a1 ∧ w a1 < 4) (if 0 < w (I (a0 + 4) (w a1)) then ((ev d 36 0 [(2, a0), (0, a1), uU, uU, uU, uU] [] S I).bind (fun q => ev (d + 1) 37 21 [(2, a0), (0, a1), a2] (psh q.1 []) q.2.1 q.2.2)) else (ev (d + 1) 37 25 [(2, a0), (0, a1), a2] [(0, (-1))] S I))) else (some ((0, (-1)), S, I)) := by
  refine (sx_iload_n D37_2 rfl).trans ?_
  refine (sx_iconst D37_3).trans ?_
  refine sx_if_ge (pc' := 56) D37_4 (by decide) (by decide) ?_ ?_ rfl (w_small (by decide) (by decide))
  · refine (sx_aload_n D37_7 rfl).trans ?_
    refine (sx_gfR (q := (1, 4, 0, 152)) (b := a0 + 4) D37_8 (by decide +kernel) (by decide +kernel) (by decide) (DA_o h0) (DA_g4 h0)).trans ?_
    refine (sx_iload_n D37_11 rfl).trans ?_
    refine (sx_ia D37_12 (DA_k4 h0) rfl).trans (gdR_to fun g1 => ?_)
    refine sx_i0_le (pc' := 24) D37_13 (by decide) (by decide) ?_ ?_ rfl
    · refine (sx_aload_n D37_16 rfl).trans ?_
      refine (sx_iload_n D37_17 rfl).trans ?_
      exact sx_virt (c := 3) (ag := [(2, a0), (0, a1)]) (r := []) (al' := [(2, a0), (0, a1), uU, uU, uU, uU]) (np := 1) (nl := 6) (q := (1, 36, 673)) D37_18 (by decide +kernel) (by decide) mP_36 mL_36 mC_36 (Nat.le_of_ble_eq_true rfl) rfl rfl (by simp [cat]) (by decide) (DA_o h0) rfl rfl
    · refine (sx_iconst D37_24).trans ?_
      exact rfl
  · refine (sx_iconst D37_56).trans ?_
    exact sx_ireturn D37_57 (by decide +kernel)
theorem E37_21 {d : Nat} {a0 a1 s0 : Int} {a2 : AV} {S : SS} {I : II}  : ev d 37 21 [(2, a0), (0, a1), a2] [(0, s0)] S I = ev d 37 25 [(2, a0), (0, a1), a2] [(0, s0)] S I := by
  refine (sx_goto (pc' := 25) D37_21 (by decide) (by decide)).trans ?_
  exact rfl
theorem E37_25 {d : Nat} {a0 a1 s0 : Int} {a2 : AV} {S : SS} {I : II} (h0 : DA S a0) : ev d 37 25 [(2, a0), (0, a1), a2] [(0, s0)] S I = if w s0 = (-1) then (ev d 37 2 [(2, a0), (0, a1 + 1), (0, s0)] [] S I) else (gdR (0 ≤ w a1 ∧ w a1 < 4) (gdR (0 ≤ w a1 ∧ w a1 < 4) (gdR (0 ≤ w a1 ∧ w a1 < 4) (some ((0, s0), S, (up2 (up2 I (a0 + 4) (w a1) ((I (a0 + 4) (w a1)) - 1)) (a0 + 5) (w a1) s0)))))) := by
  refine (sx_istore_n (al' := [(2, a0), (0, a1), (0, s0)]) D37_25 (Nat.le_of_ble_eq_true rfl) rfl rfl).trans ?_
  refine (sx_iload_n D37_26 rfl).trans ?_
  refine (sx_iconst D37_27).trans ?_
  refine sx_if_eq (pc' := 50) D37_28 (by decide) (by decide) ?_ ?_ rfl (w_small (by decide) (by decide))
  · refine (sx_iinc (al' := [(2, a0), (0, a1 + 1), (0, s0)]) D37_50 rfl rfl).trans ?_
    refine (sx_goto (pc' := 2) D37_53 (by decide) (by decide)).trans ?_
    exact rfl
  · refine (sx_aload_n D37_31 rfl).trans ?_
    refine (sx_gfR (q := (1, 4, 0, 152)) (b := a0 + 4) D37_32 (by decide +kernel) (by decide +kernel) (by decide) (DA_o h0) (DA_g4 h0)).trans ?_
    refine (sx_iload_n D37_35 rfl).trans ?_
    refine (sx_dup2 D37_36 (by decide) (by decide)).trans ?_
    refine (sx_ia D37_37 (DA_k4 h0) rfl).trans (gdR_to fun g1 => ?_)
    refine (sx_iconst D37_38).trans ?_
    refine (sx_isub D37_39).trans ?_
    refine (sx_is D37_40 (DA_k4 h0)).trans (gdR_to fun g2 => ?_)
    refine (sx_aload_n D37_41 rfl).trans ?_
    refine (sx_gfR (q := (1, 5, 0, 153)) (b := a0 + 5) D37_42 (by decide +kernel) (by decide +kernel) (by decide) (DA_o h0) (DA_g5 h0)).trans ?_
    refine (sx_iload_n D37_45 rfl).trans ?_
    refine (sx_iload_n D37_46 rfl).trans ?_
    refine (sx_is D37_47 (DA_k5 h0)).trans (gdR_to fun g3 => ?_)
    refine (sx_iload_n D37_48 rfl).trans ?_
    exact sx_ireturn D37_49 (by decide +kernel)
theorem E38_0 {d : Nat} {a0 a1 a2 : Int} {S : SS} {I : II} (h0 : DA S a0) : ev (d + 1) 38 0 [(2, a0), (0, a1), (2, a2), uU, uU, uU] [] S I = (ev d 21 0 [(2, a0), (0, a1)] [] S I).bind (fun q => ev (d + 1) 38 5 [(2, a0), (0, a1), (2, a2), uU, uU, uU] (psh q.1 []) q.2.1 q.2.2) := by
  refine (sx_aload_n D38_0 rfl).trans ?_
  refine (sx_iload_n D38_1 rfl).trans ?_
  exact sx_virt (c := 3) (ag := [(2, a0), (0, a1)]) (r := []) (al' := [(2, a0), (0, a1)]) (np := 1) (nl := 2) (q := (1, 21, 543)) D38_2 (by decide +kernel) (by decide) mP_21 mL_21 mC_21 (Nat.le_of_ble_eq_true rfl) rfl rfl (by simp [cat]) (by decide) (DA_o h0) rfl rfl
theorem E38_5 {d : Nat} {a0 a1 a2 s0 : Int} {S : SS} {I : II} (h0 : s0 = -1 ∨ LA S s0) : ev (d + 1) 38 5 [(2, a0), (0, a1), (2, a2), uU, uU, uU] [(2, s0)] S I = if s0 = -1 then (some (uU, S, I)) else ((ev d 85 0 [(2, s0), uU] [] S I).bind (fun q => ev (d + 1) 38 15 [(2, a0), (0, a1), (2, a2), (2, s0), uU, uU] (psh q.1 []) q.2.1 q.2.2)) := by
  refine (sx_astore_n (al' := [(2, a0), (0, a1), (2, a2), (2, s0), uU, uU]) D38_5 (Nat.le_of_ble_eq_true rfl) rfl rfl).trans ?_
  refine (sx_aload_n D38_6 rfl).trans ?_
  refine sx_ifnonnull (pc' := 11) D38_7 (by decide) (by decide) (null_ok (h0.imp id (fun h => (LA_o h).1))) (fun _ => ?_) (fun n1 => ?_)
  · exact sx_return D38_10 (by decide +kernel)
  · refine (sx_aload_n D38_11 rfl).trans ?_
    exact sx_virt (c := 5) (ag := [(2, s0)]) (r := []) (al' := [(2, s0), uU]) (np := 0) (nl := 2) (q := (1, 85, 685)) D38_12 (by decide +kernel) (by decide) mP_85 mL_85 mC_85 (Nat.le_of_ble_eq_true rfl) rfl rfl (by simp [cat]) (by decide) (LA_o (h0.resolve_left n1)) rfl rfl
theorem E38_15 {d : Nat} {a0 a1 a2 a3 s0 : Int} {S : SS} {I : II}  : ev (d + 1) 38 15 [(2, a0), (0, a1), (2, a2), (2, a3), uU, uU] [(0, s0)] S I = (ev d 2 0 [(0, s0)] [] S I).bind (fun q => ev (d + 1) 38 22 [(2, a0), (0, a1), (2, a2), (2, a3), (0, s0), uU] (psh q.1 []) q.2.1 q.2.2) := by
  refine (sx_istore (al' := [(2, a0), (0, a1), (2, a2), (2, a3), (0, s0), uU]) D38_15 (Nat.le_of_ble_eq_true rfl) rfl rfl).trans ?_
  refine (sx_iload D38_17 rfl).trans ?_
  exact sx_stat (ag := [(0, s0)]) (r := []) (al' := [(0, s0)]) (np := 1) (nl := 1) (q := (0, 2, 618)) D38_19 (by decide +kernel) (by decide) mP_2 mL_2 (Nat.le_of_ble_eq_true rfl) rfl rfl (by simp [cat]) rfl rfl
theorem E38_22 {d : Nat} {a0 a1 a2 a3 a4 s0 : Int} {S : SS} {I : II}  : ev (d + 1) 38 22 [(2, a0), (0, a1), (2, a2), (2, a3), (0, a4), uU] [(0, s0)] S I = (ev d 5 0 [(0, a4)] [] S I).bind (fun q => ev (d + 1) 38 29 [(2, a0), (0, a1), (2, a2), (2, a3), (0, a4), (0, s0)] (psh q.1 []) q.2.1 q.2.2) := by
  refine (sx_istore (al' := [(2, a0), (0, a1), (2, a2), (2, a3), (0, a4), (0, s0)]) D38_22 (Nat.le_of_ble_eq_true rfl) rfl rfl).trans ?_
  refine (sx_iload D38_24 rfl).trans ?_
  exact sx_stat (ag := [(0, a4)]) (r := []) (al' := [(0, a4)]) (np := 1) (nl := 1) (q := (0, 5, 693)) D38_26 (by decide +kernel) (by decide) mP_5 mL_5 (Nat.le_of_ble_eq_true rfl) rfl rfl (by simp [cat]) rfl rfl
theorem E38_29 {d : Nat} {a0 a1 a2 a3 a4 a5 s0 : Int} {S : SS} {I : II} (h0 : LA S a3) (h1 : DA S a0) : ev (d + 1) 38 29 [(2, a0), (0, a1), (2, a2), (2, a3), (0, a4), (0, a5)] [(0, s0)] S I = if w s0 = 0 then (if w a5 = 3 then (ev (d + 1) 38 63 [(2, a0), (0, a1), (2, a2), (2, a3), (0, a4), (0, a5)] [] S I) else (if w a5 = 2 then ((ev d 87 0 [(2, a3), uU] [] S I).bind (fun q => ev (d + 1) 38 60 [(2, a0), (0, a1), (2, a2), (2, a3), (0, a4), (0, a5)] (psh q.1 []) q.2.1 q.2.2)) else (ev (d + 1) 38 75 [(2, a0), (0, a1), (2, a2), (2, a3), (0, a4), (0, a5)] [] S I))) else ((ev d 30 0 [(2, a0), (0, a1), (0, a4), (0, 1), (0, 0)] [] S I).bind (fun q => ev (d + 1) 38 41 [(2, a0), (0, a1), (2, a2), (2, a3), (0, a4), (0, a5)] (psh q.1 []) q.2.1 q.2.2)) := by
  refine sx_i0_eq (pc' := 44) D38_29 (by decide) (by decide) ?_ ?_ rfl
  · refine (sx_iload D38_44 rfl).trans ?_
    refine (sx_iconst D38_46).trans ?_
    refine sx_if_eq (pc' := 63) D38_47 (by decide) (by decide) ?_ ?_ rfl (w_small (by decide) (by decide))
    · exact rfl
    · refine (sx_iload D38_50 rfl).trans ?_
      refine (sx_iconst D38_52).trans ?_
      refine sx_if_ne (pc' := 75) D38_53 (by decide) (by decide) ?_ ?_ rfl (w_small (by decide) (by decide))
      · refine (sx_aload_n D38_56 rfl).trans ?_
        exact sx_virt (c := 5) (ag := [(2, a3)]) (r := []) (al' := [(2, a3), uU]) (np := 0) (nl := 2) (q := (1, 87, 697)) D38_57 (by decide +kernel) (by decide) mP_87 mL_87 mC_87 (Nat.le_of_ble_eq_true rfl) rfl rfl (by simp [cat]) (by decide) (LA_o h0) rfl rfl
      · exact rfl
  · refine (sx_aload_n D38_32 rfl).trans ?_
    refine (sx_iload_n D38_33 rfl).trans ?_
    refine (sx_iload D38_34 rfl).trans ?_
    refine (sx_iconst D38_36).trans ?_
    refine (sx_iconst D38_37).trans ?_
    exact sx_virt (c := 3) (ag := [(2, a0), (0, a1), (0, a4), (0, 1), (0, 0)]) (r := []) (al' := [(2, a0), (0, a1), (0, a4), (0, 1), (0, 0)]) (np := 4) (nl := 5) (q := (1, 30, 625)) D38_38 (by decide +kernel) (by decide) mP_30 mL_30 mC_30 (Nat.le_of_ble_eq_true rfl) rfl rfl (by simp [cat]) (by decide) (DA_o h1) rfl rfl
theorem E38_41 {d : Nat} {a0 a1 a2 a3 a4 a5 : Int} {S : SS} {I : II}  : ev d 38 41 [(2, a0), (0, a1), (2, a2), (2, a3), (0, a4), (0, a5)] [] S I = ev d 38 172 [(2, a0), (0, a1), (2, a2), (2, a3), (0, a4), (0, a5)] [] S I := by
  refine (sx_goto (pc' := 172) D38_41 (by decide) (by decide)).trans ?_
  exact rfl
theorem E38_60 {d : Nat} {a0 a1 a2 a3 a4 a5 s0 : Int} {S : SS} {I : II}  : ev d 38 60 [(2, a0), (0, a1), (2, a2), (2, a3), (0, a4), (0, a5)] [(0, s0)] S I = if w s0 = 0 then (ev d 38 63 [(2, a0), (0, a1), (2, a2), (2, a3), (0, a4), (0, a5)] [] S I) else (ev d 38 75 [(2, a0), (0, a1), (2, a2), (2, a3), (0, a4), (0, a5)] [] S I) := by
  refine sx_i0_ne (pc' := 75) D38_60 (by decide) (by decide) ?_ ?_ rfl
  · exact rfl
  · exact rfl
theorem E38_63 {d : Nat} {a0 a1 a2 a3 a4 a5 : Int} {S : SS} {I : II} (h0 : DA S a0) : ev (d + 1) 38 63 [(2, a0), (0, a1), (2, a2), (2, a3), (0, a4), (0, a5)] [] S I = (ev d 30 0 [(2, a0), (0, a1), (0, a4), (0, 4), (0, 0)] [] S I).bind (fun q => ev (d + 1) 38 72 [(2, a0), (0, a1), (2, a2), (2, a3), (0, a4), (0, a5)] (psh q.1 []) q.2.1 q.2.2) := by
  refine (sx_aload_n D38_63 rfl).trans ?_
  refine (sx_iload_n D38_64 rfl).trans ?_
  refine (sx_iload D38_65 rfl).trans ?_
  refine (sx_iconst D38_67).trans ?_
  refine (sx_iconst D38_68).trans ?_
  exact sx_virt (c := 3) (ag := [(2, a0), (0, a1), (0, a4), (0, 4), (0, 0)]) (r := []) (al' := [(2, a0), (0, a1), (0, a4), (0, 4), (0, 0)]) (np := 4) (nl := 5) (q := (1, 30, 625)) D38_69 (by decide +kernel) (by decide) mP_30 mL_30 mC_30 (Nat.le_of_ble_eq_true rfl) rfl rfl (by simp [cat]) (by decide) (DA_o h0) rfl rfl
theorem E38_72 {d : Nat} {a0 a1 a2 a3 a4 a5 : Int} {S : SS} {I : II}  : ev d 38 72 [(2, a0), (0, a1), (2, a2), (2, a3), (0, a4), (0, a5)] [] S I = ev d 38 172 [(2, a0), (0, a1), (2, a2), (2, a3), (0, a4), (0, a5)] [] S I := by
  refine (sx_goto (pc' := 172) D38_72 (by decide) (by decide)).trans ?_
  exact rfl
theorem E38_75 {d : Nat} {a0 a1 a2 a3 a4 a5 : Int} {S : SS} {I : II} (h0 : DA S a0) (h1 : LA S a3) (h2 : UA S a2) : ev (d + 1) 38 75 [(2, a0), (0, a1), (2, a2), (2, a3), (0, a4), (0, a5)] [] S I = if w (I a0 10) < 0 then (ev (d + 1) 38 172 [(2, a0), (0, a1), (2, a2), (2, a3), (0, a4), (0, a5)] [] S I) else (if w (I a0 10) < 4 then ((ev d 128 0 [(2, a2), (0, a4), (0, a1), (0, I a3 2), (0, I a0 10), (0, I a0 7)] [] S I).bind (fun q => ev (d + 1) 38 117 [(2, a0), (0, a1), (2, a2), (2, a3), (0, a4), (0, a5)] (psh q.1 [(0, I a0 10), (2, a0 + 6)]) q.2.1 q.2.2)) else (ev (d + 1) 38 172 [(2, a0), (0, a1), (2, a2), (2, a3), (0, a4), (0, a5)] [] S I)) := by
  refine (sx_aload_n D38_75 rfl).trans ?_
  refine (sx_gfI (q := (1, 10, 0, 162)) (j := 10) D38_76 (by decide +kernel) (by decide +kernel) (by decide) (DA_o h0) rfl rfl).trans ?_
  refine sx_i0_lt (pc' := 172) D38_79 (by decide) (by decide) ?_ ?_ rfl
  · exact rfl
  · refine (sx_aload_n D38_82 rfl).trans ?_
    refine (sx_gfI (q := (1, 10, 0, 162)) (j := 10) D38_83 (by decide +kernel) (by decide +kernel) (by decide) (DA_o h0) rfl rfl).trans ?_
    refine (sx_iconst D38_86).trans ?_
    refine sx_if_ge (pc' := 172) D38_87 (by decide) (by decide) ?_ ?_ rfl (w_small (by decide) (by decide))
    · refine (sx_aload_n D38_90 rfl).trans ?_
      refine (sx_gfR (q := (1, 11, 0, 164)) (b := a0 + 6) D38_91 (by decide +kernel) (by decide +kernel) (by decide) (DA_o h0) (DA_g11 h0)).trans ?_
      refine (sx_aload_n D38_94 rfl).trans ?_
      refine (sx_gfI (q := (1, 10, 0, 162)) (j := 10) D38_95 (by decide +kernel) (by decide +kernel) (by decide) (DA_o h0) rfl rfl).trans ?_
      refine (sx_aload_n D38_98 rfl).trans ?_
      refine (sx_iload D38_99 rfl).trans ?_
      refine (sx_iload_n D38_101 rfl).trans ?_
      refine (sx_aload_n D38_102 rfl).trans ?_
      refine (sx_gfI (q := (3, 2, 1, 84)) (j := 2) D38_103 (by decide +kernel) (by decide +kernel) (by decide) (LA_o h1) rfl rfl).trans ?_
      refine (sx_aload_n D38_106 rfl).trans ?_
      refine (sx_gfI (q := (1, 10, 0, 162)) (j := 10) D38_107 (by decide +kernel) (by decide +kernel) (by decide) (DA_o h0) rfl rfl).trans ?_
      refine (sx_aload_n D38_110 rfl).trans ?_
      refine (sx_gfI (q := (1, 7, 0, 156)) (j := 7) D38_111 (by decide +kernel) (by decide +kernel) (by decide) (DA_o h0) rfl rfl).trans ?_
      exact sx_virt (c := 8) (ag := [(2, a2), (0, a4), (0, a1), (0, I a3 2), (0, I a0 10), (0, I a0 7)]) (r := [(0, I a0 10), (2, a0 + 6)]) (al' := [(2, a2), (0, a4), (0, a1), (0, I a3 2), (0, I a0 10), (0, I a0 7)]) (np := 5) (nl := 6) (q := (1, 128, 704)) D38_114 (by decide +kernel) (by decide) mP_128 mL_128 mC_128 (Nat.le_of_ble_eq_true rfl) rfl rfl (by simp [cat]) (by decide) (UA_o h2) rfl rfl
    · exact rfl
theorem E38_117 {d : Nat} {a0 a1 a2 a3 a4 a5 s0 s1 s2 ln0 : Int} {S : SS} {I : II} (h0 : KA S s0 20 ln0) (h1 : DA S a0) (h2 : LA S a3) : ev (d + 1) 38 117 [(2, a0), (0, a1), (2, a2), (2, a3), (0, a4), (0, a5)] [(0, s2), (0, s1), (2, s0)] S I = gdR (0 ≤ w s1 ∧ w s1 < ln0) (gdR (0 ≤ w ((up2 I s0 (w s1) s2) a0 10) ∧ w ((up2 I s0 (w s1) s2) a0 10) < 4) (gdR (0 ≤ w ((up2 I s0 (w s1) s2) a0 10) ∧ w ((up2 I s0 (w s1) s2) a0 10) < 4) (if w a5 = 2 then ((ev d 85 0 [(2, a3), uU] [] S (up2 (up2 (up2 I s0 (w s1) s2) (a0 + 7) (w ((up2 I s0 (w s1) s2) a0 10)) a1) (a0 + 8) (w ((up2 I s0 (w s1) s2) a0 10)) a4)).bind (fun q => ev (d + 1) 38 157 [(2, a0), (0, a1), (2, a2), (2, a3), (0, a4), (0, a5)] (psh q.1 [(0, (up2 I s0 (w s1) s2) a0 10), (2, a0 + 9)]) q.2.1 q.2.2)) else (ev (d + 1) 38 161 [(2, a0), (0, a1), (2, a2), (2, a3), (0, a4), (0, a5)] [(0, (-1)), (0, (up2 I s0 (w s1) s2) a0 10), (2, a0 + 9)] S (up2 (up2 (up2 I s0 (w s1) s2) (a0 + 7) (w ((up2 I s0 (w s1) s2) a0 10)) a1) (a0 + 8) (w ((up2 I s0 (w s1) s2) a0 10)) a4))))) := by
  refine (sx_is D38_117 h0).trans (gdR_to fun g1 => ?_)
  refine (sx_aload_n D38_118 rfl).trans ?_
  refine (sx_gfR (q := (1, 12, 0, 165)) (b := a0 + 7) D38_119 (by decide +kernel) (by decide +kernel) (by decide) (DA_o h1) (DA_g12 h1)).trans ?_
  refine (sx_aload_n D38_122 rfl).trans ?_
  refine (sx_gfI (q := (1, 10, 0, 162)) (j := 10) D38_123 (by decide +kernel) (by decide +kernel) (by decide) (DA_o h1) rfl rfl).trans ?_
  refine (sx_iload_n D38_126 rfl).trans ?_
  refine (sx_is D38_127 (DA_k12 h1)).trans (gdR_to fun g2 => ?_)
  refine (sx_aload_n D38_128 rfl).trans ?_
  refine (sx_gfR (q := (1, 13, 0, 166)) (b := a0 + 8) D38_129 (by decide +kernel) (by decide +kernel) (by decide) (DA_o h1) (DA_g13 h1)).trans ?_
  refine (sx_aload_n D38_132 rfl).trans ?_
  refine (sx_gfI (q := (1, 10, 0, 162)) (j := 10) D38_133 (by decide +kernel) (by decide +kernel) (by decide) (DA_o h1) rfl (up2_cell (by omega))).trans ?_
  refine (sx_iload D38_136 rfl).trans ?_
  refine (sx_is D38_138 (DA_k13 h1)).trans (gdR_to fun g3 => ?_)
  refine (sx_aload_n D38_139 rfl).trans ?_
  refine (sx_gfR (q := (1, 14, 0, 167)) (b := a0 + 9) D38_140 (by decide +kernel) (by decide +kernel) (by decide) (DA_o h1) (DA_g14 h1)).trans ?_
  refine (sx_aload_n D38_143 rfl).trans ?_
  refine (sx_gfI (q := (1, 10, 0, 162)) (j := 10) D38_144 (by decide +kernel) (by decide +kernel) (by decide) (DA_o h1) rfl ((up2_cell (by omega)).trans (up2_cell (by omega)))).trans ?_
  refine (sx_iload D38_147 rfl).trans ?_
  refine (sx_iconst D38_149).trans ?_
  refine sx_if_ne (pc' := 160) D38_150 (by decide) (by decide) ?_ ?_ rfl (w_small (by decide) (by decide))
  · refine (sx_aload_n D38_153 rfl).trans ?_
    exact sx_virt (c := 5) (ag := [(2, a3)]) (r := [(0, (up2 I s0 (w s1) s2) a0 10), (2, a0 + 9)]) (al' := [(2, a3), uU]) (np := 0) (nl := 2) (q := (1, 85, 685)) D38_154 (by decide +kernel) (by decide) mP_85 mL_85 mC_85 (Nat.le_of_ble_eq_true rfl) rfl rfl (by simp [cat]) (by decide) (LA_o h2) rfl rfl
  · refine (sx_iconst D38_160).trans ?_
    exact rfl
theorem E38_157 {d : Nat} {a0 a1 a2 a3 a4 a5 s0 s1 s2 : Int} {S : SS} {I : II}  : ev d 38 157 [(2, a0), (0, a1), (2, a2), (2, a3), (0, a4), (0, a5)] [(0, s2), (0, s1), (2, s0)] S I = ev d 38 161 [(2, a0), (0, a1), (2, a2), (2, a3), (0, a4), (0, a5)] [(0, s2), (0, s1), (2, s0)] S I := by
  refine (sx_goto (pc' := 161) D38_157 (by decide) (by decide)).trans ?_
  exact rfl
theorem E38_161 {d : Nat} {a0 a1 a2 a3 a4 a5 s0 s1 s2 ln0 : Int} {S : SS} {I : II} (h0 : KA S s0 20 ln0) (h1 : DA S a0) : ev d 38 161 [(2, a0), (0, a1), (2, a2), (2, a3), (0, a4), (0, a5)] [(0, s2), (0, s1), (2, s0)] S I = gdR (0 ≤ w s1 ∧ w s1 < ln0) (ev d 38 172 [(2, a0), (0, a1), (2, a2), (2, a3), (0, a4), (0, a5)] [] S (up2 (up2 I s0 (w s1) s2) a0 10 (((up2 I s0 (w s1) s2) a0 10) + 1))) := by
  refine (sx_is D38_161 h0).trans (gdR_to fun g1 => ?_)
  refine (sx_aload_n D38_162 rfl).trans ?_
  refine (sx_dup D38_163 (by decide)).trans ?_
  refine (sx_gfI (q := (1, 10, 0, 162)) (j := 10) D38_164 (by decide +kernel) (by decide +kernel) (by decide) (DA_o h1) rfl rfl).trans ?_
  refine (sx_iconst D38_167).trans ?_
  refine (sx_iadd D38_168).trans ?_
  refine (sx_pfI (q := (1, 10, 0, 162)) (j := 10) D38_169 (by decide +kernel) (by decide) (by decide) (DA_o h1) rfl).trans ?_
  exact rfl
theorem E38_172 {d : Nat} {a0 a1 a2 a3 a4 a5 : Int} {S : SS} {I : II}  : ev d 38 172 [(2, a0), (0, a1), (2, a2), (2, a3), (0, a4), (0, a5)] [] S I = some (uU, S, I) := by
  exact sx_return D38_172 (by decide +kernel)
theorem E39_0 {d : Nat} {a0 a1 : Int} {S : SS} {I : II} (h0 : DA S a0) : ev (d + 1) 39 0 [(2, a0), (0, a1), (2, 3), uU, uU] [] S I = (ev d 21 0 [(2, a0), (0, a1)] [] S I).bind (fun q => ev (d + 1) 39 5 [(2, a0), (0, a1), (2, 3), uU, uU] (psh q.1 []) q.2.1 q.2.2) := by
  refine (sx_aload_n D39_0 rfl).trans ?_
  refine (sx_iload_n D39_1 rfl).trans ?_
  exact sx_virt (c := 3) (ag := [(2, a0), (0, a1)]) (r := []) (al' := [(2, a0), (0, a1)]) (np := 1) (nl := 2) (q := (1, 21, 543)) D39_2 (by decide +kernel) (by decide) mP_21 mL_21 mC_21 (Nat.le_of_ble_eq_true rfl) rfl rfl (by simp [cat]) (by decide) (DA_o h0) rfl rfl
theorem E39_5 {d : Nat} {a0 a1 s0 : Int} {S : SS} {I : II} (h0 : s0 = -1 ∨ LA S s0) : ev (d + 1) 39 5 [(2, a0), (0, a1), (2, 3), uU, uU] [(2, s0)] S I = if s0 = -1 then (some ((0, (-1)), S, I)) else (if w (I s0 10) < w (I s0 9) then ((ev d 88 0 [(2, s0), (0, I s0 10)] [] S I).bind (fun q => ev (d + 1) 39 34 [(2, a0), (0, a1), (2, 3), (2, s0), uU] (psh q.1 []) q.2.1 q.2.2)) else (some ((0, (-2)), S, I))) := by
  refine (sx_astore_n (al' := [(2, a0), (0, a1), (2, 3), (2, s0), uU]) D39_5 (Nat.le_of_ble_eq_true rfl) rfl rfl).trans ?_
  refine (sx_aload_n D39_6 rfl).trans ?_
  refine sx_ifnonnull (pc' := 12) D39_7 (by decide) (by decide) (null_ok (h0.imp id (fun h => (LA_o h).1))) (fun _ => ?_) (fun n1 => ?_)
  · refine (sx_iconst D39_10).trans ?_
    exact sx_ireturn D39_11 (by decide +kernel)
  · refine (sx_aload_n D39_12 rfl).trans ?_
    refine (sx_gfI (q := (3, 10, 1, 99)) (j := 10) D39_13 (by decide +kernel) (by decide +kernel) (by decide) (LA_o (h0.resolve_left n1)) rfl rfl).trans ?_
    refine (sx_aload_n D39_16 rfl).trans ?_
    refine (sx_gfI (q := (3, 9, 1, 97)) (j := 9) D39_17 (by decide +kernel) (by decide +kernel) (by decide) (LA_o (h0.resolve_left n1)) rfl rfl).trans ?_
    refine sx_if_lt (pc' := 26) D39_20 (by decide) (by decide) ?_ ?_ rfl rfl
    · refine (sx_aload_n D39_26 rfl).trans ?_
      refine (sx_aload_n D39_27 rfl).trans ?_
      refine (sx_gfI (q := (3, 10, 1, 99)) (j := 10) D39_28 (by decide +kernel) (by decide +kernel) (by decide) (LA_o (h0.resolve_left n1)) rfl rfl).trans ?_
      exact sx_virt (c := 5) (ag := [(2, s0), (0, I s0 10)]) (r := []) (al' := [(2, s0), (0, I s0 10)]) (np := 1) (nl := 2) (q := (1, 88, 747)) D39_31 (by decide +kernel) (by decide) mP_88 mL_88 mC_88 (Nat.le_of_ble_eq_true rfl) rfl rfl (by simp [cat]) (by decide) (LA_o (h0.resolve_left n1)) rfl rfl
    · refine (sx_bipush D39_23 (by decide)).trans ?_
      exact sx_ireturn D39_25 (by decide +kernel)
theorem E39_34 {d : Nat} {a0 a1 a3 s0 : Int} {S : SS} {I : II}  : ev (d + 1) 39 34 [(2, a0), (0, a1), (2, 3), (2, a3), uU] [(0, s0)] S I = (ev d 9 0 [(0, s0)] [] S I).bind (fun q => ev (d + 1) 39 42 [(2, a0), (0, a1), (2, 3), (2, a3), (0, s0)] (psh q.1 [(2, 3)]) q.2.1 q.2.2) := by
  refine (sx_istore (al' := [(2, a0), (0, a1), (2, 3), (2, a3), (0, s0)]) D39_34 (Nat.le_of_ble_eq_true rfl) rfl rfl).trans ?_
  refine (sx_aload_n D39_36 rfl).trans ?_
  refine (sx_iload D39_37 rfl).trans ?_
  exact sx_stat (ag := [(0, s0)]) (r := [(2, 3)]) (al' := [(0, s0)]) (np := 1) (nl := 1) (q := (0, 9, 751)) D39_39 (by decide +kernel) (by decide) mP_9 mL_9 (Nat.le_of_ble_eq_true rfl) rfl rfl (by simp [cat]) rfl rfl
theorem E39_42 {d : Nat} {a0 a1 a3 a4 s1 : Int} {S : SS} {I : II} (h0 : LA S a3) : ev (d + 1) 39 42 [(2, a0), (0, a1), (2, 3), (2, a3), (0, a4)] [(0, s1), (2, 3)] S I = (ev d 89 0 [(2, a3), (0, I a3 10)] [] S I).bind (fun q => ev (d + 1) 39 51 [(2, a0), (0, a1), (2, 3), (2, a3), (0, a4)] (psh q.1 [(1, w s1), (2, 3)]) q.2.1 q.2.2) := by
  refine (sx_i2l D39_42).trans ?_
  refine (sx_aload_n D39_43 rfl).trans ?_
  refine (sx_aload_n D39_44 rfl).trans ?_
  refine (sx_gfI (q := (3, 10, 1, 99)) (j := 10) D39_45 (by decide +kernel) (by decide +kernel) (by decide) (LA_o h0) rfl rfl).trans ?_
  exact sx_virt (c := 5) (ag := [(2, a3), (0, I a3 10)]) (r := [(1, w s1), (2, 3)]) (al' := [(2, a3), (0, I a3 10)]) (np := 1) (nl := 2) (q := (1, 89, 754)) D39_48 (by decide +kernel) (by decide) mP_89 mL_89 mC_89 (Nat.le_of_ble_eq_true rfl) rfl rfl (by simp [cat]) (by decide) (LA_o h0) rfl rfl
theorem E39_51 {d : Nat} {a0 a1 a3 a4 s1 s2 : Int} {S : SS} {I : II} (h0 : LA S a3) : ev (d + 1) 39 51 [(2, a0), (0, a1), (2, 3), (2, a3), (0, a4)] [(0, s2), (1, s1), (2, 3)] S I = (ev d 90 0 [(2, a3), (0, I a3 10)] [] S I).bind (fun q => ev (d + 1) 39 60 [(2, a0), (0, a1), (2, 3), (2, a3), (0, a4)] (psh q.1 [(1, w s2), (1, s1), (2, 3)]) q.2.1 q.2.2) := by
  refine (sx_i2l D39_51).trans ?_
  refine (sx_aload_n D39_52 rfl).trans ?_
  refine (sx_aload_n D39_53 rfl).trans ?_
  refine (sx_gfI (q := (3, 10, 1, 99)) (j := 10) D39_54 (by decide +kernel) (by decide +kernel) (by decide) (LA_o h0) rfl rfl).trans ?_
  exact sx_virt (c := 5) (ag := [(2, a3), (0, I a3 10)]) (r := [(1, w s2), (1, s1), (2, 3)]) (al' := [(2, a3), (0, I a3 10)]) (np := 1) (nl := 2) (q := (1, 90, 758)) D39_57 (by decide +kernel) (by decide) mP_90 mL_90 mC_90 (Nat.le_of_ble_eq_true rfl) rfl rfl (by simp [cat]) (by decide) (LA_o h0) rfl rfl
theorem E39_60 {d : Nat} {a0 a1 a3 a4 s1 s2 s3 : Int} {S : SS} {I : II} (h0 : RA S 3) : ev (d + 1) 39 60 [(2, a0), (0, a1), (2, 3), (2, a3), (0, a4)] [(0, s3), (1, s2), (1, s1), (2, 3)] S I = (ev d 113 0 [(2, 3), (1, s1), uU, (1, s2), uU, (1, w s3), uU] [] S I).bind (fun q => ev (d + 1) 39 64 [(2, a0), (0, a1), (2, 3), (2, a3), (0, a4)] (psh q.1 []) q.2.1 q.2.2) := by
  refine (sx_i2l D39_60).trans ?_
  exact sx_virt (c := 7) (ag := [(2, 3), (1, s1), (1, s2), (1, w s3)]) (r := []) (al' := [(2, 3), (1, s1), uU, (1, s2), uU, (1, w s3), uU]) (np := 3) (nl := 7) (q := (1, 113, 762)) D39_61 (by decide +kernel) (by decide) mP_113 mL_113 mC_113 (Nat.le_of_ble_eq_true rfl) rfl rfl (by simp [cat]) (by decide) (RA_o h0) rfl rfl
theorem E39_64 {d : Nat} {a0 a1 a3 a4 : Int} {S : SS} {I : II} (h0 : LA S a3) : ev (d + 1) 39 64 [(2, a0), (0, a1), (2, 3), (2, a3), (0, a4)] [] S I = (ev d 91 0 [(2, a3)] [] S I).bind (fun q => ev (d + 1) 39 68 [(2, a0), (0, a1), (2, 3), (2, a3), (0, a4)] (psh q.1 []) q.2.1 q.2.2) := by
  refine (sx_aload_n D39_64 rfl).trans ?_
  exact sx_virt (c := 5) (ag := [(2, a3)]) (r := []) (al' := [(2, a3)]) (np := 0) (nl := 1) (q := (1, 91, 767)) D39_65 (by decide +kernel) (by decide) mP_91 mL_91 mC_91 (Nat.le_of_ble_eq_true rfl) rfl rfl (by simp [cat]) (by decide) (LA_o h0) rfl rfl
theorem E39_68 {d : Nat} {a0 a1 a3 a4 : Int} {S : SS} {I : II}  : ev (d + 1) 39 68 [(2, a0), (0, a1), (2, 3), (2, a3), (0, a4)] [] S I = (ev d 10 0 [(0, a4)] [] S I).bind (fun q => ev (d + 1) 39 75 [(2, a0), (0, a1), (2, 3), (2, a3), (0, a4)] (psh q.1 [(0, 10)]) q.2.1 q.2.2) := by
  refine (sx_bipush D39_68 (by decide)).trans ?_
  refine (sx_iload D39_70 rfl).trans ?_
  exact sx_stat (ag := [(0, a4)]) (r := [(0, 10)]) (al' := [(0, a4)]) (np := 1) (nl := 1) (q := (0, 10, 776)) D39_72 (by decide +kernel) (by decide) mP_10 mL_10 (Nat.le_of_ble_eq_true rfl) rfl rfl (by simp [cat]) rfl rfl
theorem E39_75 {d : Nat} {a0 a1 a3 a4 s0 s1 : Int} {S : SS} {I : II}  : ev (d + 1) 39 75 [(2, a0), (0, a1), (2, 3), (2, a3), (0, a4)] [(0, s1), (0, s0)] S I = (ev d 11 0 [(0, a4)] [] S I).bind (fun q => ev (d + 1) 39 81 [(2, a0), (0, a1), (2, 3), (2, a3), (0, a4)] (psh q.1 [(0, s0 * s1)]) q.2.1 q.2.2) := by
  refine (sx_imul D39_75).trans ?_
  refine (sx_iload D39_76 rfl).trans ?_
  exact sx_stat (ag := [(0, a4)]) (r := [(0, s0 * s1)]) (al' := [(0, a4)]) (np := 1) (nl := 1) (q := (0, 11, 777)) D39_78 (by decide +kernel) (by decide) mP_11 mL_11 (Nat.le_of_ble_eq_true rfl) rfl rfl (by simp [cat]) rfl rfl
theorem E39_81 {d : Nat} {a0 a1 a3 a4 s0 s1 : Int} {S : SS} {I : II}  : ev d 39 81 [(2, a0), (0, a1), (2, 3), (2, a3), (0, a4)] [(0, s1), (0, s0)] S I = some ((0, s0 + s1), S, I) := by
  refine (sx_iadd D39_81).trans ?_
  exact sx_ireturn D39_82 (by decide +kernel)
theorem E40_0 {d : Nat} {a0 a1 a2 : Int} {S : SS} {I : II} (h0 : DA S a0) : ev (d + 1) 40 0 [(2, a0), (0, a1), (0, a2), uU, uU] [] S I = (ev d 41 0 [(2, a0), (0, a1), (0, a2), uU, uU, uU] [] S I).bind (fun q => ev (d + 1) 40 6 [(2, a0), (0, a1), (0, a2), uU, uU] (psh q.1 []) q.2.1 q.2.2) := by
  refine (sx_aload_n D40_0 rfl).trans ?_
  refine (sx_iload_n D40_1 rfl).trans ?_
  refine (sx_iload_n D40_2 rfl).trans ?_
  exact sx_virt (c := 3) (ag := [(2, a0), (0, a1), (0, a2)]) (r := []) (al' := [(2, a0), (0, a1), (0, a2), uU, uU, uU]) (np := 2) (nl := 6) (q := (1, 41, 788)) D40_3 (by decide +kernel) (by decide) mP_41 mL_41 mC_41 (Nat.le_of_ble_eq_true rfl) rfl rfl (by simp [cat]) (by decide) (DA_o h0) rfl rfl
theorem E40_6 {d : Nat} {a0 a1 a2 s0 : Int} {S : SS} {I : II} (h0 : DA S a0) : ev (d + 1) 40 6 [(2, a0), (0, a1), (0, a2), uU, uU] [(0, s0)] S I = (ev d 21 0 [(2, a0), (0, a1)] [] S I).bind (fun q => ev (d + 1) 40 12 [(2, a0), (0, a1), (0, a2), (0, s0), uU] (psh q.1 []) q.2.1 q.2.2) := by
  refine (sx_istore_n (al' := [(2, a0), (0, a1), (0, a2), (0, s0), uU]) D40_6 (Nat.le_of_ble_eq_true rfl) rfl rfl).trans ?_
  refine (sx_aload_n D40_7 rfl).trans ?_
  refine (sx_iload_n D40_8 rfl).trans ?_
  exact sx_virt (c := 3) (ag := [(2, a0), (0, a1)]) (r := []) (al' := [(2, a0), (0, a1)]) (np := 1) (nl := 2) (q := (1, 21, 543)) D40_9 (by decide +kernel) (by decide) mP_21 mL_21 mC_21 (Nat.le_of_ble_eq_true rfl) rfl rfl (by simp [cat]) (by decide) (DA_o h0) rfl rfl
theorem E40_12 {d : Nat} {a0 a1 a2 a3 s0 : Int} {S : SS} {I : II} (h0 : s0 = -1 ∨ LA S s0) : ev (d + 1) 40 12 [(2, a0), (0, a1), (0, a2), (0, a3), uU] [(2, s0)] S I = if w a3 = 0 then (if s0 = -1 then (ev (d + 1) 40 34 [(2, a0), (0, a1), (0, a2), (0, a3), (2, s0)] [] S I) else ((ev d 92 0 [(2, s0), (0, a2), uU] [] S I).bind (fun q => ev (d + 1) 40 31 [(2, a0), (0, a1), (0, a2), (0, a3), (2, s0)] (psh q.1 [(2, s0)]) q.2.1 q.2.2))) else (ev (d + 1) 40 34 [(2, a0), (0, a1), (0, a2), (0, a3), (2, s0)] [] S I) := by
  refine (sx_astore (al' := [(2, a0), (0, a1), (0, a2), (0, a3), (2, s0)]) D40_12 (Nat.le_of_ble_eq_true rfl) rfl rfl).trans ?_
  refine (sx_iload_n D40_14 rfl).trans ?_
  refine sx_i0_ne (pc' := 34) D40_15 (by decide) (by decide) ?_ ?_ rfl
  · refine (sx_aload D40_18 rfl).trans ?_
    refine sx_ifnull (pc' := 34) D40_20 (by decide) (by decide) (null_ok (h0.imp id (fun h => (LA_o h).1))) (fun _ => ?_) (fun n1 => ?_)
    · exact rfl
    · refine (sx_aload D40_23 rfl).trans ?_
      refine (sx_aload D40_25 rfl).trans ?_
      refine (sx_iload_n D40_27 rfl).trans ?_
      exact sx_virt (c := 5) (ag := [(2, s0), (0, a2)]) (r := [(2, s0)]) (al' := [(2, s0), (0, a2), uU]) (np := 1) (nl := 3) (q := (1, 92, 792)) D40_28 (by decide +kernel) (by decide) mP_92 mL_92 mC_92 (Nat.le_of_ble_eq_true rfl) rfl rfl (by simp [cat]) (by decide) (LA_o (h0.resolve_left n1)) rfl rfl
  · exact rfl
theorem E40_31 {d : Nat} {a0 a1 a2 a3 a4 s0 s1 : Int} {S : SS} {I : II} (h0 : LA S s0) : ev (d + 1) 40 31 [(2, a0), (0, a1), (0, a2), (0, a3), (2, a4)] [(0, s1), (2, s0)] S I = (ev d 94 0 [(2, s0), (0, s1)] [] S I).bind (fun q => ev (d + 1) 40 34 [(2, a0), (0, a1), (0, a2), (0, a3), (2, a4)] (psh q.1 []) q.2.1 q.2.2) := by
  exact sx_virt (c := 5) (ag := [(2, s0), (0, s1)]) (r := []) (al' := [(2, s0), (0, s1)]) (np := 1) (nl := 2) (q := (1, 94, 806)) D40_31 (by decide +kernel) (by decide) mP_94 mL_94 mC_94 (Nat.le_of_ble_eq_true rfl) rfl rfl (by simp [cat]) (by decide) (LA_o h0) rfl rfl
theorem E40_34 {d : Nat} {a0 a1 a2 a3 a4 : Int} {S : SS} {I : II} (h0 : DA S a0) : ev (d + 1) 40 34 [(2, a0), (0, a1), (0, a2), (0, a3), (2, a4)] [] S I = if w a3 = 1 then ((ev d 42 0 [(2, a0), (0, a1), (0, a2), uU, uU, uU] [] S I).bind (fun q => ev (d + 1) 40 46 [(2, a0), (0, a1), (0, a2), (0, a3), (2, a4)] (psh q.1 [(2, a0)]) q.2.1 q.2.2)) else (ev (d + 1) 40 49 [(2, a0), (0, a1), (0, a2), (0, a3), (2, a4)] [] S I) := by
  refine (sx_iload_n D40_34 rfl).trans ?_
  refine (sx_iconst D40_35).trans ?_
  refine sx_if_ne (pc' := 49) D40_36 (by decide) (by decide) ?_ ?_ rfl (w_small (by decide) (by decide))
  · refine (sx_aload_n D40_39 rfl).trans ?_
    refine (sx_aload_n D40_40 rfl).trans ?_
    refine (sx_iload_n D40_41 rfl).trans ?_
    refine (sx_iload_n D40_42 rfl).trans ?_
    exact sx_virt (c := 3) (ag := [(2, a0), (0, a1), (0, a2)]) (r := [(2, a0)]) (al' := [(2, a0), (0, a1), (0, a2), uU, uU, uU]) (np := 2) (nl := 6) (q := (1, 42, 802)) D40_43 (by decide +kernel) (by decide) mP_42 mL_42 mC_42 (Nat.le_of_ble_eq_true rfl) rfl rfl (by simp [cat]) (by decide) (DA_o h0) rfl rfl
  · exact rfl
theorem E40_46 {d : Nat} {a0 a1 a2 a3 a4 s0 s1 : Int} {S : SS} {I : II} (h0 : DA S s0) : ev (d + 1) 40 46 [(2, a0), (0, a1), (0, a2), (0, a3), (2, a4)] [(0, s1), (2, s0)] S I = (ev d 43 0 [(2, s0), (0, s1), uU] [] S I).bind (fun q => ev (d + 1) 40 49 [(2, a0), (0, a1), (0, a2), (0, a3), (2, a4)] (psh q.1 []) q.2.1 q.2.2) := by
  exact sx_virt (c := 3) (ag := [(2, s0), (0, s1)]) (r := []) (al' := [(2, s0), (0, s1), uU]) (np := 1) (nl := 3) (q := (1, 43, 811)) D40_46 (by decide +kernel) (by decide) mP_43 mL_43 mC_43 (Nat.le_of_ble_eq_true rfl) rfl rfl (by simp [cat]) (by decide) (DA_o h0) rfl rfl
theorem E40_49 {d : Nat} {a0 a1 a2 a3 a4 : Int} {S : SS} {I : II}  : ev d 40 49 [(2, a0), (0, a1), (0, a2), (0, a3), (2, a4)] [] S I = some ((0, a3), S, I) := by
  refine (sx_iload_n D40_49 rfl).trans ?_
  exact sx_ireturn D40_50 (by decide +kernel)
theorem E41_0 {d : Nat} {a0 a1 a2 : Int} {S : SS} {I : II} (h0 : DA S a0) : ev (d + 1) 41 0 [(2, a0), (0, a1), (0, a2), uU, uU, uU] [] S I = (ev d 21 0 [(2, a0), (0, a1)] [] S I).bind (fun q => ev (d + 1) 41 5 [(2, a0), (0, a1), (0, a2), uU, uU, uU] (psh q.1 []) q.2.1 q.2.2) := by
  refine (sx_aload_n D41_0 rfl).trans ?_
  refine (sx_iload_n D41_1 rfl).trans ?_
  exact sx_virt (c := 3) (ag := [(2, a0), (0, a1)]) (r := []) (al' := [(2, a0), (0, a1)]) (np := 1) (nl := 2) (q := (1, 21, 543)) D41_2 (by decide +kernel) (by decide) mP_21 mL_21 mC_21 (Nat.le_of_ble_eq_true rfl) rfl rfl (by simp [cat]) (by decide) (DA_o h0) rfl rfl
theorem E41_5 {d : Nat} {a0 a1 a2 s0 : Int} {S : SS} {I : II} (h0 : s0 = -1 ∨ LA S s0) : ev (d + 1) 41 5 [(2, a0), (0, a1), (0, a2), uU, uU, uU] [(2, s0)] S I = if s0 = -1 then (ev (d + 1) 41 20 [(2, a0), (0, a1), (0, a2), (2, s0), uU, uU] [] S I) else (if w a2 < 0 then (ev (d + 1) 41 20 [(2, a0), (0, a1), (0, a2), (2, s0), uU, uU] [] S I) else (if w a2 < 16 then ((ev d 92 0 [(2, s0), (0, a2), uU] [] S I).bind (fun q => ev (d + 1) 41 27 [(2, a0), (0, a1), (0, a2), (2, s0), uU, uU] (psh q.1 []) q.2.1 q.2.2)) else (ev (d + 1) 41 20 [(2, a0), (0, a1), (0, a2), (2, s0), uU, uU] [] S I))) := by
  refine (sx_astore_n (al' := [(2, a0), (0, a1), (0, a2), (2, s0), uU, uU]) D41_5 (Nat.le_of_ble_eq_true rfl) rfl rfl).trans ?_
  refine (sx_aload_n D41_6 rfl).trans ?_
  refine sx_ifnull (pc' := 20) D41_7 (by decide) (by decide) (null_ok (h0.imp id (fun h => (LA_o h).1))) (fun _ => ?_) (fun n1 => ?_)
  · exact rfl
  · refine (sx_iload_n D41_10 rfl).trans ?_
    refine sx_i0_lt (pc' := 20) D41_11 (by decide) (by decide) ?_ ?_ rfl
    · exact rfl
    · refine (sx_iload_n D41_14 rfl).trans ?_
      refine (sx_bipush D41_15 (by decide)).trans ?_
      refine sx_if_lt (pc' := 22) D41_17 (by decide) (by decide) ?_ ?_ rfl (w_small (by decide) (by decide))
      · refine (sx_aload_n D41_22 rfl).trans ?_
        refine (sx_iload_n D41_23 rfl).trans ?_
        exact sx_virt (c := 5) (ag := [(2, s0), (0, a2)]) (r := []) (al' := [(2, s0), (0, a2), uU]) (np := 1) (nl := 3) (q := (1, 92, 792)) D41_24 (by decide +kernel) (by decide) mP_92 mL_92 mC_92 (Nat.le_of_ble_eq_true rfl) rfl rfl (by simp [cat]) (by decide) (LA_o (h0.resolve_left n1)) rfl rfl
      · exact rfl
theorem E41_20 {d : Nat} {a0 a1 a2 a3 : Int} {S : SS} {I : II}  : ev d 41 20 [(2, a0), (0, a1), (0, a2), (2, a3), uU, uU] [] S I = some ((0, (-1)), S, I) := by
  refine (sx_iconst D41_20).trans ?_
  exact sx_ireturn D41_21 (by decide +kernel)
theorem E41_27 {d : Nat} {a0 a1 a2 a3 s0 : Int} {S : SS} {I : II} (h0 : DA S a0) (h1 : LA S a3) : ev (d + 1) 41 27 [(2, a0), (0, a1), (0, a2), (2, a3), uU, uU] [(0, s0)] S I = if w s0 = (-1) then ((ev d 42 0 [(2, a0), (0, a1), (0, a2), uU, uU, uU] [] S I).bind (fun q => ev (d + 1) 41 60 [(2, a0), (0, a1), (0, a2), (2, a3), (0, s0), uU] (psh q.1 []) q.2.1 q.2.2)) else ((ev d 86 0 [(2, a3), (0, s0)] [] S I).bind (fun q => ev (d + 1) 41 41 [(2, a0), (0, a1), (0, a2), (2, a3), (0, s0), uU] (psh q.1 []) q.2.1 q.2.2)) := by
  refine (sx_istore (al' := [(2, a0), (0, a1), (0, a2), (2, a3), (0, s0), uU]) D41_27 (Nat.le_of_ble_eq_true rfl) rfl rfl).trans ?_
  refine (sx_iload D41_29 rfl).trans ?_
  refine (sx_iconst D41_31).trans ?_
  refine sx_if_eq (pc' := 54) D41_32 (by decide) (by decide) ?_ ?_ rfl (w_small (by decide) (by decide))
  · refine (sx_aload_n D41_54 rfl).trans ?_
    refine (sx_iload_n D41_55 rfl).trans ?_
    refine (sx_iload_n D41_56 rfl).trans ?_
    exact sx_virt (c := 3) (ag := [(2, a0), (0, a1), (0, a2)]) (r := []) (al' := [(2, a0), (0, a1), (0, a2), uU, uU, uU]) (np := 2) (nl := 6) (q := (1, 42, 802)) D41_57 (by decide +kernel) (by decide) mP_42 mL_42 mC_42 (Nat.le_of_ble_eq_true rfl) rfl rfl (by simp [cat]) (by decide) (DA_o h0) rfl rfl
  · refine (sx_aload_n D41_35 rfl).trans ?_
    refine (sx_iload D41_36 rfl).trans ?_
    exact sx_virt (c := 5) (ag := [(2, a3), (0, s0)]) (r := []) (al' := [(2, a3), (0, s0)]) (np := 1) (nl := 2) (q := (1, 86, 801)) D41_38 (by decide +kernel) (by decide) mP_86 mL_86 mC_86 (Nat.le_of_ble_eq_true rfl) rfl rfl (by simp [cat]) (by decide) (LA_o h1) rfl rfl
theorem E41_41 {d : Nat} {a0 a1 a2 a3 a4 s0 : Int} {S : SS} {I : II}  : ev (d + 1) 41 41 [(2, a0), (0, a1), (0, a2), (2, a3), (0, a4), uU] [(0, s0)] S I = (ev d 5 0 [(0, s0)] [] S I).bind (fun q => ev (d + 1) 41 44 [(2, a0), (0, a1), (0, a2), (2, a3), (0, a4), uU] (psh q.1 []) q.2.1 q.2.2) := by
  exact sx_stat (ag := [(0, s0)]) (r := []) (al' := [(0, s0)]) (np := 1) (nl := 1) (q := (0, 5, 693)) D41_41 (by decide +kernel) (by decide) mP_5 mL_5 (Nat.le_of_ble_eq_true rfl) rfl rfl (by simp [cat]) rfl rfl
theorem E41_44 {d : Nat} {a0 a1 a2 a3 a4 s0 : Int} {S : SS} {I : II}  : ev d 41 44 [(2, a0), (0, a1), (0, a2), (2, a3), (0, a4), uU] [(0, s0)] S I = if w s0 = 0 then (ev d 41 53 [(2, a0), (0, a1), (0, a2), (2, a3), (0, a4), uU] [(0, 0)] S I) else (ev d 41 53 [(2, a0), (0, a1), (0, a2), (2, a3), (0, a4), uU] [(0, (-3))] S I) := by
  refine sx_i0_eq (pc' := 52) D41_44 (by decide) (by decide) ?_ ?_ rfl
  · refine (sx_iconst D41_52).trans ?_
    exact rfl
  · refine (sx_bipush D41_47 (by decide)).trans ?_
    refine (sx_goto (pc' := 53) D41_49 (by decide) (by decide)).trans ?_
    exact rfl
theorem E41_53 {d : Nat} {a0 a1 a2 a3 a4 s0 : Int} {S : SS} {I : II}  : ev d 41 53 [(2, a0), (0, a1), (0, a2), (2, a3), (0, a4), uU] [(0, s0)] S I = some ((0, s0), S, I) := by
  exact sx_ireturn D41_53 (by decide +kernel)
theorem E41_60 {d : Nat} {a0 a1 a2 a3 a4 s0 : Int} {S : SS} {I : II} (h0 : DA S a0) : ev d 41 60 [(2, a0), (0, a1), (0, a2), (2, a3), (0, a4), uU] [(0, s0)] S I = if w s0 < 0 then (ev d 41 73 [(2, a0), (0, a1), (0, a2), (2, a3), (0, a4), (0, s0)] [] S I) else (if w s0 < 4 then (gdR (0 ≤ w s0 ∧ w s0 < 4) (if w (I (a0 + 6) (w s0)) < 2 then (ev d 41 93 [(2, a0), (0, a1), (0, a2), (2, a3), (0, a4), (0, s0)] [(0, (-4))] S I) else (ev d 41 93 [(2, a0), (0, a1), (0, a2), (2, a3), (0, a4), (0, s0)] [(0, 1)] S I))) else (ev d 41 73 [(2, a0), (0, a1), (0, a2), (2, a3), (0, a4), (0, s0)] [] S I)) := by
  refine (sx_istore (al' := [(2, a0), (0, a1), (0, a2), (2, a3), (0, a4), (0, s0)]) D41_60 (Nat.le_of_ble_eq_true rfl) rfl rfl).trans ?_
  refine (sx_iload D41_62 rfl).trans ?_
  refine sx_i0_lt (pc' := 73) D41_64 (by decide) (by decide) ?_ ?_ rfl
  · exact rfl
  · refine (sx_iload D41_67 rfl).trans ?_
    refine (sx_iconst D41_69).trans ?_
    refine sx_if_lt (pc' := 76) D41_70 (by decide) (by decide) ?_ ?_ rfl (w_small (by decide) (by decide))
    · refine (sx_aload_n D41_76 rfl).trans ?_
      refine (sx_gfR (q := (1, 11, 0, 164)) (b := a0 + 6) D41_77 (by decide +kernel) (by decide +kernel) (by decide) (DA_o h0) (DA_g11 h0)).trans ?_
      refine (sx_iload D41_80 rfl).trans ?_
      refine (sx_ia D41_82 (DA_k11 h0) rfl).trans (gdR_to fun g1 => ?_)
      refine (sx_iconst D41_83).trans ?_
      refine sx_if_ge (pc' := 92) D41_84 (by decide) (by decide) ?_ ?_ rfl (w_small (by decide) (by decide))
      · refine (sx_bipush D41_87 (by decide)).trans ?_
        refine (sx_goto (pc' := 93) D41_89 (by decide) (by decide)).trans ?_
        exact rfl
      · refine (sx_iconst D41_92).trans ?_
        exact rfl
    · exact rfl
theorem E41_73 {d : Nat} {a0 a1 a2 a3 a4 a5 : Int} {S : SS} {I : II}  : ev d 41 73 [(2, a0), (0, a1), (0, a2), (2, a3), (0, a4), (0, a5)] [] S I = some ((0, (-2)), S, I) := by
  refine (sx_bipush D41_73 (by decide)).trans ?_
  exact sx_ireturn D41_75 (by decide +kernel)
theorem E41_93 {d : Nat} {a0 a1 a2 a3 a4 a5 s0 : Int} {S : SS} {I : II}  : ev d 41 93 [(2, a0), (0, a1), (0, a2), (2, a3), (0, a4), (0, a5)] [(0, s0)] S I = some ((0, s0), S, I) := by
  exact sx_ireturn D41_93 (by decide +kernel)
theorem E42_0 {d : Nat} {a0 a1 a2 : Int} {S : SS} {I : II}  : ev d 42 0 [(2, a0), (0, a1), (0, a2), uU, uU, uU] [] S I = ev d 42 2 [(2, a0), (0, a1), (0, a2), (0, 0), uU, uU] [] S I := by
  refine (sx_iconst D42_0).trans ?_
  refine (sx_istore_n (al' := [(2, a0), (0, a1), (0, a2), (0, 0), uU, uU]) D42_1 (Nat.le_of_ble_eq_true rfl) rfl rfl).trans ?_
  exact rfl
theorem E42_2 {d : Nat} {a0 a1 a2 a3 : Int} {a4 a5 : AV} {S : SS} {I : II} (h0 : DA S a0) : ev (d + 1) 42 2 [(2, a0), (0, a1), (0, a2), (0, a3), a4, a5] [] S I = if w a3 < w (I a0 10) then (if w a3 < 4 then (gdR (0 ≤ w a3 ∧ w a3 < 4) ((ev d 3 0 [(0, I (a0 + 8) (w a3))] [] S I).bind (fun q => ev (d + 1) 42 24 [(2, a0), (0, a1), (0, a2), (0, a3), a4, a5] (psh q.1 []) q.2.1 q.2.2))) else (ev (d + 1) 42 93 [(2, a0), (0, a1), (0, a2), (0, a3), a4, a5] [] S I)) else (ev (d + 1) 42 93 [(2, a0), (0, a1), (0, a2), (0, a3), a4, a5] [] S I) := by
  refine (sx_iload_n D42_2 rfl).trans ?_
  refine (sx_aload_n D42_3 rfl).trans ?_
  refine (sx_gfI (q := (1, 10, 0, 162)) (j := 10) D42_4 (by decide +kernel) (by decide +kernel) (by decide) (DA_o h0) rfl rfl).trans ?_
  refine sx_if_ge (pc' := 93) D42_7 (by decide) (by decide) ?_ ?_ rfl rfl
  · refine (sx_iload_n D42_10 rfl).trans ?_
    refine (sx_iconst D42_11).trans ?_
    refine sx_if_ge (pc' := 93) D42_12 (by decide) (by decide) ?_ ?_ rfl (w_small (by decide) (by decide))
    · refine (sx_aload_n D42_15 rfl).trans ?_
      refine (sx_gfR (q := (1, 13, 0, 166)) (b := a0 + 8) D42_16 (by decide +kernel) (by decide +kernel) (by decide) (DA_o h0) (DA_g13 h0)).trans ?_
      refine (sx_iload_n D42_19 rfl).trans ?_
      refine (sx_ia D42_20 (DA_k13 h0) rfl).trans (gdR_to fun g1 => ?_)
      exact sx_stat (ag := [(0, I (a0 + 8) (w a3))]) (r := []) (al' := [(0, I (a0 + 8) (w a3))]) (np := 1) (nl := 1) (q := (0, 3, 629)) D42_21 (by decide +kernel) (by decide) mP_3 mL_3 (Nat.le_of_ble_eq_true rfl) rfl rfl (by simp [cat]) rfl rfl
    · exact rfl
  · exact rfl
theorem E42_24 {d : Nat} {a0 a1 a2 a3 s0 : Int} {a4 a5 : AV} {S : SS} {I : II}  : ev d 42 24 [(2, a0), (0, a1), (0, a2), (0, a3), a4, a5] [(0, s0)] S I = if w s0 = w a2 then (ev d 42 33 [(2, a0), (0, a1), (0, a2), (0, a3), a4, a5] [(0, 1)] S I) else (ev d 42 33 [(2, a0), (0, a1), (0, a2), (0, a3), a4, a5] [(0, 0)] S I) := by
  refine (sx_iload_n D42_24 rfl).trans ?_
  refine sx_if_ne (pc' := 32) D42_25 (by decide) (by decide) ?_ ?_ rfl rfl
  · refine (sx_iconst D42_28).trans ?_
    refine (sx_goto (pc' := 33) D42_29 (by decide) (by decide)).trans ?_
    exact rfl
  · refine (sx_iconst D42_32).trans ?_
    exact rfl
theorem E42_33 {d : Nat} {a0 a1 a2 a3 s0 : Int} {a4 a5 : AV} {S : SS} {I : II} (h0 : DA S a0) : ev (d + 1) 42 33 [(2, a0), (0, a1), (0, a2), (0, a3), a4, a5] [(0, s0)] S I = gdR (0 ≤ w a3 ∧ w a3 < 4) (if w (I (a0 + 9) (w a3)) = (-1) then (ev (d + 1) 42 62 [(2, a0), (0, a1), (0, a2), (0, a3), (0, s0), a5] [] S I) else (gdR (0 ≤ w a3 ∧ w a3 < 4) ((ev d 3 0 [(0, I (a0 + 9) (w a3))] [] S I).bind (fun q => ev (d + 1) 42 54 [(2, a0), (0, a1), (0, a2), (0, a3), (0, s0), a5] (psh q.1 []) q.2.1 q.2.2)))) := by
  refine (sx_istore (al' := [(2, a0), (0, a1), (0, a2), (0, a3), (0, s0), a5]) D42_33 (Nat.le_of_ble_eq_true rfl) rfl rfl).trans ?_
  refine (sx_aload_n D42_35 rfl).trans ?_
  refine (sx_gfR (q := (1, 14, 0, 167)) (b := a0 + 9) D42_36 (by decide +kernel) (by decide +kernel) (by decide) (DA_o h0) (DA_g14 h0)).trans ?_
  refine (sx_iload_n D42_39 rfl).trans ?_
  refine (sx_ia D42_40 (DA_k14 h0) rfl).trans (gdR_to fun g1 => ?_)
  refine (sx_iconst D42_41).trans ?_
  refine sx_if_eq (pc' := 62) D42_42 (by decide) (by decide) ?_ ?_ rfl (w_small (by decide) (by decide))
  · exact rfl
  · refine (sx_aload_n D42_45 rfl).trans ?_
    refine (sx_gfR (q := (1, 14, 0, 167)) (b := a0 + 9) D42_46 (by decide +kernel) (by decide +kernel) (by decide) (DA_o h0) (DA_g14 h0)).trans ?_
    refine (sx_iload_n D42_49 rfl).trans ?_
    refine (sx_ia D42_50 (DA_k14 h0) rfl).trans (gdR_to fun g2 => ?_)
    exact sx_stat (ag := [(0, I (a0 + 9) (w a3))]) (r := []) (al' := [(0, I (a0 + 9) (w a3))]) (np := 1) (nl := 1) (q := (0, 3, 629)) D42_51 (by decide +kernel) (by decide) mP_3 mL_3 (Nat.le_of_ble_eq_true rfl) rfl rfl (by simp [cat]) rfl rfl
theorem E42_54 {d : Nat} {a0 a1 a2 a3 a4 s0 : Int} {a5 : AV} {S : SS} {I : II}  : ev d 42 54 [(2, a0), (0, a1), (0, a2), (0, a3), (0, a4), a5] [(0, s0)] S I = if w s0 = w a2 then (ev d 42 63 [(2, a0), (0, a1), (0, a2), (0, a3), (0, a4), a5] [(0, 1)] S I) else (ev d 42 62 [(2, a0), (0, a1), (0, a2), (0, a3), (0, a4), a5] [] S I) := by
  refine (sx_iload_n D42_54 rfl).trans ?_
  refine sx_if_ne (pc' := 62) D42_55 (by decide) (by decide) ?_ ?_ rfl rfl
  · refine (sx_iconst D42_58).trans ?_
    refine (sx_goto (pc' := 63) D42_59 (by decide) (by decide)).trans ?_
    exact rfl
  · exact rfl
theorem E42_62 {d : Nat} {a0 a1 a2 a3 a4 : Int} {a5 : AV} {S : SS} {I : II}  : ev d 42 62 [(2, a0), (0, a1), (0, a2), (0, a3), (0, a4), a5] [] S I = ev d 42 63 [(2, a0), (0, a1), (0, a2), (0, a3), (0, a4), a5] [(0, 0)] S I := by
  refine (sx_iconst D42_62).trans ?_
  exact rfl
theorem E42_63 {d : Nat} {a0 a1 a2 a3 a4 s0 : Int} {a5 : AV} {S : SS} {I : II} (h0 : DA S a0) : ev d 42 63 [(2, a0), (0, a1), (0, a2), (0, a3), (0, a4), a5] [(0, s0)] S I = gdR (0 ≤ w a3 ∧ w a3 < 4) (if w (I (a0 + 7) (w a3)) = w a1 then (if w a4 = 0 then (if w s0 = 0 then (ev d 42 87 [(2, a0), (0, a1), (0, a2), (0, a3), (0, a4), (0, s0)] [] S I) else (ev d 42 85 [(2, a0), (0, a1), (0, a2), (0, a3), (0, a4), (0, s0)] [] S I)) else (ev d 42 85 [(2, a0), (0, a1), (0, a2), (0, a3), (0, a4), (0, s0)] [] S I)) else (ev d 42 87 [(2, a0), (0, a1), (0, a2), (0, a3), (0, a4), (0, s0)] [] S I)) := by
  refine (sx_istore (al' := [(2, a0), (0, a1), (0, a2), (0, a3), (0, a4), (0, s0)]) D42_63 (Nat.le_of_ble_eq_true rfl) rfl rfl).trans ?_
  refine (sx_aload_n D42_65 rfl).trans ?_
  refine (sx_gfR (q := (1, 12, 0, 165)) (b := a0 + 7) D42_66 (by decide +kernel) (by decide +kernel) (by decide) (DA_o h0) (DA_g12 h0)).trans ?_
  refine (sx_iload_n D42_69 rfl).trans ?_
  refine (sx_ia D42_70 (DA_k12 h0) rfl).trans (gdR_to fun g1 => ?_)
  refine (sx_iload_n D42_71 rfl).trans ?_
  refine sx_if_ne (pc' := 87) D42_72 (by decide) (by decide) ?_ ?_ rfl rfl
  · refine (sx_iload D42_75 rfl).trans ?_
    refine sx_i0_ne (pc' := 85) D42_77 (by decide) (by decide) ?_ ?_ rfl
    · refine (sx_iload D42_80 rfl).trans ?_
      refine sx_i0_eq (pc' := 87) D42_82 (by decide) (by decide) ?_ ?_ rfl
      · exact rfl
      · exact rfl
    · exact rfl
  · exact rfl
theorem E42_85 {d : Nat} {a0 a1 a2 a3 a4 a5 : Int} {S : SS} {I : II}  : ev d 42 85 [(2, a0), (0, a1), (0, a2), (0, a3), (0, a4), (0, a5)] [] S I = some ((0, a3), S, I) := by
  refine (sx_iload_n D42_85 rfl).trans ?_
  exact sx_ireturn D42_86 (by decide +kernel)
theorem E42_87 {d : Nat} {a0 a1 a2 a3 a4 a5 : Int} {S : SS} {I : II}  : ev d 42 87 [(2, a0), (0, a1), (0, a2), (0, a3), (0, a4), (0, a5)] [] S I = ev d 42 2 [(2, a0), (0, a1), (0, a2), (0, a3 + 1), (0, a4), (0, a5)] [] S I := by
  refine (sx_iinc (al' := [(2, a0), (0, a1), (0, a2), (0, a3 + 1), (0, a4), (0, a5)]) D42_87 rfl rfl).trans ?_
  refine (sx_goto (pc' := 2) D42_90 (by decide) (by decide)).trans ?_
  exact rfl
theorem E42_93 {d : Nat} {a0 a1 a2 a3 : Int} {a4 a5 : AV} {S : SS} {I : II}  : ev d 42 93 [(2, a0), (0, a1), (0, a2), (0, a3), a4, a5] [] S I = some ((0, (-1)), S, I) := by
  refine (sx_iconst D42_93).trans ?_
  exact sx_ireturn D42_94 (by decide +kernel)
theorem E43_0 {d : Nat} {a0 a1 : Int} {S : SS} {I : II} (h0 : DA S a0) : ev (d + 1) 43 0 [(2, a0), (0, a1), uU] [] S I = if w a1 < 0 then (ev (d + 1) 43 17 [(2, a0), (0, a1), uU] [] S I) else (if w a1 < w (I a0 10) then (if w a1 < 4 then (gdR (0 ≤ w a1 ∧ w a1 < 4) (gdR (0 ≤ w a1 ∧ w a1 < 4) ((ev d 30 0 [(2, a0), (0, I (a0 + 7) (w a1)), (0, I (a0 + 8) (w a1)), (0, 1), (0, 0)] [] S I).bind (fun q => ev (d + 1) 43 36 [(2, a0), (0, a1), uU] (psh q.1 []) q.2.1 q.2.2)))) else (ev (d + 1) 43 17 [(2, a0), (0, a1), uU] [] S I)) else (ev (d + 1) 43 17 [(2, a0), (0, a1), uU] [] S I)) := by
  refine (sx_iload_n D43_0 rfl).trans ?_
  refine sx_i0_lt (pc' := 17) D43_1 (by decide) (by decide) ?_ ?_ rfl
  · exact rfl
  · refine (sx_iload_n D43_4 rfl).trans ?_
    refine (sx_aload_n D43_5 rfl).trans ?_
    refine (sx_gfI (q := (1, 10, 0, 162)) (j := 10) D43_6 (by decide +kernel) (by decide +kernel) (by decide) (DA_o h0) rfl rfl).trans ?_
    refine sx_if_ge (pc' := 17) D43_9 (by decide) (by decide) ?_ ?_ rfl rfl
    · refine (sx_iload_n D43_12 rfl).trans ?_
      refine (sx_iconst D43_13).trans ?_
      refine sx_if_lt (pc' := 18) D43_14 (by decide) (by decide) ?_ ?_ rfl (w_small (by decide) (by decide))
      · refine (sx_aload_n D43_18 rfl).trans ?_
        refine (sx_aload_n D43_19 rfl).trans ?_
        refine (sx_gfR (q := (1, 12, 0, 165)) (b := a0 + 7) D43_20 (by decide +kernel) (by decide +kernel) (by decide) (DA_o h0) (DA_g12 h0)).trans ?_
        refine (sx_iload_n D43_23 rfl).trans ?_
        refine (sx_ia D43_24 (DA_k12 h0) rfl).trans (gdR_to fun g1 => ?_)
        refine (sx_aload_n D43_25 rfl).trans ?_
        refine (sx_gfR (q := (1, 13, 0, 166)) (b := a0 + 8) D43_26 (by decide +kernel) (by decide +kernel) (by decide) (DA_o h0) (DA_g13 h0)).trans ?_
        refine (sx_iload_n D43_29 rfl).trans ?_
        refine (sx_ia D43_30 (DA_k13 h0) rfl).trans (gdR_to fun g2 => ?_)
        refine (sx_iconst D43_31).trans ?_
        refine (sx_iconst D43_32).trans ?_
        exact sx_virt (c := 3) (ag := [(2, a0), (0, I (a0 + 7) (w a1)), (0, I (a0 + 8) (w a1)), (0, 1), (0, 0)]) (r := []) (al' := [(2, a0), (0, I (a0 + 7) (w a1)), (0, I (a0 + 8) (w a1)), (0, 1), (0, 0)]) (np := 4) (nl := 5) (q := (1, 30, 625)) D43_33 (by decide +kernel) (by decide) mP_30 mL_30 mC_30 (Nat.le_of_ble_eq_true rfl) rfl rfl (by simp [cat]) (by decide) (DA_o h0) rfl rfl
      · exact rfl
    · exact rfl
theorem E43_17 {d : Nat} {a0 a1 : Int} {S : SS} {I : II}  : ev d 43 17 [(2, a0), (0, a1), uU] [] S I = some (uU, S, I) := by
  exact sx_return D43_17 (by decide +kernel)
theorem E43_36 {d : Nat} {a0 a1 : Int} {S : SS} {I : II} (h0 : DA S a0) : ev (d + 1) 43 36 [(2, a0), (0, a1), uU] [] S I = gdR (0 ≤ w a1 ∧ w a1 < 4) (if w (I (a0 + 9) (w a1)) = (-1) then (ev (d + 1) 43 64 [(2, a0), (0, a1), uU] [] S I) else (gdR (0 ≤ w a1 ∧ w a1 < 4) (gdR (0 ≤ w a1 ∧ w a1 < 4) ((ev d 30 0 [(2, a0), (0, I (a0 + 7) (w a1)), (0, I (a0 + 9) (w a1)), (0, 1), (0, 0)] [] S I).bind (fun q => ev (d + 1) 43 64 [(2, a0), (0, a1), uU] (psh q.1 []) q.2.1 q.2.2))))) := by
  refine (sx_aload_n D43_36 rfl).trans ?_
  refine (sx_gfR (q := (1, 14, 0, 167)) (b := a0 + 9) D43_37 (by decide +kernel) (by decide +kernel) (by decide) (DA_o h0) (DA_g14 h0)).trans ?_
  refine (sx_iload_n D43_40 rfl).trans ?_
  refine (sx_ia D43_41 (DA_k14 h0) rfl).trans (gdR_to fun g1 => ?_)
  refine (sx_iconst D43_42).trans ?_
  refine sx_if_eq (pc' := 64) D43_43 (by decide) (by decide) ?_ ?_ rfl (w_small (by decide) (by decide))
  · exact rfl
  · refine (sx_aload_n D43_46 rfl).trans ?_
    refine (sx_aload_n D43_47 rfl).trans ?_
    refine (sx_gfR (q := (1, 12, 0, 165)) (b := a0 + 7) D43_48 (by decide +kernel) (by decide +kernel) (by decide) (DA_o h0) (DA_g12 h0)).trans ?_
    refine (sx_iload_n D43_51 rfl).trans ?_
    refine (sx_ia D43_52 (DA_k12 h0) rfl).trans (gdR_to fun g2 => ?_)
    refine (sx_aload_n D43_53 rfl).trans ?_
    refine (sx_gfR (q := (1, 14, 0, 167)) (b := a0 + 9) D43_54 (by decide +kernel) (by decide +kernel) (by decide) (DA_o h0) (DA_g14 h0)).trans ?_
    refine (sx_iload_n D43_57 rfl).trans ?_
    refine (sx_ia D43_58 (DA_k14 h0) rfl).trans (gdR_to fun g3 => ?_)
    refine (sx_iconst D43_59).trans ?_
    refine (sx_iconst D43_60).trans ?_
    exact sx_virt (c := 3) (ag := [(2, a0), (0, I (a0 + 7) (w a1)), (0, I (a0 + 9) (w a1)), (0, 1), (0, 0)]) (r := []) (al' := [(2, a0), (0, I (a0 + 7) (w a1)), (0, I (a0 + 9) (w a1)), (0, 1), (0, 0)]) (np := 4) (nl := 5) (q := (1, 30, 625)) D43_61 (by decide +kernel) (by decide) mP_30 mL_30 mC_30 (Nat.le_of_ble_eq_true rfl) rfl rfl (by simp [cat]) (by decide) (DA_o h0) rfl rfl
theorem E43_64 {d : Nat} {a0 a1 : Int} {S : SS} {I : II} (h0 : DA S a0) : ev d 43 64 [(2, a0), (0, a1), uU] [] S I = ev d 43 76 [(2, a0), (0, a1), (0, a1)] [] S (up2 I a0 10 ((I a0 10) - 1)) := by
  refine (sx_aload_n D43_64 rfl).trans ?_
  refine (sx_dup D43_65 (by decide)).trans ?_
  refine (sx_gfI (q := (1, 10, 0, 162)) (j := 10) D43_66 (by decide +kernel) (by decide +kernel) (by decide) (DA_o h0) rfl rfl).trans ?_
  refine (sx_iconst D43_69).trans ?_
  refine (sx_isub D43_70).trans ?_
  refine (sx_pfI (q := (1, 10, 0, 162)) (j := 10) D43_71 (by decide +kernel) (by decide) (by decide) (DA_o h0) rfl).trans ?_
  refine (sx_iload_n D43_74 rfl).trans ?_
  refine (sx_istore_n (al' := [(2, a0), (0, a1), (0, a1)]) D43_75 (Nat.le_of_ble_eq_true rfl) rfl rfl).trans ?_
  exact rfl
theorem E43_76 {d : Nat} {a0 a1 a2 : Int} {S : SS} {I : II} (h0 : DA S a0) : ev (d + 1) 43 76 [(2, a0), (0, a1), (0, a2)] [] S I = if w a2 < w (I a0 10) then (if w a2 < 3 then ((ev d 27 0 [(2, a0), (0, a2 + 1), (0, a2)] [] S I).bind (fun q => ev (d + 1) 43 97 [(2, a0), (0, a1), (0, a2)] (psh q.1 []) q.2.1 q.2.2)) else (ev (d + 1) 43 103 [(2, a0), (0, a1), (0, a2)] [] S I)) else (ev (d + 1) 43 103 [(2, a0), (0, a1), (0, a2)] [] S I) := by
  refine (sx_iload_n D43_76 rfl).trans ?_
  refine (sx_aload_n D43_77 rfl).trans ?_
  refine (sx_gfI (q := (1, 10, 0, 162)) (j := 10) D43_78 (by decide +kernel) (by decide +kernel) (by decide) (DA_o h0) rfl rfl).trans ?_
  refine sx_if_ge (pc' := 103) D43_81 (by decide) (by decide) ?_ ?_ rfl rfl
  · refine (sx_iload_n D43_84 rfl).trans ?_
    refine (sx_iconst D43_85).trans ?_
    refine sx_if_ge (pc' := 103) D43_86 (by decide) (by decide) ?_ ?_ rfl (w_small (by decide) (by decide))
    · refine (sx_aload_n D43_89 rfl).trans ?_
      refine (sx_iload_n D43_90 rfl).trans ?_
      refine (sx_iconst D43_91).trans ?_
      refine (sx_iadd D43_92).trans ?_
      refine (sx_iload_n D43_93 rfl).trans ?_
      exact sx_virt (c := 3) (ag := [(2, a0), (0, a2 + 1), (0, a2)]) (r := []) (al' := [(2, a0), (0, a2 + 1), (0, a2)]) (np := 2) (nl := 3) (q := (1, 27, 607)) D43_94 (by decide +kernel) (by decide) mP_27 mL_27 mC_27 (Nat.le_of_ble_eq_true rfl) rfl rfl (by simp [cat]) (by decide) (DA_o h0) rfl rfl
    · exact rfl
  · exact rfl
theorem E43_97 {d : Nat} {a0 a1 a2 : Int} {S : SS} {I : II}  : ev d 43 97 [(2, a0), (0, a1), (0, a2)] [] S I = ev d 43 76 [(2, a0), (0, a1), (0, a2 + 1)] [] S I := by
  refine (sx_iinc (al' := [(2, a0), (0, a1), (0, a2 + 1)]) D43_97 rfl rfl).trans ?_
  refine (sx_goto (pc' := 76) D43_100 (by decide) (by decide)).trans ?_
  exact rfl
theorem E43_103 {d : Nat} {a0 a1 a2 : Int} {S : SS} {I : II}  : ev d 43 103 [(2, a0), (0, a1), (0, a2)] [] S I = some (uU, S, I) := by
  exact sx_return D43_103 (by decide +kernel)
theorem E44_0 {d : Nat} {a0 : Int} {S : SS} {I : II} (h0 : DA S a0) : ev (d + 1) 44 0 [(2, a0), (2, 3), uU, uU, uU, uU] [] S I = (ev d 45 0 [(2, a0)] [] S I).bind (fun q => ev (d + 1) 44 4 [(2, a0), (2, 3), uU, uU, uU, uU] (psh q.1 []) q.2.1 q.2.2) := by
  refine (sx_aload_n D44_0 rfl).trans ?_
  exact sx_virt (c := 3) (ag := [(2, a0)]) (r := []) (al' := [(2, a0)]) (np := 0) (nl := 1) (q := (1, 45, 823)) D44_1 (by decide +kernel) (by decide) mP_45 mL_45 mC_45 (Nat.le_of_ble_eq_true rfl) rfl rfl (by simp [cat]) (by decide) (DA_o h0) rfl rfl
theorem E44_4 {d : Nat} {a0 s0 : Int} {S : SS} {I : II} (h0 : DA S a0) : ev d 44 4 [(2, a0), (2, 3), uU, uU, uU, uU] [(0, s0)] S I = ev d 44 13 [(2, a0), (2, 3), (0, s0), (0, I a0 10), (0, 0), uU] [] S I := by
  refine (sx_istore_n (al' := [(2, a0), (2, 3), (0, s0), uU, uU, uU]) D44_4 (Nat.le_of_ble_eq_true rfl) rfl rfl).trans ?_
  refine (sx_aload_n D44_5 rfl).trans ?_
  refine (sx_gfI (q := (1, 10, 0, 162)) (j := 10) D44_6 (by decide +kernel) (by decide +kernel) (by decide) (DA_o h0) rfl rfl).trans ?_
  refine (sx_istore_n (al' := [(2, a0), (2, 3), (0, s0), (0, I a0 10), uU, uU]) D44_9 (Nat.le_of_ble_eq_true rfl) rfl rfl).trans ?_
  refine (sx_iconst D44_10).trans ?_
  refine (sx_istore (al' := [(2, a0), (2, 3), (0, s0), (0, I a0 10), (0, 0), uU]) D44_11 (Nat.le_of_ble_eq_true rfl) rfl rfl).trans ?_
  exact rfl
theorem E44_13 {d : Nat} {a0 a2 a3 a4 : Int} {S : SS} {I : II} (h0 : DA S a0) : ev d 44 13 [(2, a0), (2, 3), (0, a2), (0, a3), (0, a4), uU] [] S I = if w a4 < w (I a0 10) then (if w a4 < 4 then (gdR (0 ≤ w a4 ∧ w a4 < 4) (if w (I (a0 + 9) (w a4)) = (-1) then (ev d 44 45 [(2, a0), (2, 3), (0, a2), (0, a3), (0, a4), uU] [(0, 0), (0, a3)] S I) else (ev d 44 45 [(2, a0), (2, 3), (0, a2), (0, a3), (0, a4), uU] [(0, 1), (0, a3)] S I))) else (ev d 44 53 [(2, a0), (2, 3), (0, a2), (0, a3), (0, a4), uU] [] S I)) else (ev d 44 53 [(2, a0), (2, 3), (0, a2), (0, a3), (0, a4), uU] [] S I) := by
  refine (sx_iload D44_13 rfl).trans ?_
  refine (sx_aload_n D44_15 rfl).trans ?_
  refine (sx_gfI (q := (1, 10, 0, 162)) (j := 10) D44_16 (by decide +kernel) (by decide +kernel) (by decide) (DA_o h0) rfl rfl).trans ?_
  refine sx_if_ge (pc' := 53) D44_19 (by decide) (by decide) ?_ ?_ rfl rfl
  · refine (sx_iload D44_22 rfl).trans ?_
    refine (sx_iconst D44_24).trans ?_
    refine sx_if_ge (pc' := 53) D44_25 (by decide) (by decide) ?_ ?_ rfl (w_small (by decide) (by decide))
    · refine (sx_iload_n D44_28 rfl).trans ?_
      refine (sx_aload_n D44_29 rfl).trans ?_
      refine (sx_gfR (q := (1, 14, 0, 167)) (b := a0 + 9) D44_30 (by decide +kernel) (by decide +kernel) (by decide) (DA_o h0) (DA_g14 h0)).trans ?_
      refine (sx_iload D44_33 rfl).trans ?_
      refine (sx_ia D44_35 (DA_k14 h0) rfl).trans (gdR_to fun g1 => ?_)
      refine (sx_iconst D44_36).trans ?_
      refine sx_if_ne (pc' := 44) D44_37 (by decide) (by decide) ?_ ?_ rfl (w_small (by decide) (by decide))
      · refine (sx_iconst D44_40).trans ?_
        refine (sx_goto (pc' := 45) D44_41 (by decide) (by decide)).trans ?_
        exact rfl
      · refine (sx_iconst D44_44).trans ?_
        exact rfl
    · exact rfl
  · exact rfl
theorem E44_45 {d : Nat} {a0 a2 a3 a4 s0 s1 : Int} {S : SS} {I : II}  : ev d 44 45 [(2, a0), (2, 3), (0, a2), (0, a3), (0, a4), uU] [(0, s1), (0, s0)] S I = ev d 44 13 [(2, a0), (2, 3), (0, a2), (0, s0 + s1), (0, a4 + 1), uU] [] S I := by
  refine (sx_iadd D44_45).trans ?_
  refine (sx_istore_n (al' := [(2, a0), (2, 3), (0, a2), (0, s0 + s1), (0, a4), uU]) D44_46 (Nat.le_of_ble_eq_true rfl) rfl rfl).trans ?_
  refine (sx_iinc (al' := [(2, a0), (2, 3), (0, a2), (0, s0 + s1), (0, a4 + 1), uU]) D44_47 rfl rfl).trans ?_
  refine (sx_goto (pc' := 13) D44_50 (by decide) (by decide)).trans ?_
  exact rfl
theorem E44_53 {d : Nat} {a0 a2 a3 a4 : Int} {S : SS} {I : II} (h0 : DA S a0) : ev (d + 1) 44 53 [(2, a0), (2, 3), (0, a2), (0, a3), (0, a4), uU] [] S I = (ev d 46 0 [(2, a0), uU, uU] [] S I).bind (fun q => ev (d + 1) 44 57 [(2, a0), (2, 3), (0, a2), (0, a3), (0, a4), uU] (psh q.1 []) q.2.1 q.2.2) := by
  refine (sx_aload_n D44_53 rfl).trans ?_
  exact sx_virt (c := 3) (ag := [(2, a0)]) (r := []) (al' := [(2, a0), uU, uU]) (np := 0) (nl := 3) (q := (1, 46, 827)) D44_54 (by decide +kernel) (by decide) mP_46 mL_46 mC_46 (Nat.le_of_ble_eq_true rfl) rfl rfl (by simp [cat]) (by decide) (DA_o h0) rfl rfl
theorem E44_57 {d : Nat} {a0 a2 a3 a4 s0 : Int} {S : SS} {I : II}  : ev d 44 57 [(2, a0), (2, 3), (0, a2), (0, a3), (0, a4), uU] [(0, s0)] S I = ev d 44 62 [(2, a0), (2, 3), (0, a2), (0, a3), (0, s0), (0, 0)] [] S I := by
  refine (sx_istore (al' := [(2, a0), (2, 3), (0, a2), (0, a3), (0, s0), uU]) D44_57 (Nat.le_of_ble_eq_true rfl) rfl rfl).trans ?_
  refine (sx_iconst D44_59).trans ?_
  refine (sx_istore (al' := [(2, a0), (2, 3), (0, a2), (0, a3), (0, s0), (0, 0)]) D44_60 (Nat.le_of_ble_eq_true rfl) rfl rfl).trans ?_
  exact rfl
theorem E44_62 {d : Nat} {a0 a2 a3 a4 a5 : Int} {S : SS} {I : II} (h0 : DA S a0) : ev (d + 1) 44 62 [(2, a0), (2, 3), (0, a2), (0, a3), (0, a4), (0, a5)] [] S I = if w a5 < 5 then (gdR (0 ≤ w a5 ∧ w a5 < 5) ((ev d 96 0 [(2, a0 + 11 + 4 * (w a5))] [] S I).bind (fun q => ev (d + 1) 44 78 [(2, a0), (2, 3), (0, a2), (0, a3), (0, a4), (0, a5)] (psh q.1 []) q.2.1 q.2.2))) else ((ev d 323 0 [(2, a0 + 5), (0, 4), uU, uU] [] S (cpy (up2 (up2 I a0 10 0) a0 15 0) (a0 + 3) 0 (a0 + 4) 0 4)).bind (fun q => ev (d + 1) 44 116 [(2, a0), (2, 3), (0, a2), (0, a3), (0, a4), (0, a5)] (psh q.1 []) q.2.1 q.2.2)) := by
  refine (sx_iload D44_62 rfl).trans ?_
  refine (sx_iconst D44_64).trans ?_
  refine sx_if_ge (pc' := 84) D44_65 (by decide) (by decide) ?_ ?_ rfl (w_small (by decide) (by decide))
  · refine (sx_aload_n D44_68 rfl).trans ?_
    refine (sx_gfR (q := (1, 1, 0, 149)) (b := a0 + 1) D44_69 (by decide +kernel) (by decide +kernel) (by decide) (DA_o h0) (DA_g1 h0)).trans ?_
    refine (sx_iload D44_72 rfl).trans ?_
    refine (sx_ra D44_74 (Or.inr rfl) (DA_k1 h0)).trans (gdR_to fun g1 => ?_)
    rw [(DA_e1 h0 _ g1.1 g1.2).1]
    exact sx_virt (c := 5) (ag := [(2, a0 + 11 + 4 * (w a5))]) (r := []) (al' := [(2, a0 + 11 + 4 * (w a5))]) (np := 0) (nl := 1) (q := (1, 96, 841)) D44_75 (by decide +kernel) (by decide) mP_96 mL_96 mC_96 (Nat.le_of_ble_eq_true rfl) rfl rfl (by simp [cat]) (by decide) (LA_o (DA_e1 h0 _ g1.1 g1.2).2) rfl rfl
  · refine (sx_aload_n D44_84 rfl).trans ?_
    refine (sx_iconst D44_85).trans ?_
    refine (sx_pfI (q := (1, 10, 0, 162)) (j := 10) D44_86 (by decide +kernel) (by decide) (by decide) (DA_o h0) rfl).trans ?_
    refine (sx_aload_n D44_89 rfl).trans ?_
    refine (sx_iconst D44_90).trans ?_
    refine (sx_pfI (q := (1, 15, 0, 168)) (j := 15) D44_91 (by decide +kernel) (by decide) (by decide) (DA_o h0) rfl).trans ?_
    refine (sx_aload_n D44_94 rfl).trans ?_
    refine (sx_gfR (q := (1, 3, 0, 151)) (b := a0 + 3) D44_95 (by decide +kernel) (by decide +kernel) (by decide) (DA_o h0) (DA_g3 h0)).trans ?_
    refine (sx_iconst D44_98).trans ?_
    refine (sx_aload_n D44_99 rfl).trans ?_
    refine (sx_gfR (q := (1, 4, 0, 152)) (b := a0 + 4) D44_100 (by decide +kernel) (by decide +kernel) (by decide) (DA_o h0) (DA_g4 h0)).trans ?_
    refine (sx_iconst D44_103).trans ?_
    refine (sx_iconst D44_104).trans ?_
    refine (sx_acpy (q := (11, 0, 538)) D44_105 (by decide +kernel) rfl (DA_k3 h0) (DA_k4 h0) (by decide) (by simp [cat])).trans ?_
    show ev (d + 1) 44 108 [(2, a0), (2, 3), (0, a2), (0, a3), (0, a4), (0, a5)] [] S (cpy (up2 (up2 I a0 10 0) a0 15 0) (a0 + 3) 0 (a0 + 4) 0 4) = _
    refine (sx_aload_n D44_108 rfl).trans ?_
    refine (sx_gfR (q := (1, 5, 0, 153)) (b := a0 + 5) D44_109 (by decide +kernel) (by decide +kernel) (by decide) (DA_o h0) (DA_g5 h0)).trans ?_
    refine (sx_iconst D44_112).trans ?_
    exact sx_stat (ag := [(2, a0 + 5), (0, 4)]) (r := []) (al' := [(2, a0 + 5), (0, 4), uU, uU]) (np := 2) (nl := 4) (q := (0, 323, 143)) D44_113 (by decide +kernel) (by decide) mP_323 mL_323 (Nat.le_of_ble_eq_true rfl) rfl rfl (by simp [cat]) rfl rfl
theorem E44_78 {d : Nat} {a0 a2 a3 a4 a5 : Int} {S : SS} {I : II}  : ev d 44 78 [(2, a0), (2, 3), (0, a2), (0, a3), (0, a4), (0, a5)] [] S I = ev d 44 62 [(2, a0), (2, 3), (0, a2), (0, a3), (0, a4), (0, a5 + 1)] [] S I := by
  refine (sx_iinc (al' := [(2, a0), (2, 3), (0, a2), (0, a3), (0, a4), (0, a5 + 1)]) D44_78 rfl rfl).trans ?_
  refine (sx_goto (pc' := 62) D44_81 (by decide) (by decide)).trans ?_
  exact rfl
theorem E44_116 {d : Nat} {a0 a2 a3 a4 a5 : Int} {S : SS} {I : II} (h0 : RA S 3) : ev (d + 1) 44 116 [(2, a0), (2, 3), (0, a2), (0, a3), (0, a4), (0, a5)] [] S I = (ev d 113 0 [(2, 3), (1, w a2), uU, (1, w a3), uU, (1, w ((a4 - a2) - a3)), uU] [] S I).bind (fun q => ev (d + 1) 44 131 [(2, a0), (2, 3), (0, a2), (0, a3), (0, a4), (0, a5)] (psh q.1 []) q.2.1 q.2.2) := by
  refine (sx_aload_n D44_116 rfl).trans ?_
  refine (sx_iload_n D44_117 rfl).trans ?_
  refine (sx_i2l D44_118).trans ?_
  refine (sx_iload_n D44_119 rfl).trans ?_
  refine (sx_i2l D44_120).trans ?_
  refine (sx_iload D44_121 rfl).trans ?_
  refine (sx_iload_n D44_123 rfl).trans ?_
  refine (sx_isub D44_124).trans ?_
  refine (sx_iload_n D44_125 rfl).trans ?_
  refine (sx_isub D44_126).trans ?_
  refine (sx_i2l D44_127).trans ?_
  exact sx_virt (c := 7) (ag := [(2, 3), (1, w a2), (1, w a3), (1, w ((a4 - a2) - a3))]) (r := []) (al' := [(2, 3), (1, w a2), uU, (1, w a3), uU, (1, w ((a4 - a2) - a3)), uU]) (np := 3) (nl := 7) (q := (1, 113, 762)) D44_128 (by decide +kernel) (by decide) mP_113 mL_113 mC_113 (Nat.le_of_ble_eq_true rfl) rfl rfl (by simp [cat]) (by decide) (RA_o h0) rfl rfl
theorem E44_131 {d : Nat} {a0 a2 a3 a4 a5 : Int} {S : SS} {I : II}  : ev d 44 131 [(2, a0), (2, 3), (0, a2), (0, a3), (0, a4), (0, a5)] [] S I = some ((0, a4), S, I) := by
  refine (sx_iload D44_131 rfl).trans ?_
  exact sx_ireturn D44_133 (by decide +kernel)
theorem E45_0 {d : Nat} {a0 : Int} {S : SS} {I : II} (h0 : DA S a0) : ev (d + 1) 45 0 [(2, a0)] [] S I = (ev d 24 0 [(2, a0), (0, 4), uU, uU] [] S I).bind (fun q => ev (d + 1) 45 5 [(2, a0)] (psh q.1 []) q.2.1 q.2.2) := by
  refine (sx_aload_n D45_0 rfl).trans ?_
  refine (sx_iconst D45_1).trans ?_
  exact sx_virt (c := 3) (ag := [(2, a0), (0, 4)]) (r := []) (al' := [(2, a0), (0, 4), uU, uU]) (np := 1) (nl := 4) (q := (1, 24, 591)) D45_2 (by decide +kernel) (by decide) mP_24 mL_24 mC_24 (Nat.le_of_ble_eq_true rfl) rfl rfl (by simp [cat]) (by decide) (DA_o h0) rfl rfl
theorem E45_5 {d : Nat} {a0 s0 : Int} {S : SS} {I : II} (h0 : DA S a0) : ev (d + 1) 45 5 [(2, a0)] [(0, s0)] S I = (ev d 24 0 [(2, a0), (0, 7), uU, uU] [] S I).bind (fun q => ev (d + 1) 45 11 [(2, a0)] (psh q.1 [(0, s0)]) q.2.1 q.2.2) := by
  refine (sx_aload_n D45_5 rfl).trans ?_
  refine (sx_bipush D45_6 (by decide)).trans ?_
  exact sx_virt (c := 3) (ag := [(2, a0), (0, 7)]) (r := [(0, s0)]) (al' := [(2, a0), (0, 7), uU, uU]) (np := 1) (nl := 4) (q := (1, 24, 591)) D45_8 (by decide +kernel) (by decide) mP_24 mL_24 mC_24 (Nat.le_of_ble_eq_true rfl) rfl rfl (by simp [cat]) (by decide) (DA_o h0) rfl rfl
theorem E45_11 {d : Nat} {a0 s0 s1 : Int} {S : SS} {I : II}  : ev d 45 11 [(2, a0)] [(0, s1), (0, s0)] S I = some ((0, s0 - s1), S, I) := by
  refine (sx_isub D45_11).trans ?_
  exact sx_ireturn D45_12 (by decide +kernel)
theorem E46_0 {d : Nat} {a0 : Int} {S : SS} {I : II}  : ev d 46 0 [(2, a0), uU, uU] [] S I = ev d 46 4 [(2, a0), (0, 0), (0, 0)] [] S I := by
  refine (sx_iconst D46_0).trans ?_
  refine (sx_istore_n (al' := [(2, a0), (0, 0), uU]) D46_1 (Nat.le_of_ble_eq_true rfl) rfl rfl).trans ?_
  refine (sx_iconst D46_2).trans ?_
  refine (sx_istore_n (al' := [(2, a0), (0, 0), (0, 0)]) D46_3 (Nat.le_of_ble_eq_true rfl) rfl rfl).trans ?_
  exact rfl
theorem E46_4 {d : Nat} {a0 a1 a2 : Int} {S : SS} {I : II} (h0 : DA S a0) : ev (d + 1) 46 4 [(2, a0), (0, a1), (0, a2)] [] S I = if w a2 < w (I a0 0) then (if w a2 < 5 then (gdR (0 ≤ w a2 ∧ w a2 < 5) ((ev d 95 0 [(2, a0 + 11 + 4 * (w a2))] [] S I).bind (fun q => ev (d + 1) 46 27 [(2, a0), (0, a1), (0, a2)] (psh q.1 [(0, a1)]) q.2.1 q.2.2))) else (ev (d + 1) 46 35 [(2, a0), (0, a1), (0, a2)] [] S I)) else (ev (d + 1) 46 35 [(2, a0), (0, a1), (0, a2)] [] S I) := by
  refine (sx_iload_n D46_4 rfl).trans ?_
  refine (sx_aload_n D46_5 rfl).trans ?_
  refine (sx_gfI (q := (1, 0, 0, 146)) (j := 0) D46_6 (by decide +kernel) (by decide +kernel) (by decide) (DA_o h0) rfl rfl).trans ?_
  refine sx_if_ge (pc' := 35) D46_9 (by decide) (by decide) ?_ ?_ rfl rfl
  · refine (sx_iload_n D46_12 rfl).trans ?_
    refine (sx_iconst D46_13).trans ?_
    refine sx_if_ge (pc' := 35) D46_14 (by decide) (by decide) ?_ ?_ rfl (w_small (by decide) (by decide))
    · refine (sx_iload_n D46_17 rfl).trans ?_
      refine (sx_aload_n D46_18 rfl).trans ?_
      refine (sx_gfR (q := (1, 1, 0, 149)) (b := a0 + 1) D46_19 (by decide +kernel) (by decide +kernel) (by decide) (DA_o h0) (DA_g1 h0)).trans ?_
      refine (sx_iload_n D46_22 rfl).trans ?_
      refine (sx_ra D46_23 (Or.inr rfl) (DA_k1 h0)).trans (gdR_to fun g1 => ?_)
      rw [(DA_e1 h0 _ g1.1 g1.2).1]
      exact sx_virt (c := 5) (ag := [(2, a0 + 11 + 4 * (w a2))]) (r := [(0, a1)]) (al' := [(2, a0 + 11 + 4 * (w a2))]) (np := 0) (nl := 1) (q := (1, 95, 831)) D46_24 (by decide +kernel) (by decide) mP_95 mL_95 mC_95 (Nat.le_of_ble_eq_true rfl) rfl rfl (by simp [cat]) (by decide) (LA_o (DA_e1 h0 _ g1.1 g1.2).2) rfl rfl
    · exact rfl
  · exact rfl
theorem E46_27 {d : Nat} {a0 a1 a2 s0 s1 : Int} {S : SS} {I : II}  : ev d 46 27 [(2, a0), (0, a1), (0, a2)] [(0, s1), (0, s0)] S I = ev d 46 4 [(2, a0), (0, s0 + s1), (0, a2 + 1)] [] S I := by
  refine (sx_iadd D46_27).trans ?_
  refine (sx_istore_n (al' := [(2, a0), (0, s0 + s1), (0, a2)]) D46_28 (Nat.le_of_ble_eq_true rfl) rfl rfl).trans ?_
  refine (sx_iinc (al' := [(2, a0), (0, s0 + s1), (0, a2 + 1)]) D46_29 rfl rfl).trans ?_
  refine (sx_goto (pc' := 4) D46_32 (by decide) (by decide)).trans ?_
  exact rfl
theorem E46_35 {d : Nat} {a0 a1 a2 : Int} {S : SS} {I : II}  : ev d 46 35 [(2, a0), (0, a1), (0, a2)] [] S I = some ((0, a1), S, I) := by
  refine (sx_iload_n D46_35 rfl).trans ?_
  exact sx_ireturn D46_36 (by decide +kernel)
theorem E47_0 {d : Nat} {a0 a1 a2 : Int} {S : SS} {I : II} (h0 : DA S a0) : ev d 47 0 [(2, a0), (0, a1), (0, a2), uU] [] S I = if w a1 < 1 then (ev d 47 21 [(2, a0), (0, a1), (0, a2), uU] [] S I) else (if w a1 < 4 then (if w a2 < 1 then (ev d 47 21 [(2, a0), (0, a1), (0, a2), uU] [] S I) else (if 9 < w a2 then (ev d 47 21 [(2, a0), (0, a1), (0, a2), uU] [] S I) else (gdR (0 ≤ w a1 ∧ w a1 < 4) (if w (I (a0 + 3) (w a1)) = w a2 then (some ((0, (-2)), S, I)) else (gdR (0 ≤ w a1 ∧ w a1 < 4) (gdR (0 ≤ w a1 ∧ w a1 < 4) (some ((0, 10 + (I (a0 + 3) (w a1))), S, (up2 (up2 I (a0 + 3) (w a1) a2) (a0 + 4) (w a1) a2))))))))) else (ev d 47 21 [(2, a0), (0, a1), (0, a2), uU] [] S I)) := by
  refine (sx_iload_n D47_0 rfl).trans ?_
  refine (sx_iconst D47_1).trans ?_
  refine sx_if_lt (pc' := 21) D47_2 (by decide) (by decide) ?_ ?_ rfl (w_small (by decide) (by decide))
  · exact rfl
  · refine (sx_iload_n D47_5 rfl).trans ?_
    refine (sx_iconst D47_6).trans ?_
    refine sx_if_ge (pc' := 21) D47_7 (by decide) (by decide) ?_ ?_ rfl (w_small (by decide) (by decide))
    · refine (sx_iload_n D47_10 rfl).trans ?_
      refine (sx_iconst D47_11).trans ?_
      refine sx_if_lt (pc' := 21) D47_12 (by decide) (by decide) ?_ ?_ rfl (w_small (by decide) (by decide))
      · exact rfl
      · refine (sx_iload_n D47_15 rfl).trans ?_
        refine (sx_bipush D47_16 (by decide)).trans ?_
        refine sx_if_le (pc' := 23) D47_18 (by decide) (by decide) ?_ ?_ rfl (w_small (by decide) (by decide))
        · exact rfl
        · refine (sx_aload_n D47_23 rfl).trans ?_
          refine (sx_gfR (q := (1, 3, 0, 151)) (b := a0 + 3) D47_24 (by decide +kernel) (by decide +kernel) (by decide) (DA_o h0) (DA_g3 h0)).trans ?_
          refine (sx_iload_n D47_27 rfl).trans ?_
          refine (sx_ia D47_28 (DA_k3 h0) rfl).trans (gdR_to fun g1 => ?_)
          refine (sx_istore_n (al' := [(2, a0), (0, a1), (0, a2), (0, I (a0 + 3) (w a1))]) D47_29 (Nat.le_of_ble_eq_true rfl) rfl rfl).trans ?_
          refine (sx_iload_n D47_30 rfl).trans ?_
          refine (sx_iload_n D47_31 rfl).trans ?_
          refine sx_if_ne (pc' := 38) D47_32 (by decide) (by decide) ?_ ?_ rfl rfl
          · refine (sx_bipush D47_35 (by decide)).trans ?_
            exact sx_ireturn D47_37 (by decide +kernel)
          · refine (sx_aload_n D47_38 rfl).trans ?_
            refine (sx_gfR (q := (1, 3, 0, 151)) (b := a0 + 3) D47_39 (by decide +kernel) (by decide +kernel) (by decide) (DA_o h0) (DA_g3 h0)).trans ?_
            refine (sx_iload_n D47_42 rfl).trans ?_
            refine (sx_iload_n D47_43 rfl).trans ?_
            refine (sx_is D47_44 (DA_k3 h0)).trans (gdR_to fun g2 => ?_)
            refine (sx_aload_n D47_45 rfl).trans ?_
            refine (sx_gfR (q := (1, 4, 0, 152)) (b := a0 + 4) D47_46 (by decide +kernel) (by decide +kernel) (by decide) (DA_o h0) (DA_g4 h0)).trans ?_
            refine (sx_iload_n D47_49 rfl).trans ?_
            refine (sx_iload_n D47_50 rfl).trans ?_
            refine (sx_is D47_51 (DA_k4 h0)).trans (gdR_to fun g3 => ?_)
            refine (sx_bipush D47_52 (by decide)).trans ?_
            refine (sx_iload_n D47_54 rfl).trans ?_
            refine (sx_iadd D47_55).trans ?_
            exact sx_ireturn D47_56 (by decide +kernel)
    · exact rfl
theorem E47_21 {d : Nat} {a0 a1 a2 : Int} {S : SS} {I : II}  : ev d 47 21 [(2, a0), (0, a1), (0, a2), uU] [] S I = some ((0, (-1)), S, I) := by
  refine (sx_iconst D47_21).trans ?_
  exact sx_ireturn D47_22 (by decide +kernel)
theorem E48_0 {d : Nat} {a0 a1 : Int} {S : SS} {I : II} (h0 : DA S a0) : ev d 48 0 [(2, a0), (0, a1), uU] [] S I = if w a1 < 1 then (ev d 48 10 [(2, a0), (0, a1), uU] [] S I) else (if 4 < w a1 then (ev d 48 10 [(2, a0), (0, a1), uU] [] S I) else (if w (I a0 6) = w a1 then (some ((0, (-2)), S, I)) else (some ((0, 10 + (I a0 6)), S, (up2 I a0 6 a1))))) := by
  refine (sx_iload_n D48_0 rfl).trans ?_
  refine (sx_iconst D48_1).trans ?_
  refine sx_if_lt (pc' := 10) D48_2 (by decide) (by decide) ?_ ?_ rfl (w_small (by decide) (by decide))
  · exact rfl
  · refine (sx_iload_n D48_5 rfl).trans ?_
    refine (sx_iconst D48_6).trans ?_
    refine sx_if_le (pc' := 12) D48_7 (by decide) (by decide) ?_ ?_ rfl (w_small (by decide) (by decide))
    · exact rfl
    · refine (sx_aload_n D48_12 rfl).trans ?_
      refine (sx_gfI (q := (1, 6, 0, 154)) (j := 6) D48_13 (by decide +kernel) (by decide +kernel) (by decide) (DA_o h0) rfl rfl).trans ?_
      refine (sx_istore_n (al' := [(2, a0), (0, a1), (0, I a0 6)]) D48_16 (Nat.le_of_ble_eq_true rfl) rfl rfl).trans ?_
      refine (sx_iload_n D48_17 rfl).trans ?_
      refine (sx_iload_n D48_18 rfl).trans ?_
      refine sx_if_ne (pc' := 25) D48_19 (by decide) (by decide) ?_ ?_ rfl rfl
      · refine (sx_bipush D48_22 (by decide)).trans ?_
        exact sx_ireturn D48_24 (by decide +kernel)
      · refine (sx_aload_n D48_25 rfl).trans ?_
        refine (sx_iload_n D48_26 rfl).trans ?_
        refine (sx_pfI (q := (1, 6, 0, 154)) (j := 6) D48_27 (by decide +kernel) (by decide) (by decide) (DA_o h0) rfl).trans ?_
        refine (sx_bipush D48_30 (by decide)).trans ?_
        refine (sx_iload_n D48_32 rfl).trans ?_
        refine (sx_iadd D48_33).trans ?_
        exact sx_ireturn D48_34 (by decide +kernel)
theorem E48_10 {d : Nat} {a0 a1 : Int} {S : SS} {I : II}  : ev d 48 10 [(2, a0), (0, a1), uU] [] S I = some ((0, (-1)), S, I) := by
  refine (sx_iconst D48_10).trans ?_
  exact sx_ireturn D48_11 (by decide +kernel)
theorem E49_0 {d : Nat} {a0 : Int} {S : SS} {I : II} (h0 : RA S 3) : ev (d + 1) 49 0 [(2, a0), (2, 3), uU] [] S I = (ev d 111 0 [(2, 3)] [] S I).bind (fun q => ev (d + 1) 49 4 [(2, a0), (2, 3), uU] (psh q.1 []) q.2.1 q.2.2) := by
  refine (sx_aload_n D49_0 rfl).trans ?_
  exact sx_virt (c := 7) (ag := [(2, 3)]) (r := []) (al' := [(2, 3)]) (np := 0) (nl := 1) (q := (1, 111, 938)) D49_1 (by decide +kernel) (by decide) mP_111 mL_111 mC_111 (Nat.le_of_ble_eq_true rfl) rfl rfl (by simp [cat]) (by decide) (RA_o h0) rfl rfl
theorem E49_4 {d : Nat} {a0 : Int} {S : SS} {I : II}  : ev d 49 4 [(2, a0), (2, 3), uU] [] S I = ev d 49 6 [(2, a0), (2, 3), (0, 0)] [] S I := by
  refine (sx_iconst D49_4).trans ?_
  refine (sx_istore_n (al' := [(2, a0), (2, 3), (0, 0)]) D49_5 (Nat.le_of_ble_eq_true rfl) rfl rfl).trans ?_
  exact rfl
theorem E49_6 {d : Nat} {a0 a2 : Int} {S : SS} {I : II} (h0 : DA S a0) : ev (d + 1) 49 6 [(2, a0), (2, 3), (0, a2)] [] S I = if w a2 < w (I a0 10) then (if w a2 < 4 then (gdR (0 ≤ w a2 ∧ w a2 < 4) (gdR (0 ≤ w a2 ∧ w a2 < 4) ((ev d 3 0 [(0, I (a0 + 8) (w a2))] [] S I).bind (fun q => ev (d + 1) 49 41 [(2, a0), (2, 3), (0, a2)] (psh q.1 [(0, 10), (0, 1000 * (I (a0 + 7) (w a2))), (2, 3)]) q.2.1 q.2.2)))) else (ev (d + 1) 49 60 [(2, a0), (2, 3), (0, a2)] [] S I)) else (ev (d + 1) 49 60 [(2, a0), (2, 3), (0, a2)] [] S I) := by
  refine (sx_iload_n D49_6 rfl).trans ?_
  refine (sx_aload_n D49_7 rfl).trans ?_
  refine (sx_gfI (q := (1, 10, 0, 162)) (j := 10) D49_8 (by decide +kernel) (by decide +kernel) (by decide) (DA_o h0) rfl rfl).trans ?_
  refine sx_if_ge (pc' := 60) D49_11 (by decide) (by decide) ?_ ?_ rfl rfl
  · refine (sx_iload_n D49_14 rfl).trans ?_
    refine (sx_iconst D49_15).trans ?_
    refine sx_if_ge (pc' := 60) D49_16 (by decide) (by decide) ?_ ?_ rfl (w_small (by decide) (by decide))
    · refine (sx_aload_n D49_19 rfl).trans ?_
      refine (sx_sipush D49_20 (by decide)).trans ?_
      refine (sx_aload_n D49_23 rfl).trans ?_
      refine (sx_gfR (q := (1, 12, 0, 165)) (b := a0 + 7) D49_24 (by decide +kernel) (by decide +kernel) (by decide) (DA_o h0) (DA_g12 h0)).trans ?_
      refine (sx_iload_n D49_27 rfl).trans ?_
      refine (sx_ia D49_28 (DA_k12 h0) rfl).trans (gdR_to fun g1 => ?_)
      refine (sx_imul D49_29).trans ?_
      refine (sx_bipush D49_30 (by decide)).trans ?_
      refine (sx_aload_n D49_32 rfl).trans ?_
      refine (sx_gfR (q := (1, 13, 0, 166)) (b := a0 + 8) D49_33 (by decide +kernel) (by decide +kernel) (by decide) (DA_o h0) (DA_g13 h0)).trans ?_
      refine (sx_iload_n D49_36 rfl).trans ?_
      refine (sx_ia D49_37 (DA_k13 h0) rfl).trans (gdR_to fun g2 => ?_)
      exact sx_stat (ag := [(0, I (a0 + 8) (w a2))]) (r := [(0, 10), (0, 1000 * (I (a0 + 7) (w a2))), (2, 3)]) (al' := [(0, I (a0 + 8) (w a2))]) (np := 1) (nl := 1) (q := (0, 3, 629)) D49_38 (by decide +kernel) (by decide) mP_3 mL_3 (Nat.le_of_ble_eq_true rfl) rfl rfl (by simp [cat]) rfl rfl
    · exact rfl
  · exact rfl
theorem E49_41 {d : Nat} {a0 a2 s1 s2 s3 : Int} {S : SS} {I : II} (h0 : DA S a0) (h1 : RA S 3) : ev (d + 1) 49 41 [(2, a0), (2, 3), (0, a2)] [(0, s3), (0, s2), (0, s1), (2, 3)] S I = gdR (0 ≤ w a2 ∧ w a2 < 4) ((ev d 112 0 [(2, 3), (1, w ((s1 + (s2 * s3)) + (I (a0 + 6) (w a2)))), uU] [] S I).bind (fun q => ev (d + 1) 49 54 [(2, a0), (2, 3), (0, a2)] (psh q.1 []) q.2.1 q.2.2)) := by
  refine (sx_imul D49_41).trans ?_
  refine (sx_iadd D49_42).trans ?_
  refine (sx_aload_n D49_43 rfl).trans ?_
  refine (sx_gfR (q := (1, 11, 0, 164)) (b := a0 + 6) D49_44 (by decide +kernel) (by decide +kernel) (by decide) (DA_o h0) (DA_g11 h0)).trans ?_
  refine (sx_iload_n D49_47 rfl).trans ?_
  refine (sx_ia D49_48 (DA_k11 h0) rfl).trans (gdR_to fun g1 => ?_)
  refine (sx_iadd D49_49).trans ?_
  refine (sx_i2l D49_50).trans ?_
  exact sx_virt (c := 7) (ag := [(2, 3), (1, w ((s1 + (s2 * s3)) + (I (a0 + 6) (w a2))))]) (r := []) (al' := [(2, 3), (1, w ((s1 + (s2 * s3)) + (I (a0 + 6) (w a2)))), uU]) (np := 1) (nl := 3) (q := (1, 112, 939)) D49_51 (by decide +kernel) (by decide) mP_112 mL_112 mC_112 (Nat.le_of_ble_eq_true rfl) rfl rfl (by simp [cat]) (by decide) (RA_o h1) rfl rfl
theorem E49_54 {d : Nat} {a0 a2 : Int} {S : SS} {I : II}  : ev d 49 54 [(2, a0), (2, 3), (0, a2)] [] S I = ev d 49 6 [(2, a0), (2, 3), (0, a2 + 1)] [] S I := by
  refine (sx_iinc (al' := [(2, a0), (2, 3), (0, a2 + 1)]) D49_54 rfl rfl).trans ?_
  refine (sx_goto (pc' := 6) D49_57 (by decide) (by decide)).trans ?_
  exact rfl
theorem E49_60 {d : Nat} {a0 a2 : Int} {S : SS} {I : II} (h0 : DA S a0) : ev d 49 60 [(2, a0), (2, 3), (0, a2)] [] S I = some ((0, I a0 10), S, I) := by
  refine (sx_aload_n D49_60 rfl).trans ?_
  refine (sx_gfI (q := (1, 10, 0, 162)) (j := 10) D49_61 (by decide +kernel) (by decide +kernel) (by decide) (DA_o h0) rfl rfl).trans ?_
  exact sx_ireturn D49_64 (by decide +kernel)
theorem E50_0 {d : Nat} {a0 : Int} {S : SS} {I : II} (h0 : RA S 3) : ev (d + 1) 50 0 [(2, a0), (2, 3), uU, uU] [] S I = (ev d 111 0 [(2, 3)] [] S I).bind (fun q => ev (d + 1) 50 4 [(2, a0), (2, 3), uU, uU] (psh q.1 []) q.2.1 q.2.2) := by
  refine (sx_aload_n D50_0 rfl).trans ?_
  exact sx_virt (c := 7) (ag := [(2, 3)]) (r := []) (al' := [(2, 3)]) (np := 0) (nl := 1) (q := (1, 111, 938)) D50_1 (by decide +kernel) (by decide) mP_111 mL_111 mC_111 (Nat.le_of_ble_eq_true rfl) rfl rfl (by simp [cat]) (by decide) (RA_o h0) rfl rfl
theorem E50_4 {d : Nat} {a0 : Int} {S : SS} {I : II}  : ev d 50 4 [(2, a0), (2, 3), uU, uU] [] S I = ev d 50 6 [(2, a0), (2, 3), (0, 0), uU] [] S I := by
  refine (sx_iconst D50_4).trans ?_
  refine (sx_istore_n (al' := [(2, a0), (2, 3), (0, 0), uU]) D50_5 (Nat.le_of_ble_eq_true rfl) rfl rfl).trans ?_
  exact rfl
theorem E50_6 {d : Nat} {a0 a2 : Int} {a3 : AV} {S : SS} {I : II} (h0 : DA S a0) : ev (d + 1) 50 6 [(2, a0), (2, 3), (0, a2), a3] [] S I = if w a2 < w (I a0 15) then (if w a2 < 12 then (gdR (0 ≤ w a2 ∧ w a2 < 80) ((ev d 8 0 [(0, I (a0 + 10) (w a2))] [] S I).bind (fun q => ev (d + 1) 50 35 [(2, a0), (2, 3), (0, a2), (0, I (a0 + 10) (w a2))] (psh q.1 [(0, 1000), (2, 3)]) q.2.1 q.2.2))) else (ev (d + 1) 50 59 [(2, a0), (2, 3), (0, a2), a3] [] S I)) else (ev (d + 1) 50 59 [(2, a0), (2, 3), (0, a2), a3] [] S I) := by
  refine (sx_iload_n D50_6 rfl).trans ?_
  refine (sx_aload_n D50_7 rfl).trans ?_
  refine (sx_gfI (q := (1, 15, 0, 168)) (j := 15) D50_8 (by decide +kernel) (by decide +kernel) (by decide) (DA_o h0) rfl rfl).trans ?_
  refine sx_if_ge (pc' := 59) D50_11 (by decide) (by decide) ?_ ?_ rfl rfl
  · refine (sx_iload_n D50_14 rfl).trans ?_
    refine (sx_bipush D50_15 (by decide)).trans ?_
    refine sx_if_ge (pc' := 59) D50_17 (by decide) (by decide) ?_ ?_ rfl (w_small (by decide) (by decide))
    · refine (sx_aload_n D50_20 rfl).trans ?_
      refine (sx_gfR (q := (1, 16, 0, 170)) (b := a0 + 10) D50_21 (by decide +kernel) (by decide +kernel) (by decide) (DA_o h0) (DA_g16 h0)).trans ?_
      refine (sx_iload_n D50_24 rfl).trans ?_
      refine (sx_ia D50_25 (DA_k16 h0) rfl).trans (gdR_to fun g1 => ?_)
      refine (sx_istore_n (al' := [(2, a0), (2, 3), (0, a2), (0, I (a0 + 10) (w a2))]) D50_26 (Nat.le_of_ble_eq_true rfl) rfl rfl).trans ?_
      refine (sx_aload_n D50_27 rfl).trans ?_
      refine (sx_sipush D50_28 (by decide)).trans ?_
      refine (sx_iload_n D50_31 rfl).trans ?_
      exact sx_stat (ag := [(0, I (a0 + 10) (w a2))]) (r := [(0, 1000), (2, 3)]) (al' := [(0, I (a0 + 10) (w a2))]) (np := 1) (nl := 1) (q := (0, 8, 650)) D50_32 (by decide +kernel) (by decide) mP_8 mL_8 (Nat.le_of_ble_eq_true rfl) rfl rfl (by simp [cat]) rfl rfl
    · exact rfl
  · exact rfl
theorem E50_35 {d : Nat} {a0 a2 a3 s1 s2 : Int} {S : SS} {I : II}  : ev (d + 1) 50 35 [(2, a0), (2, 3), (0, a2), (0, a3)] [(0, s2), (0, s1), (2, 3)] S I = (ev d 10 0 [(0, a3)] [] S I).bind (fun q => ev (d + 1) 50 42 [(2, a0), (2, 3), (0, a2), (0, a3)] (psh q.1 [(0, 10), (0, s1 * s2), (2, 3)]) q.2.1 q.2.2) := by
  refine (sx_imul D50_35).trans ?_
  refine (sx_bipush D50_36 (by decide)).trans ?_
  refine (sx_iload_n D50_38 rfl).trans ?_
  exact sx_stat (ag := [(0, a3)]) (r := [(0, 10), (0, s1 * s2), (2, 3)]) (al' := [(0, a3)]) (np := 1) (nl := 1) (q := (0, 10, 776)) D50_39 (by decide +kernel) (by decide) mP_10 mL_10 (Nat.le_of_ble_eq_true rfl) rfl rfl (by simp [cat]) rfl rfl
theorem E50_42 {d : Nat} {a0 a2 a3 s1 s2 s3 : Int} {S : SS} {I : II}  : ev (d + 1) 50 42 [(2, a0), (2, 3), (0, a2), (0, a3)] [(0, s3), (0, s2), (0, s1), (2, 3)] S I = (ev d 11 0 [(0, a3)] [] S I).bind (fun q => ev (d + 1) 50 48 [(2, a0), (2, 3), (0, a2), (0, a3)] (psh q.1 [(0, s1 + (s2 * s3)), (2, 3)]) q.2.1 q.2.2) := by
  refine (sx_imul D50_42).trans ?_
  refine (sx_iadd D50_43).trans ?_
  refine (sx_iload_n D50_44 rfl).trans ?_
  exact sx_stat (ag := [(0, a3)]) (r := [(0, s1 + (s2 * s3)), (2, 3)]) (al' := [(0, a3)]) (np := 1) (nl := 1) (q := (0, 11, 777)) D50_45 (by decide +kernel) (by decide) mP_11 mL_11 (Nat.le_of_ble_eq_true rfl) rfl rfl (by simp [cat]) rfl rfl
theorem E50_48 {d : Nat} {a0 a2 a3 s1 s2 : Int} {S : SS} {I : II} (h0 : RA S 3) : ev (d + 1) 50 48 [(2, a0), (2, 3), (0, a2), (0, a3)] [(0, s2), (0, s1), (2, 3)] S I = (ev d 112 0 [(2, 3), (1, w (s1 + s2)), uU] [] S I).bind (fun q => ev (d + 1) 50 53 [(2, a0), (2, 3), (0, a2), (0, a3)] (psh q.1 []) q.2.1 q.2.2) := by
  refine (sx_iadd D50_48).trans ?_
  refine (sx_i2l D50_49).trans ?_
  exact sx_virt (c := 7) (ag := [(2, 3), (1, w (s1 + s2))]) (r := []) (al' := [(2, 3), (1, w (s1 + s2)), uU]) (np := 1) (nl := 3) (q := (1, 112, 939)) D50_50 (by decide +kernel) (by decide) mP_112 mL_112 mC_112 (Nat.le_of_ble_eq_true rfl) rfl rfl (by simp [cat]) (by decide) (RA_o h0) rfl rfl
theorem E50_53 {d : Nat} {a0 a2 a3 : Int} {S : SS} {I : II}  : ev d 50 53 [(2, a0), (2, 3), (0, a2), (0, a3)] [] S I = ev d 50 6 [(2, a0), (2, 3), (0, a2 + 1), (0, a3)] [] S I := by
  refine (sx_iinc (al' := [(2, a0), (2, 3), (0, a2 + 1), (0, a3)]) D50_53 rfl rfl).trans ?_
  refine (sx_goto (pc' := 6) D50_56 (by decide) (by decide)).trans ?_
  exact rfl
theorem E50_59 {d : Nat} {a0 a2 : Int} {a3 : AV} {S : SS} {I : II} (h0 : DA S a0) : ev d 50 59 [(2, a0), (2, 3), (0, a2), a3] [] S I = some ((0, I a0 15), S, I) := by
  refine (sx_aload_n D50_59 rfl).trans ?_
  refine (sx_gfI (q := (1, 15, 0, 168)) (j := 15) D50_60 (by decide +kernel) (by decide +kernel) (by decide) (DA_o h0) rfl rfl).trans ?_
  exact sx_ireturn D50_63 (by decide +kernel)
theorem E51_0 {d : Nat} {a0 a1 : Int} {S : SS} {I : II}  : ev d 51 0 [(2, a0), (0, a1), uU, uU, uU, uU] [] S I = ev d 51 4 [(2, a0), (0, a1), (0, 0), (0, 0), uU, uU] [] S I := by
  refine (sx_iconst D51_0).trans ?_
  refine (sx_istore_n (al' := [(2, a0), (0, a1), (0, 0), uU, uU, uU]) D51_1 (Nat.le_of_ble_eq_true rfl) rfl rfl).trans ?_
  refine (sx_iconst D51_2).trans ?_
  refine (sx_istore_n (al' := [(2, a0), (0, a1), (0, 0), (0, 0), uU, uU]) D51_3 (Nat.le_of_ble_eq_true rfl) rfl rfl).trans ?_
  exact rfl
theorem E51_4 {d : Nat} {a0 a1 a2 a3 : Int} {a4 a5 : AV} {S : SS} {I : II} (h0 : DA S a0) : ev d 51 4 [(2, a0), (0, a1), (0, a2), (0, a3), a4, a5] [] S I = if w a3 < w (I a0 0) then (if w a3 < 5 then (ev d 51 20 [(2, a0), (0, a1), (0, a2), (0, a3), (0, 0), a5] [] S I) else (ev d 51 79 [(2, a0), (0, a1), (0, a2), (0, a3), a4, a5] [] S I)) else (ev d 51 79 [(2, a0), (0, a1), (0, a2), (0, a3), a4, a5] [] S I) := by
  refine (sx_iload_n D51_4 rfl).trans ?_
  refine (sx_aload_n D51_5 rfl).trans ?_
  refine (sx_gfI (q := (1, 0, 0, 146)) (j := 0) D51_6 (by decide +kernel) (by decide +kernel) (by decide) (DA_o h0) rfl rfl).trans ?_
  refine sx_if_ge (pc' := 79) D51_9 (by decide) (by decide) ?_ ?_ rfl rfl
  · refine (sx_iload_n D51_12 rfl).trans ?_
    refine (sx_iconst D51_13).trans ?_
    refine sx_if_ge (pc' := 79) D51_14 (by decide) (by decide) ?_ ?_ rfl (w_small (by decide) (by decide))
    · refine (sx_iconst D51_17).trans ?_
      refine (sx_istore (al' := [(2, a0), (0, a1), (0, a2), (0, a3), (0, 0), a5]) D51_18 (Nat.le_of_ble_eq_true rfl) rfl rfl).trans ?_
      exact rfl
    · exact rfl
  · exact rfl
theorem E51_20 {d : Nat} {a0 a1 a2 a3 a4 : Int} {a5 : AV} {S : SS} {I : II} (h0 : DA S a0) : ev (d + 1) 51 20 [(2, a0), (0, a1), (0, a2), (0, a3), (0, a4), a5] [] S I = gdR (0 ≤ w a3 ∧ w a3 < 5) ((ev d 93 0 [(2, a0 + 11 + 4 * (w a3))] [] S I).bind (fun q => ev (d + 1) 51 31 [(2, a0), (0, a1), (0, a2), (0, a3), (0, a4), a5] (psh q.1 [(0, a4)]) q.2.1 q.2.2)) := by
  refine (sx_iload D51_20 rfl).trans ?_
  refine (sx_aload_n D51_22 rfl).trans ?_
  refine (sx_gfR (q := (1, 1, 0, 149)) (b := a0 + 1) D51_23 (by decide +kernel) (by decide +kernel) (by decide) (DA_o h0) (DA_g1 h0)).trans ?_
  refine (sx_iload_n D51_26 rfl).trans ?_
  refine (sx_ra D51_27 (Or.inr rfl) (DA_k1 h0)).trans (gdR_to fun g1 => ?_)
  rw [(DA_e1 h0 _ g1.1 g1.2).1]
  exact sx_virt (c := 5) (ag := [(2, a0 + 11 + 4 * (w a3))]) (r := [(0, a4)]) (al' := [(2, a0 + 11 + 4 * (w a3))]) (np := 0) (nl := 1) (q := (1, 93, 978)) D51_28 (by decide +kernel) (by decide) mP_93 mL_93 mC_93 (Nat.le_of_ble_eq_true rfl) rfl rfl (by simp [cat]) (by decide) (LA_o (DA_e1 h0 _ g1.1 g1.2).2) rfl rfl
theorem E51_31 {d : Nat} {a0 a1 a2 a3 a4 s0 s1 : Int} {a5 : AV} {S : SS} {I : II} (h0 : DA S a0) : ev (d + 1) 51 31 [(2, a0), (0, a1), (0, a2), (0, a3), (0, a4), a5] [(0, s1), (0, s0)] S I = if w s0 < w s1 then (gdR (0 ≤ w a3 ∧ w a3 < 5) ((ev d 86 0 [(2, a0 + 11 + 4 * (w a3)), (0, a4)] [] S I).bind (fun q => ev (d + 1) 51 45 [(2, a0), (0, a1), (0, a2), (0, a3), (0, a4), a5] (psh q.1 []) q.2.1 q.2.2))) else (ev (d + 1) 51 4 [(2, a0), (0, a1), (0, a2), (0, a3 + 1), (0, a4), a5] [] S I) := by
  refine sx_if_ge (pc' := 73) D51_31 (by decide) (by decide) ?_ ?_ rfl rfl
  · refine (sx_aload_n D51_34 rfl).trans ?_
    refine (sx_gfR (q := (1, 1, 0, 149)) (b := a0 + 1) D51_35 (by decide +kernel) (by decide +kernel) (by decide) (DA_o h0) (DA_g1 h0)).trans ?_
    refine (sx_iload_n D51_38 rfl).trans ?_
    refine (sx_ra D51_39 (Or.inr rfl) (DA_k1 h0)).trans (gdR_to fun g1 => ?_)
    rw [(DA_e1 h0 _ g1.1 g1.2).1]
    refine (sx_iload D51_40 rfl).trans ?_
    exact sx_virt (c := 5) (ag := [(2, a0 + 11 + 4 * (w a3)), (0, a4)]) (r := []) (al' := [(2, a0 + 11 + 4 * (w a3)), (0, a4)]) (np := 1) (nl := 2) (q := (1, 86, 801)) D51_42 (by decide +kernel) (by decide) mP_86 mL_86 mC_86 (Nat.le_of_ble_eq_true rfl) rfl rfl (by simp [cat]) (by decide) (LA_o (DA_e1 h0 _ g1.1 g1.2).2) rfl rfl
  · refine (sx_iinc (al' := [(2, a0), (0, a1), (0, a2), (0, a3 + 1), (0, a4), a5]) D51_73 rfl rfl).trans ?_
    refine (sx_goto (pc' := 4) D51_76 (by decide) (by decide)).trans ?_
    exact rfl
theorem E51_45 {d : Nat} {a0 a1 a2 a3 a4 s0 : Int} {a5 : AV} {S : SS} {I : II}  : ev (d + 1) 51 45 [(2, a0), (0, a1), (0, a2), (0, a3), (0, a4), a5] [(0, s0)] S I = (ev d 6 0 [(0, s0), (0, a1)] [] S I).bind (fun q => ev (d + 1) 51 53 [(2, a0), (0, a1), (0, a2), (0, a3), (0, a4), (0, s0)] (psh q.1 []) q.2.1 q.2.2) := by
  refine (sx_istore (al' := [(2, a0), (0, a1), (0, a2), (0, a3), (0, a4), (0, s0)]) D51_45 (Nat.le_of_ble_eq_true rfl) rfl rfl).trans ?_
  refine (sx_iload D51_47 rfl).trans ?_
  refine (sx_iload_n D51_49 rfl).trans ?_
  exact sx_stat (ag := [(0, s0), (0, a1)]) (r := []) (al' := [(0, s0), (0, a1)]) (np := 2) (nl := 2) (q := (0, 6, 979)) D51_50 (by decide +kernel) (by decide) mP_6 mL_6 (Nat.le_of_ble_eq_true rfl) rfl rfl (by simp [cat]) rfl rfl
theorem E51_53 {d : Nat} {a0 a1 a2 a3 a4 a5 s0 : Int} {S : SS} {I : II}  : ev (d + 1) 51 53 [(2, a0), (0, a1), (0, a2), (0, a3), (0, a4), (0, a5)] [(0, s0)] S I = if w s0 = 0 then (ev (d + 1) 51 67 [(2, a0), (0, a1), (0, a2), (0, a3), (0, a4), (0, a5)] [] S I) else ((ev d 5 0 [(0, a5)] [] S I).bind (fun q => ev (d + 1) 51 61 [(2, a0), (0, a1), (0, a2), (0, a3), (0, a4), (0, a5)] (psh q.1 []) q.2.1 q.2.2)) := by
  refine sx_i0_eq (pc' := 67) D51_53 (by decide) (by decide) ?_ ?_ rfl
  · exact rfl
  · refine (sx_iload D51_56 rfl).trans ?_
    exact sx_stat (ag := [(0, a5)]) (r := []) (al' := [(0, a5)]) (np := 1) (nl := 1) (q := (0, 5, 693)) D51_58 (by decide +kernel) (by decide) mP_5 mL_5 (Nat.le_of_ble_eq_true rfl) rfl rfl (by simp [cat]) rfl rfl
theorem E51_61 {d : Nat} {a0 a1 a2 a3 a4 a5 s0 : Int} {S : SS} {I : II}  : ev d 51 61 [(2, a0), (0, a1), (0, a2), (0, a3), (0, a4), (0, a5)] [(0, s0)] S I = if w s0 = 0 then (ev d 51 67 [(2, a0), (0, a1), (0, a2 + 1), (0, a3), (0, a4), (0, a5)] [] S I) else (ev d 51 67 [(2, a0), (0, a1), (0, a2), (0, a3), (0, a4), (0, a5)] [] S I) := by
  refine sx_i0_ne (pc' := 67) D51_61 (by decide) (by decide) ?_ ?_ rfl
  · refine (sx_iinc (al' := [(2, a0), (0, a1), (0, a2 + 1), (0, a3), (0, a4), (0, a5)]) D51_64 rfl rfl).trans ?_
    exact rfl
  · exact rfl
theorem E51_67 {d : Nat} {a0 a1 a2 a3 a4 a5 : Int} {S : SS} {I : II}  : ev d 51 67 [(2, a0), (0, a1), (0, a2), (0, a3), (0, a4), (0, a5)] [] S I = ev d 51 20 [(2, a0), (0, a1), (0, a2), (0, a3), (0, a4 + 1), (0, a5)] [] S I := by
  refine (sx_iinc (al' := [(2, a0), (0, a1), (0, a2), (0, a3), (0, a4 + 1), (0, a5)]) D51_67 rfl rfl).trans ?_
  refine (sx_goto (pc' := 20) D51_70 (by decide) (by decide)).trans ?_
  exact rfl
theorem E51_79 {d : Nat} {a0 a1 a2 a3 : Int} {a4 a5 : AV} {S : SS} {I : II}  : ev d 51 79 [(2, a0), (0, a1), (0, a2), (0, a3), a4, a5] [] S I = some ((0, a2), S, I) := by
  refine (sx_iload_n D51_79 rfl).trans ?_
  exact sx_ireturn D51_80 (by decide +kernel)
theorem E52_0 {d : Nat} {a0 a1 : Int} {S : SS} {I : II}  : ev d 52 0 [(2, a0), (0, a1), uU, uU, uU] [] S I = ev d 52 4 [(2, a0), (0, a1), (0, 0), (0, 0), uU] [] S I := by
  refine (sx_iconst D52_0).trans ?_
  refine (sx_istore_n (al' := [(2, a0), (0, a1), (0, 0), uU, uU]) D52_1 (Nat.le_of_ble_eq_true rfl) rfl rfl).trans ?_
  refine (sx_iconst D52_2).trans ?_
  refine (sx_istore_n (al' := [(2, a0), (0, a1), (0, 0), (0, 0), uU]) D52_3 (Nat.le_of_ble_eq_true rfl) rfl rfl).trans ?_
  exact rfl
theorem E52_4 {d : Nat} {a0 a1 a2 a3 : Int} {a4 : AV} {S : SS} {I : II} (h0 : DA S a0) : ev d 52 4 [(2, a0), (0, a1), (0, a2), (0, a3), a4] [] S I = if w a3 < w (I a0 10) then (if w a3 < 4 then (gdR (0 ≤ w a3 ∧ w a3 < 4) (if w (I (a0 + 9) (w a3)) = (-1) then (gdR (0 ≤ w a3 ∧ w a3 < 4) (ev d 52 42 [(2, a0), (0, a1), (0, a2), (0, a3), a4] [(0, I (a0 + 8) (w a3))] S I)) else (gdR (0 ≤ w a3 ∧ w a3 < 4) (ev d 52 42 [(2, a0), (0, a1), (0, a2), (0, a3), a4] [(0, I (a0 + 9) (w a3))] S I)))) else (ev d 52 62 [(2, a0), (0, a1), (0, a2), (0, a3), a4] [] S I)) else (ev d 52 62 [(2, a0), (0, a1), (0, a2), (0, a3), a4] [] S I) := by
  refine (sx_iload_n D52_4 rfl).trans ?_
  refine (sx_aload_n D52_5 rfl).trans ?_
  refine (sx_gfI (q := (1, 10, 0, 162)) (j := 10) D52_6 (by decide +kernel) (by decide +kernel) (by decide) (DA_o h0) rfl rfl).trans ?_
  refine sx_if_ge (pc' := 62) D52_9 (by decide) (by decide) ?_ ?_ rfl rfl
  · refine (sx_iload_n D52_12 rfl).trans ?_
    refine (sx_iconst D52_13).trans ?_
    refine sx_if_ge (pc' := 62) D52_14 (by decide) (by decide) ?_ ?_ rfl (w_small (by decide) (by decide))
    · refine (sx_aload_n D52_17 rfl).trans ?_
      refine (sx_gfR (q := (1, 14, 0, 167)) (b := a0 + 9) D52_18 (by decide +kernel) (by decide +kernel) (by decide) (DA_o h0) (DA_g14 h0)).trans ?_
      refine (sx_iload_n D52_21 rfl).trans ?_
      refine (sx_ia D52_22 (DA_k14 h0) rfl).trans (gdR_to fun g1 => ?_)
      refine (sx_iconst D52_23).trans ?_
      refine sx_if_ne (pc' := 36) D52_24 (by decide) (by decide) ?_ ?_ rfl (w_small (by decide) (by decide))
      · refine (sx_aload_n D52_27 rfl).trans ?_
        refine (sx_gfR (q := (1, 13, 0, 166)) (b := a0 + 8) D52_28 (by decide +kernel) (by decide +kernel) (by decide) (DA_o h0) (DA_g13 h0)).trans ?_
        refine (sx_iload_n D52_31 rfl).trans ?_
        refine (sx_ia D52_32 (DA_k13 h0) rfl).trans (gdR_to fun g2 => ?_)
        refine (sx_goto (pc' := 42) D52_33 (by decide) (by decide)).trans ?_
        exact rfl
      · refine (sx_aload_n D52_36 rfl).trans ?_
        refine (sx_gfR (q := (1, 14, 0, 167)) (b := a0 + 9) D52_37 (by decide +kernel) (by decide +kernel) (by decide) (DA_o h0) (DA_g14 h0)).trans ?_
        refine (sx_iload_n D52_40 rfl).trans ?_
        refine (sx_ia D52_41 (DA_k14 h0) rfl).trans (gdR_to fun g3 => ?_)
        exact rfl
    · exact rfl
  · exact rfl
theorem E52_42 {d : Nat} {a0 a1 a2 a3 s0 : Int} {a4 : AV} {S : SS} {I : II}  : ev (d + 1) 52 42 [(2, a0), (0, a1), (0, a2), (0, a3), a4] [(0, s0)] S I = (ev d 6 0 [(0, s0), (0, a1)] [] S I).bind (fun q => ev (d + 1) 52 50 [(2, a0), (0, a1), (0, a2), (0, a3), (0, s0)] (psh q.1 []) q.2.1 q.2.2) := by
  refine (sx_istore (al' := [(2, a0), (0, a1), (0, a2), (0, a3), (0, s0)]) D52_42 (Nat.le_of_ble_eq_true rfl) rfl rfl).trans ?_
  refine (sx_iload D52_44 rfl).trans ?_
  refine (sx_iload_n D52_46 rfl).trans ?_
  exact sx_stat (ag := [(0, s0), (0, a1)]) (r := []) (al' := [(0, s0), (0, a1)]) (np := 2) (nl := 2) (q := (0, 6, 979)) D52_47 (by decide +kernel) (by decide) mP_6 mL_6 (Nat.le_of_ble_eq_true rfl) rfl rfl (by simp [cat]) rfl rfl
theorem E52_50 {d : Nat} {a0 a1 a2 a3 a4 s0 : Int} {S : SS} {I : II}  : ev d 52 50 [(2, a0), (0, a1), (0, a2), (0, a3), (0, a4)] [(0, s0)] S I = if w s0 = 0 then (ev d 52 56 [(2, a0), (0, a1), (0, a2), (0, a3), (0, a4)] [] S I) else (ev d 52 56 [(2, a0), (0, a1), (0, a2 + 1), (0, a3), (0, a4)] [] S I) := by
  refine sx_i0_eq (pc' := 56) D52_50 (by decide) (by decide) ?_ ?_ rfl
  · exact rfl
  · refine (sx_iinc (al' := [(2, a0), (0, a1), (0, a2 + 1), (0, a3), (0, a4)]) D52_53 rfl rfl).trans ?_
    exact rfl
theorem E52_56 {d : Nat} {a0 a1 a2 a3 a4 : Int} {S : SS} {I : II}  : ev d 52 56 [(2, a0), (0, a1), (0, a2), (0, a3), (0, a4)] [] S I = ev d 52 4 [(2, a0), (0, a1), (0, a2), (0, a3 + 1), (0, a4)] [] S I := by
  refine (sx_iinc (al' := [(2, a0), (0, a1), (0, a2), (0, a3 + 1), (0, a4)]) D52_56 rfl rfl).trans ?_
  refine (sx_goto (pc' := 4) D52_59 (by decide) (by decide)).trans ?_
  exact rfl
theorem E52_62 {d : Nat} {a0 a1 a2 a3 : Int} {a4 : AV} {S : SS} {I : II}  : ev d 52 62 [(2, a0), (0, a1), (0, a2), (0, a3), a4] [] S I = some ((0, a2), S, I) := by
  refine (sx_iload_n D52_62 rfl).trans ?_
  exact sx_ireturn D52_63 (by decide +kernel)
theorem E53_0 {d : Nat} {a0 a1 : Int} {S : SS} {I : II} (h0 : DA S a0) : ev d 53 0 [(2, a0), (0, a1)] [] S I = if 0 < w a1 then (if w a1 < 4 then (gdR (0 ≤ w a1 ∧ w a1 < 4) (ev d 53 19 [(2, a0), (0, a1)] [(0, I (a0 + 4) (w a1))] S I)) else (ev d 53 18 [(2, a0), (0, a1)] [] S I)) else (ev d 53 18 [(2, a0), (0, a1)] [] S I) := by
  refine (sx_iload_n D53_0 rfl).trans ?_
  refine sx_i0_le (pc' := 18) D53_1 (by decide) (by decide) ?_ ?_ rfl
  · refine (sx_iload_n D53_4 rfl).trans ?_
    refine (sx_iconst D53_5).trans ?_
    refine sx_if_ge (pc' := 18) D53_6 (by decide) (by decide) ?_ ?_ rfl (w_small (by decide) (by decide))
    · refine (sx_aload_n D53_9 rfl).trans ?_
      refine (sx_gfR (q := (1, 4, 0, 152)) (b := a0 + 4) D53_10 (by decide +kernel) (by decide +kernel) (by decide) (DA_o h0) (DA_g4 h0)).trans ?_
      refine (sx_iload_n D53_13 rfl).trans ?_
      refine (sx_ia D53_14 (DA_k4 h0) rfl).trans (gdR_to fun g1 => ?_)
      refine (sx_goto (pc' := 19) D53_15 (by decide) (by decide)).trans ?_
      exact rfl
    · exact rfl
  · exact rfl
theorem E53_18 {d : Nat} {a0 a1 : Int} {S : SS} {I : II}  : ev d 53 18 [(2, a0), (0, a1)] [] S I = ev d 53 19 [(2, a0), (0, a1)] [(0, 0)] S I := by
  refine (sx_iconst D53_18).trans ?_
  exact rfl
theorem E53_19 {d : Nat} {a0 a1 s0 : Int} {S : SS} {I : II}  : ev d 53 19 [(2, a0), (0, a1)] [(0, s0)] S I = some ((0, s0), S, I) := by
  exact sx_ireturn D53_19 (by decide +kernel)
theorem E54_0 {d : Nat} {a0 a1 : Int} {S : SS} {I : II}  : ev d 54 0 [(2, a0), (0, a1), (2, 3), uU, uU, uU, uU, uU] [] S I = ev d 54 3 [(2, a0), (0, a1), (2, 3), uU, uU, uU, uU, uU] [(2, (S.1 : Int))] (newS S 20 5) (newI S I) := by
  refine (sx_iconst D54_0).trans ?_
  refine (sx_newarr (kk := 20) D54_1 (by decide) (by decide)).trans ?_
  exact rfl
theorem E54_3 {d : Nat} {a0 a1 s0 : Int} {S : SS} {I : II}  : ev d 54 3 [(2, a0), (0, a1), (2, 3), uU, uU, uU, uU, uU] [(2, s0)] S I = ev d 54 7 [(2, a0), (0, a1), (2, 3), (2, s0), uU, uU, uU, uU] [(2, (S.1 : Int))] (newS S 20 4) (newI S I) := by
  refine (sx_astore_n (al' := [(2, a0), (0, a1), (2, 3), (2, s0), uU, uU, uU, uU]) D54_3 (Nat.le_of_ble_eq_true rfl) rfl rfl).trans ?_
  refine (sx_iconst D54_4).trans ?_
  refine (sx_newarr (kk := 20) D54_5 (by decide) (by decide)).trans ?_
  exact rfl
theorem E54_7 {d : Nat} {a0 a1 a3 s0 : Int} {S : SS} {I : II}  : ev d 54 7 [(2, a0), (0, a1), (2, 3), (2, a3), uU, uU, uU, uU] [(2, s0)] S I = ev d 54 12 [(2, a0), (0, a1), (2, 3), (2, a3), (2, s0), (0, 0), uU, uU] [] S I := by
  refine (sx_astore (al' := [(2, a0), (0, a1), (2, 3), (2, a3), (2, s0), uU, uU, uU]) D54_7 (Nat.le_of_ble_eq_true rfl) rfl rfl).trans ?_
  refine (sx_iconst D54_9).trans ?_
  refine (sx_istore (al' := [(2, a0), (0, a1), (2, 3), (2, a3), (2, s0), (0, 0), uU, uU]) D54_10 (Nat.le_of_ble_eq_true rfl) rfl rfl).trans ?_
  exact rfl
theorem E54_12 {d : Nat} {a0 a1 a3 a4 a5 ln1 : Int} {a6 a7 : AV} {S : SS} {I : II} (h0 : DA S a0) (h1 : KA S a4 20 ln1) (h2 : RA S 3) : ev (d + 1) 54 12 [(2, a0), (0, a1), (2, 3), (2, a3), (2, a4), (0, a5), a6, a7] [] S I = if w a5 < w a1 then ((ev d 35 0 [(2, a0), uU, uU] [] S I).bind (fun q => ev (d + 1) 54 22 [(2, a0), (0, a1), (2, 3), (2, a3), (2, a4), (0, a5), a6, a7] (psh q.1 []) q.2.1 q.2.2)) else (gdR (0 ≤ w 1 ∧ w 1 < ln1) (gdR (0 ≤ w 2 ∧ w 2 < ln1) (gdR (0 ≤ w 3 ∧ w 3 < ln1) ((ev d 113 0 [(2, 3), (1, w (I a4 (w 1))), uU, (1, w (I a4 (w 2))), uU, (1, w (I a4 (w 3))), uU] [] S I).bind (fun q => ev (d + 1) 54 105 [(2, a0), (0, a1), (2, 3), (2, a3), (2, a4), (0, a5), a6, a7] (psh q.1 []) q.2.1 q.2.2))))) := by
  refine (sx_iload D54_12 rfl).trans ?_
  refine (sx_iload_n D54_14 rfl).trans ?_
  refine sx_if_ge (pc' := 86) D54_15 (by decide) (by decide) ?_ ?_ rfl rfl
  · refine (sx_aload_n D54_18 rfl).trans ?_
    exact sx_virt (c := 3) (ag := [(2, a0)]) (r := []) (al' := [(2, a0), uU, uU]) (np := 0) (nl := 3) (q := (1, 35, 669)) D54_19 (by decide +kernel) (by decide) mP_35 mL_35 mC_35 (Nat.le_of_ble_eq_true rfl) rfl rfl (by simp [cat]) (by decide) (DA_o h0) rfl rfl
  · refine (sx_aload_n D54_86 rfl).trans ?_
    refine (sx_aload D54_87 rfl).trans ?_
    refine (sx_iconst D54_89).trans ?_
    refine (sx_ia D54_90 h1 rfl).trans (gdR_to fun g1 => ?_)
    refine (sx_i2l D54_91).trans ?_
    refine (sx_aload D54_92 rfl).trans ?_
    refine (sx_iconst D54_94).trans ?_
    refine (sx_ia D54_95 h1 rfl).trans (gdR_to fun g2 => ?_)
    refine (sx_i2l D54_96).trans ?_
    refine (sx_aload D54_97 rfl).trans ?_
    refine (sx_iconst D54_99).trans ?_
    refine (sx_ia D54_100 h1 rfl).trans (gdR_to fun g3 => ?_)
    refine (sx_i2l D54_101).trans ?_
    exact sx_virt (c := 7) (ag := [(2, 3), (1, w (I a4 (w 1))), (1, w (I a4 (w 2))), (1, w (I a4 (w 3)))]) (r := []) (al' := [(2, 3), (1, w (I a4 (w 1))), uU, (1, w (I a4 (w 2))), uU, (1, w (I a4 (w 3))), uU]) (np := 3) (nl := 7) (q := (1, 113, 762)) D54_102 (by decide +kernel) (by decide) mP_113 mL_113 mC_113 (Nat.le_of_ble_eq_true rfl) rfl rfl (by simp [cat]) (by decide) (RA_o h2) rfl rfl
theorem E54_22 {d : Nat} {a0 a1 a3 a4 a5 s0 : Int} {a6 a7 : AV} {S : SS} {I : II} (h0 : DA S a0) : ev (d + 1) 54 22 [(2, a0), (0, a1), (2, 3), (2, a3), (2, a4), (0, a5), a6, a7] [(0, s0)] S I = (ev d 21 0 [(2, a0), (0, s0)] [] S I).bind (fun q => ev (d + 1) 54 30 [(2, a0), (0, a1), (2, 3), (2, a3), (2, a4), (0, a5), (0, s0), a7] (psh q.1 []) q.2.1 q.2.2) := by
  refine (sx_istore (al' := [(2, a0), (0, a1), (2, 3), (2, a3), (2, a4), (0, a5), (0, s0), a7]) D54_22 (Nat.le_of_ble_eq_true rfl) rfl rfl).trans ?_
  refine (sx_aload_n D54_24 rfl).trans ?_
  refine (sx_iload D54_25 rfl).trans ?_
  exact sx_virt (c := 3) (ag := [(2, a0), (0, s0)]) (r := []) (al' := [(2, a0), (0, s0)]) (np := 1) (nl := 2) (q := (1, 21, 543)) D54_27 (by decide +kernel) (by decide) mP_21 mL_21 mC_21 (Nat.le_of_ble_eq_true rfl) rfl rfl (by simp [cat]) (by decide) (DA_o h0) rfl rfl
theorem E54_30 {d : Nat} {a0 a1 a3 a4 a5 a6 s0 ln1 ln2 : Int} {a7 : AV} {S : SS} {I : II} (h0 : s0 = -1 ∨ LA S s0) (h1 : KA S a3 20 ln1) (h2 : KA S a4 20 ln2) : ev d 54 30 [(2, a0), (0, a1), (2, 3), (2, a3), (2, a4), (0, a5), (0, a6), a7] [(2, s0)] S I = if s0 = -1 then (ev d 54 80 [(2, a0), (0, a1), (2, 3), (2, a3), (2, a4), (0, a5), (0, a6), (2, s0)] [] S I) else (if w (I s0 2) < 0 then (ev d 54 80 [(2, a0), (0, a1), (2, 3), (2, a3), (2, a4), (0, a5), (0, a6), (2, s0)] [] S I) else (if w (I s0 2) < 4 then (if w a6 < 5 then (gdR (0 ≤ w a6 ∧ w a6 < ln1) (gdR (0 ≤ w a6 ∧ w a6 < ln1) (gdR (0 ≤ w ((up2 I a3 (w a6) ((I a3 (w a6)) + 1)) s0 2) ∧ w ((up2 I a3 (w a6) ((I a3 (w a6)) + 1)) s0 2) < ln2) (gdR (0 ≤ w ((up2 I a3 (w a6) ((I a3 (w a6)) + 1)) s0 2) ∧ w ((up2 I a3 (w a6) ((I a3 (w a6)) + 1)) s0 2) < ln2) (ev d 54 80 [(2, a0), (0, a1), (2, 3), (2, a3), (2, a4), (0, a5), (0, a6), (2, s0)] [] S (up2 (up2 I a3 (w a6) ((I a3 (w a6)) + 1)) a4 (w ((up2 I a3 (w a6) ((I a3 (w a6)) + 1)) s0 2)) (((up2 I a3 (w a6) ((I a3 (w a6)) + 1)) a4 (w ((up2 I a3 (w a6) ((I a3 (w a6)) + 1)) s0 2))) + 1))))))) else (ev d 54 80 [(2, a0), (0, a1), (2, 3), (2, a3), (2, a4), (0, a5), (0, a6), (2, s0)] [] S I)) else (ev d 54 80 [(2, a0), (0, a1), (2, 3), (2, a3), (2, a4), (0, a5), (0, a6), (2, s0)] [] S I))) := by
  refine (sx_astore (al' := [(2, a0), (0, a1), (2, 3), (2, a3), (2, a4), (0, a5), (0, a6), (2, s0)]) D54_30 (Nat.le_of_ble_eq_true rfl) rfl rfl).trans ?_
  refine (sx_aload D54_32 rfl).trans ?_
  refine sx_ifnull (pc' := 80) D54_34 (by decide) (by decide) (null_ok (h0.imp id (fun h => (LA_o h).1))) (fun _ => ?_) (fun n1 => ?_)
  · exact rfl
  · refine (sx_aload D54_37 rfl).trans ?_
    refine (sx_gfI (q := (3, 2, 1, 84)) (j := 2) D54_39 (by decide +kernel) (by decide +kernel) (by decide) (LA_o (h0.resolve_left n1)) rfl rfl).trans ?_
    refine sx_i0_lt (pc' := 80) D54_42 (by decide) (by decide) ?_ ?_ rfl
    · exact rfl
    · refine (sx_aload D54_45 rfl).trans ?_
      refine (sx_gfI (q := (3, 2, 1, 84)) (j := 2) D54_47 (by decide +kernel) (by decide +kernel) (by decide) (LA_o (h0.resolve_left n1)) rfl rfl).trans ?_
      refine (sx_iconst D54_50).trans ?_
      refine sx_if_ge (pc' := 80) D54_51 (by decide) (by decide) ?_ ?_ rfl (w_small (by decide) (by decide))
      · refine (sx_iload D54_54 rfl).trans ?_
        refine (sx_iconst D54_56).trans ?_
        refine sx_if_ge (pc' := 80) D54_57 (by decide) (by decide) ?_ ?_ rfl (w_small (by decide) (by decide))
        · refine (sx_aload_n D54_60 rfl).trans ?_
          refine (sx_iload D54_61 rfl).trans ?_
          refine (sx_dup2 D54_63 (by decide) (by decide)).trans ?_
          refine (sx_ia D54_64 h1 rfl).trans (gdR_to fun g2 => ?_)
          refine (sx_iconst D54_65).trans ?_
          refine (sx_iadd D54_66).trans ?_
          refine (sx_is D54_67 h1).trans (gdR_to fun g3 => ?_)
          refine (sx_aload D54_68 rfl).trans ?_
          refine (sx_aload D54_70 rfl).trans ?_
          refine (sx_gfI (q := (3, 2, 1, 84)) (j := 2) D54_72 (by decide +kernel) (by decide +kernel) (by decide) (LA_o (h0.resolve_left n1)) rfl rfl).trans ?_
          refine (sx_dup2 D54_75 (by decide) (by decide)).trans ?_
          refine (sx_ia D54_76 h2 rfl).trans (gdR_to fun g4 => ?_)
          refine (sx_iconst D54_77).trans ?_
          refine (sx_iadd D54_78).trans ?_
          refine (sx_is D54_79 h2).trans (gdR_to fun g5 => ?_)
          exact rfl
        · exact rfl
      · exact rfl
theorem E54_80 {d : Nat} {a0 a1 a3 a4 a5 a6 a7 : Int} {S : SS} {I : II}  : ev d 54 80 [(2, a0), (0, a1), (2, 3), (2, a3), (2, a4), (0, a5), (0, a6), (2, a7)] [] S I = ev d 54 12 [(2, a0), (0, a1), (2, 3), (2, a3), (2, a4), (0, a5 + 1), (0, a6), (2, a7)] [] S I := by
  refine (sx_iinc (al' := [(2, a0), (0, a1), (2, 3), (2, a3), (2, a4), (0, a5 + 1), (0, a6), (2, a7)]) D54_80 rfl rfl).trans ?_
  refine (sx_goto (pc' := 12) D54_83 (by decide) (by decide)).trans ?_
  exact rfl
theorem E54_105 {d : Nat} {a0 a1 a3 a4 a5 : Int} {a6 a7 : AV} {S : SS} {I : II}  : ev d 54 105 [(2, a0), (0, a1), (2, 3), (2, a3), (2, a4), (0, a5), a6, a7] [] S I = ev d 54 108 [(2, a0), (0, a1), (2, 3), (2, a3), (2, a4), (0, 0), a6, a7] [] S I := by
  refine (sx_iconst D54_105).trans ?_
  refine (sx_istore (al' := [(2, a0), (0, a1), (2, 3), (2, a3), (2, a4), (0, 0), a6, a7]) D54_106 (Nat.le_of_ble_eq_true rfl) rfl rfl).trans ?_
  exact rfl
theorem E54_108 {d : Nat} {a0 a1 a3 a4 a5 ln0 ln2 : Int} {a6 a7 : AV} {S : SS} {I : II} (h0 : KA S a3 20 ln0) (h1 : RA S 3) (h2 : KA S a4 20 ln2) : ev (d + 1) 54 108 [(2, a0), (0, a1), (2, 3), (2, a3), (2, a4), (0, a5), a6, a7] [] S I = if w a5 < 5 then (gdR (0 ≤ w a5 ∧ w a5 < ln0) ((ev d 112 0 [(2, 3), (1, w (I a3 (w a5))), uU] [] S I).bind (fun q => ev (d + 1) 54 123 [(2, a0), (0, a1), (2, 3), (2, a3), (2, a4), (0, a5), a6, a7] (psh q.1 []) q.2.1 q.2.2))) else (gdR (0 ≤ w 0 ∧ w 0 < ln2) (some ((0, I a4 (w 0)), S, I))) := by
  refine (sx_iload D54_108 rfl).trans ?_
  refine (sx_iconst D54_110).trans ?_
  refine sx_if_ge (pc' := 129) D54_111 (by decide) (by decide) ?_ ?_ rfl (w_small (by decide) (by decide))
  · refine (sx_aload_n D54_114 rfl).trans ?_
    refine (sx_aload_n D54_115 rfl).trans ?_
    refine (sx_iload D54_116 rfl).trans ?_
    refine (sx_ia D54_118 h0 rfl).trans (gdR_to fun g1 => ?_)
    refine (sx_i2l D54_119).trans ?_
    exact sx_virt (c := 7) (ag := [(2, 3), (1, w (I a3 (w a5)))]) (r := []) (al' := [(2, 3), (1, w (I a3 (w a5))), uU]) (np := 1) (nl := 3) (q := (1, 112, 939)) D54_120 (by decide +kernel) (by decide) mP_112 mL_112 mC_112 (Nat.le_of_ble_eq_true rfl) rfl rfl (by simp [cat]) (by decide) (RA_o h1) rfl rfl
  · refine (sx_aload D54_129 rfl).trans ?_
    refine (sx_iconst D54_131).trans ?_
    refine (sx_ia D54_132 h2 rfl).trans (gdR_to fun g2 => ?_)
    exact sx_ireturn D54_133 (by decide +kernel)
theorem E54_123 {d : Nat} {a0 a1 a3 a4 a5 : Int} {a6 a7 : AV} {S : SS} {I : II}  : ev d 54 123 [(2, a0), (0, a1), (2, 3), (2, a3), (2, a4), (0, a5), a6, a7] [] S I = ev d 54 108 [(2, a0), (0, a1), (2, 3), (2, a3), (2, a4), (0, a5 + 1), a6, a7] [] S I := by
  refine (sx_iinc (al' := [(2, a0), (0, a1), (2, 3), (2, a3), (2, a4), (0, a5 + 1), a6, a7]) D54_123 rfl rfl).trans ?_
  refine (sx_goto (pc' := 108) D54_126 (by decide) (by decide)).trans ?_
  exact rfl
theorem E55_0 {d : Nat} {a0 a1 a2 a3 : Int} {S : SS} {I : II} (h0 : DA S a0) : ev (d + 1) 55 0 [(2, a0), (0, a1), (0, a2), (2, a3), (2, 3), uU, uU, uU, uU] [] S I = (ev d 21 0 [(2, a0), (0, a1)] [] S I).bind (fun q => ev (d + 1) 55 5 [(2, a0), (0, a1), (0, a2), (2, a3), (2, 3), uU, uU, uU, uU] (psh q.1 []) q.2.1 q.2.2) := by
  refine (sx_aload_n D55_0 rfl).trans ?_
  refine (sx_iload_n D55_1 rfl).trans ?_
  exact sx_virt (c := 3) (ag := [(2, a0), (0, a1)]) (r := []) (al' := [(2, a0), (0, a1)]) (np := 1) (nl := 2) (q := (1, 21, 543)) D55_2 (by decide +kernel) (by decide) mP_21 mL_21 mC_21 (Nat.le_of_ble_eq_true rfl) rfl rfl (by simp [cat]) (by decide) (DA_o h0) rfl rfl
theorem E55_5 {d : Nat} {a0 a1 a2 a3 s0 : Int} {S : SS} {I : II} (h0 : s0 = -1 ∨ LA S s0) : ev d 55 5 [(2, a0), (0, a1), (0, a2), (2, a3), (2, 3), uU, uU, uU, uU] [(2, s0)] S I = if s0 = -1 then (some ((0, (-1)), S, I)) else (ev d 55 17 [(2, a0), (0, a1), (0, a2), (2, a3), (2, 3), (2, s0), (0, 1), uU, uU] [] S I) := by
  refine (sx_astore (al' := [(2, a0), (0, a1), (0, a2), (2, a3), (2, 3), (2, s0), uU, uU, uU]) D55_5 (Nat.le_of_ble_eq_true rfl) rfl rfl).trans ?_
  refine (sx_aload D55_7 rfl).trans ?_
  refine sx_ifnonnull (pc' := 14) D55_9 (by decide) (by decide) (null_ok (h0.imp id (fun h => (LA_o h).1))) (fun _ => ?_) (fun n1 => ?_)
  · refine (sx_iconst D55_12).trans ?_
    exact sx_ireturn D55_13 (by decide +kernel)
  · refine (sx_iconst D55_14).trans ?_
    refine (sx_istore (al' := [(2, a0), (0, a1), (0, a2), (2, a3), (2, 3), (2, s0), (0, 1), uU, uU]) D55_15 (Nat.le_of_ble_eq_true rfl) rfl rfl).trans ?_
    exact rfl
theorem E55_17 {d : Nat} {a0 a1 a2 a3 a5 a6 : Int} {a7 : AV} {S : SS} {I : II} (h0 : DA S a0) : ev (d + 1) 55 17 [(2, a0), (0, a1), (0, a2), (2, a3), (2, 3), (2, a5), (0, a6), a7, uU] [] S I = if 99 < w a6 then (some ((0, (-2)), S, I)) else ((ev d 25 0 [(2, a0), (2, a3), uU] [] S I).bind (fun q => ev (d + 1) 55 29 [(2, a0), (0, a1), (0, a2), (2, a3), (2, 3), (2, a5), (0, a6), a7, uU] (psh q.1 []) q.2.1 q.2.2)) := by
  refine (sx_iload D55_17 rfl).trans ?_
  refine (sx_bipush D55_19 (by decide)).trans ?_
  refine sx_if_gt (pc' := 78) D55_21 (by decide) (by decide) ?_ ?_ rfl (w_small (by decide) (by decide))
  · refine (sx_bipush D55_78 (by decide)).trans ?_
    exact sx_ireturn D55_80 (by decide +kernel)
  · refine (sx_aload_n D55_24 rfl).trans ?_
    refine (sx_aload_n D55_25 rfl).trans ?_
    exact sx_virt (c := 3) (ag := [(2, a0), (2, a3)]) (r := []) (al' := [(2, a0), (2, a3), uU]) (np := 1) (nl := 3) (q := (1, 25, 599)) D55_26 (by decide +kernel) (by decide) mP_25 mL_25 mC_25 (Nat.le_of_ble_eq_true rfl) rfl rfl (by simp [cat]) (by decide) (DA_o h0) rfl rfl
theorem E55_29 {d : Nat} {a0 a1 a2 a3 a5 a6 : Int} {a7 : AV} {S : SS} {I : II} (h0 : LA S a5) : ev (d + 1) 55 29 [(2, a0), (0, a1), (0, a2), (2, a3), (2, 3), (2, a5), (0, a6), a7, uU] [] S I = (ev d 99 0 [(2, a5), (0, a2), uU] [] S I).bind (fun q => ev (d + 1) 55 35 [(2, a0), (0, a1), (0, a2), (2, a3), (2, 3), (2, a5), (0, a6), a7, uU] (psh q.1 []) q.2.1 q.2.2) := by
  refine (sx_aload D55_29 rfl).trans ?_
  refine (sx_iload_n D55_31 rfl).trans ?_
  exact sx_virt (c := 5) (ag := [(2, a5), (0, a2)]) (r := []) (al' := [(2, a5), (0, a2), uU]) (np := 1) (nl := 3) (q := (1, 99, 1021)) D55_32 (by decide +kernel) (by decide) mP_99 mL_99 mC_99 (Nat.le_of_ble_eq_true rfl) rfl rfl (by simp [cat]) (by decide) (LA_o h0) rfl rfl
theorem E55_35 {d : Nat} {a0 a1 a2 a3 a5 a6 s0 : Int} {a7 : AV} {S : SS} {I : II} (h0 : LA S a5) : ev (d + 1) 55 35 [(2, a0), (0, a1), (0, a2), (2, a3), (2, 3), (2, a5), (0, a6), a7, uU] [(0, s0)] S I = if w s0 = (-1) then (ev (d + 1) 55 17 [(2, a0), (0, a1), (0, a2), (2, a3), (2, 3), (2, a5), (0, a6 + 1), (0, s0), uU] [] S I) else ((ev d 88 0 [(2, a5), (0, s0)] [] S I).bind (fun q => ev (d + 1) 55 50 [(2, a0), (0, a1), (0, a2), (2, a3), (2, 3), (2, a5), (0, a6), (0, s0), uU] (psh q.1 []) q.2.1 q.2.2)) := by
  refine (sx_istore (al' := [(2, a0), (0, a1), (0, a2), (2, a3), (2, 3), (2, a5), (0, a6), (0, s0), uU]) D55_35 (Nat.le_of_ble_eq_true rfl) rfl rfl).trans ?_
  refine (sx_iload D55_37 rfl).trans ?_
  refine (sx_iconst D55_39).trans ?_
  refine sx_if_eq (pc' := 72) D55_40 (by decide) (by decide) ?_ ?_ rfl (w_small (by decide) (by decide))
  · refine (sx_iinc (al' := [(2, a0), (0, a1), (0, a2), (2, a3), (2, 3), (2, a5), (0, a6 + 1), (0, s0), uU]) D55_72 rfl rfl).trans ?_
    refine (sx_goto (pc' := 17) D55_75 (by decide) (by decide)).trans ?_
    exact rfl
  · refine (sx_aload D55_43 rfl).trans ?_
    refine (sx_iload D55_45 rfl).trans ?_
    exact sx_virt (c := 5) (ag := [(2, a5), (0, s0)]) (r := []) (al' := [(2, a5), (0, s0)]) (np := 1) (nl := 2) (q := (1, 88, 747)) D55_47 (by decide +kernel) (by decide) mP_88 mL_88 mC_88 (Nat.le_of_ble_eq_true rfl) rfl rfl (by simp [cat]) (by decide) (LA_o h0) rfl rfl
theorem E55_50 {d : Nat} {a0 a1 a2 a3 a5 a6 a7 s0 : Int} {S : SS} {I : II}  : ev (d + 1) 55 50 [(2, a0), (0, a1), (0, a2), (2, a3), (2, 3), (2, a5), (0, a6), (0, a7), uU] [(0, s0)] S I = (ev d 11 0 [(0, s0)] [] S I).bind (fun q => ev (d + 1) 55 59 [(2, a0), (0, a1), (0, a2), (2, a3), (2, 3), (2, a5), (0, a6), (0, a7), (0, s0)] (psh q.1 [(2, 3)]) q.2.1 q.2.2) := by
  refine (sx_istore (al' := [(2, a0), (0, a1), (0, a2), (2, a3), (2, 3), (2, a5), (0, a6), (0, a7), (0, s0)]) D55_50 (Nat.le_of_ble_eq_true rfl) rfl rfl).trans ?_
  refine (sx_aload D55_52 rfl).trans ?_
  refine (sx_iload D55_54 rfl).trans ?_
  exact sx_stat (ag := [(0, s0)]) (r := [(2, 3)]) (al' := [(0, s0)]) (np := 1) (nl := 1) (q := (0, 11, 777)) D55_56 (by decide +kernel) (by decide) mP_11 mL_11 (Nat.le_of_ble_eq_true rfl) rfl rfl (by simp [cat]) rfl rfl
theorem E55_59 {d : Nat} {a0 a1 a2 a3 a5 a6 a7 a8 s1 : Int} {S : SS} {I : II}  : ev (d + 1) 55 59 [(2, a0), (0, a1), (0, a2), (2, a3), (2, 3), (2, a5), (0, a6), (0, a7), (0, a8)] [(0, s1), (2, 3)] S I = (ev d 9 0 [(0, a8)] [] S I).bind (fun q => ev (d + 1) 55 65 [(2, a0), (0, a1), (0, a2), (2, a3), (2, 3), (2, a5), (0, a6), (0, a7), (0, a8)] (psh q.1 [(1, w s1), (2, 3)]) q.2.1 q.2.2) := by
  refine (sx_i2l D55_59).trans ?_
  refine (sx_iload D55_60 rfl).trans ?_
  exact sx_stat (ag := [(0, a8)]) (r := [(1, w s1), (2, 3)]) (al' := [(0, a8)]) (np := 1) (nl := 1) (q := (0, 9, 751)) D55_62 (by decide +kernel) (by decide) mP_9 mL_9 (Nat.le_of_ble_eq_true rfl) rfl rfl (by simp [cat]) rfl rfl
theorem E55_65 {d : Nat} {a0 a1 a2 a3 a5 a6 a7 a8 s1 s2 : Int} {S : SS} {I : II} (h0 : RA S 3) : ev (d + 1) 55 65 [(2, a0), (0, a1), (0, a2), (2, a3), (2, 3), (2, a5), (0, a6), (0, a7), (0, a8)] [(0, s2), (1, s1), (2, 3)] S I = (ev d 109 0 [(2, 3), (1, s1), uU, (1, w s2), uU] [] S I).bind (fun q => ev (d + 1) 55 69 [(2, a0), (0, a1), (0, a2), (2, a3), (2, 3), (2, a5), (0, a6), (0, a7), (0, a8)] (psh q.1 []) q.2.1 q.2.2) := by
  refine (sx_i2l D55_65).trans ?_
  exact sx_virt (c := 7) (ag := [(2, 3), (1, s1), (1, w s2)]) (r := []) (al' := [(2, 3), (1, s1), uU, (1, w s2), uU]) (np := 2) (nl := 5) (q := (1, 109, 723)) D55_66 (by decide +kernel) (by decide) mP_109 mL_109 mC_109 (Nat.le_of_ble_eq_true rfl) rfl rfl (by simp [cat]) (by decide) (RA_o h0) rfl rfl
theorem E55_69 {d : Nat} {a0 a1 a2 a3 a5 a6 a7 a8 : Int} {S : SS} {I : II}  : ev d 55 69 [(2, a0), (0, a1), (0, a2), (2, a3), (2, 3), (2, a5), (0, a6), (0, a7), (0, a8)] [] S I = some ((0, a6), S, I) := by
  refine (sx_iload D55_69 rfl).trans ?_
  exact sx_ireturn D55_71 (by decide +kernel)
theorem E56_0 {d : Nat} {a0 a1 : Int} {S : SS} {I : II}  : ev d 56 0 [(2, a0), (2, a1), uU, uU] [] S I = ev d 56 2 [(2, a0), (2, a1), (0, 0), uU] [] S I := by
  refine (sx_iconst D56_0).trans ?_
  refine (sx_istore_n (al' := [(2, a0), (2, a1), (0, 0), uU]) D56_1 (Nat.le_of_ble_eq_true rfl) rfl rfl).trans ?_
  exact rfl
theorem E56_2 {d : Nat} {a0 a1 a2 : Int} {a3 : AV} {S : SS} {I : II} (h0 : DA S a0) : ev (d + 1) 56 2 [(2, a0), (2, a1), (0, a2), a3] [] S I = if w a2 < 99 then ((ev d 57 0 [(2, a0), uU] [] S I).bind (fun q => ev (d + 1) 56 12 [(2, a0), (2, a1), (0, a2), a3] (psh q.1 []) q.2.1 q.2.2)) else ((ev d 57 0 [(2, a0), uU] [] S I).bind (fun q => ev (d + 1) 56 62 [(2, a0), (2, a1), (0, a2), a3] (psh q.1 []) q.2.1 q.2.2)) := by
  refine (sx_iload_n D56_2 rfl).trans ?_
  refine (sx_bipush D56_3 (by decide)).trans ?_
  refine sx_if_ge (pc' := 58) D56_5 (by decide) (by decide) ?_ ?_ rfl (w_small (by decide) (by decide))
  · refine (sx_aload_n D56_8 rfl).trans ?_
    exact sx_virt (c := 3) (ag := [(2, a0)]) (r := []) (al' := [(2, a0), uU]) (np := 0) (nl := 2) (q := (1, 57, 1030)) D56_9 (by decide +kernel) (by decide) mP_57 mL_57 mC_57 (Nat.le_of_ble_eq_true rfl) rfl rfl (by simp [cat]) (by decide) (DA_o h0) rfl rfl
  · refine (sx_aload_n D56_58 rfl).trans ?_
    exact sx_virt (c := 3) (ag := [(2, a0)]) (r := []) (al' := [(2, a0), uU]) (np := 0) (nl := 2) (q := (1, 57, 1030)) D56_59 (by decide +kernel) (by decide) mP_57 mL_57 mC_57 (Nat.le_of_ble_eq_true rfl) rfl rfl (by simp [cat]) (by decide) (DA_o h0) rfl rfl
theorem E56_12 {d : Nat} {a0 a1 a2 s0 : Int} {a3 : AV} {S : SS} {I : II}  : ev d 56 12 [(2, a0), (2, a1), (0, a2), a3] [(0, s0)] S I = if w s0 = 0 then (ev d 56 19 [(2, a0), (2, a1), (0, a2), (0, 0)] [] S I) else (some ((0, a2), S, I)) := by
  refine sx_i0_eq (pc' := 17) D56_12 (by decide) (by decide) ?_ ?_ rfl
  · refine (sx_iconst D56_17).trans ?_
    refine (sx_istore_n (al' := [(2, a0), (2, a1), (0, a2), (0, 0)]) D56_18 (Nat.le_of_ble_eq_true rfl) rfl rfl).trans ?_
    exact rfl
  · refine (sx_iload_n D56_15 rfl).trans ?_
    exact sx_ireturn D56_16 (by decide +kernel)
theorem E56_19 {d : Nat} {a0 a1 a2 a3 : Int} {S : SS} {I : II} (h0 : DA S a0) : ev (d + 1) 56 19 [(2, a0), (2, a1), (0, a2), (0, a3)] [] S I = if w a3 < w (I a0 0) then (if w a3 < 5 then (gdR (0 ≤ w a3 ∧ w a3 < 5) ((ev d 100 0 [(2, a0 + 11 + 4 * (w a3)), uU, uU] [] S I).bind (fun q => ev (d + 1) 56 41 [(2, a0), (2, a1), (0, a2), (0, a3)] (psh q.1 []) q.2.1 q.2.2))) else (ev (d + 1) 56 47 [(2, a0), (2, a1), (0, a2), (0, a3)] [] S I)) else (ev (d + 1) 56 47 [(2, a0), (2, a1), (0, a2), (0, a3)] [] S I) := by
  refine (sx_iload_n D56_19 rfl).trans ?_
  refine (sx_aload_n D56_20 rfl).trans ?_
  refine (sx_gfI (q := (1, 0, 0, 146)) (j := 0) D56_21 (by decide +kernel) (by decide +kernel) (by decide) (DA_o h0) rfl rfl).trans ?_
  refine sx_if_ge (pc' := 47) D56_24 (by decide) (by decide) ?_ ?_ rfl rfl
  · refine (sx_iload_n D56_27 rfl).trans ?_
    refine (sx_iconst D56_28).trans ?_
    refine sx_if_ge (pc' := 47) D56_29 (by decide) (by decide) ?_ ?_ rfl (w_small (by decide) (by decide))
    · refine (sx_aload_n D56_32 rfl).trans ?_
      refine (sx_gfR (q := (1, 1, 0, 149)) (b := a0 + 1) D56_33 (by decide +kernel) (by decide +kernel) (by decide) (DA_o h0) (DA_g1 h0)).trans ?_
      refine (sx_iload_n D56_36 rfl).trans ?_
      refine (sx_ra D56_37 (Or.inr rfl) (DA_k1 h0)).trans (gdR_to fun g1 => ?_)
      rw [(DA_e1 h0 _ g1.1 g1.2).1]
      exact sx_virt (c := 5) (ag := [(2, a0 + 11 + 4 * (w a3))]) (r := []) (al' := [(2, a0 + 11 + 4 * (w a3)), uU, uU]) (np := 0) (nl := 3) (q := (1, 100, 1034)) D56_38 (by decide +kernel) (by decide) mP_100 mL_100 mC_100 (Nat.le_of_ble_eq_true rfl) rfl rfl (by simp [cat]) (by decide) (LA_o (DA_e1 h0 _ g1.1 g1.2).2) rfl rfl
    · exact rfl
  · exact rfl
theorem E56_41 {d : Nat} {a0 a1 a2 a3 : Int} {S : SS} {I : II}  : ev d 56 41 [(2, a0), (2, a1), (0, a2), (0, a3)] [] S I = ev d 56 19 [(2, a0), (2, a1), (0, a2), (0, a3 + 1)] [] S I := by
  refine (sx_iinc (al' := [(2, a0), (2, a1), (0, a2), (0, a3 + 1)]) D56_41 rfl rfl).trans ?_
  refine (sx_goto (pc' := 19) D56_44 (by decide) (by decide)).trans ?_
  exact rfl
theorem E56_47 {d : Nat} {a0 a1 a2 a3 : Int} {S : SS} {I : II} (h0 : DA S a0) : ev (d + 1) 56 47 [(2, a0), (2, a1), (0, a2), (0, a3)] [] S I = (ev d 25 0 [(2, a0), (2, a1), uU] [] S I).bind (fun q => ev (d + 1) 56 52 [(2, a0), (2, a1), (0, a2), (0, a3)] (psh q.1 []) q.2.1 q.2.2) := by
  refine (sx_aload_n D56_47 rfl).trans ?_
  refine (sx_aload_n D56_48 rfl).trans ?_
  exact sx_virt (c := 3) (ag := [(2, a0), (2, a1)]) (r := []) (al' := [(2, a0), (2, a1), uU]) (np := 1) (nl := 3) (q := (1, 25, 599)) D56_49 (by decide +kernel) (by decide) mP_25 mL_25 mC_25 (Nat.le_of_ble_eq_true rfl) rfl rfl (by simp [cat]) (by decide) (DA_o h0) rfl rfl
theorem E56_52 {d : Nat} {a0 a1 a2 a3 : Int} {S : SS} {I : II}  : ev d 56 52 [(2, a0), (2, a1), (0, a2), (0, a3)] [] S I = ev d 56 2 [(2, a0), (2, a1), (0, a2 + 1), (0, a3)] [] S I := by
  refine (sx_iinc (al' := [(2, a0), (2, a1), (0, a2 + 1), (0, a3)]) D56_52 rfl rfl).trans ?_
  refine (sx_goto (pc' := 2) D56_55 (by decide) (by decide)).trans ?_
  exact rfl
theorem E56_62 {d : Nat} {a0 a1 a2 s0 : Int} {a3 : AV} {S : SS} {I : II}  : ev d 56 62 [(2, a0), (2, a1), (0, a2), a3] [(0, s0)] S I = if w s0 = 0 then (ev d 56 72 [(2, a0), (2, a1), (0, a2), a3] [(0, (-2))] S I) else (ev d 56 72 [(2, a0), (2, a1), (0, a2), a3] [(0, 99)] S I) := by
  refine sx_i0_eq (pc' := 70) D56_62 (by decide) (by decide) ?_ ?_ rfl
  · refine (sx_bipush D56_70 (by decide)).trans ?_
    exact rfl
  · refine (sx_bipush D56_65 (by decide)).trans ?_
    refine (sx_goto (pc' := 72) D56_67 (by decide) (by decide)).trans ?_
    exact rfl
theorem E56_72 {d : Nat} {a0 a1 a2 s0 : Int} {a3 : AV} {S : SS} {I : II}  : ev d 56 72 [(2, a0), (2, a1), (0, a2), a3] [(0, s0)] S I = some ((0, s0), S, I) := by
  exact sx_ireturn D56_72 (by decide +kernel)
theorem E57_0 {d : Nat} {a0 : Int} {S : SS} {I : II}  : ev d 57 0 [(2, a0), uU] [] S I = ev d 57 2 [(2, a0), (0, 0)] [] S I := by
  refine (sx_iconst D57_0).trans ?_
  refine (sx_istore_n (al' := [(2, a0), (0, 0)]) D57_1 (Nat.le_of_ble_eq_true rfl) rfl rfl).trans ?_
  exact rfl
theorem E57_2 {d : Nat} {a0 a1 : Int} {S : SS} {I : II} (h0 : DA S a0) : ev d 57 2 [(2, a0), (0, a1)] [] S I = if w a1 < w (I a0 0) then (if w a1 < 5 then (gdR (0 ≤ w a1 ∧ w a1 < 5) (gdR (0 ≤ w a1 ∧ w a1 < 5) (if w (I (a0 + 11 + 4 * (w a1)) 7) < w (I (a0 + 11 + 4 * (w a1)) 5) then (some ((0, 0), S, I)) else (ev d 57 2 [(2, a0), (0, a1 + 1)] [] S I)))) else (ev d 57 44 [(2, a0), (0, a1)] [] S I)) else (ev d 57 44 [(2, a0), (0, a1)] [] S I) := by
  refine (sx_iload_n D57_2 rfl).trans ?_
  refine (sx_aload_n D57_3 rfl).trans ?_
  refine (sx_gfI (q := (1, 0, 0, 146)) (j := 0) D57_4 (by decide +kernel) (by decide +kernel) (by decide) (DA_o h0) rfl rfl).trans ?_
  refine sx_if_ge (pc' := 44) D57_7 (by decide) (by decide) ?_ ?_ rfl rfl
  · refine (sx_iload_n D57_10 rfl).trans ?_
    refine (sx_iconst D57_11).trans ?_
    refine sx_if_ge (pc' := 44) D57_12 (by decide) (by decide) ?_ ?_ rfl (w_small (by decide) (by decide))
    · refine (sx_aload_n D57_15 rfl).trans ?_
      refine (sx_gfR (q := (1, 1, 0, 149)) (b := a0 + 1) D57_16 (by decide +kernel) (by decide +kernel) (by decide) (DA_o h0) (DA_g1 h0)).trans ?_
      refine (sx_iload_n D57_19 rfl).trans ?_
      refine (sx_ra D57_20 (Or.inr rfl) (DA_k1 h0)).trans (gdR_to fun g1 => ?_)
      rw [(DA_e1 h0 _ g1.1 g1.2).1]
      refine (sx_gfI (q := (3, 5, 1, 90)) (j := 5) D57_21 (by decide +kernel) (by decide +kernel) (by decide) (LA_o (DA_e1 h0 _ g1.1 g1.2).2) rfl rfl).trans ?_
      refine (sx_aload_n D57_24 rfl).trans ?_
      refine (sx_gfR (q := (1, 1, 0, 149)) (b := a0 + 1) D57_25 (by decide +kernel) (by decide +kernel) (by decide) (DA_o h0) (DA_g1 h0)).trans ?_
      refine (sx_iload_n D57_28 rfl).trans ?_
      refine (sx_ra D57_29 (Or.inr rfl) (DA_k1 h0)).trans (gdR_to fun g2 => ?_)
      rw [(DA_e1 h0 _ g2.1 g2.2).1]
      refine (sx_gfI (q := (3, 7, 1, 94)) (j := 7) D57_30 (by decide +kernel) (by decide +kernel) (by decide) (LA_o (DA_e1 h0 _ g2.1 g2.2).2) rfl rfl).trans ?_
      refine sx_if_le (pc' := 38) D57_33 (by decide) (by decide) ?_ ?_ rfl rfl
      · refine (sx_iconst D57_36).trans ?_
        exact sx_zreturn D57_37 (by decide +kernel) (by decide)
      · refine (sx_iinc (al' := [(2, a0), (0, a1 + 1)]) D57_38 rfl rfl).trans ?_
        refine (sx_goto (pc' := 2) D57_41 (by decide) (by decide)).trans ?_
        exact rfl
    · exact rfl
  · exact rfl
theorem E57_44 {d : Nat} {a0 a1 : Int} {S : SS} {I : II} (h0 : DA S a0) : ev d 57 44 [(2, a0), (0, a1)] [] S I = if w (I a0 10) = 0 then (if w (I a0 15) = 0 then (ev d 57 63 [(2, a0), (0, a1)] [(0, 1)] S I) else (ev d 57 62 [(2, a0), (0, a1)] [] S I)) else (ev d 57 62 [(2, a0), (0, a1)] [] S I) := by
  refine (sx_aload_n D57_44 rfl).trans ?_
  refine (sx_gfI (q := (1, 10, 0, 162)) (j := 10) D57_45 (by decide +kernel) (by decide +kernel) (by decide) (DA_o h0) rfl rfl).trans ?_
  refine sx_i0_ne (pc' := 62) D57_48 (by decide) (by decide) ?_ ?_ rfl
  · refine (sx_aload_n D57_51 rfl).trans ?_
    refine (sx_gfI (q := (1, 15, 0, 168)) (j := 15) D57_52 (by decide +kernel) (by decide +kernel) (by decide) (DA_o h0) rfl rfl).trans ?_
    refine sx_i0_ne (pc' := 62) D57_55 (by decide) (by decide) ?_ ?_ rfl
    · refine (sx_iconst D57_58).trans ?_
      refine (sx_goto (pc' := 63) D57_59 (by decide) (by decide)).trans ?_
      exact rfl
    · exact rfl
  · exact rfl
theorem E57_62 {d : Nat} {a0 a1 : Int} {S : SS} {I : II}  : ev d 57 62 [(2, a0), (0, a1)] [] S I = ev d 57 63 [(2, a0), (0, a1)] [(0, 0)] S I := by
  refine (sx_iconst D57_62).trans ?_
  exact rfl
theorem E57_63 {d : Nat} {a0 a1 s0 : Int} {S : SS} {I : II} (h0 : s0 = 0 ∨ s0 = 1) : ev d 57 63 [(2, a0), (0, a1)] [(0, s0)] S I = some ((0, s0), S, I) := by
  exact sx_zreturn D57_63 (by decide +kernel) h0
theorem E58_0 {d : Nat} {a0 : Int} {S : SS} {I : II}  : ev d 58 0 [(2, a0), uU] [] S I = ev d 58 2 [(2, a0), (0, 0)] [] S I := by
  refine (sx_iconst D58_0).trans ?_
  refine (sx_istore_n (al' := [(2, a0), (0, 0)]) D58_1 (Nat.le_of_ble_eq_true rfl) rfl rfl).trans ?_
  exact rfl
theorem E58_2 {d : Nat} {a0 a1 : Int} {S : SS} {I : II} (h0 : DA S a0) : ev (d + 1) 58 2 [(2, a0), (0, a1)] [] S I = if w a1 < w (I a0 0) then ((ev d 22 0 [(2, a0), (0, a1), uU, uU] [] S I).bind (fun q => ev (d + 1) 58 15 [(2, a0), (0, a1)] (psh q.1 []) q.2.1 q.2.2)) else (some (uU, S, I)) := by
  refine (sx_iload_n D58_2 rfl).trans ?_
  refine (sx_aload_n D58_3 rfl).trans ?_
  refine (sx_gfI (q := (1, 0, 0, 146)) (j := 0) D58_4 (by decide +kernel) (by decide +kernel) (by decide) (DA_o h0) rfl rfl).trans ?_
  refine sx_if_ge (pc' := 22) D58_7 (by decide) (by decide) ?_ ?_ rfl rfl
  · refine (sx_aload_n D58_10 rfl).trans ?_
    refine (sx_iload_n D58_11 rfl).trans ?_
    exact sx_virt (c := 3) (ag := [(2, a0), (0, a1)]) (r := []) (al' := [(2, a0), (0, a1), uU, uU]) (np := 1) (nl := 4) (q := (1, 22, 1049)) D58_12 (by decide +kernel) (by decide) mP_22 mL_22 mC_22 (Nat.le_of_ble_eq_true rfl) rfl rfl (by simp [cat]) (by decide) (DA_o h0) rfl rfl
  · exact sx_return D58_22 (by decide +kernel)
theorem E58_15 {d : Nat} {a0 a1 s0 : Int} {S : SS} {I : II}  : ev d 58 15 [(2, a0), (0, a1)] [(0, s0)] S I = ev d 58 2 [(2, a0), (0, a1 + 1)] [] S I := by
  refine (sx_pop D58_15 (by decide)).trans ?_
  refine (sx_iinc (al' := [(2, a0), (0, a1 + 1)]) D58_16 rfl rfl).trans ?_
  refine (sx_goto (pc' := 2) D58_19 (by decide) (by decide)).trans ?_
  exact rfl
theorem E59_0 {d : Nat} {a0 a1 a2 : Int} {S : SS} {I : II} (h0 : DA S a0) : ev (d + 1) 59 0 [(2, a0), (0, a1), (0, a2), uU] [] S I = (ev d 42 0 [(2, a0), (0, a1), (0, a2), uU, uU, uU] [] S I).bind (fun q => ev (d + 1) 59 6 [(2, a0), (0, a1), (0, a2), uU] (psh q.1 []) q.2.1 q.2.2) := by
  refine (sx_aload_n D59_0 rfl).trans ?_
  refine (sx_iload_n D59_1 rfl).trans ?_
  refine (sx_iload_n D59_2 rfl).trans ?_
  exact sx_virt (c := 3) (ag := [(2, a0), (0, a1), (0, a2)]) (r := []) (al' := [(2, a0), (0, a1), (0, a2), uU, uU, uU]) (np := 2) (nl := 6) (q := (1, 42, 802)) D59_3 (by decide +kernel) (by decide) mP_42 mL_42 mC_42 (Nat.le_of_ble_eq_true rfl) rfl rfl (by simp [cat]) (by decide) (DA_o h0) rfl rfl
theorem E59_6 {d : Nat} {a0 a1 a2 s0 : Int} {S : SS} {I : II} (h0 : DA S a0) : ev d 59 6 [(2, a0), (0, a1), (0, a2), uU] [(0, s0)] S I = if w s0 < 0 then (ev d 59 25 [(2, a0), (0, a1), (0, a2), (0, s0)] [] S I) else (if w s0 < 4 then (gdR (0 ≤ w s0 ∧ w s0 < 4) (ev d 59 26 [(2, a0), (0, a1), (0, a2), (0, s0)] [(0, I (a0 + 6) (w s0))] S I)) else (ev d 59 25 [(2, a0), (0, a1), (0, a2), (0, s0)] [] S I)) := by
  refine (sx_istore_n (al' := [(2, a0), (0, a1), (0, a2), (0, s0)]) D59_6 (Nat.le_of_ble_eq_true rfl) rfl rfl).trans ?_
  refine (sx_iload_n D59_7 rfl).trans ?_
  refine sx_i0_lt (pc' := 25) D59_8 (by decide) (by decide) ?_ ?_ rfl
  · exact rfl
  · refine (sx_iload_n D59_11 rfl).trans ?_
    refine (sx_iconst D59_12).trans ?_
    refine sx_if_ge (pc' := 25) D59_13 (by decide) (by decide) ?_ ?_ rfl (w_small (by decide) (by decide))
    · refine (sx_aload_n D59_16 rfl).trans ?_
      refine (sx_gfR (q := (1, 11, 0, 164)) (b := a0 + 6) D59_17 (by decide +kernel) (by decide +kernel) (by decide) (DA_o h0) (DA_g11 h0)).trans ?_
      refine (sx_iload_n D59_20 rfl).trans ?_
      refine (sx_ia D59_21 (DA_k11 h0) rfl).trans (gdR_to fun g1 => ?_)
      refine (sx_goto (pc' := 26) D59_22 (by decide) (by decide)).trans ?_
      exact rfl
    · exact rfl
theorem E59_25 {d : Nat} {a0 a1 a2 a3 : Int} {S : SS} {I : II}  : ev d 59 25 [(2, a0), (0, a1), (0, a2), (0, a3)] [] S I = ev d 59 26 [(2, a0), (0, a1), (0, a2), (0, a3)] [(0, 0)] S I := by
  refine (sx_iconst D59_25).trans ?_
  exact rfl
theorem E59_26 {d : Nat} {a0 a1 a2 a3 s0 : Int} {S : SS} {I : II}  : ev d 59 26 [(2, a0), (0, a1), (0, a2), (0, a3)] [(0, s0)] S I = some ((0, s0), S, I) := by
  exact sx_ireturn D59_26 (by decide +kernel)
theorem E60_0 {d : Nat} {a0 a1 a2 : Int} {S : SS} {I : II} (h0 : DA S a0) : ev (d + 1) 60 0 [(2, a0), (0, a1), (0, a2), uU, uU] [] S I = (ev d 21 0 [(2, a0), (0, a1)] [] S I).bind (fun q => ev (d + 1) 60 5 [(2, a0), (0, a1), (0, a2), uU, uU] (psh q.1 []) q.2.1 q.2.2) := by
  refine (sx_aload_n D60_0 rfl).trans ?_
  refine (sx_iload_n D60_1 rfl).trans ?_
  exact sx_virt (c := 3) (ag := [(2, a0), (0, a1)]) (r := []) (al' := [(2, a0), (0, a1)]) (np := 1) (nl := 2) (q := (1, 21, 543)) D60_2 (by decide +kernel) (by decide) mP_21 mL_21 mC_21 (Nat.le_of_ble_eq_true rfl) rfl rfl (by simp [cat]) (by decide) (DA_o h0) rfl rfl
theorem E60_5 {d : Nat} {a0 a1 a2 s0 : Int} {S : SS} {I : II} (h0 : s0 = -1 ∨ LA S s0) : ev (d + 1) 60 5 [(2, a0), (0, a1), (0, a2), uU, uU] [(2, s0)] S I = if s0 = -1 then (ev (d + 1) 60 19 [(2, a0), (0, a1), (0, a2), (2, s0), uU] [(0, (-1))] S I) else ((ev d 92 0 [(2, s0), (0, a2), uU] [] S I).bind (fun q => ev (d + 1) 60 19 [(2, a0), (0, a1), (0, a2), (2, s0), uU] (psh q.1 []) q.2.1 q.2.2)) := by
  refine (sx_astore_n (al' := [(2, a0), (0, a1), (0, a2), (2, s0), uU]) D60_5 (Nat.le_of_ble_eq_true rfl) rfl rfl).trans ?_
  refine (sx_aload_n D60_6 rfl).trans ?_
  refine sx_ifnonnull (pc' := 14) D60_7 (by decide) (by decide) (null_ok (h0.imp id (fun h => (LA_o h).1))) (fun _ => ?_) (fun n1 => ?_)
  · refine (sx_iconst D60_10).trans ?_
    refine (sx_goto (pc' := 19) D60_11 (by decide) (by decide)).trans ?_
    exact rfl
  · refine (sx_aload_n D60_14 rfl).trans ?_
    refine (sx_iload_n D60_15 rfl).trans ?_
    exact sx_virt (c := 5) (ag := [(2, s0), (0, a2)]) (r := []) (al' := [(2, s0), (0, a2), uU]) (np := 1) (nl := 3) (q := (1, 92, 792)) D60_16 (by decide +kernel) (by decide) mP_92 mL_92 mC_92 (Nat.le_of_ble_eq_true rfl) rfl rfl (by simp [cat]) (by decide) (LA_o (h0.resolve_left n1)) rfl rfl
theorem E60_19 {d : Nat} {a0 a1 a2 a3 s0 : Int} {S : SS} {I : II} (h0 : DA S a0) : ev (d + 1) 60 19 [(2, a0), (0, a1), (0, a2), (2, a3), uU] [(0, s0)] S I = if w s0 = (-1) then ((ev d 42 0 [(2, a0), (0, a1), (0, a2), uU, uU, uU] [] S I).bind (fun q => ev (d + 1) 60 38 [(2, a0), (0, a1), (0, a2), (2, a3), (0, s0)] (psh q.1 []) q.2.1 q.2.2)) else (ev (d + 1) 60 38 [(2, a0), (0, a1), (0, a2), (2, a3), (0, s0)] [(0, s0)] S I) := by
  refine (sx_istore (al' := [(2, a0), (0, a1), (0, a2), (2, a3), (0, s0)]) D60_19 (Nat.le_of_ble_eq_true rfl) rfl rfl).trans ?_
  refine (sx_iload D60_21 rfl).trans ?_
  refine (sx_iconst D60_23).trans ?_
  refine sx_if_eq (pc' := 32) D60_24 (by decide) (by decide) ?_ ?_ rfl (w_small (by decide) (by decide))
  · refine (sx_aload_n D60_32 rfl).trans ?_
    refine (sx_iload_n D60_33 rfl).trans ?_
    refine (sx_iload_n D60_34 rfl).trans ?_
    exact sx_virt (c := 3) (ag := [(2, a0), (0, a1), (0, a2)]) (r := []) (al' := [(2, a0), (0, a1), (0, a2), uU, uU, uU]) (np := 2) (nl := 6) (q := (1, 42, 802)) D60_35 (by decide +kernel) (by decide) mP_42 mL_42 mC_42 (Nat.le_of_ble_eq_true rfl) rfl rfl (by simp [cat]) (by decide) (DA_o h0) rfl rfl
  · refine (sx_iload D60_27 rfl).trans ?_
    refine (sx_goto (pc' := 38) D60_29 (by decide) (by decide)).trans ?_
    exact rfl
theorem E60_38 {d : Nat} {a0 a1 a2 a3 a4 s0 : Int} {S : SS} {I : II}  : ev d 60 38 [(2, a0), (0, a1), (0, a2), (2, a3), (0, a4)] [(0, s0)] S I = some ((0, s0), S, I) := by
  exact sx_ireturn D60_38 (by decide +kernel)
theorem E61_0 {d : Nat} {a0 a1 : Int} {S : SS} {I : II}  : ev d 61 0 [(2, a0), (0, a1), uU, uU] [] S I = ev d 61 4 [(2, a0), (0, a1), (0, 0), (0, 0)] [] S I := by
  refine (sx_iconst D61_0).trans ?_
  refine (sx_istore_n (al' := [(2, a0), (0, a1), (0, 0), uU]) D61_1 (Nat.le_of_ble_eq_true rfl) rfl rfl).trans ?_
  refine (sx_iconst D61_2).trans ?_
  refine (sx_istore_n (al' := [(2, a0), (0, a1), (0, 0), (0, 0)]) D61_3 (Nat.le_of_ble_eq_true rfl) rfl rfl).trans ?_
  exact rfl
theorem E61_4 {d : Nat} {a0 a1 a2 a3 : Int} {S : SS} {I : II} (h0 : DA S a0) : ev d 61 4 [(2, a0), (0, a1), (0, a2), (0, a3)] [] S I = if w a3 < w (I a0 0) then (if w a3 < 5 then (gdR (0 ≤ w a3 ∧ w a3 < 5) (if w (I (a0 + 11 + 4 * (w a3)) 2) = w a1 then (gdR (0 ≤ w a3 ∧ w a3 < 5) (ev d 61 44 [(2, a0), (0, a1), (0, a2), (0, a3)] [(0, I (a0 + 11 + 4 * (w a3)) 7), (0, a2)] S I)) else (ev d 61 44 [(2, a0), (0, a1), (0, a2), (0, a3)] [(0, 0), (0, a2)] S I))) else (ev d 61 52 [(2, a0), (0, a1), (0, a2), (0, a3)] [] S I)) else (ev d 61 52 [(2, a0), (0, a1), (0, a2), (0, a3)] [] S I) := by
  refine (sx_iload_n D61_4 rfl).trans ?_
  refine (sx_aload_n D61_5 rfl).trans ?_
  refine (sx_gfI (q := (1, 0, 0, 146)) (j := 0) D61_6 (by decide +kernel) (by decide +kernel) (by decide) (DA_o h0) rfl rfl).trans ?_
  refine sx_if_ge (pc' := 52) D61_9 (by decide) (by decide) ?_ ?_ rfl rfl
  · refine (sx_iload_n D61_12 rfl).trans ?_
    refine (sx_iconst D61_13).trans ?_
    refine sx_if_ge (pc' := 52) D61_14 (by decide) (by decide) ?_ ?_ rfl (w_small (by decide) (by decide))
    · refine (sx_iload_n D61_17 rfl).trans ?_
      refine (sx_aload_n D61_18 rfl).trans ?_
      refine (sx_gfR (q := (1, 1, 0, 149)) (b := a0 + 1) D61_19 (by decide +kernel) (by decide +kernel) (by decide) (DA_o h0) (DA_g1 h0)).trans ?_
      refine (sx_iload_n D61_22 rfl).trans ?_
      refine (sx_ra D61_23 (Or.inr rfl) (DA_k1 h0)).trans (gdR_to fun g1 => ?_)
      rw [(DA_e1 h0 _ g1.1 g1.2).1]
      refine (sx_gfI (q := (3, 2, 1, 84)) (j := 2) D61_24 (by decide +kernel) (by decide +kernel) (by decide) (LA_o (DA_e1 h0 _ g1.1 g1.2).2) rfl rfl).trans ?_
      refine (sx_iload_n D61_27 rfl).trans ?_
      refine sx_if_ne (pc' := 43) D61_28 (by decide) (by decide) ?_ ?_ rfl rfl
      · refine (sx_aload_n D61_31 rfl).trans ?_
        refine (sx_gfR (q := (1, 1, 0, 149)) (b := a0 + 1) D61_32 (by decide +kernel) (by decide +kernel) (by decide) (DA_o h0) (DA_g1 h0)).trans ?_
        refine (sx_iload_n D61_35 rfl).trans ?_
        refine (sx_ra D61_36 (Or.inr rfl) (DA_k1 h0)).trans (gdR_to fun g2 => ?_)
        rw [(DA_e1 h0 _ g2.1 g2.2).1]
        refine (sx_gfI (q := (3, 7, 1, 94)) (j := 7) D61_37 (by decide +kernel) (by decide +kernel) (by decide) (LA_o (DA_e1 h0 _ g2.1 g2.2).2) rfl rfl).trans ?_
        refine (sx_goto (pc' := 44) D61_40 (by decide) (by decide)).trans ?_
        exact rfl
      · refine (sx_iconst D61_43).trans ?_
        exact rfl
    · exact rfl
  · exact rfl
theorem E61_44 {d : Nat} {a0 a1 a2 a3 s0 s1 : Int} {S : SS} {I : II}  : ev d 61 44 [(2, a0), (0, a1), (0, a2), (0, a3)] [(0, s1), (0, s0)] S I = ev d 61 4 [(2, a0), (0, a1), (0, s0 + s1), (0, a3 + 1)] [] S I := by
  refine (sx_iadd D61_44).trans ?_
  refine (sx_istore_n (al' := [(2, a0), (0, a1), (0, s0 + s1), (0, a3)]) D61_45 (Nat.le_of_ble_eq_true rfl) rfl rfl).trans ?_
  refine (sx_iinc (al' := [(2, a0), (0, a1), (0, s0 + s1), (0, a3 + 1)]) D61_46 rfl rfl).trans ?_
  refine (sx_goto (pc' := 4) D61_49 (by decide) (by decide)).trans ?_
  exact rfl
theorem E61_52 {d : Nat} {a0 a1 a2 a3 : Int} {S : SS} {I : II}  : ev d 61 52 [(2, a0), (0, a1), (0, a2), (0, a3)] [] S I = some ((0, a2), S, I) := by
  refine (sx_iload_n D61_52 rfl).trans ?_
  exact sx_ireturn D61_53 (by decide +kernel)
theorem E62_0 {d : Nat} {a0 a1 a2 : Int} {S : SS} {I : II} (h0 : DA S a0) : ev (d + 1) 62 0 [(2, a0), (0, a1), (0, a2), uU, uU, uU] [] S I = (ev d 21 0 [(2, a0), (0, a1)] [] S I).bind (fun q => ev (d + 1) 62 5 [(2, a0), (0, a1), (0, a2), uU, uU, uU] (psh q.1 []) q.2.1 q.2.2) := by
  refine (sx_aload_n D62_0 rfl).trans ?_
  refine (sx_iload_n D62_1 rfl).trans ?_
  exact sx_virt (c := 3) (ag := [(2, a0), (0, a1)]) (r := []) (al' := [(2, a0), (0, a1)]) (np := 1) (nl := 2) (q := (1, 21, 543)) D62_2 (by decide +kernel) (by decide) mP_21 mL_21 mC_21 (Nat.le_of_ble_eq_true rfl) rfl rfl (by simp [cat]) (by decide) (DA_o h0) rfl rfl
theorem E62_5 {d : Nat} {a0 a1 a2 s0 : Int} {S : SS} {I : II} (h0 : s0 = -1 ∨ LA S s0) : ev (d + 1) 62 5 [(2, a0), (0, a1), (0, a2), uU, uU, uU] [(2, s0)] S I = if s0 = -1 then (some ((0, (-1)), S, I)) else ((ev d 92 0 [(2, s0), (0, a2), uU] [] S I).bind (fun q => ev (d + 1) 62 17 [(2, a0), (0, a1), (0, a2), (2, s0), uU, uU] (psh q.1 []) q.2.1 q.2.2)) := by
  refine (sx_astore_n (al' := [(2, a0), (0, a1), (0, a2), (2, s0), uU, uU]) D62_5 (Nat.le_of_ble_eq_true rfl) rfl rfl).trans ?_
  refine (sx_aload_n D62_6 rfl).trans ?_
  refine sx_ifnonnull (pc' := 12) D62_7 (by decide) (by decide) (null_ok (h0.imp id (fun h => (LA_o h).1))) (fun _ => ?_) (fun n1 => ?_)
  · refine (sx_iconst D62_10).trans ?_
    exact sx_ireturn D62_11 (by decide +kernel)
  · refine (sx_aload_n D62_12 rfl).trans ?_
    refine (sx_iload_n D62_13 rfl).trans ?_
    exact sx_virt (c := 5) (ag := [(2, s0), (0, a2)]) (r := []) (al' := [(2, s0), (0, a2), uU]) (np := 1) (nl := 3) (q := (1, 92, 792)) D62_14 (by decide +kernel) (by decide) mP_92 mL_92 mC_92 (Nat.le_of_ble_eq_true rfl) rfl rfl (by simp [cat]) (by decide) (LA_o (h0.resolve_left n1)) rfl rfl
theorem E62_17 {d : Nat} {a0 a1 a2 a3 s0 : Int} {S : SS} {I : II} (h0 : DA S a0) (h1 : LA S a3) : ev (d + 1) 62 17 [(2, a0), (0, a1), (0, a2), (2, a3), uU, uU] [(0, s0)] S I = if w s0 = (-1) then ((ev d 42 0 [(2, a0), (0, a1), (0, a2), uU, uU, uU] [] S I).bind (fun q => ev (d + 1) 62 38 [(2, a0), (0, a1), (0, a2), (2, a3), (0, s0), uU] (psh q.1 []) q.2.1 q.2.2)) else ((ev d 86 0 [(2, a3), (0, s0)] [] S I).bind (fun q => ev (d + 1) 62 31 [(2, a0), (0, a1), (0, a2), (2, a3), (0, s0), uU] (psh q.1 []) q.2.1 q.2.2)) := by
  refine (sx_istore (al' := [(2, a0), (0, a1), (0, a2), (2, a3), (0, s0), uU]) D62_17 (Nat.le_of_ble_eq_true rfl) rfl rfl).trans ?_
  refine (sx_iload D62_19 rfl).trans ?_
  refine (sx_iconst D62_21).trans ?_
  refine sx_if_eq (pc' := 32) D62_22 (by decide) (by decide) ?_ ?_ rfl (w_small (by decide) (by decide))
  · refine (sx_aload_n D62_32 rfl).trans ?_
    refine (sx_iload_n D62_33 rfl).trans ?_
    refine (sx_iload_n D62_34 rfl).trans ?_
    exact sx_virt (c := 3) (ag := [(2, a0), (0, a1), (0, a2)]) (r := []) (al' := [(2, a0), (0, a1), (0, a2), uU, uU, uU]) (np := 2) (nl := 6) (q := (1, 42, 802)) D62_35 (by decide +kernel) (by decide) mP_42 mL_42 mC_42 (Nat.le_of_ble_eq_true rfl) rfl rfl (by simp [cat]) (by decide) (DA_o h0) rfl rfl
  · refine (sx_aload_n D62_25 rfl).trans ?_
    refine (sx_iload D62_26 rfl).trans ?_
    exact sx_virt (c := 5) (ag := [(2, a3), (0, s0)]) (r := []) (al' := [(2, a3), (0, s0)]) (np := 1) (nl := 2) (q := (1, 86, 801)) D62_28 (by decide +kernel) (by decide) mP_86 mL_86 mC_86 (Nat.le_of_ble_eq_true rfl) rfl rfl (by simp [cat]) (by decide) (LA_o h1) rfl rfl
theorem E62_31 {d : Nat} {a0 a1 a2 a3 a4 s0 : Int} {S : SS} {I : II}  : ev d 62 31 [(2, a0), (0, a1), (0, a2), (2, a3), (0, a4), uU] [(0, s0)] S I = some ((0, s0), S, I) := by
  exact sx_ireturn D62_31 (by decide +kernel)
theorem E62_38 {d : Nat} {a0 a1 a2 a3 a4 s0 : Int} {S : SS} {I : II} (h0 : DA S a0) : ev (d + 1) 62 38 [(2, a0), (0, a1), (0, a2), (2, a3), (0, a4), uU] [(0, s0)] S I = if w s0 < 0 then (ev (d + 1) 62 51 [(2, a0), (0, a1), (0, a2), (2, a3), (0, a4), (0, s0)] [] S I) else (if w s0 < 4 then (gdR (0 ≤ w s0 ∧ w s0 < 4) ((ev d 3 0 [(0, I (a0 + 8) (w s0))] [] S I).bind (fun q => ev (d + 1) 62 63 [(2, a0), (0, a1), (0, a2), (2, a3), (0, a4), (0, s0)] (psh q.1 []) q.2.1 q.2.2))) else (ev (d + 1) 62 51 [(2, a0), (0, a1), (0, a2), (2, a3), (0, a4), (0, s0)] [] S I)) := by
  refine (sx_istore (al' := [(2, a0), (0, a1), (0, a2), (2, a3), (0, a4), (0, s0)]) D62_38 (Nat.le_of_ble_eq_true rfl) rfl rfl).trans ?_
  refine (sx_iload D62_40 rfl).trans ?_
  refine sx_i0_lt (pc' := 51) D62_42 (by decide) (by decide) ?_ ?_ rfl
  · exact rfl
  · refine (sx_iload D62_45 rfl).trans ?_
    refine (sx_iconst D62_47).trans ?_
    refine sx_if_lt (pc' := 53) D62_48 (by decide) (by decide) ?_ ?_ rfl (w_small (by decide) (by decide))
    · refine (sx_aload_n D62_53 rfl).trans ?_
      refine (sx_gfR (q := (1, 13, 0, 166)) (b := a0 + 8) D62_54 (by decide +kernel) (by decide +kernel) (by decide) (DA_o h0) (DA_g13 h0)).trans ?_
      refine (sx_iload D62_57 rfl).trans ?_
      refine (sx_ia D62_59 (DA_k13 h0) rfl).trans (gdR_to fun g1 => ?_)
      exact sx_stat (ag := [(0, I (a0 + 8) (w s0))]) (r := []) (al' := [(0, I (a0 + 8) (w s0))]) (np := 1) (nl := 1) (q := (0, 3, 629)) D62_60 (by decide +kernel) (by decide) mP_3 mL_3 (Nat.le_of_ble_eq_true rfl) rfl rfl (by simp [cat]) rfl rfl
    · exact rfl
theorem E62_51 {d : Nat} {a0 a1 a2 a3 a4 a5 : Int} {S : SS} {I : II}  : ev d 62 51 [(2, a0), (0, a1), (0, a2), (2, a3), (0, a4), (0, a5)] [] S I = some ((0, (-1)), S, I) := by
  refine (sx_iconst D62_51).trans ?_
  exact sx_ireturn D62_52 (by decide +kernel)
theorem E62_63 {d : Nat} {a0 a1 a2 a3 a4 a5 s0 : Int} {S : SS} {I : II} (h0 : DA S a0) : ev d 62 63 [(2, a0), (0, a1), (0, a2), (2, a3), (0, a4), (0, a5)] [(0, s0)] S I = if w s0 = w a2 then (gdR (0 ≤ w a5 ∧ w a5 < 4) (ev d 62 84 [(2, a0), (0, a1), (0, a2), (2, a3), (0, a4), (0, a5)] [(0, I (a0 + 8) (w a5))] S I)) else (gdR (0 ≤ w a5 ∧ w a5 < 4) (ev d 62 84 [(2, a0), (0, a1), (0, a2), (2, a3), (0, a4), (0, a5)] [(0, I (a0 + 9) (w a5))] S I)) := by
  refine (sx_iload_n D62_63 rfl).trans ?_
  refine sx_if_ne (pc' := 77) D62_64 (by decide) (by decide) ?_ ?_ rfl rfl
  · refine (sx_aload_n D62_67 rfl).trans ?_
    refine (sx_gfR (q := (1, 13, 0, 166)) (b := a0 + 8) D62_68 (by decide +kernel) (by decide +kernel) (by decide) (DA_o h0) (DA_g13 h0)).trans ?_
    refine (sx_iload D62_71 rfl).trans ?_
    refine (sx_ia D62_73 (DA_k13 h0) rfl).trans (gdR_to fun g1 => ?_)
    refine (sx_goto (pc' := 84) D62_74 (by decide) (by decide)).trans ?_
    exact rfl
  · refine (sx_aload_n D62_77 rfl).trans ?_
    refine (sx_gfR (q := (1, 14, 0, 167)) (b := a0 + 9) D62_78 (by decide +kernel) (by decide +kernel) (by decide) (DA_o h0) (DA_g14 h0)).trans ?_
    refine (sx_iload D62_81 rfl).trans ?_
    refine (sx_ia D62_83 (DA_k14 h0) rfl).trans (gdR_to fun g2 => ?_)
    exact rfl
theorem E62_84 {d : Nat} {a0 a1 a2 a3 a4 a5 s0 : Int} {S : SS} {I : II}  : ev d 62 84 [(2, a0), (0, a1), (0, a2), (2, a3), (0, a4), (0, a5)] [(0, s0)] S I = some ((0, s0), S, I) := by
  exact sx_ireturn D62_84 (by decide +kernel)
theorem E63_0 {d : Nat} {a0 a1 a2 : Int} {S : SS} {I : II} (h0 : DA S a0) : ev (d + 1) 63 0 [(2, a0), (0, a1), (0, a2)] [] S I = (ev d 42 0 [(2, a0), (0, a1), (0, a2), uU, uU, uU] [] S I).bind (fun q => ev (d + 1) 63 6 [(2, a0), (0, a1), (0, a2)] (psh q.1 []) q.2.1 q.2.2) := by
  refine (sx_aload_n D63_0 rfl).trans ?_
  refine (sx_iload_n D63_1 rfl).trans ?_
  refine (sx_iload_n D63_2 rfl).trans ?_
  exact sx_virt (c := 3) (ag := [(2, a0), (0, a1), (0, a2)]) (r := []) (al' := [(2, a0), (0, a1), (0, a2), uU, uU, uU]) (np := 2) (nl := 6) (q := (1, 42, 802)) D63_3 (by decide +kernel) (by decide) mP_42 mL_42 mC_42 (Nat.le_of_ble_eq_true rfl) rfl rfl (by simp [cat]) (by decide) (DA_o h0) rfl rfl
theorem E63_6 {d : Nat} {a0 a1 a2 s0 : Int} {S : SS} {I : II}  : ev d 63 6 [(2, a0), (0, a1), (0, a2)] [(0, s0)] S I = if w s0 = (-1) then (ev d 63 15 [(2, a0), (0, a1), (0, a2)] [(0, 0)] S I) else (ev d 63 15 [(2, a0), (0, a1), (0, a2)] [(0, 1)] S I) := by
  refine (sx_iconst D63_6).trans ?_
  refine sx_if_eq (pc' := 14) D63_7 (by decide) (by decide) ?_ ?_ rfl (w_small (by decide) (by decide))
  · refine (sx_iconst D63_14).trans ?_
    exact rfl
  · refine (sx_iconst D63_10).trans ?_
    refine (sx_goto (pc' := 15) D63_11 (by decide) (by decide)).trans ?_
    exact rfl
theorem E63_15 {d : Nat} {a0 a1 a2 s0 : Int} {S : SS} {I : II} (h0 : s0 = 0 ∨ s0 = 1) : ev d 63 15 [(2, a0), (0, a1), (0, a2)] [(0, s0)] S I = some ((0, s0), S, I) := by
  exact sx_zreturn D63_15 (by decide +kernel) h0
theorem E64_0 {d : Nat} {a0 a1 a2 : Int} {S : SS} {I : II} (h0 : WA S a1) : ev (d + 1) 64 0 [(2, a0), (2, a1), (2, a2), (2, 3), uU, uU, uU, uU] [] S I = (ev d 13 0 [(2, a1), (0, 6)] [] S I).bind (fun q => ev (d + 1) 64 6 [(2, a0), (2, a1), (2, a2), (2, 3), uU, uU, uU, uU] (psh q.1 []) q.2.1 q.2.2) := by
  refine (sx_aload_n D64_0 rfl).trans ?_
  refine (sx_bipush D64_1 (by decide)).trans ?_
  exact sx_virt (c := 2) (ag := [(2, a1), (0, 6)]) (r := []) (al' := [(2, a1), (0, 6)]) (np := 1) (nl := 2) (q := (1, 13, 1171)) D64_3 (by decide +kernel) (by decide) mP_13 mL_13 mC_13 (Nat.le_of_ble_eq_true rfl) rfl rfl (by simp [cat]) (by decide) (WA_o h0) rfl rfl
theorem E64_6 {d : Nat} {a0 a1 a2 s0 : Int} {S : SS} {I : II} (h0 : DA S a0) (h1 : WA S a1) : ev (d + 1) 64 6 [(2, a0), (2, a1), (2, a2), (2, 3), uU, uU, uU, uU] [(0, s0)] S I = if w (I a0 0) = 0 then (some (uU, S, I)) else ((ev d 13 0 [(2, a1), (0, I a0 0)] [] S I).bind (fun q => ev (d + 1) 64 24 [(2, a0), (2, a1), (2, a2), (2, 3), (0, s0), uU, uU, uU] (psh q.1 []) q.2.1 q.2.2)) := by
  refine (sx_istore (al' := [(2, a0), (2, a1), (2, a2), (2, 3), (0, s0), uU, uU, uU]) D64_6 (Nat.le_of_ble_eq_true rfl) rfl rfl).trans ?_
  refine (sx_aload_n D64_8 rfl).trans ?_
  refine (sx_gfI (q := (1, 0, 0, 146)) (j := 0) D64_9 (by decide +kernel) (by decide +kernel) (by decide) (DA_o h0) rfl rfl).trans ?_
  refine sx_i0_ne (pc' := 16) D64_12 (by decide) (by decide) ?_ ?_ rfl
  · exact sx_return D64_15 (by decide +kernel)
  · refine (sx_aload_n D64_16 rfl).trans ?_
    refine (sx_aload_n D64_17 rfl).trans ?_
    refine (sx_gfI (q := (1, 0, 0, 146)) (j := 0) D64_18 (by decide +kernel) (by decide +kernel) (by decide) (DA_o h0) rfl rfl).trans ?_
    exact sx_virt (c := 2) (ag := [(2, a1), (0, I a0 0)]) (r := []) (al' := [(2, a1), (0, I a0 0)]) (np := 1) (nl := 2) (q := (1, 13, 1171)) D64_21 (by decide +kernel) (by decide) mP_13 mL_13 mC_13 (Nat.le_of_ble_eq_true rfl) rfl rfl (by simp [cat]) (by decide) (WA_o h1) rfl rfl
theorem E64_24 {d : Nat} {a0 a1 a2 a4 s0 : Int} {S : SS} {I : II} (h0 : DA S a0) (h1 : WA S a1) : ev (d + 1) 64 24 [(2, a0), (2, a1), (2, a2), (2, 3), (0, a4), uU, uU, uU] [(0, s0)] S I = if w a4 = 2 then ((ev d 22 0 [(2, a0), (0, s0), uU, uU] [] S I).bind (fun q => ev (d + 1) 64 66 [(2, a0), (2, a1), (2, a2), (2, 3), (0, a4), (0, s0), uU, uU] (psh q.1 []) q.2.1 q.2.2)) else (if w a4 = 3 then ((ev d 25 0 [(2, a0), (2, a2), uU] [] S I).bind (fun q => ev (d + 1) 64 75 [(2, a0), (2, a1), (2, a2), (2, 3), (0, a4), (0, s0), uU, uU] (psh q.1 []) q.2.1 q.2.2)) else (if w a4 = 4 then ((ev d 39 0 [(2, a0), (0, s0), (2, 3), uU, uU] [] S I).bind (fun q => ev (d + 1) 64 85 [(2, a0), (2, a1), (2, a2), (2, 3), (0, a4), (0, s0), uU, uU] (psh q.1 []) q.2.1 q.2.2)) else (if w a4 = 5 then ((ev d 13 0 [(2, a1), (0, 16)] [] S I).bind (fun q => ev (d + 1) 64 98 [(2, a0), (2, a1), (2, a2), (2, 3), (0, a4), (0, s0), uU, uU] (psh q.1 [(0, s0), (2, a0)]) q.2.1 q.2.2)) else ((ev d 13 0 [(2, a1), (0, 5)] [] S I).bind (fun q => ev (d + 1) 64 110 [(2, a0), (2, a1), (2, a2), (2, 3), (0, a4), (0, s0), uU, uU] (psh q.1 []) q.2.1 q.2.2))))) := by
  refine (sx_istore (al' := [(2, a0), (2, a1), (2, a2), (2, 3), (0, a4), (0, s0), uU, uU]) D64_24 (Nat.le_of_ble_eq_true rfl) rfl rfl).trans ?_
  refine (sx_iload D64_26 rfl).trans ?_
  refine ite_go (c := w a4 = 2) (fun x1 => ?_) (fun x1 => ?_)
  · refine (sx_tsw (pc' := 60) D64_28 ((rfl).trans x1) (by decide) rfl (by decide) (by decide)).trans ?_
    refine (sx_aload_n D64_60 rfl).trans ?_
    refine (sx_iload D64_61 rfl).trans ?_
    exact sx_virt (c := 3) (ag := [(2, a0), (0, s0)]) (r := []) (al' := [(2, a0), (0, s0), uU, uU]) (np := 1) (nl := 4) (q := (1, 22, 1049)) D64_63 (by decide +kernel) (by decide) mP_22 mL_22 mC_22 (Nat.le_of_ble_eq_true rfl) rfl rfl (by simp [cat]) (by decide) (DA_o h0) rfl rfl
  refine ite_go (c := w a4 = 3) (fun x2 => ?_) (fun x2 => ?_)
  · refine (sx_tsw (pc' := 70) D64_28 ((rfl).trans x2) (by decide) rfl (by decide) (by decide)).trans ?_
    refine (sx_aload_n D64_70 rfl).trans ?_
    refine (sx_aload_n D64_71 rfl).trans ?_
    exact sx_virt (c := 3) (ag := [(2, a0), (2, a2)]) (r := []) (al' := [(2, a0), (2, a2), uU]) (np := 1) (nl := 3) (q := (1, 25, 599)) D64_72 (by decide +kernel) (by decide) mP_25 mL_25 mC_25 (Nat.le_of_ble_eq_true rfl) rfl rfl (by simp [cat]) (by decide) (DA_o h0) rfl rfl
  refine ite_go (c := w a4 = 4) (fun x3 => ?_) (fun x3 => ?_)
  · refine (sx_tsw (pc' := 78) D64_28 ((rfl).trans x3) (by decide) rfl (by decide) (by decide)).trans ?_
    refine (sx_aload_n D64_78 rfl).trans ?_
    refine (sx_iload D64_79 rfl).trans ?_
    refine (sx_aload_n D64_81 rfl).trans ?_
    exact sx_virt (c := 3) (ag := [(2, a0), (0, s0), (2, 3)]) (r := []) (al' := [(2, a0), (0, s0), (2, 3), uU, uU]) (np := 2) (nl := 5) (q := (1, 39, 1176)) D64_82 (by decide +kernel) (by decide) mP_39 mL_39 mC_39 (Nat.le_of_ble_eq_true rfl) rfl rfl (by simp [cat]) (by decide) (DA_o h0) rfl rfl
  refine ite_go (c := w a4 = 5) (fun x4 => ?_) (fun x4 => ?_)
  · refine (sx_tsw (pc' := 89) D64_28 ((rfl).trans x4) (by decide) rfl (by decide) (by decide)).trans ?_
    refine (sx_aload_n D64_89 rfl).trans ?_
    refine (sx_iload D64_90 rfl).trans ?_
    refine (sx_aload_n D64_92 rfl).trans ?_
    refine (sx_bipush D64_93 (by decide)).trans ?_
    exact sx_virt (c := 2) (ag := [(2, a1), (0, 16)]) (r := [(0, s0), (2, a0)]) (al' := [(2, a1), (0, 16)]) (np := 1) (nl := 2) (q := (1, 13, 1171)) D64_95 (by decide +kernel) (by decide) mP_13 mL_13 mC_13 (Nat.le_of_ble_eq_true rfl) rfl rfl (by simp [cat]) (by decide) (WA_o h1) rfl rfl
  refine (sx_tsd (pc' := 105) D64_28 (by rw [show w _ = _ from rfl]; omega) (by decide) (by decide)).trans ?_
  refine (sx_aload_n D64_105 rfl).trans ?_
  refine (sx_iconst D64_106).trans ?_
  exact sx_virt (c := 2) (ag := [(2, a1), (0, 5)]) (r := []) (al' := [(2, a1), (0, 5)]) (np := 1) (nl := 2) (q := (1, 13, 1171)) D64_107 (by decide +kernel) (by decide) mP_13 mL_13 mC_13 (Nat.le_of_ble_eq_true rfl) rfl rfl (by simp [cat]) (by decide) (WA_o h1) rfl rfl
theorem E64_66 {d : Nat} {a0 a1 a2 a4 a5 s0 : Int} {S : SS} {I : II}  : ev d 64 66 [(2, a0), (2, a1), (2, a2), (2, 3), (0, a4), (0, a5), uU, uU] [(0, s0)] S I = ev d 64 137 [(2, a0), (2, a1), (2, a2), (2, 3), (0, a4), (0, a5), uU, uU] [] S I := by
  refine (sx_pop D64_66 (by decide)).trans ?_
  refine (sx_goto (pc' := 137) D64_67 (by decide) (by decide)).trans ?_
  exact rfl
theorem E64_75 {d : Nat} {a0 a1 a2 a4 a5 : Int} {S : SS} {I : II}  : ev d 64 75 [(2, a0), (2, a1), (2, a2), (2, 3), (0, a4), (0, a5), uU, uU] [] S I = ev d 64 137 [(2, a0), (2, a1), (2, a2), (2, 3), (0, a4), (0, a5), uU, uU] [] S I := by
  refine (sx_goto (pc' := 137) D64_75 (by decide) (by decide)).trans ?_
  exact rfl
theorem E64_85 {d : Nat} {a0 a1 a2 a4 a5 s0 : Int} {S : SS} {I : II}  : ev d 64 85 [(2, a0), (2, a1), (2, a2), (2, 3), (0, a4), (0, a5), uU, uU] [(0, s0)] S I = ev d 64 137 [(2, a0), (2, a1), (2, a2), (2, 3), (0, a4), (0, a5), uU, uU] [] S I := by
  refine (sx_pop D64_85 (by decide)).trans ?_
  refine (sx_goto (pc' := 137) D64_86 (by decide) (by decide)).trans ?_
  exact rfl
theorem E64_98 {d : Nat} {a0 a1 a2 a4 a5 s0 s1 s2 : Int} {S : SS} {I : II} (h0 : DA S s0) : ev (d + 1) 64 98 [(2, a0), (2, a1), (2, a2), (2, 3), (0, a4), (0, a5), uU, uU] [(0, s2), (0, s1), (2, s0)] S I = (ev d 40 0 [(2, s0), (0, s1), (0, s2), uU, uU] [] S I).bind (fun q => ev (d + 1) 64 101 [(2, a0), (2, a1), (2, a2), (2, 3), (0, a4), (0, a5), uU, uU] (psh q.1 []) q.2.1 q.2.2) := by
  exact sx_virt (c := 3) (ag := [(2, s0), (0, s1), (0, s2)]) (r := []) (al' := [(2, s0), (0, s1), (0, s2), uU, uU]) (np := 2) (nl := 5) (q := (1, 40, 1177)) D64_98 (by decide +kernel) (by decide) mP_40 mL_40 mC_40 (Nat.le_of_ble_eq_true rfl) rfl rfl (by simp [cat]) (by decide) (DA_o h0) rfl rfl
theorem E64_101 {d : Nat} {a0 a1 a2 a4 a5 s0 : Int} {S : SS} {I : II}  : ev d 64 101 [(2, a0), (2, a1), (2, a2), (2, 3), (0, a4), (0, a5), uU, uU] [(0, s0)] S I = ev d 64 137 [(2, a0), (2, a1), (2, a2), (2, 3), (0, a4), (0, a5), uU, uU] [] S I := by
  refine (sx_pop D64_101 (by decide)).trans ?_
  refine (sx_goto (pc' := 137) D64_102 (by decide) (by decide)).trans ?_
  exact rfl
theorem E64_110 {d : Nat} {a0 a1 a2 a4 a5 s0 : Int} {S : SS} {I : II} (h0 : WA S a1) : ev (d + 1) 64 110 [(2, a0), (2, a1), (2, a2), (2, 3), (0, a4), (0, a5), uU, uU] [(0, s0)] S I = (ev d 13 0 [(2, a1), (0, 10)] [] S I).bind (fun q => ev (d + 1) 64 118 [(2, a0), (2, a1), (2, a2), (2, 3), (0, a4), (0, a5), (0, s0), uU] (psh q.1 []) q.2.1 q.2.2) := by
  refine (sx_istore (al' := [(2, a0), (2, a1), (2, a2), (2, 3), (0, a4), (0, a5), (0, s0), uU]) D64_110 (Nat.le_of_ble_eq_true rfl) rfl rfl).trans ?_
  refine (sx_aload_n D64_112 rfl).trans ?_
  refine (sx_bipush D64_113 (by decide)).trans ?_
  exact sx_virt (c := 2) (ag := [(2, a1), (0, 10)]) (r := []) (al' := [(2, a1), (0, 10)]) (np := 1) (nl := 2) (q := (1, 13, 1171)) D64_115 (by decide +kernel) (by decide) mP_13 mL_13 mC_13 (Nat.le_of_ble_eq_true rfl) rfl rfl (by simp [cat]) (by decide) (WA_o h0) rfl rfl
theorem E64_118 {d : Nat} {a0 a1 a2 a4 a5 a6 s0 : Int} {S : SS} {I : II} (h0 : WA S a1) : ev (d + 1) 64 118 [(2, a0), (2, a1), (2, a2), (2, 3), (0, a4), (0, a5), (0, a6), uU] [(0, s0)] S I = (ev d 13 0 [(2, a1), (0, 100)] [] S I).bind (fun q => ev (d + 1) 64 133 [(2, a0), (2, a1), (2, a2), (2, 3), (0, a4), (0, a5), (0, a6), (0, s0)] (psh q.1 [(0, s0), (0, a6), (0, a5), (2, a0)]) q.2.1 q.2.2) := by
  refine (sx_istore (al' := [(2, a0), (2, a1), (2, a2), (2, 3), (0, a4), (0, a5), (0, a6), (0, s0)]) D64_118 (Nat.le_of_ble_eq_true rfl) rfl rfl).trans ?_
  refine (sx_aload_n D64_120 rfl).trans ?_
  refine (sx_iload D64_121 rfl).trans ?_
  refine (sx_iload D64_123 rfl).trans ?_
  refine (sx_iload D64_125 rfl).trans ?_
  refine (sx_aload_n D64_127 rfl).trans ?_
  refine (sx_bipush D64_128 (by decide)).trans ?_
  exact sx_virt (c := 2) (ag := [(2, a1), (0, 100)]) (r := [(0, s0), (0, a6), (0, a5), (2, a0)]) (al' := [(2, a1), (0, 100)]) (np := 1) (nl := 2) (q := (1, 13, 1171)) D64_130 (by decide +kernel) (by decide) mP_13 mL_13 mC_13 (Nat.le_of_ble_eq_true rfl) rfl rfl (by simp [cat]) (by decide) (WA_o h0) rfl rfl
theorem E64_133 {d : Nat} {a0 a1 a2 a4 a5 a6 a7 s0 s1 s2 s3 s4 : Int} {S : SS} {I : II} (h0 : DA S s0) : ev (d + 1) 64 133 [(2, a0), (2, a1), (2, a2), (2, 3), (0, a4), (0, a5), (0, a6), (0, a7)] [(0, s4), (0, s3), (0, s2), (0, s1), (2, s0)] S I = (ev d 20 0 [(2, s0), (0, s1), (0, s2), (0, s3), (0, s4), uU] [] S I).bind (fun q => ev (d + 1) 64 136 [(2, a0), (2, a1), (2, a2), (2, 3), (0, a4), (0, a5), (0, a6), (0, a7)] (psh q.1 []) q.2.1 q.2.2) := by
  exact sx_virt (c := 3) (ag := [(2, s0), (0, s1), (0, s2), (0, s3), (0, s4)]) (r := []) (al' := [(2, s0), (0, s1), (0, s2), (0, s3), (0, s4), uU]) (np := 4) (nl := 6) (q := (1, 20, 1178)) D64_133 (by decide +kernel) (by decide) mP_20 mL_20 mC_20 (Nat.le_of_ble_eq_true rfl) rfl rfl (by simp [cat]) (by decide) (DA_o h0) rfl rfl
theorem E64_136 {d : Nat} {a0 a1 a2 a4 a5 a6 a7 s0 : Int} {S : SS} {I : II}  : ev d 64 136 [(2, a0), (2, a1), (2, a2), (2, 3), (0, a4), (0, a5), (0, a6), (0, a7)] [(0, s0)] S I = ev d 64 137 [(2, a0), (2, a1), (2, a2), (2, 3), (0, a4), (0, a5), (0, a6), (0, a7)] [] S I := by
  refine (sx_pop D64_136 (by decide)).trans ?_
  exact rfl
theorem E64_137 {d : Nat} {a0 a1 a2 a4 a5 : Int} {a6 a7 : AV} {S : SS} {I : II}  : ev d 64 137 [(2, a0), (2, a1), (2, a2), (2, 3), (0, a4), (0, a5), a6, a7] [] S I = some (uU, S, I) := by
  exact sx_return D64_137 (by decide +kernel)
