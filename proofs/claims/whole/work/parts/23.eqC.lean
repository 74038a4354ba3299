/-! equations, by places where ways meet: methods 139 to 188 (written by wip/whole/genE.py) -/
theorem D139_0 : decode (mB 139) 0 = .ok (.aload_n 0, 1) := by decide +kernel
theorem D139_1 : decode (mB 139) 1 = .ok (.invokespecial 1, 3) := by decide +kernel
theorem D139_4 : decode (mB 139) 4 = .ok (.aload_n 0, 1) := by decide +kernel
theorem D139_5 : decode (mB 139) 5 = .ok (.new 7, 3) := by decide +kernel
theorem D139_8 : decode (mB 139) 8 = .ok (.dup, 1) := by decide +kernel
theorem D139_9 : decode (mB 139) 9 = .ok (.invokespecial 9, 3) := by decide +kernel
theorem D139_12 : decode (mB 139) 12 = .ok (.putfield 10, 3) := by decide +kernel
theorem D139_15 : decode (mB 139) 15 = .ok (.aload_n 0, 1) := by decide +kernel
theorem D139_16 : decode (mB 139) 16 = .ok (.new 16, 3) := by decide +kernel
theorem D139_19 : decode (mB 139) 19 = .ok (.dup, 1) := by decide +kernel
theorem D139_20 : decode (mB 139) 20 = .ok (.invokespecial 18, 3) := by decide +kernel
theorem D139_23 : decode (mB 139) 23 = .ok (.putfield 19, 3) := by decide +kernel
theorem D139_26 : decode (mB 139) 26 = .ok (.aload_n 0, 1) := by decide +kernel
theorem D139_27 : decode (mB 139) 27 = .ok (.new 23, 3) := by decide +kernel
theorem D139_30 : decode (mB 139) 30 = .ok (.dup, 1) := by decide +kernel
theorem D139_31 : decode (mB 139) 31 = .ok (.invokespecial 25, 3) := by decide +kernel
theorem D139_34 : decode (mB 139) 34 = .ok (.putfield 26, 3) := by decide +kernel
theorem D139_37 : decode (mB 139) 37 = .ok (.aload_n 0, 1) := by decide +kernel
theorem D139_38 : decode (mB 139) 38 = .ok (.new 23, 3) := by decide +kernel
theorem D139_41 : decode (mB 139) 41 = .ok (.dup, 1) := by decide +kernel
theorem D139_42 : decode (mB 139) 42 = .ok (.invokespecial 25, 3) := by decide +kernel
theorem D139_45 : decode (mB 139) 45 = .ok (.putfield 30, 3) := by decide +kernel
theorem D139_48 : decode (mB 139) 48 = .ok (.aload_n 0, 1) := by decide +kernel
theorem D139_49 : decode (mB 139) 49 = .ok (.new 33, 3) := by decide +kernel
theorem D139_52 : decode (mB 139) 52 = .ok (.dup, 1) := by decide +kernel
theorem D139_53 : decode (mB 139) 53 = .ok (.invokespecial 35, 3) := by decide +kernel
theorem D139_56 : decode (mB 139) 56 = .ok (.putfield 36, 3) := by decide +kernel
theorem D139_59 : decode (mB 139) 59 = .ok (.aload_n 0, 1) := by decide +kernel
theorem D139_60 : decode (mB 139) 60 = .ok (.new 40, 3) := by decide +kernel
theorem D139_63 : decode (mB 139) 63 = .ok (.dup, 1) := by decide +kernel
theorem D139_64 : decode (mB 139) 64 = .ok (.invokespecial 42, 3) := by decide +kernel
theorem D139_67 : decode (mB 139) 67 = .ok (.putfield 43, 3) := by decide +kernel
theorem D139_70 : decode (mB 139) 70 = .ok (.aload_n 0, 1) := by decide +kernel
theorem D139_71 : decode (mB 139) 71 = .ok (.new 40, 3) := by decide +kernel
theorem D139_74 : decode (mB 139) 74 = .ok (.dup, 1) := by decide +kernel
theorem D139_75 : decode (mB 139) 75 = .ok (.invokespecial 42, 3) := by decide +kernel
theorem D139_78 : decode (mB 139) 78 = .ok (.putfield 47, 3) := by decide +kernel
theorem D139_81 : decode (mB 139) 81 = .ok (.aload_n 0, 1) := by decide +kernel
theorem D139_82 : decode (mB 139) 82 = .ok (.new 50, 3) := by decide +kernel
theorem D139_85 : decode (mB 139) 85 = .ok (.dup, 1) := by decide +kernel
theorem D139_86 : decode (mB 139) 86 = .ok (.invokespecial 52, 3) := by decide +kernel
theorem D139_89 : decode (mB 139) 89 = .ok (.putfield 53, 3) := by decide +kernel
theorem D139_92 : decode (mB 139) 92 = .ok (.return_, 1) := by decide +kernel
theorem D140_0 : decode (mB 140) 0 = .ok (.aload_n 0, 1) := by decide +kernel
theorem D140_1 : decode (mB 140) 1 = .ok (.getfield 10, 3) := by decide +kernel
theorem D140_4 : decode (mB 140) 4 = .ok (.iload_n 1, 1) := by decide +kernel
theorem D140_5 : decode (mB 140) 5 = .ok (.invokevirtual 57, 3) := by decide +kernel
theorem D140_8 : decode (mB 140) 8 = .ok (.ireturn, 1) := by decide +kernel
theorem D141_0 : decode (mB 141) 0 = .ok (.aload_n 0, 1) := by decide +kernel
theorem D141_1 : decode (mB 141) 1 = .ok (.getfield 10, 3) := by decide +kernel
theorem D141_4 : decode (mB 141) 4 = .ok (.iload_n 1, 1) := by decide +kernel
theorem D141_5 : decode (mB 141) 5 = .ok (.invokevirtual 61, 3) := by decide +kernel
theorem D141_8 : decode (mB 141) 8 = .ok (.ireturn, 1) := by decide +kernel
theorem D142_0 : decode (mB 142) 0 = .ok (.aload_n 0, 1) := by decide +kernel
theorem D142_1 : decode (mB 142) 1 = .ok (.invokevirtual 65, 3) := by decide +kernel
theorem D142_4 : decode (mB 142) 4 = .ok (.istore_n 1, 1) := by decide +kernel
theorem D142_5 : decode (mB 142) 5 = .ok (.iconst (-1), 1) := by decide +kernel
theorem D142_6 : decode (mB 142) 6 = .ok (.iload_n 1, 1) := by decide +kernel
theorem D142_7 : decode (mB 142) 7 = .ok (.isub, 1) := by decide +kernel
theorem D142_8 : decode (mB 142) 8 = .ok (.istore_n 2, 1) := by decide +kernel
theorem D142_9 : decode (mB 142) 9 = .ok (.iload_n 1, 1) := by decide +kernel
theorem D142_10 : decode (mB 142) 10 = .ok (.iconst (-1), 1) := by decide +kernel
theorem D142_11 : decode (mB 142) 11 = .ok (.if_icmp .ne 54, 3) := by decide +kernel
theorem D142_14 : decode (mB 142) 14 = .ok (.aload_n 0, 1) := by decide +kernel
theorem D142_15 : decode (mB 142) 15 = .ok (.getfield 26, 3) := by decide +kernel
theorem D142_18 : decode (mB 142) 18 = .ok (.aload_n 0, 1) := by decide +kernel
theorem D142_19 : decode (mB 142) 19 = .ok (.getfield 10, 3) := by decide +kernel
theorem D142_22 : decode (mB 142) 22 = .ok (.iconst 0, 1) := by decide +kernel
theorem D142_23 : decode (mB 142) 23 = .ok (.invokevirtual 69, 3) := by decide +kernel
theorem D142_26 : decode (mB 142) 26 = .ok (.aload_n 0, 1) := by decide +kernel
theorem D142_27 : decode (mB 142) 27 = .ok (.getfield 10, 3) := by decide +kernel
theorem D142_30 : decode (mB 142) 30 = .ok (.iconst 1, 1) := by decide +kernel
theorem D142_31 : decode (mB 142) 31 = .ok (.invokevirtual 69, 3) := by decide +kernel
theorem D142_34 : decode (mB 142) 34 = .ok (.aload_n 0, 1) := by decide +kernel
theorem D142_35 : decode (mB 142) 35 = .ok (.getfield 10, 3) := by decide +kernel
theorem D142_38 : decode (mB 142) 38 = .ok (.iconst 2, 1) := by decide +kernel
theorem D142_39 : decode (mB 142) 39 = .ok (.invokevirtual 72, 3) := by decide +kernel
theorem D142_42 : decode (mB 142) 42 = .ok (.invokestatic 75, 3) := by decide +kernel
theorem D142_45 : decode (mB 142) 45 = .ok (.aload_n 0, 1) := by decide +kernel
theorem D142_46 : decode (mB 142) 46 = .ok (.getfield 10, 3) := by decide +kernel
theorem D142_49 : decode (mB 142) 49 = .ok (.getfield 78, 3) := by decide +kernel
theorem D142_52 : decode (mB 142) 52 = .ok (.iconst 3, 1) := by decide +kernel
theorem D142_53 : decode (mB 142) 53 = .ok (.if_icmp .le 7, 3) := by decide +kernel
theorem D142_56 : decode (mB 142) 56 = .ok (.iconst 1, 1) := by decide +kernel
theorem D142_57 : decode (mB 142) 57 = .ok (.goto 4, 3) := by decide +kernel
theorem D142_60 : decode (mB 142) 60 = .ok (.iconst 0, 1) := by decide +kernel
theorem D142_61 : decode (mB 142) 61 = .ok (.invokevirtual 82, 3) := by decide +kernel
theorem D142_64 : decode (mB 142) 64 = .ok (.istore_n 2, 1) := by decide +kernel
theorem D142_65 : decode (mB 142) 65 = .ok (.aload_n 0, 1) := by decide +kernel
theorem D142_66 : decode (mB 142) 66 = .ok (.getfield 10, 3) := by decide +kernel
theorem D142_69 : decode (mB 142) 69 = .ok (.invokevirtual 86, 3) := by decide +kernel
theorem D142_72 : decode (mB 142) 72 = .ok (.iload_n 2, 1) := by decide +kernel
theorem D142_73 : decode (mB 142) 73 = .ok (.ifCond .lt 10, 3) := by decide +kernel
theorem D142_76 : decode (mB 142) 76 = .ok (.aload_n 0, 1) := by decide +kernel
theorem D142_77 : decode (mB 142) 77 = .ok (.getfield 36, 3) := by decide +kernel
theorem D142_80 : decode (mB 142) 80 = .ok (.invokevirtual 89, 3) := by decide +kernel
theorem D142_83 : decode (mB 142) 83 = .ok (.iload_n 2, 1) := by decide +kernel
theorem D142_84 : decode (mB 142) 84 = .ok (.ireturn, 1) := by decide +kernel
theorem D143_0 : decode (mB 143) 0 = .ok (.iconst 0, 1) := by decide +kernel
theorem D143_1 : decode (mB 143) 1 = .ok (.istore_n 1, 1) := by decide +kernel
theorem D143_2 : decode (mB 143) 2 = .ok (.iload_n 1, 1) := by decide +kernel
theorem D143_3 : decode (mB 143) 3 = .ok (.iconst 2, 1) := by decide +kernel
theorem D143_4 : decode (mB 143) 4 = .ok (.if_icmp .ge 37, 3) := by decide +kernel
theorem D143_7 : decode (mB 143) 7 = .ok (.aload_n 0, 1) := by decide +kernel
theorem D143_8 : decode (mB 143) 8 = .ok (.getfield 10, 3) := by decide +kernel
theorem D143_11 : decode (mB 143) 11 = .ok (.iload_n 1, 1) := by decide +kernel
theorem D143_12 : decode (mB 143) 12 = .ok (.invokevirtual 72, 3) := by decide +kernel
theorem D143_15 : decode (mB 143) 15 = .ok (.bipush 50, 2) := by decide +kernel
theorem D143_17 : decode (mB 143) 17 = .ok (.if_icmp .lt 16, 3) := by decide +kernel
theorem D143_20 : decode (mB 143) 20 = .ok (.aload_n 0, 1) := by decide +kernel
theorem D143_21 : decode (mB 143) 21 = .ok (.getfield 10, 3) := by decide +kernel
theorem D143_24 : decode (mB 143) 24 = .ok (.iload_n 1, 1) := by decide +kernel
theorem D143_25 : decode (mB 143) 25 = .ok (.invokevirtual 72, 3) := by decide +kernel
theorem D143_28 : decode (mB 143) 28 = .ok (.bipush 56, 2) := by decide +kernel
theorem D143_30 : decode (mB 143) 30 = .ok (.if_icmp .le 5, 3) := by decide +kernel
theorem D143_33 : decode (mB 143) 33 = .ok (.iload_n 1, 1) := by decide +kernel
theorem D143_34 : decode (mB 143) 34 = .ok (.ireturn, 1) := by decide +kernel
theorem D143_35 : decode (mB 143) 35 = .ok (.iinc 1 1, 3) := by decide +kernel
theorem D143_38 : decode (mB 143) 38 = .ok (.goto (-36), 3) := by decide +kernel
theorem D143_41 : decode (mB 143) 41 = .ok (.aload_n 0, 1) := by decide +kernel
theorem D143_42 : decode (mB 143) 42 = .ok (.getfield 10, 3) := by decide +kernel
theorem D143_45 : decode (mB 143) 45 = .ok (.iconst 2, 1) := by decide +kernel
theorem D143_46 : decode (mB 143) 46 = .ok (.invokevirtual 72, 3) := by decide +kernel
theorem D143_49 : decode (mB 143) 49 = .ok (.invokestatic 75, 3) := by decide +kernel
theorem D143_52 : decode (mB 143) 52 = .ok (.iconst (-1), 1) := by decide +kernel
theorem D143_53 : decode (mB 143) 53 = .ok (.if_icmp .ne 5, 3) := by decide +kernel
theorem D143_56 : decode (mB 143) 56 = .ok (.iconst 2, 1) := by decide +kernel
theorem D143_57 : decode (mB 143) 57 = .ok (.ireturn, 1) := by decide +kernel
theorem D143_58 : decode (mB 143) 58 = .ok (.aload_n 0, 1) := by decide +kernel
theorem D143_59 : decode (mB 143) 59 = .ok (.getfield 10, 3) := by decide +kernel
theorem D143_62 : decode (mB 143) 62 = .ok (.getfield 78, 3) := by decide +kernel
theorem D143_65 : decode (mB 143) 65 = .ok (.iconst 3, 1) := by decide +kernel
theorem D143_66 : decode (mB 143) 66 = .ok (.if_icmp .le 18, 3) := by decide +kernel
theorem D143_69 : decode (mB 143) 69 = .ok (.aload_n 0, 1) := by decide +kernel
theorem D143_70 : decode (mB 143) 70 = .ok (.getfield 10, 3) := by decide +kernel
theorem D143_73 : decode (mB 143) 73 = .ok (.iconst 3, 1) := by decide +kernel
theorem D143_74 : decode (mB 143) 74 = .ok (.invokevirtual 72, 3) := by decide +kernel
theorem D143_77 : decode (mB 143) 77 = .ok (.bipush 115, 2) := by decide +kernel
theorem D143_79 : decode (mB 143) 79 = .ok (.if_icmp .eq 5, 3) := by decide +kernel
theorem D143_82 : decode (mB 143) 82 = .ok (.iconst 3, 1) := by decide +kernel
theorem D143_83 : decode (mB 143) 83 = .ok (.ireturn, 1) := by decide +kernel
theorem D143_84 : decode (mB 143) 84 = .ok (.aload_n 0, 1) := by decide +kernel
theorem D143_85 : decode (mB 143) 85 = .ok (.getfield 10, 3) := by decide +kernel
theorem D143_88 : decode (mB 143) 88 = .ok (.getfield 78, 3) := by decide +kernel
theorem D143_91 : decode (mB 143) 91 = .ok (.iconst 4, 1) := by decide +kernel
theorem D143_92 : decode (mB 143) 92 = .ok (.if_icmp .le 7, 3) := by decide +kernel
theorem D143_95 : decode (mB 143) 95 = .ok (.iconst 4, 1) := by decide +kernel
theorem D143_96 : decode (mB 143) 96 = .ok (.goto 4, 3) := by decide +kernel
theorem D143_99 : decode (mB 143) 99 = .ok (.iconst (-1), 1) := by decide +kernel
theorem D143_100 : decode (mB 143) 100 = .ok (.ireturn, 1) := by decide +kernel
theorem D144_0 : decode (mB 144) 0 = .ok (.iload_n 0, 1) := by decide +kernel
theorem D144_1 : decode (mB 144) 1 = .ok (.lookupswitch 51 #[(104, 45), (108, 49), (109, 47), (117, 43)], 43) := by decide +kernel
theorem D144_44 : decode (mB 144) 44 = .ok (.iconst 0, 1) := by decide +kernel
theorem D144_45 : decode (mB 144) 45 = .ok (.ireturn, 1) := by decide +kernel
theorem D144_46 : decode (mB 144) 46 = .ok (.iconst 1, 1) := by decide +kernel
theorem D144_47 : decode (mB 144) 47 = .ok (.ireturn, 1) := by decide +kernel
theorem D144_48 : decode (mB 144) 48 = .ok (.iconst 2, 1) := by decide +kernel
theorem D144_49 : decode (mB 144) 49 = .ok (.ireturn, 1) := by decide +kernel
theorem D144_50 : decode (mB 144) 50 = .ok (.iconst 3, 1) := by decide +kernel
theorem D144_51 : decode (mB 144) 51 = .ok (.ireturn, 1) := by decide +kernel
theorem D144_52 : decode (mB 144) 52 = .ok (.iconst (-1), 1) := by decide +kernel
theorem D144_53 : decode (mB 144) 53 = .ok (.ireturn, 1) := by decide +kernel
theorem D145_0 : decode (mB 145) 0 = .ok (.aload_n 0, 1) := by decide +kernel
theorem D145_1 : decode (mB 145) 1 = .ok (.getfield 47, 3) := by decide +kernel
theorem D145_4 : decode (mB 145) 4 = .ok (.aload_n 0, 1) := by decide +kernel
theorem D145_5 : decode (mB 145) 5 = .ok (.getfield 10, 3) := by decide +kernel
theorem D145_8 : decode (mB 145) 8 = .ok (.invokevirtual 92, 3) := by decide +kernel
theorem D145_11 : decode (mB 145) 11 = .ok (.istore_n 1, 1) := by decide +kernel
theorem D145_12 : decode (mB 145) 12 = .ok (.aload_n 0, 1) := by decide +kernel
theorem D145_13 : decode (mB 145) 13 = .ok (.getfield 10, 3) := by decide +kernel
theorem D145_16 : decode (mB 145) 16 = .ok (.invokevirtual 86, 3) := by decide +kernel
theorem D145_19 : decode (mB 145) 19 = .ok (.iload_n 1, 1) := by decide +kernel
theorem D145_20 : decode (mB 145) 20 = .ok (.ifCond .ne 14, 3) := by decide +kernel
theorem D145_23 : decode (mB 145) 23 = .ok (.aload_n 0, 1) := by decide +kernel
theorem D145_24 : decode (mB 145) 24 = .ok (.getfield 43, 3) := by decide +kernel
theorem D145_27 : decode (mB 145) 27 = .ok (.aload_n 0, 1) := by decide +kernel
theorem D145_28 : decode (mB 145) 28 = .ok (.getfield 47, 3) := by decide +kernel
theorem D145_31 : decode (mB 145) 31 = .ok (.invokevirtual 96, 3) := by decide +kernel
theorem D145_34 : decode (mB 145) 34 = .ok (.iload_n 1, 1) := by decide +kernel
theorem D145_35 : decode (mB 145) 35 = .ok (.ireturn, 1) := by decide +kernel
theorem D146_0 : decode (mB 146) 0 = .ok (.aload_n 0, 1) := by decide +kernel
theorem D146_1 : decode (mB 146) 1 = .ok (.getfield 26, 3) := by decide +kernel
theorem D146_4 : decode (mB 146) 4 = .ok (.iload_n 1, 1) := by decide +kernel
theorem D146_5 : decode (mB 146) 5 = .ok (.iload_n 2, 1) := by decide +kernel
theorem D146_6 : decode (mB 146) 6 = .ok (.iload_n 3, 1) := by decide +kernel
theorem D146_7 : decode (mB 146) 7 = .ok (.iload 4, 2) := by decide +kernel
theorem D146_9 : decode (mB 146) 9 = .ok (.invokevirtual 116, 3) := by decide +kernel
theorem D146_12 : decode (mB 146) 12 = .ok (.ireturn, 1) := by decide +kernel
theorem D147_0 : decode (mB 147) 0 = .ok (.aload_n 0, 1) := by decide +kernel
theorem D147_1 : decode (mB 147) 1 = .ok (.getfield 36, 3) := by decide +kernel
theorem D147_4 : decode (mB 147) 4 = .ok (.aload_n 0, 1) := by decide +kernel
theorem D147_5 : decode (mB 147) 5 = .ok (.getfield 26, 3) := by decide +kernel
theorem D147_8 : decode (mB 147) 8 = .ok (.invokevirtual 120, 3) := by decide +kernel
theorem D147_11 : decode (mB 147) 11 = .ok (.aload_n 0, 1) := by decide +kernel
theorem D147_12 : decode (mB 147) 12 = .ok (.getfield 36, 3) := by decide +kernel
theorem D147_15 : decode (mB 147) 15 = .ok (.aload_n 0, 1) := by decide +kernel
theorem D147_16 : decode (mB 147) 16 = .ok (.getfield 26, 3) := by decide +kernel
theorem D147_19 : decode (mB 147) 19 = .ok (.iload_n 1, 1) := by decide +kernel
theorem D147_20 : decode (mB 147) 20 = .ok (.iload_n 2, 1) := by decide +kernel
theorem D147_21 : decode (mB 147) 21 = .ok (.iload_n 3, 1) := by decide +kernel
theorem D147_22 : decode (mB 147) 22 = .ok (.iload 4, 2) := by decide +kernel
theorem D147_24 : decode (mB 147) 24 = .ok (.invokevirtual 124, 3) := by decide +kernel
theorem D147_27 : decode (mB 147) 27 = .ok (.invokevirtual 127, 3) := by decide +kernel
theorem D147_30 : decode (mB 147) 30 = .ok (.ireturn, 1) := by decide +kernel
theorem D148_0 : decode (mB 148) 0 = .ok (.aload_n 0, 1) := by decide +kernel
theorem D148_1 : decode (mB 148) 1 = .ok (.getfield 36, 3) := by decide +kernel
theorem D148_4 : decode (mB 148) 4 = .ok (.aload_n 0, 1) := by decide +kernel
theorem D148_5 : decode (mB 148) 5 = .ok (.getfield 26, 3) := by decide +kernel
theorem D148_8 : decode (mB 148) 8 = .ok (.invokevirtual 120, 3) := by decide +kernel
theorem D148_11 : decode (mB 148) 11 = .ok (.aload_n 0, 1) := by decide +kernel
theorem D148_12 : decode (mB 148) 12 = .ok (.getfield 36, 3) := by decide +kernel
theorem D148_15 : decode (mB 148) 15 = .ok (.aload_n 0, 1) := by decide +kernel
theorem D148_16 : decode (mB 148) 16 = .ok (.getfield 26, 3) := by decide +kernel
theorem D148_19 : decode (mB 148) 19 = .ok (.iload_n 1, 1) := by decide +kernel
theorem D148_20 : decode (mB 148) 20 = .ok (.invokevirtual 130, 3) := by decide +kernel
theorem D148_23 : decode (mB 148) 23 = .ok (.invokevirtual 127, 3) := by decide +kernel
theorem D148_26 : decode (mB 148) 26 = .ok (.ireturn, 1) := by decide +kernel
theorem D149_0 : decode (mB 149) 0 = .ok (.aload_n 0, 1) := by decide +kernel
theorem D149_1 : decode (mB 149) 1 = .ok (.getfield 36, 3) := by decide +kernel
theorem D149_4 : decode (mB 149) 4 = .ok (.aload_n 0, 1) := by decide +kernel
theorem D149_5 : decode (mB 149) 5 = .ok (.getfield 26, 3) := by decide +kernel
theorem D149_8 : decode (mB 149) 8 = .ok (.invokevirtual 120, 3) := by decide +kernel
theorem D149_11 : decode (mB 149) 11 = .ok (.aload_n 0, 1) := by decide +kernel
theorem D149_12 : decode (mB 149) 12 = .ok (.getfield 36, 3) := by decide +kernel
theorem D149_15 : decode (mB 149) 15 = .ok (.aload_n 0, 1) := by decide +kernel
theorem D149_16 : decode (mB 149) 16 = .ok (.getfield 26, 3) := by decide +kernel
theorem D149_19 : decode (mB 149) 19 = .ok (.iload_n 1, 1) := by decide +kernel
theorem D149_20 : decode (mB 149) 20 = .ok (.aload_n 0, 1) := by decide +kernel
theorem D149_21 : decode (mB 149) 21 = .ok (.getfield 43, 3) := by decide +kernel
theorem D149_24 : decode (mB 149) 24 = .ok (.aload_n 0, 1) := by decide +kernel
theorem D149_25 : decode (mB 149) 25 = .ok (.getfield 19, 3) := by decide +kernel
theorem D149_28 : decode (mB 149) 28 = .ok (.invokevirtual 133, 3) := by decide +kernel
theorem D149_31 : decode (mB 149) 31 = .ok (.invokevirtual 127, 3) := by decide +kernel
theorem D149_34 : decode (mB 149) 34 = .ok (.ireturn, 1) := by decide +kernel
theorem D150_0 : decode (mB 150) 0 = .ok (.aload_n 0, 1) := by decide +kernel
theorem D150_1 : decode (mB 150) 1 = .ok (.getfield 36, 3) := by decide +kernel
theorem D150_4 : decode (mB 150) 4 = .ok (.aload_n 0, 1) := by decide +kernel
theorem D150_5 : decode (mB 150) 5 = .ok (.getfield 26, 3) := by decide +kernel
theorem D150_8 : decode (mB 150) 8 = .ok (.invokevirtual 120, 3) := by decide +kernel
theorem D150_11 : decode (mB 150) 11 = .ok (.aload_n 0, 1) := by decide +kernel
theorem D150_12 : decode (mB 150) 12 = .ok (.getfield 36, 3) := by decide +kernel
theorem D150_15 : decode (mB 150) 15 = .ok (.aload_n 0, 1) := by decide +kernel
theorem D150_16 : decode (mB 150) 16 = .ok (.getfield 26, 3) := by decide +kernel
theorem D150_19 : decode (mB 150) 19 = .ok (.iload_n 1, 1) := by decide +kernel
theorem D150_20 : decode (mB 150) 20 = .ok (.aload_n 0, 1) := by decide +kernel
theorem D150_21 : decode (mB 150) 21 = .ok (.getfield 19, 3) := by decide +kernel
theorem D150_24 : decode (mB 150) 24 = .ok (.invokevirtual 137, 3) := by decide +kernel
theorem D150_27 : decode (mB 150) 27 = .ok (.invokevirtual 127, 3) := by decide +kernel
theorem D150_30 : decode (mB 150) 30 = .ok (.ireturn, 1) := by decide +kernel
theorem D151_0 : decode (mB 151) 0 = .ok (.aload_n 0, 1) := by decide +kernel
theorem D151_1 : decode (mB 151) 1 = .ok (.getfield 36, 3) := by decide +kernel
theorem D151_4 : decode (mB 151) 4 = .ok (.aload_n 0, 1) := by decide +kernel
theorem D151_5 : decode (mB 151) 5 = .ok (.getfield 26, 3) := by decide +kernel
theorem D151_8 : decode (mB 151) 8 = .ok (.invokevirtual 120, 3) := by decide +kernel
theorem D151_11 : decode (mB 151) 11 = .ok (.aload_n 0, 1) := by decide +kernel
theorem D151_12 : decode (mB 151) 12 = .ok (.getfield 36, 3) := by decide +kernel
theorem D151_15 : decode (mB 151) 15 = .ok (.aload_n 0, 1) := by decide +kernel
theorem D151_16 : decode (mB 151) 16 = .ok (.getfield 26, 3) := by decide +kernel
theorem D151_19 : decode (mB 151) 19 = .ok (.iload_n 1, 1) := by decide +kernel
theorem D151_20 : decode (mB 151) 20 = .ok (.iload_n 2, 1) := by decide +kernel
theorem D151_21 : decode (mB 151) 21 = .ok (.invokevirtual 141, 3) := by decide +kernel
theorem D151_24 : decode (mB 151) 24 = .ok (.invokevirtual 127, 3) := by decide +kernel
theorem D151_27 : decode (mB 151) 27 = .ok (.ireturn, 1) := by decide +kernel
theorem D152_0 : decode (mB 152) 0 = .ok (.aload_n 0, 1) := by decide +kernel
theorem D152_1 : decode (mB 152) 1 = .ok (.getfield 36, 3) := by decide +kernel
theorem D152_4 : decode (mB 152) 4 = .ok (.aload_n 0, 1) := by decide +kernel
theorem D152_5 : decode (mB 152) 5 = .ok (.getfield 26, 3) := by decide +kernel
theorem D152_8 : decode (mB 152) 8 = .ok (.invokevirtual 120, 3) := by decide +kernel
theorem D152_11 : decode (mB 152) 11 = .ok (.aload_n 0, 1) := by decide +kernel
theorem D152_12 : decode (mB 152) 12 = .ok (.getfield 36, 3) := by decide +kernel
theorem D152_15 : decode (mB 152) 15 = .ok (.aload_n 0, 1) := by decide +kernel
theorem D152_16 : decode (mB 152) 16 = .ok (.getfield 26, 3) := by decide +kernel
theorem D152_19 : decode (mB 152) 19 = .ok (.aload_n 0, 1) := by decide +kernel
theorem D152_20 : decode (mB 152) 20 = .ok (.getfield 19, 3) := by decide +kernel
theorem D152_23 : decode (mB 152) 23 = .ok (.invokevirtual 145, 3) := by decide +kernel
theorem D152_26 : decode (mB 152) 26 = .ok (.invokevirtual 127, 3) := by decide +kernel
theorem D152_29 : decode (mB 152) 29 = .ok (.ireturn, 1) := by decide +kernel
theorem D153_0 : decode (mB 153) 0 = .ok (.aload_n 0, 1) := by decide +kernel
theorem D153_1 : decode (mB 153) 1 = .ok (.getfield 36, 3) := by decide +kernel
theorem D153_4 : decode (mB 153) 4 = .ok (.aload_n 0, 1) := by decide +kernel
theorem D153_5 : decode (mB 153) 5 = .ok (.getfield 26, 3) := by decide +kernel
theorem D153_8 : decode (mB 153) 8 = .ok (.invokevirtual 120, 3) := by decide +kernel
theorem D153_11 : decode (mB 153) 11 = .ok (.aload_n 0, 1) := by decide +kernel
theorem D153_12 : decode (mB 153) 12 = .ok (.getfield 36, 3) := by decide +kernel
theorem D153_15 : decode (mB 153) 15 = .ok (.aload_n 0, 1) := by decide +kernel
theorem D153_16 : decode (mB 153) 16 = .ok (.getfield 26, 3) := by decide +kernel
theorem D153_19 : decode (mB 153) 19 = .ok (.iload_n 1, 1) := by decide +kernel
theorem D153_20 : decode (mB 153) 20 = .ok (.iload_n 2, 1) := by decide +kernel
theorem D153_21 : decode (mB 153) 21 = .ok (.invokevirtual 149, 3) := by decide +kernel
theorem D153_24 : decode (mB 153) 24 = .ok (.invokevirtual 127, 3) := by decide +kernel
theorem D153_27 : decode (mB 153) 27 = .ok (.ireturn, 1) := by decide +kernel
theorem D154_0 : decode (mB 154) 0 = .ok (.aload_n 0, 1) := by decide +kernel
theorem D154_1 : decode (mB 154) 1 = .ok (.getfield 36, 3) := by decide +kernel
theorem D154_4 : decode (mB 154) 4 = .ok (.aload_n 0, 1) := by decide +kernel
theorem D154_5 : decode (mB 154) 5 = .ok (.getfield 26, 3) := by decide +kernel
theorem D154_8 : decode (mB 154) 8 = .ok (.invokevirtual 120, 3) := by decide +kernel
theorem D154_11 : decode (mB 154) 11 = .ok (.aload_n 0, 1) := by decide +kernel
theorem D154_12 : decode (mB 154) 12 = .ok (.getfield 36, 3) := by decide +kernel
theorem D154_15 : decode (mB 154) 15 = .ok (.aload_n 0, 1) := by decide +kernel
theorem D154_16 : decode (mB 154) 16 = .ok (.getfield 26, 3) := by decide +kernel
theorem D154_19 : decode (mB 154) 19 = .ok (.iload_n 1, 1) := by decide +kernel
theorem D154_20 : decode (mB 154) 20 = .ok (.invokevirtual 152, 3) := by decide +kernel
theorem D154_23 : decode (mB 154) 23 = .ok (.invokevirtual 127, 3) := by decide +kernel
theorem D154_26 : decode (mB 154) 26 = .ok (.ireturn, 1) := by decide +kernel
theorem D155_0 : decode (mB 155) 0 = .ok (.aload_n 0, 1) := by decide +kernel
theorem D155_1 : decode (mB 155) 1 = .ok (.invokevirtual 155, 3) := by decide +kernel
theorem D155_4 : decode (mB 155) 4 = .ok (.istore_n 1, 1) := by decide +kernel
theorem D155_5 : decode (mB 155) 5 = .ok (.iload_n 1, 1) := by decide +kernel
theorem D155_6 : decode (mB 155) 6 = .ok (.ifCond .lt 14, 3) := by decide +kernel
theorem D155_9 : decode (mB 155) 9 = .ok (.aload_n 0, 1) := by decide +kernel
theorem D155_10 : decode (mB 155) 10 = .ok (.getfield 10, 3) := by decide +kernel
theorem D155_13 : decode (mB 155) 13 = .ok (.invokevirtual 86, 3) := by decide +kernel
theorem D155_16 : decode (mB 155) 16 = .ok (.iconst (-1), 1) := by decide +kernel
theorem D155_17 : decode (mB 155) 17 = .ok (.iload_n 1, 1) := by decide +kernel
theorem D155_18 : decode (mB 155) 18 = .ok (.isub, 1) := by decide +kernel
theorem D155_19 : decode (mB 155) 19 = .ok (.ireturn, 1) := by decide +kernel
theorem D155_20 : decode (mB 155) 20 = .ok (.aload_n 0, 1) := by decide +kernel
theorem D155_21 : decode (mB 155) 21 = .ok (.getfield 36, 3) := by decide +kernel
theorem D155_24 : decode (mB 155) 24 = .ok (.aload_n 0, 1) := by decide +kernel
theorem D155_25 : decode (mB 155) 25 = .ok (.getfield 26, 3) := by decide +kernel
theorem D155_28 : decode (mB 155) 28 = .ok (.invokevirtual 120, 3) := by decide +kernel
theorem D155_31 : decode (mB 155) 31 = .ok (.iconst 0, 1) := by decide +kernel
theorem D155_32 : decode (mB 155) 32 = .ok (.istore_n 2, 1) := by decide +kernel
theorem D155_33 : decode (mB 155) 33 = .ok (.iconst 0, 1) := by decide +kernel
theorem D155_34 : decode (mB 155) 34 = .ok (.istore_n 3, 1) := by decide +kernel
theorem D155_35 : decode (mB 155) 35 = .ok (.iconst 0, 1) := by decide +kernel
theorem D155_36 : decode (mB 155) 36 = .ok (.istore 4, 2) := by decide +kernel
theorem D155_38 : decode (mB 155) 38 = .ok (.iconst 0, 1) := by decide +kernel
theorem D155_39 : decode (mB 155) 39 = .ok (.istore 5, 2) := by decide +kernel
theorem D155_41 : decode (mB 155) 41 = .ok (.iload 5, 2) := by decide +kernel
theorem D155_43 : decode (mB 155) 43 = .ok (.bipush 80, 2) := by decide +kernel
theorem D155_45 : decode (mB 155) 45 = .ok (.if_icmp .ge 63, 3) := by decide +kernel
theorem D155_48 : decode (mB 155) 48 = .ok (.iload 4, 2) := by decide +kernel
theorem D155_50 : decode (mB 155) 50 = .ok (.aload_n 0, 1) := by decide +kernel
theorem D155_51 : decode (mB 155) 51 = .ok (.getfield 10, 3) := by decide +kernel
theorem D155_54 : decode (mB 155) 54 = .ok (.getfield 78, 3) := by decide +kernel
theorem D155_57 : decode (mB 155) 57 = .ok (.if_icmp .ge 51, 3) := by decide +kernel
theorem D155_60 : decode (mB 155) 60 = .ok (.iload_n 3, 1) := by decide +kernel
theorem D155_61 : decode (mB 155) 61 = .ok (.ifCond .ne 47, 3) := by decide +kernel
theorem D155_64 : decode (mB 155) 64 = .ok (.aload_n 0, 1) := by decide +kernel
theorem D155_65 : decode (mB 155) 65 = .ok (.iload 4, 2) := by decide +kernel
theorem D155_67 : decode (mB 155) 67 = .ok (.invokevirtual 158, 3) := by decide +kernel
theorem D155_70 : decode (mB 155) 70 = .ok (.ifCond .ge 7, 3) := by decide +kernel
theorem D155_73 : decode (mB 155) 73 = .ok (.iconst 1, 1) := by decide +kernel
theorem D155_74 : decode (mB 155) 74 = .ok (.goto 4, 3) := by decide +kernel
theorem D155_77 : decode (mB 155) 77 = .ok (.iconst 0, 1) := by decide +kernel
theorem D155_78 : decode (mB 155) 78 = .ok (.istore_n 3, 1) := by decide +kernel
theorem D155_79 : decode (mB 155) 79 = .ok (.iload_n 2, 1) := by decide +kernel
theorem D155_80 : decode (mB 155) 80 = .ok (.iload_n 3, 1) := by decide +kernel
theorem D155_81 : decode (mB 155) 81 = .ok (.ifCond .eq 7, 3) := by decide +kernel
theorem D155_84 : decode (mB 155) 84 = .ok (.iconst 0, 1) := by decide +kernel
theorem D155_85 : decode (mB 155) 85 = .ok (.goto 4, 3) := by decide +kernel
theorem D155_88 : decode (mB 155) 88 = .ok (.iconst 1, 1) := by decide +kernel
theorem D155_89 : decode (mB 155) 89 = .ok (.iadd, 1) := by decide +kernel
theorem D155_90 : decode (mB 155) 90 = .ok (.istore_n 2, 1) := by decide +kernel
theorem D155_91 : decode (mB 155) 91 = .ok (.iload 4, 2) := by decide +kernel
theorem D155_93 : decode (mB 155) 93 = .ok (.aload_n 0, 1) := by decide +kernel
theorem D155_94 : decode (mB 155) 94 = .ok (.iload 4, 2) := by decide +kernel
theorem D155_96 : decode (mB 155) 96 = .ok (.invokevirtual 161, 3) := by decide +kernel
theorem D155_99 : decode (mB 155) 99 = .ok (.iadd, 1) := by decide +kernel
theorem D155_100 : decode (mB 155) 100 = .ok (.istore 4, 2) := by decide +kernel
theorem D155_102 : decode (mB 155) 102 = .ok (.iinc 5 1, 3) := by decide +kernel
theorem D155_105 : decode (mB 155) 105 = .ok (.goto (-64), 3) := by decide +kernel
theorem D155_108 : decode (mB 155) 108 = .ok (.aload_n 0, 1) := by decide +kernel
theorem D155_109 : decode (mB 155) 109 = .ok (.getfield 36, 3) := by decide +kernel
theorem D155_112 : decode (mB 155) 112 = .ok (.iload_n 2, 1) := by decide +kernel
theorem D155_113 : decode (mB 155) 113 = .ok (.ifCond .le 7, 3) := by decide +kernel
theorem D155_116 : decode (mB 155) 116 = .ok (.iload_n 2, 1) := by decide +kernel
theorem D155_117 : decode (mB 155) 117 = .ok (.goto 4, 3) := by decide +kernel
theorem D155_120 : decode (mB 155) 120 = .ok (.iconst (-1), 1) := by decide +kernel
theorem D155_121 : decode (mB 155) 121 = .ok (.invokevirtual 127, 3) := by decide +kernel
theorem D155_124 : decode (mB 155) 124 = .ok (.pop, 1) := by decide +kernel
theorem D155_125 : decode (mB 155) 125 = .ok (.aload_n 0, 1) := by decide +kernel
theorem D155_126 : decode (mB 155) 126 = .ok (.getfield 19, 3) := by decide +kernel
theorem D155_129 : decode (mB 155) 129 = .ok (.iload_n 3, 1) := by decide +kernel
theorem D155_130 : decode (mB 155) 130 = .ok (.ifCond .eq 7, 3) := by decide +kernel
theorem D155_133 : decode (mB 155) 133 = .ok (.lconst 1, 1) := by decide +kernel
theorem D155_134 : decode (mB 155) 134 = .ok (.goto 4, 3) := by decide +kernel
theorem D155_137 : decode (mB 155) 137 = .ok (.lconst 0, 1) := by decide +kernel
theorem D155_138 : decode (mB 155) 138 = .ok (.aload_n 0, 1) := by decide +kernel
theorem D155_139 : decode (mB 155) 139 = .ok (.getfield 26, 3) := by decide +kernel
theorem D155_142 : decode (mB 155) 142 = .ok (.getfield 164, 3) := by decide +kernel
theorem D155_145 : decode (mB 155) 145 = .ok (.i2l, 1) := by decide +kernel
theorem D155_146 : decode (mB 155) 146 = .ok (.invokevirtual 167, 3) := by decide +kernel
theorem D155_149 : decode (mB 155) 149 = .ok (.aload_n 0, 1) := by decide +kernel
theorem D155_150 : decode (mB 155) 150 = .ok (.getfield 10, 3) := by decide +kernel
theorem D155_153 : decode (mB 155) 153 = .ok (.invokevirtual 86, 3) := by decide +kernel
theorem D155_156 : decode (mB 155) 156 = .ok (.iload_n 2, 1) := by decide +kernel
theorem D155_157 : decode (mB 155) 157 = .ok (.ireturn, 1) := by decide +kernel
theorem D156_0 : decode (mB 156) 0 = .ok (.iconst 0, 1) := by decide +kernel
theorem D156_1 : decode (mB 156) 1 = .ok (.istore_n 1, 1) := by decide +kernel
theorem D156_2 : decode (mB 156) 2 = .ok (.iload_n 1, 1) := by decide +kernel
theorem D156_3 : decode (mB 156) 3 = .ok (.aload_n 0, 1) := by decide +kernel
theorem D156_4 : decode (mB 156) 4 = .ok (.getfield 10, 3) := by decide +kernel
theorem D156_7 : decode (mB 156) 7 = .ok (.getfield 78, 3) := by decide +kernel
theorem D156_10 : decode (mB 156) 10 = .ok (.if_icmp .ge 77, 3) := by decide +kernel
theorem D156_13 : decode (mB 156) 13 = .ok (.aload_n 0, 1) := by decide +kernel
theorem D156_14 : decode (mB 156) 14 = .ok (.getfield 10, 3) := by decide +kernel
theorem D156_17 : decode (mB 156) 17 = .ok (.iload_n 1, 1) := by decide +kernel
theorem D156_18 : decode (mB 156) 18 = .ok (.invokevirtual 72, 3) := by decide +kernel
theorem D156_21 : decode (mB 156) 21 = .ok (.invokestatic 353, 3) := by decide +kernel
theorem D156_24 : decode (mB 156) 24 = .ok (.astore_n 2, 1) := by decide +kernel
theorem D156_25 : decode (mB 156) 25 = .ok (.aload_n 2, 1) := by decide +kernel
theorem D156_26 : decode (mB 156) 26 = .ok (.ifnonnull 5, 3) := by decide +kernel
theorem D156_29 : decode (mB 156) 29 = .ok (.iload_n 1, 1) := by decide +kernel
theorem D156_30 : decode (mB 156) 30 = .ok (.ireturn, 1) := by decide +kernel
theorem D156_31 : decode (mB 156) 31 = .ok (.iinc 1 1, 3) := by decide +kernel
theorem D156_34 : decode (mB 156) 34 = .ok (.iconst 0, 1) := by decide +kernel
theorem D156_35 : decode (mB 156) 35 = .ok (.istore_n 3, 1) := by decide +kernel
theorem D156_36 : decode (mB 156) 36 = .ok (.iload_n 3, 1) := by decide +kernel
theorem D156_37 : decode (mB 156) 37 = .ok (.aload_n 2, 1) := by decide +kernel
theorem D156_38 : decode (mB 156) 38 = .ok (.invokevirtual 357, 3) := by decide +kernel
theorem D156_41 : decode (mB 156) 41 = .ok (.if_icmp .ge 43, 3) := by decide +kernel
theorem D156_44 : decode (mB 156) 44 = .ok (.aload_n 0, 1) := by decide +kernel
theorem D156_45 : decode (mB 156) 45 = .ok (.getfield 10, 3) := by decide +kernel
theorem D156_48 : decode (mB 156) 48 = .ok (.iload_n 1, 1) := by decide +kernel
theorem D156_49 : decode (mB 156) 49 = .ok (.invokevirtual 72, 3) := by decide +kernel
theorem D156_52 : decode (mB 156) 52 = .ok (.bipush 48, 2) := by decide +kernel
theorem D156_54 : decode (mB 156) 54 = .ok (.if_icmp .lt 19, 3) := by decide +kernel
theorem D156_57 : decode (mB 156) 57 = .ok (.aload_n 0, 1) := by decide +kernel
theorem D156_58 : decode (mB 156) 58 = .ok (.getfield 10, 3) := by decide +kernel
theorem D156_61 : decode (mB 156) 61 = .ok (.iload_n 1, 1) := by decide +kernel
theorem D156_62 : decode (mB 156) 62 = .ok (.invokevirtual 72, 3) := by decide +kernel
theorem D156_65 : decode (mB 156) 65 = .ok (.aload_n 2, 1) := by decide +kernel
theorem D156_66 : decode (mB 156) 66 = .ok (.iload_n 3, 1) := by decide +kernel
theorem D156_67 : decode (mB 156) 67 = .ok (.invokevirtual 362, 3) := by decide +kernel
theorem D156_70 : decode (mB 156) 70 = .ok (.if_icmp .le 5, 3) := by decide +kernel
theorem D156_73 : decode (mB 156) 73 = .ok (.iload_n 1, 1) := by decide +kernel
theorem D156_74 : decode (mB 156) 74 = .ok (.ireturn, 1) := by decide +kernel
theorem D156_75 : decode (mB 156) 75 = .ok (.iinc 3 1, 3) := by decide +kernel
theorem D156_78 : decode (mB 156) 78 = .ok (.iinc 1 1, 3) := by decide +kernel
theorem D156_81 : decode (mB 156) 81 = .ok (.goto (-45), 3) := by decide +kernel
theorem D156_84 : decode (mB 156) 84 = .ok (.goto (-82), 3) := by decide +kernel
theorem D156_87 : decode (mB 156) 87 = .ok (.iconst (-1), 1) := by decide +kernel
theorem D156_88 : decode (mB 156) 88 = .ok (.ireturn, 1) := by decide +kernel
theorem D157_0 : decode (mB 157) 0 = .ok (.iload_n 0, 1) := by decide +kernel
theorem D157_1 : decode (mB 157) 1 = .ok (.lookupswitch 83 #[(99, 75), (107, 71), (112, 59), (114, 63), (116, 67), (120, 79)], 59) := by decide +kernel
theorem D157_60 : decode (mB 157) 60 = .ok (.ldc_w 366, 3) := by decide +kernel
theorem D157_63 : decode (mB 157) 63 = .ok (.areturn, 1) := by decide +kernel
theorem D157_64 : decode (mB 157) 64 = .ok (.ldc_w 368, 3) := by decide +kernel
theorem D157_67 : decode (mB 157) 67 = .ok (.areturn, 1) := by decide +kernel
theorem D157_68 : decode (mB 157) 68 = .ok (.ldc_w 368, 3) := by decide +kernel
theorem D157_71 : decode (mB 157) 71 = .ok (.areturn, 1) := by decide +kernel
theorem D157_72 : decode (mB 157) 72 = .ok (.ldc_w 368, 3) := by decide +kernel
theorem D157_75 : decode (mB 157) 75 = .ok (.areturn, 1) := by decide +kernel
theorem D157_76 : decode (mB 157) 76 = .ok (.ldc_w 370, 3) := by decide +kernel
theorem D157_79 : decode (mB 157) 79 = .ok (.areturn, 1) := by decide +kernel
theorem D157_80 : decode (mB 157) 80 = .ok (.ldc_w 372, 3) := by decide +kernel
theorem D157_83 : decode (mB 157) 83 = .ok (.areturn, 1) := by decide +kernel
theorem D157_84 : decode (mB 157) 84 = .ok (.aconst_null, 1) := by decide +kernel
theorem D157_85 : decode (mB 157) 85 = .ok (.areturn, 1) := by decide +kernel
theorem D158_0 : decode (mB 158) 0 = .ok (.aload_n 0, 1) := by decide +kernel
theorem D158_1 : decode (mB 158) 1 = .ok (.getfield 10, 3) := by decide +kernel
theorem D158_4 : decode (mB 158) 4 = .ok (.iload_n 1, 1) := by decide +kernel
theorem D158_5 : decode (mB 158) 5 = .ok (.iconst 1, 1) := by decide +kernel
theorem D158_6 : decode (mB 158) 6 = .ok (.iadd, 1) := by decide +kernel
theorem D158_7 : decode (mB 158) 7 = .ok (.invokevirtual 69, 3) := by decide +kernel
theorem D158_10 : decode (mB 158) 10 = .ok (.istore_n 2, 1) := by decide +kernel
theorem D158_11 : decode (mB 158) 11 = .ok (.aload_n 0, 1) := by decide +kernel
theorem D158_12 : decode (mB 158) 12 = .ok (.getfield 10, 3) := by decide +kernel
theorem D158_15 : decode (mB 158) 15 = .ok (.iload_n 1, 1) := by decide +kernel
theorem D158_16 : decode (mB 158) 16 = .ok (.invokevirtual 72, 3) := by decide +kernel
theorem D158_19 : decode (mB 158) 19 = .ok (.lookupswitch 166 #[(99, 135), (107, 122), (112, 57), (114, 96), (116, 105), (120, 154)], 57) := by decide +kernel
theorem D158_76 : decode (mB 158) 76 = .ok (.aload_n 0, 1) := by decide +kernel
theorem D158_77 : decode (mB 158) 77 = .ok (.getfield 26, 3) := by decide +kernel
theorem D158_80 : decode (mB 158) 80 = .ok (.iload_n 2, 1) := by decide +kernel
theorem D158_81 : decode (mB 158) 81 = .ok (.aload_n 0, 1) := by decide +kernel
theorem D158_82 : decode (mB 158) 82 = .ok (.getfield 10, 3) := by decide +kernel
theorem D158_85 : decode (mB 158) 85 = .ok (.iload_n 1, 1) := by decide +kernel
theorem D158_86 : decode (mB 158) 86 = .ok (.iconst 2, 1) := by decide +kernel
theorem D158_87 : decode (mB 158) 87 = .ok (.iadd, 1) := by decide +kernel
theorem D158_88 : decode (mB 158) 88 = .ok (.invokevirtual 69, 3) := by decide +kernel
theorem D158_91 : decode (mB 158) 91 = .ok (.aload_n 0, 1) := by decide +kernel
theorem D158_92 : decode (mB 158) 92 = .ok (.getfield 10, 3) := by decide +kernel
theorem D158_95 : decode (mB 158) 95 = .ok (.iload_n 1, 1) := by decide +kernel
theorem D158_96 : decode (mB 158) 96 = .ok (.iconst 3, 1) := by decide +kernel
theorem D158_97 : decode (mB 158) 97 = .ok (.iadd, 1) := by decide +kernel
theorem D158_98 : decode (mB 158) 98 = .ok (.invokevirtual 69, 3) := by decide +kernel
theorem D158_101 : decode (mB 158) 101 = .ok (.aload_n 0, 1) := by decide +kernel
theorem D158_102 : decode (mB 158) 102 = .ok (.getfield 10, 3) := by decide +kernel
theorem D158_105 : decode (mB 158) 105 = .ok (.iload_n 1, 1) := by decide +kernel
theorem D158_106 : decode (mB 158) 106 = .ok (.iconst 4, 1) := by decide +kernel
theorem D158_107 : decode (mB 158) 107 = .ok (.iadd, 1) := by decide +kernel
theorem D158_108 : decode (mB 158) 108 = .ok (.invokevirtual 374, 3) := by decide +kernel
theorem D158_111 : decode (mB 158) 111 = .ok (.invokevirtual 124, 3) := by decide +kernel
theorem D158_114 : decode (mB 158) 114 = .ok (.ireturn, 1) := by decide +kernel
theorem D158_115 : decode (mB 158) 115 = .ok (.aload_n 0, 1) := by decide +kernel
theorem D158_116 : decode (mB 158) 116 = .ok (.getfield 26, 3) := by decide +kernel
theorem D158_119 : decode (mB 158) 119 = .ok (.iload_n 2, 1) := by decide +kernel
theorem D158_120 : decode (mB 158) 120 = .ok (.invokevirtual 130, 3) := by decide +kernel
theorem D158_123 : decode (mB 158) 123 = .ok (.ireturn, 1) := by decide +kernel
theorem D158_124 : decode (mB 158) 124 = .ok (.aload_n 0, 1) := by decide +kernel
theorem D158_125 : decode (mB 158) 125 = .ok (.getfield 26, 3) := by decide +kernel
theorem D158_128 : decode (mB 158) 128 = .ok (.iload_n 2, 1) := by decide +kernel
theorem D158_129 : decode (mB 158) 129 = .ok (.aload_n 0, 1) := by decide +kernel
theorem D158_130 : decode (mB 158) 130 = .ok (.getfield 43, 3) := by decide +kernel
theorem D158_133 : decode (mB 158) 133 = .ok (.aload_n 0, 1) := by decide +kernel
theorem D158_134 : decode (mB 158) 134 = .ok (.getfield 19, 3) := by decide +kernel
theorem D158_137 : decode (mB 158) 137 = .ok (.invokevirtual 133, 3) := by decide +kernel
theorem D158_140 : decode (mB 158) 140 = .ok (.ireturn, 1) := by decide +kernel
theorem D158_141 : decode (mB 158) 141 = .ok (.aload_n 0, 1) := by decide +kernel
theorem D158_142 : decode (mB 158) 142 = .ok (.getfield 26, 3) := by decide +kernel
theorem D158_145 : decode (mB 158) 145 = .ok (.iload_n 2, 1) := by decide +kernel
theorem D158_146 : decode (mB 158) 146 = .ok (.aload_n 0, 1) := by decide +kernel
theorem D158_147 : decode (mB 158) 147 = .ok (.getfield 19, 3) := by decide +kernel
theorem D158_150 : decode (mB 158) 150 = .ok (.invokevirtual 137, 3) := by decide +kernel
theorem D158_153 : decode (mB 158) 153 = .ok (.ireturn, 1) := by decide +kernel
theorem D158_154 : decode (mB 158) 154 = .ok (.aload_n 0, 1) := by decide +kernel
theorem D158_155 : decode (mB 158) 155 = .ok (.getfield 26, 3) := by decide +kernel
theorem D158_158 : decode (mB 158) 158 = .ok (.iload_n 2, 1) := by decide +kernel
theorem D158_159 : decode (mB 158) 159 = .ok (.aload_n 0, 1) := by decide +kernel
theorem D158_160 : decode (mB 158) 160 = .ok (.getfield 10, 3) := by decide +kernel
theorem D158_163 : decode (mB 158) 163 = .ok (.iload_n 1, 1) := by decide +kernel
theorem D158_164 : decode (mB 158) 164 = .ok (.iconst 2, 1) := by decide +kernel
theorem D158_165 : decode (mB 158) 165 = .ok (.iadd, 1) := by decide +kernel
theorem D158_166 : decode (mB 158) 166 = .ok (.invokevirtual 374, 3) := by decide +kernel
theorem D158_169 : decode (mB 158) 169 = .ok (.invokevirtual 141, 3) := by decide +kernel
theorem D158_172 : decode (mB 158) 172 = .ok (.ireturn, 1) := by decide +kernel
theorem D158_173 : decode (mB 158) 173 = .ok (.aload_n 0, 1) := by decide +kernel
theorem D158_174 : decode (mB 158) 174 = .ok (.getfield 26, 3) := by decide +kernel
theorem D158_177 : decode (mB 158) 177 = .ok (.aload_n 0, 1) := by decide +kernel
theorem D158_178 : decode (mB 158) 178 = .ok (.getfield 19, 3) := by decide +kernel
theorem D158_181 : decode (mB 158) 181 = .ok (.invokevirtual 145, 3) := by decide +kernel
theorem D158_184 : decode (mB 158) 184 = .ok (.ireturn, 1) := by decide +kernel
theorem D158_185 : decode (mB 158) 185 = .ok (.iconst (-1), 1) := by decide +kernel
theorem D158_186 : decode (mB 158) 186 = .ok (.ireturn, 1) := by decide +kernel
theorem D159_0 : decode (mB 159) 0 = .ok (.aload_n 0, 1) := by decide +kernel
theorem D159_1 : decode (mB 159) 1 = .ok (.getfield 10, 3) := by decide +kernel
theorem D159_4 : decode (mB 159) 4 = .ok (.iload_n 1, 1) := by decide +kernel
theorem D159_5 : decode (mB 159) 5 = .ok (.invokevirtual 72, 3) := by decide +kernel
theorem D159_8 : decode (mB 159) 8 = .ok (.invokestatic 353, 3) := by decide +kernel
theorem D159_11 : decode (mB 159) 11 = .ok (.astore_n 2, 1) := by decide +kernel
theorem D159_12 : decode (mB 159) 12 = .ok (.aload_n 2, 1) := by decide +kernel
theorem D159_13 : decode (mB 159) 13 = .ok (.ifnonnull 7, 3) := by decide +kernel
theorem D159_16 : decode (mB 159) 16 = .ok (.iconst 1, 1) := by decide +kernel
theorem D159_17 : decode (mB 159) 17 = .ok (.goto 9, 3) := by decide +kernel
theorem D159_20 : decode (mB 159) 20 = .ok (.iconst 1, 1) := by decide +kernel
theorem D159_21 : decode (mB 159) 21 = .ok (.aload_n 2, 1) := by decide +kernel
theorem D159_22 : decode (mB 159) 22 = .ok (.invokevirtual 357, 3) := by decide +kernel
theorem D159_25 : decode (mB 159) 25 = .ok (.iadd, 1) := by decide +kernel
theorem D159_26 : decode (mB 159) 26 = .ok (.ireturn, 1) := by decide +kernel
theorem D160_0 : decode (mB 160) 0 = .ok (.aload_n 0, 1) := by decide +kernel
theorem D160_1 : decode (mB 160) 1 = .ok (.getfield 36, 3) := by decide +kernel
theorem D160_4 : decode (mB 160) 4 = .ok (.aload_n 0, 1) := by decide +kernel
theorem D160_5 : decode (mB 160) 5 = .ok (.getfield 26, 3) := by decide +kernel
theorem D160_8 : decode (mB 160) 8 = .ok (.invokevirtual 171, 3) := by decide +kernel
theorem D160_11 : decode (mB 160) 11 = .ok (.ireturn, 1) := by decide +kernel
theorem D161_0 : decode (mB 161) 0 = .ok (.aload_n 0, 1) := by decide +kernel
theorem D161_1 : decode (mB 161) 1 = .ok (.getfield 26, 3) := by decide +kernel
theorem D161_4 : decode (mB 161) 4 = .ok (.iload_n 1, 1) := by decide +kernel
theorem D161_5 : decode (mB 161) 5 = .ok (.invokevirtual 100, 3) := by decide +kernel
theorem D161_8 : decode (mB 161) 8 = .ok (.astore_n 2, 1) := by decide +kernel
theorem D161_9 : decode (mB 161) 9 = .ok (.aload_n 2, 1) := by decide +kernel
theorem D161_10 : decode (mB 161) 10 = .ok (.ifnonnull 5, 3) := by decide +kernel
theorem D161_13 : decode (mB 161) 13 = .ok (.iconst (-1), 1) := by decide +kernel
theorem D161_14 : decode (mB 161) 14 = .ok (.ireturn, 1) := by decide +kernel
theorem D161_15 : decode (mB 161) 15 = .ok (.aload_n 0, 1) := by decide +kernel
theorem D161_16 : decode (mB 161) 16 = .ok (.getfield 19, 3) := by decide +kernel
theorem D161_19 : decode (mB 161) 19 = .ok (.invokevirtual 175, 3) := by decide +kernel
theorem D161_22 : decode (mB 161) 22 = .ok (.aload_n 2, 1) := by decide +kernel
theorem D161_23 : decode (mB 161) 23 = .ok (.invokevirtual 176, 3) := by decide +kernel
theorem D161_26 : decode (mB 161) 26 = .ok (.istore_n 3, 1) := by decide +kernel
theorem D161_27 : decode (mB 161) 27 = .ok (.iconst 0, 1) := by decide +kernel
theorem D161_28 : decode (mB 161) 28 = .ok (.istore 4, 2) := by decide +kernel
theorem D161_30 : decode (mB 161) 30 = .ok (.iload 4, 2) := by decide +kernel
theorem D161_32 : decode (mB 161) 32 = .ok (.iload_n 3, 1) := by decide +kernel
theorem D161_33 : decode (mB 161) 33 = .ok (.if_icmp .ge 39, 3) := by decide +kernel
theorem D161_36 : decode (mB 161) 36 = .ok (.aload_n 2, 1) := by decide +kernel
theorem D161_37 : decode (mB 161) 37 = .ok (.iload 4, 2) := by decide +kernel
theorem D161_39 : decode (mB 161) 39 = .ok (.invokevirtual 179, 3) := by decide +kernel
theorem D161_42 : decode (mB 161) 42 = .ok (.istore 5, 2) := by decide +kernel
theorem D161_44 : decode (mB 161) 44 = .ok (.aload_n 0, 1) := by decide +kernel
theorem D161_45 : decode (mB 161) 45 = .ok (.getfield 19, 3) := by decide +kernel
theorem D161_48 : decode (mB 161) 48 = .ok (.bipush 10, 2) := by decide +kernel
theorem D161_50 : decode (mB 161) 50 = .ok (.iload 5, 2) := by decide +kernel
theorem D161_52 : decode (mB 161) 52 = .ok (.invokestatic 182, 3) := by decide +kernel
theorem D161_55 : decode (mB 161) 55 = .ok (.imul, 1) := by decide +kernel
theorem D161_56 : decode (mB 161) 56 = .ok (.iload 5, 2) := by decide +kernel
theorem D161_58 : decode (mB 161) 58 = .ok (.invokestatic 187, 3) := by decide +kernel
theorem D161_61 : decode (mB 161) 61 = .ok (.iadd, 1) := by decide +kernel
theorem D161_62 : decode (mB 161) 62 = .ok (.i2l, 1) := by decide +kernel
theorem D161_63 : decode (mB 161) 63 = .ok (.invokevirtual 190, 3) := by decide +kernel
theorem D161_66 : decode (mB 161) 66 = .ok (.iinc 4 1, 3) := by decide +kernel
theorem D161_69 : decode (mB 161) 69 = .ok (.goto (-39), 3) := by decide +kernel
theorem D161_72 : decode (mB 161) 72 = .ok (.iload_n 3, 1) := by decide +kernel
theorem D161_73 : decode (mB 161) 73 = .ok (.ireturn, 1) := by decide +kernel
theorem D162_0 : decode (mB 162) 0 = .ok (.aload_n 0, 1) := by decide +kernel
theorem D162_1 : decode (mB 162) 1 = .ok (.getfield 26, 3) := by decide +kernel
theorem D162_4 : decode (mB 162) 4 = .ok (.aload_n 0, 1) := by decide +kernel
theorem D162_5 : decode (mB 162) 5 = .ok (.getfield 19, 3) := by decide +kernel
theorem D162_8 : decode (mB 162) 8 = .ok (.invokevirtual 193, 3) := by decide +kernel
theorem D162_11 : decode (mB 162) 11 = .ok (.ireturn, 1) := by decide +kernel
theorem D163_0 : decode (mB 163) 0 = .ok (.aload_n 0, 1) := by decide +kernel
theorem D163_1 : decode (mB 163) 1 = .ok (.getfield 26, 3) := by decide +kernel
theorem D163_4 : decode (mB 163) 4 = .ok (.aload_n 0, 1) := by decide +kernel
theorem D163_5 : decode (mB 163) 5 = .ok (.getfield 19, 3) := by decide +kernel
theorem D163_8 : decode (mB 163) 8 = .ok (.invokevirtual 196, 3) := by decide +kernel
theorem D163_11 : decode (mB 163) 11 = .ok (.ireturn, 1) := by decide +kernel
theorem D164_0 : decode (mB 164) 0 = .ok (.aload_n 0, 1) := by decide +kernel
theorem D164_1 : decode (mB 164) 1 = .ok (.getfield 26, 3) := by decide +kernel
theorem D164_4 : decode (mB 164) 4 = .ok (.iload_n 1, 1) := by decide +kernel
theorem D164_5 : decode (mB 164) 5 = .ok (.invokevirtual 100, 3) := by decide +kernel
theorem D164_8 : decode (mB 164) 8 = .ok (.astore_n 2, 1) := by decide +kernel
theorem D164_9 : decode (mB 164) 9 = .ok (.aload_n 2, 1) := by decide +kernel
theorem D164_10 : decode (mB 164) 10 = .ok (.ifnull 11, 3) := by decide +kernel
theorem D164_13 : decode (mB 164) 13 = .ok (.aload_n 2, 1) := by decide +kernel
theorem D164_14 : decode (mB 164) 14 = .ok (.getfield 199, 3) := by decide +kernel
theorem D164_17 : decode (mB 164) 17 = .ok (.iconst 1, 1) := by decide +kernel
theorem D164_18 : decode (mB 164) 18 = .ok (.if_icmp .ge 5, 3) := by decide +kernel
theorem D164_21 : decode (mB 164) 21 = .ok (.iconst (-1), 1) := by decide +kernel
theorem D164_22 : decode (mB 164) 22 = .ok (.ireturn, 1) := by decide +kernel
theorem D164_23 : decode (mB 164) 23 = .ok (.aload_n 0, 1) := by decide +kernel
theorem D164_24 : decode (mB 164) 24 = .ok (.getfield 19, 3) := by decide +kernel
theorem D164_27 : decode (mB 164) 27 = .ok (.aload_n 2, 1) := by decide +kernel
theorem D164_28 : decode (mB 164) 28 = .ok (.getfield 202, 3) := by decide +kernel
theorem D164_31 : decode (mB 164) 31 = .ok (.aload_n 2, 1) := by decide +kernel
theorem D164_32 : decode (mB 164) 32 = .ok (.getfield 199, 3) := by decide +kernel
theorem D164_35 : decode (mB 164) 35 = .ok (.irem, 1) := by decide +kernel
theorem D164_36 : decode (mB 164) 36 = .ok (.i2l, 1) := by decide +kernel
theorem D164_37 : decode (mB 164) 37 = .ok (.aload_n 2, 1) := by decide +kernel
theorem D164_38 : decode (mB 164) 38 = .ok (.aload_n 2, 1) := by decide +kernel
theorem D164_39 : decode (mB 164) 39 = .ok (.getfield 202, 3) := by decide +kernel
theorem D164_42 : decode (mB 164) 42 = .ok (.invokevirtual 205, 3) := by decide +kernel
theorem D164_45 : decode (mB 164) 45 = .ok (.i2l, 1) := by decide +kernel
theorem D164_46 : decode (mB 164) 46 = .ok (.invokevirtual 167, 3) := by decide +kernel
theorem D164_49 : decode (mB 164) 49 = .ok (.aload_n 2, 1) := by decide +kernel
theorem D164_50 : decode (mB 164) 50 = .ok (.invokevirtual 208, 3) := by decide +kernel
theorem D164_53 : decode (mB 164) 53 = .ok (.ireturn, 1) := by decide +kernel
theorem D165_0 : decode (mB 165) 0 = .ok (.aload_n 0, 1) := by decide +kernel
theorem D165_1 : decode (mB 165) 1 = .ok (.getfield 26, 3) := by decide +kernel
theorem D165_4 : decode (mB 165) 4 = .ok (.iload_n 1, 1) := by decide +kernel
theorem D165_5 : decode (mB 165) 5 = .ok (.invokevirtual 100, 3) := by decide +kernel
theorem D165_8 : decode (mB 165) 8 = .ok (.astore_n 2, 1) := by decide +kernel
theorem D165_9 : decode (mB 165) 9 = .ok (.aload_n 2, 1) := by decide +kernel
theorem D165_10 : decode (mB 165) 10 = .ok (.ifnonnull 5, 3) := by decide +kernel
theorem D165_13 : decode (mB 165) 13 = .ok (.iconst (-1), 1) := by decide +kernel
theorem D165_14 : decode (mB 165) 14 = .ok (.ireturn, 1) := by decide +kernel
theorem D165_15 : decode (mB 165) 15 = .ok (.aload_n 0, 1) := by decide +kernel
theorem D165_16 : decode (mB 165) 16 = .ok (.getfield 19, 3) := by decide +kernel
theorem D165_19 : decode (mB 165) 19 = .ok (.aload_n 2, 1) := by decide +kernel
theorem D165_20 : decode (mB 165) 20 = .ok (.invokevirtual 211, 3) := by decide +kernel
theorem D165_23 : decode (mB 165) 23 = .ok (.i2l, 1) := by decide +kernel
theorem D165_24 : decode (mB 165) 24 = .ok (.aload_n 2, 1) := by decide +kernel
theorem D165_25 : decode (mB 165) 25 = .ok (.invokevirtual 214, 3) := by decide +kernel
theorem D165_28 : decode (mB 165) 28 = .ok (.i2l, 1) := by decide +kernel
theorem D165_29 : decode (mB 165) 29 = .ok (.invokevirtual 167, 3) := by decide +kernel
theorem D165_32 : decode (mB 165) 32 = .ok (.aload_n 2, 1) := by decide +kernel
theorem D165_33 : decode (mB 165) 33 = .ok (.invokevirtual 211, 3) := by decide +kernel
theorem D165_36 : decode (mB 165) 36 = .ok (.aload_n 2, 1) := by decide +kernel
theorem D165_37 : decode (mB 165) 37 = .ok (.invokevirtual 214, 3) := by decide +kernel
theorem D165_40 : decode (mB 165) 40 = .ok (.invokestatic 217, 3) := by decide +kernel
theorem D165_43 : decode (mB 165) 43 = .ok (.ireturn, 1) := by decide +kernel
theorem D166_0 : decode (mB 166) 0 = .ok (.iload_n 1, 1) := by decide +kernel
theorem D166_1 : decode (mB 166) 1 = .ok (.ifCond .lt 9, 3) := by decide +kernel
theorem D166_4 : decode (mB 166) 4 = .ok (.iload_n 1, 1) := by decide +kernel
theorem D166_5 : decode (mB 166) 5 = .ok (.bipush 10, 2) := by decide +kernel
theorem D166_7 : decode (mB 166) 7 = .ok (.if_icmp .lt 5, 3) := by decide +kernel
theorem D166_10 : decode (mB 166) 10 = .ok (.iconst (-1), 1) := by decide +kernel
theorem D166_11 : decode (mB 166) 11 = .ok (.ireturn, 1) := by decide +kernel
theorem D166_12 : decode (mB 166) 12 = .ok (.aload_n 0, 1) := by decide +kernel
theorem D166_13 : decode (mB 166) 13 = .ok (.getfield 19, 3) := by decide +kernel
theorem D166_16 : decode (mB 166) 16 = .ok (.aload_n 0, 1) := by decide +kernel
theorem D166_17 : decode (mB 166) 17 = .ok (.getfield 26, 3) := by decide +kernel
theorem D166_20 : decode (mB 166) 20 = .ok (.iload_n 1, 1) := by decide +kernel
theorem D166_21 : decode (mB 166) 21 = .ok (.invokevirtual 222, 3) := by decide +kernel
theorem D166_24 : decode (mB 166) 24 = .ok (.i2l, 1) := by decide +kernel
theorem D166_25 : decode (mB 166) 25 = .ok (.aload_n 0, 1) := by decide +kernel
theorem D166_26 : decode (mB 166) 26 = .ok (.getfield 26, 3) := by decide +kernel
theorem D166_29 : decode (mB 166) 29 = .ok (.iload_n 1, 1) := by decide +kernel
theorem D166_30 : decode (mB 166) 30 = .ok (.invokevirtual 225, 3) := by decide +kernel
theorem D166_33 : decode (mB 166) 33 = .ok (.i2l, 1) := by decide +kernel
theorem D166_34 : decode (mB 166) 34 = .ok (.invokevirtual 167, 3) := by decide +kernel
theorem D166_37 : decode (mB 166) 37 = .ok (.aload_n 0, 1) := by decide +kernel
theorem D166_38 : decode (mB 166) 38 = .ok (.getfield 26, 3) := by decide +kernel
theorem D166_41 : decode (mB 166) 41 = .ok (.iload_n 1, 1) := by decide +kernel
theorem D166_42 : decode (mB 166) 42 = .ok (.invokevirtual 228, 3) := by decide +kernel
theorem D166_45 : decode (mB 166) 45 = .ok (.ireturn, 1) := by decide +kernel
theorem D167_0 : decode (mB 167) 0 = .ok (.aload_n 0, 1) := by decide +kernel
theorem D167_1 : decode (mB 167) 1 = .ok (.getfield 30, 3) := by decide +kernel
theorem D167_4 : decode (mB 167) 4 = .ok (.aload_n 0, 1) := by decide +kernel
theorem D167_5 : decode (mB 167) 5 = .ok (.getfield 26, 3) := by decide +kernel
theorem D167_8 : decode (mB 167) 8 = .ok (.invokevirtual 231, 3) := by decide +kernel
theorem D167_11 : decode (mB 167) 11 = .ok (.aload_n 0, 1) := by decide +kernel
theorem D167_12 : decode (mB 167) 12 = .ok (.getfield 30, 3) := by decide +kernel
theorem D167_15 : decode (mB 167) 15 = .ok (.invokevirtual 233, 3) := by decide +kernel
theorem D167_18 : decode (mB 167) 18 = .ok (.istore_n 1, 1) := by decide +kernel
theorem D167_19 : decode (mB 167) 19 = .ok (.aload_n 0, 1) := by decide +kernel
theorem D167_20 : decode (mB 167) 20 = .ok (.getfield 30, 3) := by decide +kernel
theorem D167_23 : decode (mB 167) 23 = .ok (.iload_n 1, 1) := by decide +kernel
theorem D167_24 : decode (mB 167) 24 = .ok (.invokevirtual 100, 3) := by decide +kernel
theorem D167_27 : decode (mB 167) 27 = .ok (.astore_n 2, 1) := by decide +kernel
theorem D167_28 : decode (mB 167) 28 = .ok (.aload_n 2, 1) := by decide +kernel
theorem D167_29 : decode (mB 167) 29 = .ok (.ifnonnull 6, 3) := by decide +kernel
theorem D167_32 : decode (mB 167) 32 = .ok (.bipush (-2), 2) := by decide +kernel
theorem D167_34 : decode (mB 167) 34 = .ok (.ireturn, 1) := by decide +kernel
theorem D167_35 : decode (mB 167) 35 = .ok (.aload_n 0, 1) := by decide +kernel
theorem D167_36 : decode (mB 167) 36 = .ok (.getfield 19, 3) := by decide +kernel
theorem D167_39 : decode (mB 167) 39 = .ok (.aload_n 2, 1) := by decide +kernel
theorem D167_40 : decode (mB 167) 40 = .ok (.getfield 236, 3) := by decide +kernel
theorem D167_43 : decode (mB 167) 43 = .ok (.i2l, 1) := by decide +kernel
theorem D167_44 : decode (mB 167) 44 = .ok (.aload_n 0, 1) := by decide +kernel
theorem D167_45 : decode (mB 167) 45 = .ok (.getfield 30, 3) := by decide +kernel
theorem D167_48 : decode (mB 167) 48 = .ok (.aload_n 2, 1) := by decide +kernel
theorem D167_49 : decode (mB 167) 49 = .ok (.getfield 236, 3) := by decide +kernel
theorem D167_52 : decode (mB 167) 52 = .ok (.invokevirtual 239, 3) := by decide +kernel
theorem D167_55 : decode (mB 167) 55 = .ok (.i2l, 1) := by decide +kernel
theorem D167_56 : decode (mB 167) 56 = .ok (.invokevirtual 167, 3) := by decide +kernel
theorem D167_59 : decode (mB 167) 59 = .ok (.iload_n 1, 1) := by decide +kernel
theorem D167_60 : decode (mB 167) 60 = .ok (.ireturn, 1) := by decide +kernel
theorem D168_0 : decode (mB 168) 0 = .ok (.iload_n 1, 1) := by decide +kernel
theorem D168_1 : decode (mB 168) 1 = .ok (.iconst 1, 1) := by decide +kernel
theorem D168_2 : decode (mB 168) 2 = .ok (.if_icmp .lt 9, 3) := by decide +kernel
theorem D168_5 : decode (mB 168) 5 = .ok (.iload_n 1, 1) := by decide +kernel
theorem D168_6 : decode (mB 168) 6 = .ok (.bipush 60, 2) := by decide +kernel
theorem D168_8 : decode (mB 168) 8 = .ok (.if_icmp .le 5, 3) := by decide +kernel
theorem D168_11 : decode (mB 168) 11 = .ok (.iconst (-1), 1) := by decide +kernel
theorem D168_12 : decode (mB 168) 12 = .ok (.ireturn, 1) := by decide +kernel
theorem D168_13 : decode (mB 168) 13 = .ok (.aload_n 0, 1) := by decide +kernel
theorem D168_14 : decode (mB 168) 14 = .ok (.getfield 26, 3) := by decide +kernel
theorem D168_17 : decode (mB 168) 17 = .ok (.invokevirtual 242, 3) := by decide +kernel
theorem D168_20 : decode (mB 168) 20 = .ok (.ifCond .ne 6, 3) := by decide +kernel
theorem D168_23 : decode (mB 168) 23 = .ok (.bipush (-2), 2) := by decide +kernel
theorem D168_25 : decode (mB 168) 25 = .ok (.ireturn, 1) := by decide +kernel
theorem D168_26 : decode (mB 168) 26 = .ok (.aload_n 0, 1) := by decide +kernel
theorem D168_27 : decode (mB 168) 27 = .ok (.getfield 30, 3) := by decide +kernel
theorem D168_30 : decode (mB 168) 30 = .ok (.aload_n 0, 1) := by decide +kernel
theorem D168_31 : decode (mB 168) 31 = .ok (.getfield 26, 3) := by decide +kernel
theorem D168_34 : decode (mB 168) 34 = .ok (.invokevirtual 231, 3) := by decide +kernel
theorem D168_37 : decode (mB 168) 37 = .ok (.aload_n 0, 1) := by decide +kernel
theorem D168_38 : decode (mB 168) 38 = .ok (.getfield 30, 3) := by decide +kernel
theorem D168_41 : decode (mB 168) 41 = .ok (.iload_n 1, 1) := by decide +kernel
theorem D168_42 : decode (mB 168) 42 = .ok (.aload_n 0, 1) := by decide +kernel
theorem D168_43 : decode (mB 168) 43 = .ok (.getfield 19, 3) := by decide +kernel
theorem D168_46 : decode (mB 168) 46 = .ok (.invokevirtual 246, 3) := by decide +kernel
theorem D168_49 : decode (mB 168) 49 = .ok (.ireturn, 1) := by decide +kernel
theorem D169_0 : decode (mB 169) 0 = .ok (.aload_n 0, 1) := by decide +kernel
theorem D169_1 : decode (mB 169) 1 = .ok (.getfield 26, 3) := by decide +kernel
theorem D169_4 : decode (mB 169) 4 = .ok (.iload_n 1, 1) := by decide +kernel
theorem D169_5 : decode (mB 169) 5 = .ok (.invokevirtual 100, 3) := by decide +kernel
theorem D169_8 : decode (mB 169) 8 = .ok (.astore_n 3, 1) := by decide +kernel
theorem D169_9 : decode (mB 169) 9 = .ok (.aload_n 3, 1) := by decide +kernel
theorem D169_10 : decode (mB 169) 10 = .ok (.ifnull 13, 3) := by decide +kernel
theorem D169_13 : decode (mB 169) 13 = .ok (.iload_n 2, 1) := by decide +kernel
theorem D169_14 : decode (mB 169) 14 = .ok (.ifCond .lt 9, 3) := by decide +kernel
theorem D169_17 : decode (mB 169) 17 = .ok (.iload_n 2, 1) := by decide +kernel
theorem D169_18 : decode (mB 169) 18 = .ok (.bipush 16, 2) := by decide +kernel
theorem D169_20 : decode (mB 169) 20 = .ok (.if_icmp .lt 5, 3) := by decide +kernel
theorem D169_23 : decode (mB 169) 23 = .ok (.iconst (-1), 1) := by decide +kernel
theorem D169_24 : decode (mB 169) 24 = .ok (.ireturn, 1) := by decide +kernel
theorem D169_25 : decode (mB 169) 25 = .ok (.aload_n 3, 1) := by decide +kernel
theorem D169_26 : decode (mB 169) 26 = .ok (.iload_n 2, 1) := by decide +kernel
theorem D169_27 : decode (mB 169) 27 = .ok (.invokevirtual 249, 3) := by decide +kernel
theorem D169_30 : decode (mB 169) 30 = .ok (.ifCond .eq 12, 3) := by decide +kernel
theorem D169_33 : decode (mB 169) 33 = .ok (.aload_n 3, 1) := by decide +kernel
theorem D169_34 : decode (mB 169) 34 = .ok (.iload_n 2, 1) := by decide +kernel
theorem D169_35 : decode (mB 169) 35 = .ok (.invokevirtual 252, 3) := by decide +kernel
theorem D169_38 : decode (mB 169) 38 = .ok (.iconst (-1), 1) := by decide +kernel
theorem D169_39 : decode (mB 169) 39 = .ok (.if_icmp .eq 6, 3) := by decide +kernel
theorem D169_42 : decode (mB 169) 42 = .ok (.bipush (-3), 2) := by decide +kernel
theorem D169_44 : decode (mB 169) 44 = .ok (.ireturn, 1) := by decide +kernel
theorem D169_45 : decode (mB 169) 45 = .ok (.aload_n 0, 1) := by decide +kernel
theorem D169_46 : decode (mB 169) 46 = .ok (.getfield 30, 3) := by decide +kernel
theorem D169_49 : decode (mB 169) 49 = .ok (.aload_n 0, 1) := by decide +kernel
theorem D169_50 : decode (mB 169) 50 = .ok (.getfield 26, 3) := by decide +kernel
theorem D169_53 : decode (mB 169) 53 = .ok (.invokevirtual 231, 3) := by decide +kernel
theorem D169_56 : decode (mB 169) 56 = .ok (.aload_n 0, 1) := by decide +kernel
theorem D169_57 : decode (mB 169) 57 = .ok (.getfield 30, 3) := by decide +kernel
theorem D169_60 : decode (mB 169) 60 = .ok (.iload_n 1, 1) := by decide +kernel
theorem D169_61 : decode (mB 169) 61 = .ok (.iload_n 2, 1) := by decide +kernel
theorem D169_62 : decode (mB 169) 62 = .ok (.aload_n 0, 1) := by decide +kernel
theorem D169_63 : decode (mB 169) 63 = .ok (.getfield 43, 3) := by decide +kernel
theorem D169_66 : decode (mB 169) 66 = .ok (.aload_n 0, 1) := by decide +kernel
theorem D169_67 : decode (mB 169) 67 = .ok (.getfield 19, 3) := by decide +kernel
theorem D169_70 : decode (mB 169) 70 = .ok (.invokevirtual 255, 3) := by decide +kernel
theorem D169_73 : decode (mB 169) 73 = .ok (.ireturn, 1) := by decide +kernel
theorem D170_0 : decode (mB 170) 0 = .ok (.aload_n 0, 1) := by decide +kernel
theorem D170_1 : decode (mB 170) 1 = .ok (.getfield 30, 3) := by decide +kernel
theorem D170_4 : decode (mB 170) 4 = .ok (.aload_n 0, 1) := by decide +kernel
theorem D170_5 : decode (mB 170) 5 = .ok (.getfield 26, 3) := by decide +kernel
theorem D170_8 : decode (mB 170) 8 = .ok (.invokevirtual 231, 3) := by decide +kernel
theorem D170_11 : decode (mB 170) 11 = .ok (.aload_n 0, 1) := by decide +kernel
theorem D170_12 : decode (mB 170) 12 = .ok (.getfield 30, 3) := by decide +kernel
theorem D170_15 : decode (mB 170) 15 = .ok (.aload_n 0, 1) := by decide +kernel
theorem D170_16 : decode (mB 170) 16 = .ok (.getfield 43, 3) := by decide +kernel
theorem D170_19 : decode (mB 170) 19 = .ok (.invokevirtual 259, 3) := by decide +kernel
theorem D170_22 : decode (mB 170) 22 = .ok (.istore_n 1, 1) := by decide +kernel
theorem D170_23 : decode (mB 170) 23 = .ok (.iload_n 1, 1) := by decide +kernel
theorem D170_24 : decode (mB 170) 24 = .ok (.ifCond .lt 38, 3) := by decide +kernel
theorem D170_27 : decode (mB 170) 27 = .ok (.aload_n 0, 1) := by decide +kernel
theorem D170_28 : decode (mB 170) 28 = .ok (.getfield 19, 3) := by decide +kernel
theorem D170_31 : decode (mB 170) 31 = .ok (.aload_n 0, 1) := by decide +kernel
theorem D170_32 : decode (mB 170) 32 = .ok (.getfield 30, 3) := by decide +kernel
theorem D170_35 : decode (mB 170) 35 = .ok (.bipush 10, 2) := by decide +kernel
theorem D170_37 : decode (mB 170) 37 = .ok (.invokevirtual 263, 3) := by decide +kernel
theorem D170_40 : decode (mB 170) 40 = .ok (.aload_n 0, 1) := by decide +kernel
theorem D170_41 : decode (mB 170) 41 = .ok (.getfield 26, 3) := by decide +kernel
theorem D170_44 : decode (mB 170) 44 = .ok (.bipush 10, 2) := by decide +kernel
theorem D170_46 : decode (mB 170) 46 = .ok (.invokevirtual 263, 3) := by decide +kernel
theorem D170_49 : decode (mB 170) 49 = .ok (.isub, 1) := by decide +kernel
theorem D170_50 : decode (mB 170) 50 = .ok (.i2l, 1) := by decide +kernel
theorem D170_51 : decode (mB 170) 51 = .ok (.aload_n 0, 1) := by decide +kernel
theorem D170_52 : decode (mB 170) 52 = .ok (.getfield 30, 3) := by decide +kernel
theorem D170_55 : decode (mB 170) 55 = .ok (.invokevirtual 266, 3) := by decide +kernel
theorem D170_58 : decode (mB 170) 58 = .ok (.i2l, 1) := by decide +kernel
theorem D170_59 : decode (mB 170) 59 = .ok (.invokevirtual 167, 3) := by decide +kernel
theorem D170_62 : decode (mB 170) 62 = .ok (.iload_n 1, 1) := by decide +kernel
theorem D170_63 : decode (mB 170) 63 = .ok (.ireturn, 1) := by decide +kernel
theorem D171_0 : decode (mB 171) 0 = .ok (.iload_n 1, 1) := by decide +kernel
theorem D171_1 : decode (mB 171) 1 = .ok (.ifCond .lt 9, 3) := by decide +kernel
theorem D171_4 : decode (mB 171) 4 = .ok (.iload_n 1, 1) := by decide +kernel
theorem D171_5 : decode (mB 171) 5 = .ok (.bipush 10, 2) := by decide +kernel
theorem D171_7 : decode (mB 171) 7 = .ok (.if_icmp .lt 5, 3) := by decide +kernel
theorem D171_10 : decode (mB 171) 10 = .ok (.iconst (-1), 1) := by decide +kernel
theorem D171_11 : decode (mB 171) 11 = .ok (.ireturn, 1) := by decide +kernel
theorem D171_12 : decode (mB 171) 12 = .ok (.aload_n 0, 1) := by decide +kernel
theorem D171_13 : decode (mB 171) 13 = .ok (.getfield 30, 3) := by decide +kernel
theorem D171_16 : decode (mB 171) 16 = .ok (.aload_n 0, 1) := by decide +kernel
theorem D171_17 : decode (mB 171) 17 = .ok (.getfield 26, 3) := by decide +kernel
theorem D171_20 : decode (mB 171) 20 = .ok (.invokevirtual 231, 3) := by decide +kernel
theorem D171_23 : decode (mB 171) 23 = .ok (.aload_n 0, 1) := by decide +kernel
theorem D171_24 : decode (mB 171) 24 = .ok (.getfield 30, 3) := by decide +kernel
theorem D171_27 : decode (mB 171) 27 = .ok (.invokevirtual 269, 3) := by decide +kernel
theorem D171_30 : decode (mB 171) 30 = .ok (.aload_n 0, 1) := by decide +kernel
theorem D171_31 : decode (mB 171) 31 = .ok (.getfield 19, 3) := by decide +kernel
theorem D171_34 : decode (mB 171) 34 = .ok (.aload_n 0, 1) := by decide +kernel
theorem D171_35 : decode (mB 171) 35 = .ok (.getfield 30, 3) := by decide +kernel
theorem D171_38 : decode (mB 171) 38 = .ok (.aload_n 0, 1) := by decide +kernel
theorem D171_39 : decode (mB 171) 39 = .ok (.getfield 43, 3) := by decide +kernel
theorem D171_42 : decode (mB 171) 42 = .ok (.invokevirtual 259, 3) := by decide +kernel
theorem D171_45 : decode (mB 171) 45 = .ok (.ifCond .lt 7, 3) := by decide +kernel
theorem D171_48 : decode (mB 171) 48 = .ok (.lconst 1, 1) := by decide +kernel
theorem D171_49 : decode (mB 171) 49 = .ok (.goto 4, 3) := by decide +kernel
theorem D171_52 : decode (mB 171) 52 = .ok (.lconst 0, 1) := by decide +kernel
theorem D171_53 : decode (mB 171) 53 = .ok (.invokevirtual 272, 3) := by decide +kernel
theorem D171_56 : decode (mB 171) 56 = .ok (.aload_n 0, 1) := by decide +kernel
theorem D171_57 : decode (mB 171) 57 = .ok (.getfield 30, 3) := by decide +kernel
theorem D171_60 : decode (mB 171) 60 = .ok (.iload_n 1, 1) := by decide +kernel
theorem D171_61 : decode (mB 171) 61 = .ok (.invokevirtual 228, 3) := by decide +kernel
theorem D171_64 : decode (mB 171) 64 = .ok (.ireturn, 1) := by decide +kernel
theorem D172_0 : decode (mB 172) 0 = .ok (.aload_n 0, 1) := by decide +kernel
theorem D172_1 : decode (mB 172) 1 = .ok (.getfield 30, 3) := by decide +kernel
theorem D172_4 : decode (mB 172) 4 = .ok (.aload_n 0, 1) := by decide +kernel
theorem D172_5 : decode (mB 172) 5 = .ok (.getfield 26, 3) := by decide +kernel
theorem D172_8 : decode (mB 172) 8 = .ok (.invokevirtual 231, 3) := by decide +kernel
theorem D172_11 : decode (mB 172) 11 = .ok (.aload_n 0, 1) := by decide +kernel
theorem D172_12 : decode (mB 172) 12 = .ok (.getfield 30, 3) := by decide +kernel
theorem D172_15 : decode (mB 172) 15 = .ok (.iload_n 1, 1) := by decide +kernel
theorem D172_16 : decode (mB 172) 16 = .ok (.invokevirtual 130, 3) := by decide +kernel
theorem D172_19 : decode (mB 172) 19 = .ok (.istore_n 2, 1) := by decide +kernel
theorem D172_20 : decode (mB 172) 20 = .ok (.aload_n 0, 1) := by decide +kernel
theorem D172_21 : decode (mB 172) 21 = .ok (.getfield 26, 3) := by decide +kernel
theorem D172_24 : decode (mB 172) 24 = .ok (.iload_n 1, 1) := by decide +kernel
theorem D172_25 : decode (mB 172) 25 = .ok (.invokevirtual 100, 3) := by decide +kernel
theorem D172_28 : decode (mB 172) 28 = .ok (.astore_n 3, 1) := by decide +kernel
theorem D172_29 : decode (mB 172) 29 = .ok (.aload_n 0, 1) := by decide +kernel
theorem D172_30 : decode (mB 172) 30 = .ok (.getfield 30, 3) := by decide +kernel
theorem D172_33 : decode (mB 172) 33 = .ok (.iload_n 1, 1) := by decide +kernel
theorem D172_34 : decode (mB 172) 34 = .ok (.invokevirtual 100, 3) := by decide +kernel
theorem D172_37 : decode (mB 172) 37 = .ok (.astore 4, 2) := by decide +kernel
theorem D172_39 : decode (mB 172) 39 = .ok (.iload_n 2, 1) := by decide +kernel
theorem D172_40 : decode (mB 172) 40 = .ok (.ifCond .lt 30, 3) := by decide +kernel
theorem D172_43 : decode (mB 172) 43 = .ok (.aload_n 3, 1) := by decide +kernel
theorem D172_44 : decode (mB 172) 44 = .ok (.ifnull 26, 3) := by decide +kernel
theorem D172_47 : decode (mB 172) 47 = .ok (.aload 4, 2) := by decide +kernel
theorem D172_49 : decode (mB 172) 49 = .ok (.ifnull 21, 3) := by decide +kernel
theorem D172_52 : decode (mB 172) 52 = .ok (.aload_n 0, 1) := by decide +kernel
theorem D172_53 : decode (mB 172) 53 = .ok (.getfield 19, 3) := by decide +kernel
theorem D172_56 : decode (mB 172) 56 = .ok (.aload 4, 2) := by decide +kernel
theorem D172_58 : decode (mB 172) 58 = .ok (.getfield 274, 3) := by decide +kernel
theorem D172_61 : decode (mB 172) 61 = .ok (.aload_n 3, 1) := by decide +kernel
theorem D172_62 : decode (mB 172) 62 = .ok (.getfield 274, 3) := by decide +kernel
theorem D172_65 : decode (mB 172) 65 = .ok (.isub, 1) := by decide +kernel
theorem D172_66 : decode (mB 172) 66 = .ok (.i2l, 1) := by decide +kernel
theorem D172_67 : decode (mB 172) 67 = .ok (.invokevirtual 272, 3) := by decide +kernel
theorem D172_70 : decode (mB 172) 70 = .ok (.iload_n 2, 1) := by decide +kernel
theorem D172_71 : decode (mB 172) 71 = .ok (.ireturn, 1) := by decide +kernel
theorem D173_0 : decode (mB 173) 0 = .ok (.aload_n 0, 1) := by decide +kernel
theorem D173_1 : decode (mB 173) 1 = .ok (.getfield 19, 3) := by decide +kernel
theorem D173_4 : decode (mB 173) 4 = .ok (.aload_n 0, 1) := by decide +kernel
theorem D173_5 : decode (mB 173) 5 = .ok (.getfield 26, 3) := by decide +kernel
theorem D173_8 : decode (mB 173) 8 = .ok (.getfield 277, 3) := by decide +kernel
theorem D173_11 : decode (mB 173) 11 = .ok (.i2l, 1) := by decide +kernel
theorem D173_12 : decode (mB 173) 12 = .ok (.invokevirtual 272, 3) := by decide +kernel
theorem D173_15 : decode (mB 173) 15 = .ok (.aload_n 0, 1) := by decide +kernel
theorem D173_16 : decode (mB 173) 16 = .ok (.getfield 26, 3) := by decide +kernel
theorem D173_19 : decode (mB 173) 19 = .ok (.getfield 280, 3) := by decide +kernel
theorem D173_22 : decode (mB 173) 22 = .ok (.ireturn, 1) := by decide +kernel
theorem D174_0 : decode (mB 174) 0 = .ok (.aload_n 0, 1) := by decide +kernel
theorem D174_1 : decode (mB 174) 1 = .ok (.getfield 26, 3) := by decide +kernel
theorem D174_4 : decode (mB 174) 4 = .ok (.iload_n 1, 1) := by decide +kernel
theorem D174_5 : decode (mB 174) 5 = .ok (.iload_n 2, 1) := by decide +kernel
theorem D174_6 : decode (mB 174) 6 = .ok (.invokevirtual 283, 3) := by decide +kernel
theorem D174_9 : decode (mB 174) 9 = .ok (.istore_n 3, 1) := by decide +kernel
theorem D174_10 : decode (mB 174) 10 = .ok (.iload_n 3, 1) := by decide +kernel
theorem D174_11 : decode (mB 174) 11 = .ok (.ifCond .lt 30, 3) := by decide +kernel
theorem D174_14 : decode (mB 174) 14 = .ok (.aload_n 0, 1) := by decide +kernel
theorem D174_15 : decode (mB 174) 15 = .ok (.getfield 19, 3) := by decide +kernel
theorem D174_18 : decode (mB 174) 18 = .ok (.aload_n 0, 1) := by decide +kernel
theorem D174_19 : decode (mB 174) 19 = .ok (.getfield 26, 3) := by decide +kernel
theorem D174_22 : decode (mB 174) 22 = .ok (.iload_n 1, 1) := by decide +kernel
theorem D174_23 : decode (mB 174) 23 = .ok (.iload_n 2, 1) := by decide +kernel
theorem D174_24 : decode (mB 174) 24 = .ok (.invokevirtual 286, 3) := by decide +kernel
theorem D174_27 : decode (mB 174) 27 = .ok (.i2l, 1) := by decide +kernel
theorem D174_28 : decode (mB 174) 28 = .ok (.aload_n 0, 1) := by decide +kernel
theorem D174_29 : decode (mB 174) 29 = .ok (.getfield 26, 3) := by decide +kernel
theorem D174_32 : decode (mB 174) 32 = .ok (.iload_n 1, 1) := by decide +kernel
theorem D174_33 : decode (mB 174) 33 = .ok (.iload_n 2, 1) := by decide +kernel
theorem D174_34 : decode (mB 174) 34 = .ok (.invokevirtual 289, 3) := by decide +kernel
theorem D174_37 : decode (mB 174) 37 = .ok (.i2l, 1) := by decide +kernel
theorem D174_38 : decode (mB 174) 38 = .ok (.invokevirtual 167, 3) := by decide +kernel
theorem D174_41 : decode (mB 174) 41 = .ok (.iload_n 3, 1) := by decide +kernel
theorem D174_42 : decode (mB 174) 42 = .ok (.ireturn, 1) := by decide +kernel
theorem D175_0 : decode (mB 175) 0 = .ok (.aload_n 0, 1) := by decide +kernel
theorem D175_1 : decode (mB 175) 1 = .ok (.getfield 26, 3) := by decide +kernel
theorem D175_4 : decode (mB 175) 4 = .ok (.iconst 1, 1) := by decide +kernel
theorem D175_5 : decode (mB 175) 5 = .ok (.invokevirtual 292, 3) := by decide +kernel
theorem D175_8 : decode (mB 175) 8 = .ok (.istore_n 1, 1) := by decide +kernel
theorem D175_9 : decode (mB 175) 9 = .ok (.aload_n 0, 1) := by decide +kernel
theorem D175_10 : decode (mB 175) 10 = .ok (.getfield 26, 3) := by decide +kernel
theorem D175_13 : decode (mB 175) 13 = .ok (.iconst 2, 1) := by decide +kernel
theorem D175_14 : decode (mB 175) 14 = .ok (.invokevirtual 292, 3) := by decide +kernel
theorem D175_17 : decode (mB 175) 17 = .ok (.istore_n 2, 1) := by decide +kernel
theorem D175_18 : decode (mB 175) 18 = .ok (.aload_n 0, 1) := by decide +kernel
theorem D175_19 : decode (mB 175) 19 = .ok (.getfield 26, 3) := by decide +kernel
theorem D175_22 : decode (mB 175) 22 = .ok (.iconst 3, 1) := by decide +kernel
theorem D175_23 : decode (mB 175) 23 = .ok (.invokevirtual 292, 3) := by decide +kernel
theorem D175_26 : decode (mB 175) 26 = .ok (.istore_n 3, 1) := by decide +kernel
theorem D175_27 : decode (mB 175) 27 = .ok (.aload_n 0, 1) := by decide +kernel
theorem D175_28 : decode (mB 175) 28 = .ok (.getfield 19, 3) := by decide +kernel
theorem D175_31 : decode (mB 175) 31 = .ok (.iload_n 1, 1) := by decide +kernel
theorem D175_32 : decode (mB 175) 32 = .ok (.i2l, 1) := by decide +kernel
theorem D175_33 : decode (mB 175) 33 = .ok (.iload_n 2, 1) := by decide +kernel
theorem D175_34 : decode (mB 175) 34 = .ok (.i2l, 1) := by decide +kernel
theorem D175_35 : decode (mB 175) 35 = .ok (.iload_n 3, 1) := by decide +kernel
theorem D175_36 : decode (mB 175) 36 = .ok (.i2l, 1) := by decide +kernel
theorem D175_37 : decode (mB 175) 37 = .ok (.invokevirtual 295, 3) := by decide +kernel
theorem D175_40 : decode (mB 175) 40 = .ok (.aload_n 0, 1) := by decide +kernel
theorem D175_41 : decode (mB 175) 41 = .ok (.getfield 19, 3) := by decide +kernel
theorem D175_44 : decode (mB 175) 44 = .ok (.aload_n 0, 1) := by decide +kernel
theorem D175_45 : decode (mB 175) 45 = .ok (.getfield 26, 3) := by decide +kernel
theorem D175_48 : decode (mB 175) 48 = .ok (.iconst 0, 1) := by decide +kernel
theorem D175_49 : decode (mB 175) 49 = .ok (.invokevirtual 292, 3) := by decide +kernel
theorem D175_52 : decode (mB 175) 52 = .ok (.i2l, 1) := by decide +kernel
theorem D175_53 : decode (mB 175) 53 = .ok (.invokevirtual 190, 3) := by decide +kernel
theorem D175_56 : decode (mB 175) 56 = .ok (.iload_n 1, 1) := by decide +kernel
theorem D175_57 : decode (mB 175) 57 = .ok (.iload_n 2, 1) := by decide +kernel
theorem D175_58 : decode (mB 175) 58 = .ok (.iadd, 1) := by decide +kernel
theorem D175_59 : decode (mB 175) 59 = .ok (.iload_n 3, 1) := by decide +kernel
theorem D175_60 : decode (mB 175) 60 = .ok (.iadd, 1) := by decide +kernel
theorem D175_61 : decode (mB 175) 61 = .ok (.ireturn, 1) := by decide +kernel
theorem D176_0 : decode (mB 176) 0 = .ok (.aload_n 0, 1) := by decide +kernel
theorem D176_1 : decode (mB 176) 1 = .ok (.getfield 53, 3) := by decide +kernel
theorem D176_4 : decode (mB 176) 4 = .ok (.iload_n 1, 1) := by decide +kernel
theorem D176_5 : decode (mB 176) 5 = .ok (.iload_n 2, 1) := by decide +kernel
theorem D176_6 : decode (mB 176) 6 = .ok (.invokevirtual 298, 3) := by decide +kernel
theorem D176_9 : decode (mB 176) 9 = .ok (.ireturn, 1) := by decide +kernel
theorem D177_0 : decode (mB 177) 0 = .ok (.aload_n 0, 1) := by decide +kernel
theorem D177_1 : decode (mB 177) 1 = .ok (.getfield 53, 3) := by decide +kernel
theorem D177_4 : decode (mB 177) 4 = .ok (.invokevirtual 301, 3) := by decide +kernel
theorem D177_7 : decode (mB 177) 7 = .ok (.ireturn, 1) := by decide +kernel
theorem D178_0 : decode (mB 178) 0 = .ok (.aload_n 0, 1) := by decide +kernel
theorem D178_1 : decode (mB 178) 1 = .ok (.getfield 53, 3) := by decide +kernel
theorem D178_4 : decode (mB 178) 4 = .ok (.aload_n 0, 1) := by decide +kernel
theorem D178_5 : decode (mB 178) 5 = .ok (.getfield 26, 3) := by decide +kernel
theorem D178_8 : decode (mB 178) 8 = .ok (.aload_n 0, 1) := by decide +kernel
theorem D178_9 : decode (mB 178) 9 = .ok (.getfield 19, 3) := by decide +kernel
theorem D178_12 : decode (mB 178) 12 = .ok (.invokevirtual 304, 3) := by decide +kernel
theorem D178_15 : decode (mB 178) 15 = .ok (.ireturn, 1) := by decide +kernel
theorem D179_0 : decode (mB 179) 0 = .ok (.aload_n 0, 1) := by decide +kernel
theorem D179_1 : decode (mB 179) 1 = .ok (.getfield 53, 3) := by decide +kernel
theorem D179_4 : decode (mB 179) 4 = .ok (.aload_n 0, 1) := by decide +kernel
theorem D179_5 : decode (mB 179) 5 = .ok (.getfield 26, 3) := by decide +kernel
theorem D179_8 : decode (mB 179) 8 = .ok (.aload_n 0, 1) := by decide +kernel
theorem D179_9 : decode (mB 179) 9 = .ok (.getfield 19, 3) := by decide +kernel
theorem D179_12 : decode (mB 179) 12 = .ok (.invokevirtual 308, 3) := by decide +kernel
theorem D179_15 : decode (mB 179) 15 = .ok (.ireturn, 1) := by decide +kernel
theorem D180_0 : decode (mB 180) 0 = .ok (.iload_n 1, 1) := by decide +kernel
theorem D180_1 : decode (mB 180) 1 = .ok (.iconst 2, 1) := by decide +kernel
theorem D180_2 : decode (mB 180) 2 = .ok (.if_icmp .lt 31, 3) := by decide +kernel
theorem D180_5 : decode (mB 180) 5 = .ok (.iload_n 1, 1) := by decide +kernel
theorem D180_6 : decode (mB 180) 6 = .ok (.bipush 40, 2) := by decide +kernel
theorem D180_8 : decode (mB 180) 8 = .ok (.if_icmp .gt 25, 3) := by decide +kernel
theorem D180_11 : decode (mB 180) 11 = .ok (.iload_n 2, 1) := by decide +kernel
theorem D180_12 : decode (mB 180) 12 = .ok (.ifCond .lt 21, 3) := by decide +kernel
theorem D180_15 : decode (mB 180) 15 = .ok (.iload_n 2, 1) := by decide +kernel
theorem D180_16 : decode (mB 180) 16 = .ok (.iload_n 1, 1) := by decide +kernel
theorem D180_17 : decode (mB 180) 17 = .ok (.iconst 1, 1) := by decide +kernel
theorem D180_18 : decode (mB 180) 18 = .ok (.isub, 1) := by decide +kernel
theorem D180_19 : decode (mB 180) 19 = .ok (.if_icmp .gt 14, 3) := by decide +kernel
theorem D180_22 : decode (mB 180) 22 = .ok (.iload_n 3, 1) := by decide +kernel
theorem D180_23 : decode (mB 180) 23 = .ok (.iconst 1, 1) := by decide +kernel
theorem D180_24 : decode (mB 180) 24 = .ok (.if_icmp .lt 9, 3) := by decide +kernel
theorem D180_27 : decode (mB 180) 27 = .ok (.iload_n 3, 1) := by decide +kernel
theorem D180_28 : decode (mB 180) 28 = .ok (.bipush 9, 2) := by decide +kernel
theorem D180_30 : decode (mB 180) 30 = .ok (.if_icmp .le 5, 3) := by decide +kernel
theorem D180_33 : decode (mB 180) 33 = .ok (.iconst (-1), 1) := by decide +kernel
theorem D180_34 : decode (mB 180) 34 = .ok (.ireturn, 1) := by decide +kernel
theorem D180_35 : decode (mB 180) 35 = .ok (.iload_n 1, 1) := by decide +kernel
theorem D180_36 : decode (mB 180) 36 = .ok (.iconst 1, 1) := by decide +kernel
theorem D180_37 : decode (mB 180) 37 = .ok (.isub, 1) := by decide +kernel
theorem D180_38 : decode (mB 180) 38 = .ok (.iload_n 2, 1) := by decide +kernel
theorem D180_39 : decode (mB 180) 39 = .ok (.isub, 1) := by decide +kernel
theorem D180_40 : decode (mB 180) 40 = .ok (.iload_n 3, 1) := by decide +kernel
theorem D180_41 : decode (mB 180) 41 = .ok (.iconst 1, 1) := by decide +kernel
theorem D180_42 : decode (mB 180) 42 = .ok (.iadd, 1) := by decide +kernel
theorem D180_43 : decode (mB 180) 43 = .ok (.irem, 1) := by decide +kernel
theorem D180_44 : decode (mB 180) 44 = .ok (.ireturn, 1) := by decide +kernel
theorem D181_0 : decode (mB 181) 0 = .ok (.aload_n 0, 1) := by decide +kernel
theorem D181_1 : decode (mB 181) 1 = .ok (.getfield 47, 3) := by decide +kernel
theorem D181_4 : decode (mB 181) 4 = .ok (.aload_n 0, 1) := by decide +kernel
theorem D181_5 : decode (mB 181) 5 = .ok (.getfield 10, 3) := by decide +kernel
theorem D181_8 : decode (mB 181) 8 = .ok (.invokevirtual 92, 3) := by decide +kernel
theorem D181_11 : decode (mB 181) 11 = .ok (.istore_n 1, 1) := by decide +kernel
theorem D181_12 : decode (mB 181) 12 = .ok (.aload_n 0, 1) := by decide +kernel
theorem D181_13 : decode (mB 181) 13 = .ok (.getfield 10, 3) := by decide +kernel
theorem D181_16 : decode (mB 181) 16 = .ok (.invokevirtual 86, 3) := by decide +kernel
theorem D181_19 : decode (mB 181) 19 = .ok (.iload_n 1, 1) := by decide +kernel
theorem D181_20 : decode (mB 181) 20 = .ok (.ifCond .ge 9, 3) := by decide +kernel
theorem D181_23 : decode (mB 181) 23 = .ok (.iload_n 1, 1) := by decide +kernel
theorem D181_24 : decode (mB 181) 24 = .ok (.sipush 999, 3) := by decide +kernel
theorem D181_27 : decode (mB 181) 27 = .ok (.isub, 1) := by decide +kernel
theorem D181_28 : decode (mB 181) 28 = .ok (.ireturn, 1) := by decide +kernel
theorem D181_29 : decode (mB 181) 29 = .ok (.aload_n 0, 1) := by decide +kernel
theorem D181_30 : decode (mB 181) 30 = .ok (.aload_n 0, 1) := by decide +kernel
theorem D181_31 : decode (mB 181) 31 = .ok (.getfield 47, 3) := by decide +kernel
theorem D181_34 : decode (mB 181) 34 = .ok (.invokevirtual 311, 3) := by decide +kernel
theorem D181_37 : decode (mB 181) 37 = .ok (.istore_n 2, 1) := by decide +kernel
theorem D181_38 : decode (mB 181) 38 = .ok (.aload_n 0, 1) := by decide +kernel
theorem D181_39 : decode (mB 181) 39 = .ok (.aload_n 0, 1) := by decide +kernel
theorem D181_40 : decode (mB 181) 40 = .ok (.getfield 43, 3) := by decide +kernel
theorem D181_43 : decode (mB 181) 43 = .ok (.invokevirtual 311, 3) := by decide +kernel
theorem D181_46 : decode (mB 181) 46 = .ok (.istore_n 3, 1) := by decide +kernel
theorem D181_47 : decode (mB 181) 47 = .ok (.aload_n 0, 1) := by decide +kernel
theorem D181_48 : decode (mB 181) 48 = .ok (.getfield 19, 3) := by decide +kernel
theorem D181_51 : decode (mB 181) 51 = .ok (.iload_n 2, 1) := by decide +kernel
theorem D181_52 : decode (mB 181) 52 = .ok (.i2l, 1) := by decide +kernel
theorem D181_53 : decode (mB 181) 53 = .ok (.iload_n 3, 1) := by decide +kernel
theorem D181_54 : decode (mB 181) 54 = .ok (.i2l, 1) := by decide +kernel
theorem D181_55 : decode (mB 181) 55 = .ok (.invokevirtual 167, 3) := by decide +kernel
theorem D181_58 : decode (mB 181) 58 = .ok (.iload_n 2, 1) := by decide +kernel
theorem D181_59 : decode (mB 181) 59 = .ok (.iload_n 3, 1) := by decide +kernel
theorem D181_60 : decode (mB 181) 60 = .ok (.isub, 1) := by decide +kernel
theorem D181_61 : decode (mB 181) 61 = .ok (.ireturn, 1) := by decide +kernel
theorem D182_0 : decode (mB 182) 0 = .ok (.aload_n 0, 1) := by decide +kernel
theorem D182_1 : decode (mB 182) 1 = .ok (.getfield 30, 3) := by decide +kernel
theorem D182_4 : decode (mB 182) 4 = .ok (.aload_n 0, 1) := by decide +kernel
theorem D182_5 : decode (mB 182) 5 = .ok (.getfield 26, 3) := by decide +kernel
theorem D182_8 : decode (mB 182) 8 = .ok (.invokevirtual 231, 3) := by decide +kernel
theorem D182_11 : decode (mB 182) 11 = .ok (.aload_n 0, 1) := by decide +kernel
theorem D182_12 : decode (mB 182) 12 = .ok (.getfield 30, 3) := by decide +kernel
theorem D182_15 : decode (mB 182) 15 = .ok (.aload_n 1, 1) := by decide +kernel
theorem D182_16 : decode (mB 182) 16 = .ok (.invokevirtual 259, 3) := by decide +kernel
theorem D182_19 : decode (mB 182) 19 = .ok (.istore_n 2, 1) := by decide +kernel
theorem D182_20 : decode (mB 182) 20 = .ok (.iload_n 2, 1) := by decide +kernel
theorem D182_21 : decode (mB 182) 21 = .ok (.ifCond .ge 8, 3) := by decide +kernel
theorem D182_24 : decode (mB 182) 24 = .ok (.bipush 100, 2) := by decide +kernel
theorem D182_26 : decode (mB 182) 26 = .ok (.goto 4, 3) := by decide +kernel
theorem D182_29 : decode (mB 182) 29 = .ok (.iload_n 2, 1) := by decide +kernel
theorem D182_30 : decode (mB 182) 30 = .ok (.ireturn, 1) := by decide +kernel
theorem D183_0 : decode (mB 183) 0 = .ok (.iload_n 2, 1) := by decide +kernel
theorem D183_1 : decode (mB 183) 1 = .ok (.iconst 1, 1) := by decide +kernel
theorem D183_2 : decode (mB 183) 2 = .ok (.if_icmp .lt 9, 3) := by decide +kernel
theorem D183_5 : decode (mB 183) 5 = .ok (.iload_n 2, 1) := by decide +kernel
theorem D183_6 : decode (mB 183) 6 = .ok (.bipush 40, 2) := by decide +kernel
theorem D183_8 : decode (mB 183) 8 = .ok (.if_icmp .le 5, 3) := by decide +kernel
theorem D183_11 : decode (mB 183) 11 = .ok (.iconst (-1), 1) := by decide +kernel
theorem D183_12 : decode (mB 183) 12 = .ok (.ireturn, 1) := by decide +kernel
theorem D183_13 : decode (mB 183) 13 = .ok (.aload_n 0, 1) := by decide +kernel
theorem D183_14 : decode (mB 183) 14 = .ok (.getfield 30, 3) := by decide +kernel
theorem D183_17 : decode (mB 183) 17 = .ok (.aload_n 0, 1) := by decide +kernel
theorem D183_18 : decode (mB 183) 18 = .ok (.getfield 26, 3) := by decide +kernel
theorem D183_21 : decode (mB 183) 21 = .ok (.invokevirtual 231, 3) := by decide +kernel
theorem D183_24 : decode (mB 183) 24 = .ok (.new 314, 3) := by decide +kernel
theorem D183_27 : decode (mB 183) 27 = .ok (.dup, 1) := by decide +kernel
theorem D183_28 : decode (mB 183) 28 = .ok (.iload_n 1, 1) := by decide +kernel
theorem D183_29 : decode (mB 183) 29 = .ok (.invokespecial 316, 3) := by decide +kernel
theorem D183_32 : decode (mB 183) 32 = .ok (.astore_n 3, 1) := by decide +kernel
theorem D183_33 : decode (mB 183) 33 = .ok (.iconst 0, 1) := by decide +kernel
theorem D183_34 : decode (mB 183) 34 = .ok (.istore 4, 2) := by decide +kernel
theorem D183_36 : decode (mB 183) 36 = .ok (.iload 4, 2) := by decide +kernel
theorem D183_38 : decode (mB 183) 38 = .ok (.iload_n 2, 1) := by decide +kernel
theorem D183_39 : decode (mB 183) 39 = .ok (.if_icmp .ge 25, 3) := by decide +kernel
theorem D183_42 : decode (mB 183) 42 = .ok (.aload_n 0, 1) := by decide +kernel
theorem D183_43 : decode (mB 183) 43 = .ok (.getfield 30, 3) := by decide +kernel
theorem D183_46 : decode (mB 183) 46 = .ok (.aload_n 3, 1) := by decide +kernel
theorem D183_47 : decode (mB 183) 47 = .ok (.aload_n 0, 1) := by decide +kernel
theorem D183_48 : decode (mB 183) 48 = .ok (.getfield 43, 3) := by decide +kernel
theorem D183_51 : decode (mB 183) 51 = .ok (.aload_n 0, 1) := by decide +kernel
theorem D183_52 : decode (mB 183) 52 = .ok (.getfield 19, 3) := by decide +kernel
theorem D183_55 : decode (mB 183) 55 = .ok (.invokevirtual 319, 3) := by decide +kernel
theorem D183_58 : decode (mB 183) 58 = .ok (.iinc 4 1, 3) := by decide +kernel
theorem D183_61 : decode (mB 183) 61 = .ok (.goto (-25), 3) := by decide +kernel
theorem D183_64 : decode (mB 183) 64 = .ok (.aload_n 0, 1) := by decide +kernel
theorem D183_65 : decode (mB 183) 65 = .ok (.getfield 19, 3) := by decide +kernel
theorem D183_68 : decode (mB 183) 68 = .ok (.aload_n 0, 1) := by decide +kernel
theorem D183_69 : decode (mB 183) 69 = .ok (.getfield 30, 3) := by decide +kernel
theorem D183_72 : decode (mB 183) 72 = .ok (.bipush 7, 2) := by decide +kernel
theorem D183_74 : decode (mB 183) 74 = .ok (.invokevirtual 263, 3) := by decide +kernel
theorem D183_77 : decode (mB 183) 77 = .ok (.aload_n 0, 1) := by decide +kernel
theorem D183_78 : decode (mB 183) 78 = .ok (.getfield 26, 3) := by decide +kernel
theorem D183_81 : decode (mB 183) 81 = .ok (.bipush 7, 2) := by decide +kernel
theorem D183_83 : decode (mB 183) 83 = .ok (.invokevirtual 263, 3) := by decide +kernel
theorem D183_86 : decode (mB 183) 86 = .ok (.isub, 1) := by decide +kernel
theorem D183_87 : decode (mB 183) 87 = .ok (.i2l, 1) := by decide +kernel
theorem D183_88 : decode (mB 183) 88 = .ok (.aload_n 0, 1) := by decide +kernel
theorem D183_89 : decode (mB 183) 89 = .ok (.getfield 30, 3) := by decide +kernel
theorem D183_92 : decode (mB 183) 92 = .ok (.invokevirtual 266, 3) := by decide +kernel
theorem D183_95 : decode (mB 183) 95 = .ok (.i2l, 1) := by decide +kernel
theorem D183_96 : decode (mB 183) 96 = .ok (.aload_n 0, 1) := by decide +kernel
theorem D183_97 : decode (mB 183) 97 = .ok (.getfield 30, 3) := by decide +kernel
theorem D183_100 : decode (mB 183) 100 = .ok (.getfield 164, 3) := by decide +kernel
theorem D183_103 : decode (mB 183) 103 = .ok (.i2l, 1) := by decide +kernel
theorem D183_104 : decode (mB 183) 104 = .ok (.invokevirtual 295, 3) := by decide +kernel
theorem D183_107 : decode (mB 183) 107 = .ok (.aload_n 0, 1) := by decide +kernel
theorem D183_108 : decode (mB 183) 108 = .ok (.getfield 30, 3) := by decide +kernel
theorem D183_111 : decode (mB 183) 111 = .ok (.bipush 10, 2) := by decide +kernel
theorem D183_113 : decode (mB 183) 113 = .ok (.invokevirtual 263, 3) := by decide +kernel
theorem D183_116 : decode (mB 183) 116 = .ok (.aload_n 0, 1) := by decide +kernel
theorem D183_117 : decode (mB 183) 117 = .ok (.getfield 26, 3) := by decide +kernel
theorem D183_120 : decode (mB 183) 120 = .ok (.bipush 10, 2) := by decide +kernel
theorem D183_122 : decode (mB 183) 122 = .ok (.invokevirtual 263, 3) := by decide +kernel
theorem D183_125 : decode (mB 183) 125 = .ok (.isub, 1) := by decide +kernel
theorem D183_126 : decode (mB 183) 126 = .ok (.ireturn, 1) := by decide +kernel
theorem D184_0 : decode (mB 184) 0 = .ok (.aload_n 0, 1) := by decide +kernel
theorem D184_1 : decode (mB 184) 1 = .ok (.getfield 36, 3) := by decide +kernel
theorem D184_4 : decode (mB 184) 4 = .ok (.iload_n 1, 1) := by decide +kernel
theorem D184_5 : decode (mB 184) 5 = .ok (.aload_n 0, 1) := by decide +kernel
theorem D184_6 : decode (mB 184) 6 = .ok (.getfield 26, 3) := by decide +kernel
theorem D184_9 : decode (mB 184) 9 = .ok (.invokevirtual 323, 3) := by decide +kernel
theorem D184_12 : decode (mB 184) 12 = .ok (.ireturn, 1) := by decide +kernel
theorem D185_0 : decode (mB 185) 0 = .ok (.aload_n 0, 1) := by decide +kernel
theorem D185_1 : decode (mB 185) 1 = .ok (.getfield 36, 3) := by decide +kernel
theorem D185_4 : decode (mB 185) 4 = .ok (.iload_n 1, 1) := by decide +kernel
theorem D185_5 : decode (mB 185) 5 = .ok (.aload_n 0, 1) := by decide +kernel
theorem D185_6 : decode (mB 185) 6 = .ok (.getfield 26, 3) := by decide +kernel
theorem D185_9 : decode (mB 185) 9 = .ok (.invokevirtual 327, 3) := by decide +kernel
theorem D185_12 : decode (mB 185) 12 = .ok (.ireturn, 1) := by decide +kernel
theorem D186_0 : decode (mB 186) 0 = .ok (.iload_n 1, 1) := by decide +kernel
theorem D186_1 : decode (mB 186) 1 = .ok (.tableswitch 171 0 11 #[63, 71, 79, 87, 95, 115, 123, 131, 139, 147, 155, 163], 63) := by decide +kernel
theorem D186_64 : decode (mB 186) 64 = .ok (.aload_n 0, 1) := by decide +kernel
theorem D186_65 : decode (mB 186) 65 = .ok (.getfield 26, 3) := by decide +kernel
theorem D186_68 : decode (mB 186) 68 = .ok (.getfield 330, 3) := by decide +kernel
theorem D186_71 : decode (mB 186) 71 = .ok (.ireturn, 1) := by decide +kernel
theorem D186_72 : decode (mB 186) 72 = .ok (.aload_n 0, 1) := by decide +kernel
theorem D186_73 : decode (mB 186) 73 = .ok (.getfield 26, 3) := by decide +kernel
theorem D186_76 : decode (mB 186) 76 = .ok (.invokevirtual 333, 3) := by decide +kernel
theorem D186_79 : decode (mB 186) 79 = .ok (.ireturn, 1) := by decide +kernel
theorem D186_80 : decode (mB 186) 80 = .ok (.aload_n 0, 1) := by decide +kernel
theorem D186_81 : decode (mB 186) 81 = .ok (.getfield 26, 3) := by decide +kernel
theorem D186_84 : decode (mB 186) 84 = .ok (.getfield 336, 3) := by decide +kernel
theorem D186_87 : decode (mB 186) 87 = .ok (.ireturn, 1) := by decide +kernel
theorem D186_88 : decode (mB 186) 88 = .ok (.aload_n 0, 1) := by decide +kernel
theorem D186_89 : decode (mB 186) 89 = .ok (.getfield 26, 3) := by decide +kernel
theorem D186_92 : decode (mB 186) 92 = .ok (.getfield 339, 3) := by decide +kernel
theorem D186_95 : decode (mB 186) 95 = .ok (.ireturn, 1) := by decide +kernel
theorem D186_96 : decode (mB 186) 96 = .ok (.aload_n 0, 1) := by decide +kernel
theorem D186_97 : decode (mB 186) 97 = .ok (.getfield 26, 3) := by decide +kernel
theorem D186_100 : decode (mB 186) 100 = .ok (.bipush 9, 2) := by decide +kernel
theorem D186_102 : decode (mB 186) 102 = .ok (.invokevirtual 263, 3) := by decide +kernel
theorem D186_105 : decode (mB 186) 105 = .ok (.aload_n 0, 1) := by decide +kernel
theorem D186_106 : decode (mB 186) 106 = .ok (.getfield 26, 3) := by decide +kernel
theorem D186_109 : decode (mB 186) 109 = .ok (.bipush 10, 2) := by decide +kernel
theorem D186_111 : decode (mB 186) 111 = .ok (.invokevirtual 263, 3) := by decide +kernel
theorem D186_114 : decode (mB 186) 114 = .ok (.isub, 1) := by decide +kernel
theorem D186_115 : decode (mB 186) 115 = .ok (.ireturn, 1) := by decide +kernel
theorem D186_116 : decode (mB 186) 116 = .ok (.aload_n 0, 1) := by decide +kernel
theorem D186_117 : decode (mB 186) 117 = .ok (.getfield 26, 3) := by decide +kernel
theorem D186_120 : decode (mB 186) 120 = .ok (.getfield 164, 3) := by decide +kernel
theorem D186_123 : decode (mB 186) 123 = .ok (.ireturn, 1) := by decide +kernel
theorem D186_124 : decode (mB 186) 124 = .ok (.aload_n 0, 1) := by decide +kernel
theorem D186_125 : decode (mB 186) 125 = .ok (.getfield 26, 3) := by decide +kernel
theorem D186_128 : decode (mB 186) 128 = .ok (.getfield 342, 3) := by decide +kernel
theorem D186_131 : decode (mB 186) 131 = .ok (.ireturn, 1) := by decide +kernel
theorem D186_132 : decode (mB 186) 132 = .ok (.aload_n 0, 1) := by decide +kernel
theorem D186_133 : decode (mB 186) 133 = .ok (.getfield 26, 3) := by decide +kernel
theorem D186_136 : decode (mB 186) 136 = .ok (.invokevirtual 266, 3) := by decide +kernel
theorem D186_139 : decode (mB 186) 139 = .ok (.ireturn, 1) := by decide +kernel
theorem D186_140 : decode (mB 186) 140 = .ok (.aload_n 0, 1) := by decide +kernel
theorem D186_141 : decode (mB 186) 141 = .ok (.getfield 53, 3) := by decide +kernel
theorem D186_144 : decode (mB 186) 144 = .ok (.getfield 345, 3) := by decide +kernel
theorem D186_147 : decode (mB 186) 147 = .ok (.ireturn, 1) := by decide +kernel
theorem D186_148 : decode (mB 186) 148 = .ok (.aload_n 0, 1) := by decide +kernel
theorem D186_149 : decode (mB 186) 149 = .ok (.getfield 36, 3) := by decide +kernel
theorem D186_152 : decode (mB 186) 152 = .ok (.getfield 346, 3) := by decide +kernel
theorem D186_155 : decode (mB 186) 155 = .ok (.ireturn, 1) := by decide +kernel
theorem D186_156 : decode (mB 186) 156 = .ok (.aload_n 0, 1) := by decide +kernel
theorem D186_157 : decode (mB 186) 157 = .ok (.getfield 19, 3) := by decide +kernel
theorem D186_160 : decode (mB 186) 160 = .ok (.getfield 347, 3) := by decide +kernel
theorem D186_163 : decode (mB 186) 163 = .ok (.ireturn, 1) := by decide +kernel
theorem D186_164 : decode (mB 186) 164 = .ok (.aload_n 0, 1) := by decide +kernel
theorem D186_165 : decode (mB 186) 165 = .ok (.getfield 10, 3) := by decide +kernel
theorem D186_168 : decode (mB 186) 168 = .ok (.getfield 78, 3) := by decide +kernel
theorem D186_171 : decode (mB 186) 171 = .ok (.ireturn, 1) := by decide +kernel
theorem D186_172 : decode (mB 186) 172 = .ok (.bipush (-100), 2) := by decide +kernel
theorem D186_174 : decode (mB 186) 174 = .ok (.ireturn, 1) := by decide +kernel
theorem D187_0 : decode (mB 187) 0 = .ok (.aload_n 0, 1) := by decide +kernel
theorem D187_1 : decode (mB 187) 1 = .ok (.getfield 26, 3) := by decide +kernel
theorem D187_4 : decode (mB 187) 4 = .ok (.iload_n 1, 1) := by decide +kernel
theorem D187_5 : decode (mB 187) 5 = .ok (.invokevirtual 100, 3) := by decide +kernel
theorem D187_8 : decode (mB 187) 8 = .ok (.astore_n 3, 1) := by decide +kernel
theorem D187_9 : decode (mB 187) 9 = .ok (.aload_n 3, 1) := by decide +kernel
theorem D187_10 : decode (mB 187) 10 = .ok (.ifnull 13, 3) := by decide +kernel
theorem D187_13 : decode (mB 187) 13 = .ok (.iload_n 2, 1) := by decide +kernel
theorem D187_14 : decode (mB 187) 14 = .ok (.ifCond .lt 9, 3) := by decide +kernel
theorem D187_17 : decode (mB 187) 17 = .ok (.iload_n 2, 1) := by decide +kernel
theorem D187_18 : decode (mB 187) 18 = .ok (.bipush 13, 2) := by decide +kernel
theorem D187_20 : decode (mB 187) 20 = .ok (.if_icmp .lt 13, 3) := by decide +kernel
theorem D187_23 : decode (mB 187) 23 = .ok (.new 106, 3) := by decide +kernel
theorem D187_26 : decode (mB 187) 26 = .ok (.dup, 1) := by decide +kernel
theorem D187_27 : decode (mB 187) 27 = .ok (.ldc 108, 2) := by decide +kernel
theorem D187_29 : decode (mB 187) 29 = .ok (.invokespecial 110, 3) := by decide +kernel
theorem D187_33 : decode (mB 187) 33 = .ok (.aload_n 3, 1) := by decide +kernel
theorem D187_34 : decode (mB 187) 34 = .ok (.iload_n 2, 1) := by decide +kernel
theorem D187_35 : decode (mB 187) 35 = .ok (.invokevirtual 113, 3) := by decide +kernel
theorem D187_38 : decode (mB 187) 38 = .ok (.ireturn, 1) := by decide +kernel
theorem D188_0 : decode (mB 188) 0 = .ok (.iload_n 1, 1) := by decide +kernel
theorem D188_1 : decode (mB 188) 1 = .ok (.ifCond .lt 14, 3) := by decide +kernel
theorem D188_4 : decode (mB 188) 4 = .ok (.iload_n 1, 1) := by decide +kernel
theorem D188_5 : decode (mB 188) 5 = .ok (.aload_n 0, 1) := by decide +kernel
theorem D188_6 : decode (mB 188) 6 = .ok (.getfield 19, 3) := by decide +kernel
theorem D188_9 : decode (mB 188) 9 = .ok (.getfield 347, 3) := by decide +kernel
theorem D188_12 : decode (mB 188) 12 = .ok (.if_icmp .lt 14, 3) := by decide +kernel
theorem D188_15 : decode (mB 188) 15 = .ok (.new 106, 3) := by decide +kernel
theorem D188_18 : decode (mB 188) 18 = .ok (.dup, 1) := by decide +kernel
theorem D188_19 : decode (mB 188) 19 = .ok (.ldc_w 348, 3) := by decide +kernel
theorem D188_22 : decode (mB 188) 22 = .ok (.invokespecial 110, 3) := by decide +kernel
theorem D188_26 : decode (mB 188) 26 = .ok (.aload_n 0, 1) := by decide +kernel
theorem D188_27 : decode (mB 188) 27 = .ok (.getfield 19, 3) := by decide +kernel
theorem D188_30 : decode (mB 188) 30 = .ok (.iload_n 1, 1) := by decide +kernel
theorem D188_31 : decode (mB 188) 31 = .ok (.invokevirtual 350, 3) := by decide +kernel
theorem D188_34 : decode (mB 188) 34 = .ok (.lreturn, 1) := by decide +kernel
theorem E139_0 {d : Nat} {S : SS} {I : II} (h0 : (0 : Int) ≤ 0) : ev d 139 0 [(2, 0)] [] S I = ev d 139 8 [(2, 0)] [(2, (S.1 : Int)), (2, 0)] (newS S 7 2) (newI S I) := by
  refine (sx_aload_n D139_0 rfl).trans ?_
  refine (sx_obj (q := (10, 0, 31)) D139_1 (by decide +kernel) rfl h0 (by simp [cat])).trans ?_
  refine (sx_aload_n D139_4 rfl).trans ?_
  refine (sx_newobj (q := (7, 34)) D139_5 (by decide +kernel)).trans ?_
  exact rfl
theorem E139_8 {d : Nat} {S : SS} {I : II} (h0 : (0 : Int) ≤ 1) : ev (d + 1) 139 8 [(2, 0)] [(2, 1), (2, 0)] S I = (ev d 132 0 [(2, 1)] [] S I).bind (fun q => ev (d + 1) 139 12 [(2, 0)] (psh q.1 [(2, 1), (2, 0)]) q.2.1 q.2.2) := by
  refine (sx_dup D139_8 (by decide)).trans ?_
  exact sx_spec (ag := [(2, 1)]) (r := [(2, 1), (2, 0)]) (al' := [(2, 1)]) (np := 0) (nl := 1) (q := (5, 132, 36)) D139_9 (by decide +kernel) (by decide) mP_132 mL_132 (Nat.le_of_ble_eq_true rfl) rfl rfl (by simp [cat]) h0 rfl rfl
theorem E139_12 {d : Nat} {S : SS} {I : II} (h0 : (0 : Int) ≤ 1) (h1 : KO S 0 8) : ev d 139 12 [(2, 0)] [(2, 1), (2, 0)] S I = ev d 139 15 [(2, 0)] [] (S.1, S.2.1, S.2.2.1, up2 (sG S) 0 0 1) I := by
  refine (sx_pfR (q := (8, 0, 0, 287)) (j := 0) D139_12 (by decide +kernel) (by decide +kernel) (by decide) h1 h0 rfl).trans ?_
  exact rfl
theorem E139_15 {d : Nat} {S : SS} {I : II}  : ev d 139 15 [(2, 0)] [] S I = ev d 139 19 [(2, 0)] [(2, (S.1 : Int)), (2, 0)] (newS S 5 2) (newI S I) := by
  refine (sx_aload_n D139_15 rfl).trans ?_
  refine (sx_newobj (q := (5, 50)) D139_16 (by decide +kernel)).trans ?_
  exact rfl
theorem E139_19 {d : Nat} {S : SS} {I : II} (h0 : (0 : Int) ≤ 3) : ev (d + 1) 139 19 [(2, 0)] [(2, 3), (2, 0)] S I = (ev d 108 0 [(2, 3)] [] S I).bind (fun q => ev (d + 1) 139 23 [(2, 0)] (psh q.1 [(2, 3), (2, 0)]) q.2.1 q.2.2) := by
  refine (sx_dup D139_19 (by decide)).trans ?_
  exact sx_spec (ag := [(2, 3)]) (r := [(2, 3), (2, 0)]) (al' := [(2, 3)]) (np := 0) (nl := 1) (q := (5, 108, 52)) D139_20 (by decide +kernel) (by decide) mP_108 mL_108 (Nat.le_of_ble_eq_true rfl) rfl rfl (by simp [cat]) h0 rfl rfl
theorem E139_23 {d : Nat} {S : SS} {I : II} (h0 : (0 : Int) ≤ 3) (h1 : KO S 0 8) : ev d 139 23 [(2, 0)] [(2, 3), (2, 0)] S I = ev d 139 26 [(2, 0)] [] (S.1, S.2.1, S.2.2.1, up2 (sG S) 0 1 3) I := by
  refine (sx_pfR (q := (8, 1, 0, 288)) (j := 1) D139_23 (by decide +kernel) (by decide +kernel) (by decide) h1 h0 rfl).trans ?_
  exact rfl
theorem E139_26 {d : Nat} {S : SS} {I : II}  : ev d 139 26 [(2, 0)] [] S I = ev d 139 30 [(2, 0)] [(2, (S.1 : Int)), (2, 0)] (newS S 1 17) (newI S I) := by
  refine (sx_aload_n D139_26 rfl).trans ?_
  refine (sx_newobj (q := (1, 65)) D139_27 (by decide +kernel)).trans ?_
  exact rfl
theorem E139_30 {d : Nat} {s1 : Int} {S : SS} {I : II} (h0 : (0 : Int) ≤ s1) : ev (d + 1) 139 30 [(2, 0)] [(2, s1), (2, 0)] S I = (ev d 14 0 [(2, s1), uU] [] S I).bind (fun q => ev (d + 1) 139 34 [(2, 0)] (psh q.1 [(2, s1), (2, 0)]) q.2.1 q.2.2) := by
  refine (sx_dup D139_30 (by decide)).trans ?_
  exact sx_spec (ag := [(2, s1)]) (r := [(2, s1), (2, 0)]) (al' := [(2, s1), uU]) (np := 0) (nl := 2) (q := (2, 14, 67)) D139_31 (by decide +kernel) (by decide) mP_14 mL_14 (Nat.le_of_ble_eq_true rfl) rfl rfl (by simp [cat]) h0 rfl rfl
theorem E139_34 {d : Nat} {s1 : Int} {S : SS} {I : II} (h0 : (0 : Int) ≤ s1) (h1 : KO S 0 8) : ev d 139 34 [(2, 0)] [(2, s1), (2, 0)] S I = ev d 139 37 [(2, 0)] [] (S.1, S.2.1, S.2.2.1, up2 (sG S) 0 2 s1) I := by
  refine (sx_pfR (q := (8, 2, 0, 289)) (j := 2) D139_34 (by decide +kernel) (by decide +kernel) (by decide) h1 h0 rfl).trans ?_
  exact rfl
theorem E139_37 {d : Nat} {S : SS} {I : II}  : ev d 139 37 [(2, 0)] [] S I = ev d 139 41 [(2, 0)] [(2, (S.1 : Int)), (2, 0)] (newS S 1 17) (newI S I) := by
  refine (sx_aload_n D139_37 rfl).trans ?_
  refine (sx_newobj (q := (1, 65)) D139_38 (by decide +kernel)).trans ?_
  exact rfl
theorem E139_41 {d : Nat} {s1 : Int} {S : SS} {I : II} (h0 : (0 : Int) ≤ s1) : ev (d + 1) 139 41 [(2, 0)] [(2, s1), (2, 0)] S I = (ev d 14 0 [(2, s1), uU] [] S I).bind (fun q => ev (d + 1) 139 45 [(2, 0)] (psh q.1 [(2, s1), (2, 0)]) q.2.1 q.2.2) := by
  refine (sx_dup D139_41 (by decide)).trans ?_
  exact sx_spec (ag := [(2, s1)]) (r := [(2, s1), (2, 0)]) (al' := [(2, s1), uU]) (np := 0) (nl := 2) (q := (2, 14, 67)) D139_42 (by decide +kernel) (by decide) mP_14 mL_14 (Nat.le_of_ble_eq_true rfl) rfl rfl (by simp [cat]) h0 rfl rfl
theorem E139_45 {d : Nat} {s1 : Int} {S : SS} {I : II} (h0 : (0 : Int) ≤ s1) (h1 : KO S 0 8) : ev d 139 45 [(2, 0)] [(2, s1), (2, 0)] S I = ev d 139 48 [(2, 0)] [] (S.1, S.2.1, S.2.2.1, up2 (sG S) 0 3 s1) I := by
  refine (sx_pfR (q := (8, 3, 0, 290)) (j := 3) D139_45 (by decide +kernel) (by decide +kernel) (by decide) h1 h0 rfl).trans ?_
  exact rfl
theorem E139_48 {d : Nat} {S : SS} {I : II}  : ev d 139 48 [(2, 0)] [] S I = ev d 139 52 [(2, 0)] [(2, (S.1 : Int)), (2, 0)] (newS S 4 5) (newI S I) := by
  refine (sx_aload_n D139_48 rfl).trans ?_
  refine (sx_newobj (q := (4, 206)) D139_49 (by decide +kernel)).trans ?_
  exact rfl
theorem E139_52 {d : Nat} {S : SS} {I : II} (h0 : (0 : Int) ≤ 67) : ev (d + 1) 139 52 [(2, 0)] [(2, 67), (2, 0)] S I = (ev d 101 0 [(2, 67), uU] [] S I).bind (fun q => ev (d + 1) 139 56 [(2, 0)] (psh q.1 [(2, 67), (2, 0)]) q.2.1 q.2.2) := by
  refine (sx_dup D139_52 (by decide)).trans ?_
  exact sx_spec (ag := [(2, 67)]) (r := [(2, 67), (2, 0)]) (al' := [(2, 67), uU]) (np := 0) (nl := 2) (q := (2, 101, 208)) D139_53 (by decide +kernel) (by decide) mP_101 mL_101 (Nat.le_of_ble_eq_true rfl) rfl rfl (by simp [cat]) h0 rfl rfl
theorem E139_56 {d : Nat} {S : SS} {I : II} (h0 : (0 : Int) ≤ 67) (h1 : KO S 0 8) : ev d 139 56 [(2, 0)] [(2, 67), (2, 0)] S I = ev d 139 59 [(2, 0)] [] (S.1, S.2.1, S.2.2.1, up2 (sG S) 0 4 67) I := by
  refine (sx_pfR (q := (8, 4, 0, 291)) (j := 4) D139_56 (by decide +kernel) (by decide +kernel) (by decide) h1 h0 rfl).trans ?_
  exact rfl
theorem E139_59 {d : Nat} {S : SS} {I : II}  : ev d 139 59 [(2, 0)] [] S I = ev d 139 63 [(2, 0)] [(2, (S.1 : Int)), (2, 0)] (newS S 6 10) (newI S I) := by
  refine (sx_aload_n D139_59 rfl).trans ?_
  refine (sx_newobj (q := (6, 233)) D139_60 (by decide +kernel)).trans ?_
  exact rfl
theorem E139_63 {d : Nat} {s1 : Int} {S : SS} {I : II} (h0 : (0 : Int) ≤ s1) : ev (d + 1) 139 63 [(2, 0)] [(2, s1), (2, 0)] S I = (ev d 115 0 [(2, s1)] [] S I).bind (fun q => ev (d + 1) 139 67 [(2, 0)] (psh q.1 [(2, s1), (2, 0)]) q.2.1 q.2.2) := by
  refine (sx_dup D139_63 (by decide)).trans ?_
  exact sx_spec (ag := [(2, s1)]) (r := [(2, s1), (2, 0)]) (al' := [(2, s1)]) (np := 0) (nl := 1) (q := (5, 115, 235)) D139_64 (by decide +kernel) (by decide) mP_115 mL_115 (Nat.le_of_ble_eq_true rfl) rfl rfl (by simp [cat]) h0 rfl rfl
theorem E139_67 {d : Nat} {s1 : Int} {S : SS} {I : II} (h0 : (0 : Int) ≤ s1) (h1 : KO S 0 8) : ev d 139 67 [(2, 0)] [(2, s1), (2, 0)] S I = ev d 139 70 [(2, 0)] [] (S.1, S.2.1, S.2.2.1, up2 (sG S) 0 5 s1) I := by
  refine (sx_pfR (q := (8, 5, 0, 292)) (j := 5) D139_67 (by decide +kernel) (by decide +kernel) (by decide) h1 h0 rfl).trans ?_
  exact rfl
theorem E139_70 {d : Nat} {S : SS} {I : II}  : ev d 139 70 [(2, 0)] [] S I = ev d 139 74 [(2, 0)] [(2, (S.1 : Int)), (2, 0)] (newS S 6 10) (newI S I) := by
  refine (sx_aload_n D139_70 rfl).trans ?_
  refine (sx_newobj (q := (6, 233)) D139_71 (by decide +kernel)).trans ?_
  exact rfl
theorem E139_74 {d : Nat} {s1 : Int} {S : SS} {I : II} (h0 : (0 : Int) ≤ s1) : ev (d + 1) 139 74 [(2, 0)] [(2, s1), (2, 0)] S I = (ev d 115 0 [(2, s1)] [] S I).bind (fun q => ev (d + 1) 139 78 [(2, 0)] (psh q.1 [(2, s1), (2, 0)]) q.2.1 q.2.2) := by
  refine (sx_dup D139_74 (by decide)).trans ?_
  exact sx_spec (ag := [(2, s1)]) (r := [(2, s1), (2, 0)]) (al' := [(2, s1)]) (np := 0) (nl := 1) (q := (5, 115, 235)) D139_75 (by decide +kernel) (by decide) mP_115 mL_115 (Nat.le_of_ble_eq_true rfl) rfl rfl (by simp [cat]) h0 rfl rfl
theorem E139_78 {d : Nat} {s1 : Int} {S : SS} {I : II} (h0 : (0 : Int) ≤ s1) (h1 : KO S 0 8) : ev d 139 78 [(2, 0)] [(2, s1), (2, 0)] S I = ev d 139 81 [(2, 0)] [] (S.1, S.2.1, S.2.2.1, up2 (sG S) 0 6 s1) I := by
  refine (sx_pfR (q := (8, 6, 0, 293)) (j := 6) D139_78 (by decide +kernel) (by decide +kernel) (by decide) h1 h0 rfl).trans ?_
  exact rfl
theorem E139_81 {d : Nat} {S : SS} {I : II}  : ev d 139 81 [(2, 0)] [] S I = ev d 139 85 [(2, 0)] [(2, (S.1 : Int)), (2, 0)] (newS S 2 3) (newI S I) := by
  refine (sx_aload_n D139_81 rfl).trans ?_
  refine (sx_newobj (q := (2, 270)) D139_82 (by decide +kernel)).trans ?_
  exact rfl
theorem E139_85 {d : Nat} {S : SS} {I : II} (h0 : (0 : Int) ≤ 424) : ev (d + 1) 139 85 [(2, 0)] [(2, 424), (2, 0)] S I = (ev d 65 0 [(2, 424)] [] S I).bind (fun q => ev (d + 1) 139 89 [(2, 0)] (psh q.1 [(2, 424), (2, 0)]) q.2.1 q.2.2) := by
  refine (sx_dup D139_85 (by decide)).trans ?_
  exact sx_spec (ag := [(2, 424)]) (r := [(2, 424), (2, 0)]) (al' := [(2, 424)]) (np := 0) (nl := 1) (q := (5, 65, 272)) D139_86 (by decide +kernel) (by decide) mP_65 mL_65 (Nat.le_of_ble_eq_true rfl) rfl rfl (by simp [cat]) h0 rfl rfl
theorem E139_89 {d : Nat} {S : SS} {I : II} (h0 : (0 : Int) ≤ 424) (h1 : KO S 0 8) : ev d 139 89 [(2, 0)] [(2, 424), (2, 0)] S I = ev d 139 92 [(2, 0)] [] (S.1, S.2.1, S.2.2.1, up2 (sG S) 0 7 424) I := by
  refine (sx_pfR (q := (8, 7, 0, 294)) (j := 7) D139_89 (by decide +kernel) (by decide +kernel) (by decide) h1 h0 rfl).trans ?_
  exact rfl
theorem E139_92 {d : Nat} {S : SS} {I : II}  : ev d 139 92 [(2, 0)] [] S I = some (uU, S, I) := by
  exact sx_return D139_92 (by decide +kernel)
theorem E140_0 {d : Nat} {a1 : Int} {S : SS} {I : II} (h0 : QA S 0) : ev (d + 1) 140 0 [(2, 0), (0, a1)] [] S I = (ev d 133 0 [(2, 1), (0, a1), uU] [] S I).bind (fun q => ev (d + 1) 140 8 [(2, 0), (0, a1)] (psh q.1 []) q.2.1 q.2.2) := by
  refine (sx_aload_n D140_0 rfl).trans ?_
  refine (sx_gfR (q := (8, 0, 0, 287)) (b := 1) D140_1 (by decide +kernel) (by decide +kernel) (by decide) (QA_o h0) (QA_g0 h0)).trans ?_
  refine (sx_iload_n D140_4 rfl).trans ?_
  exact sx_virt (c := 9) (ag := [(2, 1), (0, a1)]) (r := []) (al' := [(2, 1), (0, a1), uU]) (np := 1) (nl := 3) (q := (1, 133, 316)) D140_5 (by decide +kernel) (by decide) mP_133 mL_133 mC_133 (Nat.le_of_ble_eq_true rfl) rfl rfl (by simp [cat]) (by decide) (TA_o (QA_k0 h0)) rfl rfl
theorem E140_8 {d : Nat} {a1 s0 : Int} {S : SS} {I : II}  : ev d 140 8 [(2, 0), (0, a1)] [(0, s0)] S I = some ((0, s0), S, I) := by
  exact sx_ireturn D140_8 (by decide +kernel)
theorem E141_0 {d : Nat} {a1 : Int} {S : SS} {I : II} (h0 : QA S 0) : ev (d + 1) 141 0 [(2, 0), (0, a1)] [] S I = (ev d 134 0 [(2, 1), (0, a1)] [] S I).bind (fun q => ev (d + 1) 141 8 [(2, 0), (0, a1)] (psh q.1 []) q.2.1 q.2.2) := by
  refine (sx_aload_n D141_0 rfl).trans ?_
  refine (sx_gfR (q := (8, 0, 0, 287)) (b := 1) D141_1 (by decide +kernel) (by decide +kernel) (by decide) (QA_o h0) (QA_g0 h0)).trans ?_
  refine (sx_iload_n D141_4 rfl).trans ?_
  exact sx_virt (c := 9) (ag := [(2, 1), (0, a1)]) (r := []) (al' := [(2, 1), (0, a1)]) (np := 1) (nl := 2) (q := (1, 134, 324)) D141_5 (by decide +kernel) (by decide) mP_134 mL_134 mC_134 (Nat.le_of_ble_eq_true rfl) rfl rfl (by simp [cat]) (by decide) (TA_o (QA_k0 h0)) rfl rfl
theorem E141_8 {d : Nat} {a1 s0 : Int} {S : SS} {I : II} (h0 : s0 = 0 ∨ s0 = 1) : ev d 141 8 [(2, 0), (0, a1)] [(0, s0)] S I = some ((0, s0), S, I) := by
  exact sx_zreturn D141_8 (by decide +kernel) h0
theorem E142_0 {d : Nat} {S : SS} {I : II} (h0 : QA S 0) : ev (d + 1) 142 0 [(2, 0), uU, uU] [] S I = (ev d 143 0 [(2, 0), uU] [] S I).bind (fun q => ev (d + 1) 142 4 [(2, 0), uU, uU] (psh q.1 []) q.2.1 q.2.2) := by
  refine (sx_aload_n D142_0 rfl).trans ?_
  exact sx_virt (c := 10) (ag := [(2, 0)]) (r := []) (al' := [(2, 0), uU]) (np := 0) (nl := 2) (q := (1, 143, 332)) D142_1 (by decide +kernel) (by decide) mP_143 mL_143 mC_143 (Nat.le_of_ble_eq_true rfl) rfl rfl (by simp [cat]) (by decide) (QA_o h0) rfl rfl
theorem E142_4 {d : Nat} {s0 : Int} {S : SS} {I : II} (h0 : QA S 0) : ev (d + 1) 142 4 [(2, 0), uU, uU] [(0, s0)] S I = if w s0 = (-1) then ((ev d 136 0 [(2, 1), (0, 0)] [] S I).bind (fun q => ev (d + 1) 142 26 [(2, 0), (0, s0), (0, (-1) - s0)] (psh q.1 [(2, 5)]) q.2.1 q.2.2)) else (ev (d + 1) 142 65 [(2, 0), (0, s0), (0, (-1) - s0)] [] S I) := by
  refine (sx_istore_n (al' := [(2, 0), (0, s0), uU]) D142_4 (Nat.le_of_ble_eq_true rfl) rfl rfl).trans ?_
  refine (sx_iconst D142_5).trans ?_
  refine (sx_iload_n D142_6 rfl).trans ?_
  refine (sx_isub D142_7).trans ?_
  refine (sx_istore_n (al' := [(2, 0), (0, s0), (0, (-1) - s0)]) D142_8 (Nat.le_of_ble_eq_true rfl) rfl rfl).trans ?_
  refine (sx_iload_n D142_9 rfl).trans ?_
  refine (sx_iconst D142_10).trans ?_
  refine sx_if_ne (pc' := 65) D142_11 (by decide) (by decide) ?_ ?_ rfl (w_small (by decide) (by decide))
  · refine (sx_aload_n D142_14 rfl).trans ?_
    refine (sx_gfR (q := (8, 2, 0, 289)) (b := 5) D142_15 (by decide +kernel) (by decide +kernel) (by decide) (QA_o h0) (QA_g2 h0)).trans ?_
    refine (sx_aload_n D142_18 rfl).trans ?_
    refine (sx_gfR (q := (8, 0, 0, 287)) (b := 1) D142_19 (by decide +kernel) (by decide +kernel) (by decide) (QA_o h0) (QA_g0 h0)).trans ?_
    refine (sx_iconst D142_22).trans ?_
    exact sx_virt (c := 9) (ag := [(2, 1), (0, 0)]) (r := [(2, 5)]) (al' := [(2, 1), (0, 0)]) (np := 1) (nl := 2) (q := (1, 136, 343)) D142_23 (by decide +kernel) (by decide) mP_136 mL_136 mC_136 (Nat.le_of_ble_eq_true rfl) rfl rfl (by simp [cat]) (by decide) (TA_o (QA_k0 h0)) rfl rfl
  · exact rfl
theorem E142_26 {d : Nat} {a1 a2 s0 s1 : Int} {S : SS} {I : II} (h0 : QA S 0) : ev (d + 1) 142 26 [(2, 0), (0, a1), (0, a2)] [(0, s1), (2, s0)] S I = (ev d 136 0 [(2, 1), (0, 1)] [] S I).bind (fun q => ev (d + 1) 142 34 [(2, 0), (0, a1), (0, a2)] (psh q.1 [(0, s1), (2, s0)]) q.2.1 q.2.2) := by
  refine (sx_aload_n D142_26 rfl).trans ?_
  refine (sx_gfR (q := (8, 0, 0, 287)) (b := 1) D142_27 (by decide +kernel) (by decide +kernel) (by decide) (QA_o h0) (QA_g0 h0)).trans ?_
  refine (sx_iconst D142_30).trans ?_
  exact sx_virt (c := 9) (ag := [(2, 1), (0, 1)]) (r := [(0, s1), (2, s0)]) (al' := [(2, 1), (0, 1)]) (np := 1) (nl := 2) (q := (1, 136, 343)) D142_31 (by decide +kernel) (by decide) mP_136 mL_136 mC_136 (Nat.le_of_ble_eq_true rfl) rfl rfl (by simp [cat]) (by decide) (TA_o (QA_k0 h0)) rfl rfl
theorem E142_34 {d : Nat} {a1 a2 s0 s1 s2 : Int} {S : SS} {I : II} (h0 : QA S 0) : ev (d + 1) 142 34 [(2, 0), (0, a1), (0, a2)] [(0, s2), (0, s1), (2, s0)] S I = (ev d 135 0 [(2, 1), (0, 2)] [] S I).bind (fun q => ev (d + 1) 142 42 [(2, 0), (0, a1), (0, a2)] (psh q.1 [(0, s2), (0, s1), (2, s0)]) q.2.1 q.2.2) := by
  refine (sx_aload_n D142_34 rfl).trans ?_
  refine (sx_gfR (q := (8, 0, 0, 287)) (b := 1) D142_35 (by decide +kernel) (by decide +kernel) (by decide) (QA_o h0) (QA_g0 h0)).trans ?_
  refine (sx_iconst D142_38).trans ?_
  exact sx_virt (c := 9) (ag := [(2, 1), (0, 2)]) (r := [(0, s2), (0, s1), (2, s0)]) (al' := [(2, 1), (0, 2)]) (np := 1) (nl := 2) (q := (1, 135, 336)) D142_39 (by decide +kernel) (by decide) mP_135 mL_135 mC_135 (Nat.le_of_ble_eq_true rfl) rfl rfl (by simp [cat]) (by decide) (TA_o (QA_k0 h0)) rfl rfl
theorem E142_42 {d : Nat} {a1 a2 s0 s1 s2 s3 : Int} {S : SS} {I : II}  : ev (d + 1) 142 42 [(2, 0), (0, a1), (0, a2)] [(0, s3), (0, s2), (0, s1), (2, s0)] S I = (ev d 144 0 [(0, s3)] [] S I).bind (fun q => ev (d + 1) 142 45 [(2, 0), (0, a1), (0, a2)] (psh q.1 [(0, s2), (0, s1), (2, s0)]) q.2.1 q.2.2) := by
  exact sx_stat (ag := [(0, s3)]) (r := [(0, s2), (0, s1), (2, s0)]) (al' := [(0, s3)]) (np := 1) (nl := 1) (q := (0, 144, 340)) D142_42 (by decide +kernel) (by decide) mP_144 mL_144 (Nat.le_of_ble_eq_true rfl) rfl rfl (by simp [cat]) rfl rfl
theorem E142_45 {d : Nat} {a1 a2 s0 s1 s2 s3 : Int} {S : SS} {I : II} (h0 : QA S 0) : ev d 142 45 [(2, 0), (0, a1), (0, a2)] [(0, s3), (0, s2), (0, s1), (2, s0)] S I = if 3 < w (I 1 1) then (ev d 142 61 [(2, 0), (0, a1), (0, a2)] [(0, 1), (0, s3), (0, s2), (0, s1), (2, s0)] S I) else (ev d 142 61 [(2, 0), (0, a1), (0, a2)] [(0, 0), (0, s3), (0, s2), (0, s1), (2, s0)] S I) := by
  refine (sx_aload_n D142_45 rfl).trans ?_
  refine (sx_gfR (q := (8, 0, 0, 287)) (b := 1) D142_46 (by decide +kernel) (by decide +kernel) (by decide) (QA_o h0) (QA_g0 h0)).trans ?_
  refine (sx_gfI (q := (7, 1, 1, 43)) (j := 1) D142_49 (by decide +kernel) (by decide +kernel) (by decide) (TA_o (QA_k0 h0)) rfl rfl).trans ?_
  refine (sx_iconst D142_52).trans ?_
  refine sx_if_le (pc' := 60) D142_53 (by decide) (by decide) ?_ ?_ rfl (w_small (by decide) (by decide))
  · refine (sx_iconst D142_56).trans ?_
    refine (sx_goto (pc' := 61) D142_57 (by decide) (by decide)).trans ?_
    exact rfl
  · refine (sx_iconst D142_60).trans ?_
    exact rfl
theorem E142_61 {d : Nat} {a1 a2 s0 s1 s2 s3 s4 : Int} {S : SS} {I : II} (h0 : DA S s0) : ev (d + 1) 142 61 [(2, 0), (0, a1), (0, a2)] [(0, s4), (0, s3), (0, s2), (0, s1), (2, s0)] S I = (ev d 15 0 [(2, s0), (0, s1), (0, s2), (0, s3), (0, s4), uU] [] S I).bind (fun q => ev (d + 1) 142 64 [(2, 0), (0, a1), (0, a2)] (psh q.1 []) q.2.1 q.2.2) := by
  exact sx_virt (c := 3) (ag := [(2, s0), (0, s1), (0, s2), (0, s3), (0, s4)]) (r := []) (al' := [(2, s0), (0, s1), (0, s2), (0, s3), (0, s4), uU]) (np := 4) (nl := 6) (q := (1, 15, 348)) D142_61 (by decide +kernel) (by decide) mP_15 mL_15 mC_15 (Nat.le_of_ble_eq_true rfl) rfl rfl (by simp [cat]) (by decide) (DA_o h0) rfl rfl
theorem E142_64 {d : Nat} {a1 a2 s0 : Int} {S : SS} {I : II}  : ev d 142 64 [(2, 0), (0, a1), (0, a2)] [(0, s0)] S I = ev d 142 65 [(2, 0), (0, a1), (0, s0)] [] S I := by
  refine (sx_istore_n (al' := [(2, 0), (0, a1), (0, s0)]) D142_64 (Nat.le_of_ble_eq_true rfl) rfl rfl).trans ?_
  exact rfl
theorem E142_65 {d : Nat} {a1 a2 : Int} {S : SS} {I : II} (h0 : QA S 0) : ev (d + 1) 142 65 [(2, 0), (0, a1), (0, a2)] [] S I = (ev d 137 0 [(2, 1)] [] S I).bind (fun q => ev (d + 1) 142 72 [(2, 0), (0, a1), (0, a2)] (psh q.1 []) q.2.1 q.2.2) := by
  refine (sx_aload_n D142_65 rfl).trans ?_
  refine (sx_gfR (q := (8, 0, 0, 287)) (b := 1) D142_66 (by decide +kernel) (by decide +kernel) (by decide) (QA_o h0) (QA_g0 h0)).trans ?_
  exact sx_virt (c := 9) (ag := [(2, 1)]) (r := []) (al' := [(2, 1)]) (np := 0) (nl := 1) (q := (1, 137, 352)) D142_69 (by decide +kernel) (by decide) mP_137 mL_137 mC_137 (Nat.le_of_ble_eq_true rfl) rfl rfl (by simp [cat]) (by decide) (TA_o (QA_k0 h0)) rfl rfl
theorem E142_72 {d : Nat} {a1 a2 : Int} {S : SS} {I : II} (h0 : QA S 0) : ev (d + 1) 142 72 [(2, 0), (0, a1), (0, a2)] [] S I = if w a2 < 0 then (ev (d + 1) 142 83 [(2, 0), (0, a1), (0, a2)] [] S I) else ((ev d 102 0 [(2, 67)] [] S I).bind (fun q => ev (d + 1) 142 83 [(2, 0), (0, a1), (0, a2)] (psh q.1 []) q.2.1 q.2.2)) := by
  refine (sx_iload_n D142_72 rfl).trans ?_
  refine sx_i0_lt (pc' := 83) D142_73 (by decide) (by decide) ?_ ?_ rfl
  · exact rfl
  · refine (sx_aload_n D142_76 rfl).trans ?_
    refine (sx_gfR (q := (8, 4, 0, 291)) (b := 67) D142_77 (by decide +kernel) (by decide +kernel) (by decide) (QA_o h0) (QA_g4 h0)).trans ?_
    exact sx_virt (c := 6) (ag := [(2, 67)]) (r := []) (al' := [(2, 67)]) (np := 0) (nl := 1) (q := (1, 102, 356)) D142_80 (by decide +kernel) (by decide) mP_102 mL_102 mC_102 (Nat.le_of_ble_eq_true rfl) rfl rfl (by simp [cat]) (by decide) (PA_o (QA_k4 h0)) rfl rfl
theorem E142_83 {d : Nat} {a1 a2 : Int} {S : SS} {I : II}  : ev d 142 83 [(2, 0), (0, a1), (0, a2)] [] S I = some ((0, a2), S, I) := by
  refine (sx_iload_n D142_83 rfl).trans ?_
  exact sx_ireturn D142_84 (by decide +kernel)
theorem E143_0 {d : Nat} {S : SS} {I : II}  : ev d 143 0 [(2, 0), uU] [] S I = ev d 143 2 [(2, 0), (0, 0)] [] S I := by
  refine (sx_iconst D143_0).trans ?_
  refine (sx_istore_n (al' := [(2, 0), (0, 0)]) D143_1 (Nat.le_of_ble_eq_true rfl) rfl rfl).trans ?_
  exact rfl
theorem E143_2 {d : Nat} {a1 : Int} {S : SS} {I : II} (h0 : QA S 0) : ev (d + 1) 143 2 [(2, 0), (0, a1)] [] S I = if w a1 < 2 then ((ev d 135 0 [(2, 1), (0, a1)] [] S I).bind (fun q => ev (d + 1) 143 15 [(2, 0), (0, a1)] (psh q.1 []) q.2.1 q.2.2)) else ((ev d 135 0 [(2, 1), (0, 2)] [] S I).bind (fun q => ev (d + 1) 143 49 [(2, 0), (0, a1)] (psh q.1 []) q.2.1 q.2.2)) := by
  refine (sx_iload_n D143_2 rfl).trans ?_
  refine (sx_iconst D143_3).trans ?_
  refine sx_if_ge (pc' := 41) D143_4 (by decide) (by decide) ?_ ?_ rfl (w_small (by decide) (by decide))
  · refine (sx_aload_n D143_7 rfl).trans ?_
    refine (sx_gfR (q := (8, 0, 0, 287)) (b := 1) D143_8 (by decide +kernel) (by decide +kernel) (by decide) (QA_o h0) (QA_g0 h0)).trans ?_
    refine (sx_iload_n D143_11 rfl).trans ?_
    exact sx_virt (c := 9) (ag := [(2, 1), (0, a1)]) (r := []) (al' := [(2, 1), (0, a1)]) (np := 1) (nl := 2) (q := (1, 135, 336)) D143_12 (by decide +kernel) (by decide) mP_135 mL_135 mC_135 (Nat.le_of_ble_eq_true rfl) rfl rfl (by simp [cat]) (by decide) (TA_o (QA_k0 h0)) rfl rfl
  · refine (sx_aload_n D143_41 rfl).trans ?_
    refine (sx_gfR (q := (8, 0, 0, 287)) (b := 1) D143_42 (by decide +kernel) (by decide +kernel) (by decide) (QA_o h0) (QA_g0 h0)).trans ?_
    refine (sx_iconst D143_45).trans ?_
    exact sx_virt (c := 9) (ag := [(2, 1), (0, 2)]) (r := []) (al' := [(2, 1), (0, 2)]) (np := 1) (nl := 2) (q := (1, 135, 336)) D143_46 (by decide +kernel) (by decide) mP_135 mL_135 mC_135 (Nat.le_of_ble_eq_true rfl) rfl rfl (by simp [cat]) (by decide) (TA_o (QA_k0 h0)) rfl rfl
theorem E143_15 {d : Nat} {a1 s0 : Int} {S : SS} {I : II} (h0 : QA S 0) : ev (d + 1) 143 15 [(2, 0), (0, a1)] [(0, s0)] S I = if w s0 < 50 then (ev (d + 1) 143 33 [(2, 0), (0, a1)] [] S I) else ((ev d 135 0 [(2, 1), (0, a1)] [] S I).bind (fun q => ev (d + 1) 143 28 [(2, 0), (0, a1)] (psh q.1 []) q.2.1 q.2.2)) := by
  refine (sx_bipush D143_15 (by decide)).trans ?_
  refine sx_if_lt (pc' := 33) D143_17 (by decide) (by decide) ?_ ?_ rfl (w_small (by decide) (by decide))
  · exact rfl
  · refine (sx_aload_n D143_20 rfl).trans ?_
    refine (sx_gfR (q := (8, 0, 0, 287)) (b := 1) D143_21 (by decide +kernel) (by decide +kernel) (by decide) (QA_o h0) (QA_g0 h0)).trans ?_
    refine (sx_iload_n D143_24 rfl).trans ?_
    exact sx_virt (c := 9) (ag := [(2, 1), (0, a1)]) (r := []) (al' := [(2, 1), (0, a1)]) (np := 1) (nl := 2) (q := (1, 135, 336)) D143_25 (by decide +kernel) (by decide) mP_135 mL_135 mC_135 (Nat.le_of_ble_eq_true rfl) rfl rfl (by simp [cat]) (by decide) (TA_o (QA_k0 h0)) rfl rfl
theorem E143_28 {d : Nat} {a1 s0 : Int} {S : SS} {I : II}  : ev d 143 28 [(2, 0), (0, a1)] [(0, s0)] S I = if 56 < w s0 then (ev d 143 33 [(2, 0), (0, a1)] [] S I) else (ev d 143 2 [(2, 0), (0, a1 + 1)] [] S I) := by
  refine (sx_bipush D143_28 (by decide)).trans ?_
  refine sx_if_le (pc' := 35) D143_30 (by decide) (by decide) ?_ ?_ rfl (w_small (by decide) (by decide))
  · exact rfl
  · refine (sx_iinc (al' := [(2, 0), (0, a1 + 1)]) D143_35 rfl rfl).trans ?_
    refine (sx_goto (pc' := 2) D143_38 (by decide) (by decide)).trans ?_
    exact rfl
theorem E143_33 {d : Nat} {a1 : Int} {S : SS} {I : II}  : ev d 143 33 [(2, 0), (0, a1)] [] S I = some ((0, a1), S, I) := by
  refine (sx_iload_n D143_33 rfl).trans ?_
  exact sx_ireturn D143_34 (by decide +kernel)
theorem E143_49 {d : Nat} {a1 s0 : Int} {S : SS} {I : II}  : ev (d + 1) 143 49 [(2, 0), (0, a1)] [(0, s0)] S I = (ev d 144 0 [(0, s0)] [] S I).bind (fun q => ev (d + 1) 143 52 [(2, 0), (0, a1)] (psh q.1 []) q.2.1 q.2.2) := by
  exact sx_stat (ag := [(0, s0)]) (r := []) (al' := [(0, s0)]) (np := 1) (nl := 1) (q := (0, 144, 340)) D143_49 (by decide +kernel) (by decide) mP_144 mL_144 (Nat.le_of_ble_eq_true rfl) rfl rfl (by simp [cat]) rfl rfl
theorem E143_52 {d : Nat} {a1 s0 : Int} {S : SS} {I : II} (h0 : QA S 0) : ev (d + 1) 143 52 [(2, 0), (0, a1)] [(0, s0)] S I = if w s0 = (-1) then (some ((0, 2), S, I)) else (if 3 < w (I 1 1) then ((ev d 135 0 [(2, 1), (0, 3)] [] S I).bind (fun q => ev (d + 1) 143 77 [(2, 0), (0, a1)] (psh q.1 []) q.2.1 q.2.2)) else (ev (d + 1) 143 84 [(2, 0), (0, a1)] [] S I)) := by
  refine (sx_iconst D143_52).trans ?_
  refine sx_if_ne (pc' := 58) D143_53 (by decide) (by decide) ?_ ?_ rfl (w_small (by decide) (by decide))
  · refine (sx_iconst D143_56).trans ?_
    exact sx_ireturn D143_57 (by decide +kernel)
  · refine (sx_aload_n D143_58 rfl).trans ?_
    refine (sx_gfR (q := (8, 0, 0, 287)) (b := 1) D143_59 (by decide +kernel) (by decide +kernel) (by decide) (QA_o h0) (QA_g0 h0)).trans ?_
    refine (sx_gfI (q := (7, 1, 1, 43)) (j := 1) D143_62 (by decide +kernel) (by decide +kernel) (by decide) (TA_o (QA_k0 h0)) rfl rfl).trans ?_
    refine (sx_iconst D143_65).trans ?_
    refine sx_if_le (pc' := 84) D143_66 (by decide) (by decide) ?_ ?_ rfl (w_small (by decide) (by decide))
    · refine (sx_aload_n D143_69 rfl).trans ?_
      refine (sx_gfR (q := (8, 0, 0, 287)) (b := 1) D143_70 (by decide +kernel) (by decide +kernel) (by decide) (QA_o h0) (QA_g0 h0)).trans ?_
      refine (sx_iconst D143_73).trans ?_
      exact sx_virt (c := 9) (ag := [(2, 1), (0, 3)]) (r := []) (al' := [(2, 1), (0, 3)]) (np := 1) (nl := 2) (q := (1, 135, 336)) D143_74 (by decide +kernel) (by decide) mP_135 mL_135 mC_135 (Nat.le_of_ble_eq_true rfl) rfl rfl (by simp [cat]) (by decide) (TA_o (QA_k0 h0)) rfl rfl
    · exact rfl
theorem E143_77 {d : Nat} {a1 s0 : Int} {S : SS} {I : II}  : ev d 143 77 [(2, 0), (0, a1)] [(0, s0)] S I = if w s0 = 115 then (ev d 143 84 [(2, 0), (0, a1)] [] S I) else (some ((0, 3), S, I)) := by
  refine (sx_bipush D143_77 (by decide)).trans ?_
  refine sx_if_eq (pc' := 84) D143_79 (by decide) (by decide) ?_ ?_ rfl (w_small (by decide) (by decide))
  · exact rfl
  · refine (sx_iconst D143_82).trans ?_
    exact sx_ireturn D143_83 (by decide +kernel)
theorem E143_84 {d : Nat} {a1 : Int} {S : SS} {I : II} (h0 : QA S 0) : ev d 143 84 [(2, 0), (0, a1)] [] S I = if 4 < w (I 1 1) then (ev d 143 100 [(2, 0), (0, a1)] [(0, 4)] S I) else (ev d 143 100 [(2, 0), (0, a1)] [(0, (-1))] S I) := by
  refine (sx_aload_n D143_84 rfl).trans ?_
  refine (sx_gfR (q := (8, 0, 0, 287)) (b := 1) D143_85 (by decide +kernel) (by decide +kernel) (by decide) (QA_o h0) (QA_g0 h0)).trans ?_
  refine (sx_gfI (q := (7, 1, 1, 43)) (j := 1) D143_88 (by decide +kernel) (by decide +kernel) (by decide) (TA_o (QA_k0 h0)) rfl rfl).trans ?_
  refine (sx_iconst D143_91).trans ?_
  refine sx_if_le (pc' := 99) D143_92 (by decide) (by decide) ?_ ?_ rfl (w_small (by decide) (by decide))
  · refine (sx_iconst D143_95).trans ?_
    refine (sx_goto (pc' := 100) D143_96 (by decide) (by decide)).trans ?_
    exact rfl
  · refine (sx_iconst D143_99).trans ?_
    exact rfl
theorem E143_100 {d : Nat} {a1 s0 : Int} {S : SS} {I : II}  : ev d 143 100 [(2, 0), (0, a1)] [(0, s0)] S I = some ((0, s0), S, I) := by
  exact sx_ireturn D143_100 (by decide +kernel)
theorem E144_0 {d : Nat} {a0 : Int} {S : SS} {I : II}  : ev d 144 0 [(0, a0)] [] S I = if w a0 = 104 then (some ((0, 1), S, I)) else (if w a0 = 108 then (some ((0, 3), S, I)) else (if w a0 = 109 then (some ((0, 2), S, I)) else (if w a0 = 117 then (some ((0, 0), S, I)) else (some ((0, (-1)), S, I))))) := by
  refine (sx_iload_n D144_0 rfl).trans ?_
  refine ite_go (c := w a0 = 104) (fun x1 => ?_) (fun x1 => ?_)
  · refine (sx_lsw (pc' := 46) D144_1 (by decide) (by rw [(rfl).trans x1]) (by decide) (by decide)).trans ?_
    refine (sx_iconst D144_46).trans ?_
    exact sx_ireturn D144_47 (by decide +kernel)
  refine ite_go (c := w a0 = 108) (fun x2 => ?_) (fun x2 => ?_)
  · refine (sx_lsw (pc' := 50) D144_1 (by decide) (by rw [(rfl).trans x2]) (by decide) (by decide)).trans ?_
    refine (sx_iconst D144_50).trans ?_
    exact sx_ireturn D144_51 (by decide +kernel)
  refine ite_go (c := w a0 = 109) (fun x3 => ?_) (fun x3 => ?_)
  · refine (sx_lsw (pc' := 48) D144_1 (by decide) (by rw [(rfl).trans x3]) (by decide) (by decide)).trans ?_
    refine (sx_iconst D144_48).trans ?_
    exact sx_ireturn D144_49 (by decide +kernel)
  refine ite_go (c := w a0 = 117) (fun x4 => ?_) (fun x4 => ?_)
  · refine (sx_lsw (pc' := 44) D144_1 (by decide) (by rw [(rfl).trans x4]) (by decide) (by decide)).trans ?_
    refine (sx_iconst D144_44).trans ?_
    exact sx_ireturn D144_45 (by decide +kernel)
  refine (sx_lsw (pc' := 52) (o := 51) D144_1 (by decide) (by rw [show w _ = _ from rfl]; simp [Op.lookupswitch.offset, Ne.symm x1, Ne.symm x2, Ne.symm x3, Ne.symm x4]) (by decide) (by decide)).trans ?_
  refine (sx_iconst D144_52).trans ?_
  exact sx_ireturn D144_53 (by decide +kernel)
theorem E145_0 {d : Nat} {S : SS} {I : II} (h0 : QA S 0) : ev (d + 1) 145 0 [(2, 0), uU] [] S I = (ev d 116 0 [(2, 418), (2, 1), uU, uU] [] S I).bind (fun q => ev (d + 1) 145 11 [(2, 0), uU] (psh q.1 []) q.2.1 q.2.2) := by
  refine (sx_aload_n D145_0 rfl).trans ?_
  refine (sx_gfR (q := (8, 6, 0, 293)) (b := 418) D145_1 (by decide +kernel) (by decide +kernel) (by decide) (QA_o h0) (QA_g6 h0)).trans ?_
  refine (sx_aload_n D145_4 rfl).trans ?_
  refine (sx_gfR (q := (8, 0, 0, 287)) (b := 1) D145_5 (by decide +kernel) (by decide +kernel) (by decide) (QA_o h0) (QA_g0 h0)).trans ?_
  exact sx_virt (c := 8) (ag := [(2, 418), (2, 1)]) (r := []) (al' := [(2, 418), (2, 1), uU, uU]) (np := 1) (nl := 4) (q := (1, 116, 364)) D145_8 (by decide +kernel) (by decide) mP_116 mL_116 mC_116 (Nat.le_of_ble_eq_true rfl) rfl rfl (by simp [cat]) (by decide) (UA_o (QA_k6 h0)) rfl rfl
theorem E145_11 {d : Nat} {s0 : Int} {S : SS} {I : II} (h0 : QA S 0) : ev (d + 1) 145 11 [(2, 0), uU] [(0, s0)] S I = (ev d 137 0 [(2, 1)] [] S I).bind (fun q => ev (d + 1) 145 19 [(2, 0), (0, s0)] (psh q.1 []) q.2.1 q.2.2) := by
  refine (sx_istore_n (al' := [(2, 0), (0, s0)]) D145_11 (Nat.le_of_ble_eq_true rfl) rfl rfl).trans ?_
  refine (sx_aload_n D145_12 rfl).trans ?_
  refine (sx_gfR (q := (8, 0, 0, 287)) (b := 1) D145_13 (by decide +kernel) (by decide +kernel) (by decide) (QA_o h0) (QA_g0 h0)).trans ?_
  exact sx_virt (c := 9) (ag := [(2, 1)]) (r := []) (al' := [(2, 1)]) (np := 0) (nl := 1) (q := (1, 137, 352)) D145_16 (by decide +kernel) (by decide) mP_137 mL_137 mC_137 (Nat.le_of_ble_eq_true rfl) rfl rfl (by simp [cat]) (by decide) (TA_o (QA_k0 h0)) rfl rfl
theorem E145_19 {d : Nat} {a1 : Int} {S : SS} {I : II} (h0 : QA S 0) : ev (d + 1) 145 19 [(2, 0), (0, a1)] [] S I = if w a1 = 0 then ((ev d 127 0 [(2, 412), (2, 418)] [] S I).bind (fun q => ev (d + 1) 145 34 [(2, 0), (0, a1)] (psh q.1 []) q.2.1 q.2.2)) else (ev (d + 1) 145 34 [(2, 0), (0, a1)] [] S I) := by
  refine (sx_iload_n D145_19 rfl).trans ?_
  refine sx_i0_ne (pc' := 34) D145_20 (by decide) (by decide) ?_ ?_ rfl
  · refine (sx_aload_n D145_23 rfl).trans ?_
    refine (sx_gfR (q := (8, 5, 0, 292)) (b := 412) D145_24 (by decide +kernel) (by decide +kernel) (by decide) (QA_o h0) (QA_g5 h0)).trans ?_
    refine (sx_aload_n D145_27 rfl).trans ?_
    refine (sx_gfR (q := (8, 6, 0, 293)) (b := 418) D145_28 (by decide +kernel) (by decide +kernel) (by decide) (QA_o h0) (QA_g6 h0)).trans ?_
    exact sx_virt (c := 8) (ag := [(2, 412), (2, 418)]) (r := []) (al' := [(2, 412), (2, 418)]) (np := 1) (nl := 2) (q := (1, 127, 496)) D145_31 (by decide +kernel) (by decide) mP_127 mL_127 mC_127 (Nat.le_of_ble_eq_true rfl) rfl rfl (by simp [cat]) (by decide) (UA_o (QA_k5 h0)) rfl rfl
  · exact rfl
theorem E145_34 {d : Nat} {a1 : Int} {S : SS} {I : II}  : ev d 145 34 [(2, 0), (0, a1)] [] S I = some ((0, a1), S, I) := by
  refine (sx_iload_n D145_34 rfl).trans ?_
  exact sx_ireturn D145_35 (by decide +kernel)
theorem E146_0 {d : Nat} {a1 a2 a3 a4 : Int} {S : SS} {I : II} (h0 : QA S 0) : ev (d + 1) 146 0 [(2, 0), (0, a1), (0, a2), (0, a3), (0, a4)] [] S I = (ev d 16 0 [(2, 5), (0, a1), (0, a2), (0, a3), (0, a4), uU, uU] [] S I).bind (fun q => ev (d + 1) 146 12 [(2, 0), (0, a1), (0, a2), (0, a3), (0, a4)] (psh q.1 []) q.2.1 q.2.2) := by
  refine (sx_aload_n D146_0 rfl).trans ?_
  refine (sx_gfR (q := (8, 2, 0, 289)) (b := 5) D146_1 (by decide +kernel) (by decide +kernel) (by decide) (QA_o h0) (QA_g2 h0)).trans ?_
  refine (sx_iload_n D146_4 rfl).trans ?_
  refine (sx_iload_n D146_5 rfl).trans ?_
  refine (sx_iload_n D146_6 rfl).trans ?_
  refine (sx_iload D146_7 rfl).trans ?_
  exact sx_virt (c := 3) (ag := [(2, 5), (0, a1), (0, a2), (0, a3), (0, a4)]) (r := []) (al' := [(2, 5), (0, a1), (0, a2), (0, a3), (0, a4), uU, uU]) (np := 4) (nl := 7) (q := (1, 16, 508)) D146_9 (by decide +kernel) (by decide) mP_16 mL_16 mC_16 (Nat.le_of_ble_eq_true rfl) rfl rfl (by simp [cat]) (by decide) (DA_o (QA_k2 h0)) rfl rfl
theorem E146_12 {d : Nat} {a1 a2 a3 a4 s0 : Int} {S : SS} {I : II}  : ev d 146 12 [(2, 0), (0, a1), (0, a2), (0, a3), (0, a4)] [(0, s0)] S I = some ((0, s0), S, I) := by
  exact sx_ireturn D146_12 (by decide +kernel)
theorem E147_0 {d : Nat} {a1 a2 a3 a4 : Int} {S : SS} {I : II} (h0 : QA S 0) : ev (d + 1) 147 0 [(2, 0), (0, a1), (0, a2), (0, a3), (0, a4)] [] S I = (ev d 103 0 [(2, 67), (2, 5)] [] S I).bind (fun q => ev (d + 1) 147 11 [(2, 0), (0, a1), (0, a2), (0, a3), (0, a4)] (psh q.1 []) q.2.1 q.2.2) := by
  refine (sx_aload_n D147_0 rfl).trans ?_
  refine (sx_gfR (q := (8, 4, 0, 291)) (b := 67) D147_1 (by decide +kernel) (by decide +kernel) (by decide) (QA_o h0) (QA_g4 h0)).trans ?_
  refine (sx_aload_n D147_4 rfl).trans ?_
  refine (sx_gfR (q := (8, 2, 0, 289)) (b := 5) D147_5 (by decide +kernel) (by decide +kernel) (by decide) (QA_o h0) (QA_g2 h0)).trans ?_
  exact sx_virt (c := 6) (ag := [(2, 67), (2, 5)]) (r := []) (al' := [(2, 67), (2, 5)]) (np := 1) (nl := 2) (q := (1, 103, 525)) D147_8 (by decide +kernel) (by decide) mP_103 mL_103 mC_103 (Nat.le_of_ble_eq_true rfl) rfl rfl (by simp [cat]) (by decide) (PA_o (QA_k4 h0)) rfl rfl
theorem E147_11 {d : Nat} {a1 a2 a3 a4 : Int} {S : SS} {I : II} (h0 : QA S 0) : ev (d + 1) 147 11 [(2, 0), (0, a1), (0, a2), (0, a3), (0, a4)] [] S I = (ev d 20 0 [(2, 5), (0, a1), (0, a2), (0, a3), (0, a4), uU] [] S I).bind (fun q => ev (d + 1) 147 27 [(2, 0), (0, a1), (0, a2), (0, a3), (0, a4)] (psh q.1 [(2, 67)]) q.2.1 q.2.2) := by
  refine (sx_aload_n D147_11 rfl).trans ?_
  refine (sx_gfR (q := (8, 4, 0, 291)) (b := 67) D147_12 (by decide +kernel) (by decide +kernel) (by decide) (QA_o h0) (QA_g4 h0)).trans ?_
  refine (sx_aload_n D147_15 rfl).trans ?_
  refine (sx_gfR (q := (8, 2, 0, 289)) (b := 5) D147_16 (by decide +kernel) (by decide +kernel) (by decide) (QA_o h0) (QA_g2 h0)).trans ?_
  refine (sx_iload_n D147_19 rfl).trans ?_
  refine (sx_iload_n D147_20 rfl).trans ?_
  refine (sx_iload_n D147_21 rfl).trans ?_
  refine (sx_iload D147_22 rfl).trans ?_
  exact sx_virt (c := 3) (ag := [(2, 5), (0, a1), (0, a2), (0, a3), (0, a4)]) (r := [(2, 67)]) (al' := [(2, 5), (0, a1), (0, a2), (0, a3), (0, a4), uU]) (np := 4) (nl := 6) (q := (1, 20, 539)) D147_24 (by decide +kernel) (by decide) mP_20 mL_20 mC_20 (Nat.le_of_ble_eq_true rfl) rfl rfl (by simp [cat]) (by decide) (DA_o (QA_k2 h0)) rfl rfl
theorem E147_27 {d : Nat} {a1 a2 a3 a4 s1 : Int} {S : SS} {I : II} (h0 : PA S 67) : ev (d + 1) 147 27 [(2, 0), (0, a1), (0, a2), (0, a3), (0, a4)] [(0, s1), (2, 67)] S I = (ev d 104 0 [(2, 67), (0, s1)] [] S I).bind (fun q => ev (d + 1) 147 30 [(2, 0), (0, a1), (0, a2), (0, a3), (0, a4)] (psh q.1 []) q.2.1 q.2.2) := by
  exact sx_virt (c := 6) (ag := [(2, 67), (0, s1)]) (r := []) (al' := [(2, 67), (0, s1)]) (np := 1) (nl := 2) (q := (1, 104, 566)) D147_27 (by decide +kernel) (by decide) mP_104 mL_104 mC_104 (Nat.le_of_ble_eq_true rfl) rfl rfl (by simp [cat]) (by decide) (PA_o h0) rfl rfl
theorem E147_30 {d : Nat} {a1 a2 a3 a4 s0 : Int} {S : SS} {I : II}  : ev d 147 30 [(2, 0), (0, a1), (0, a2), (0, a3), (0, a4)] [(0, s0)] S I = some ((0, s0), S, I) := by
  exact sx_ireturn D147_30 (by decide +kernel)
theorem E148_0 {d : Nat} {a1 : Int} {S : SS} {I : II} (h0 : QA S 0) : ev (d + 1) 148 0 [(2, 0), (0, a1)] [] S I = (ev d 103 0 [(2, 67), (2, 5)] [] S I).bind (fun q => ev (d + 1) 148 11 [(2, 0), (0, a1)] (psh q.1 []) q.2.1 q.2.2) := by
  refine (sx_aload_n D148_0 rfl).trans ?_
  refine (sx_gfR (q := (8, 4, 0, 291)) (b := 67) D148_1 (by decide +kernel) (by decide +kernel) (by decide) (QA_o h0) (QA_g4 h0)).trans ?_
  refine (sx_aload_n D148_4 rfl).trans ?_
  refine (sx_gfR (q := (8, 2, 0, 289)) (b := 5) D148_5 (by decide +kernel) (by decide +kernel) (by decide) (QA_o h0) (QA_g2 h0)).trans ?_
  exact sx_virt (c := 6) (ag := [(2, 67), (2, 5)]) (r := []) (al' := [(2, 67), (2, 5)]) (np := 1) (nl := 2) (q := (1, 103, 525)) D148_8 (by decide +kernel) (by decide) mP_103 mL_103 mC_103 (Nat.le_of_ble_eq_true rfl) rfl rfl (by simp [cat]) (by decide) (PA_o (QA_k4 h0)) rfl rfl
theorem E148_11 {d : Nat} {a1 : Int} {S : SS} {I : II} (h0 : QA S 0) : ev (d + 1) 148 11 [(2, 0), (0, a1)] [] S I = (ev d 22 0 [(2, 5), (0, a1), uU, uU] [] S I).bind (fun q => ev (d + 1) 148 23 [(2, 0), (0, a1)] (psh q.1 [(2, 67)]) q.2.1 q.2.2) := by
  refine (sx_aload_n D148_11 rfl).trans ?_
  refine (sx_gfR (q := (8, 4, 0, 291)) (b := 67) D148_12 (by decide +kernel) (by decide +kernel) (by decide) (QA_o h0) (QA_g4 h0)).trans ?_
  refine (sx_aload_n D148_15 rfl).trans ?_
  refine (sx_gfR (q := (8, 2, 0, 289)) (b := 5) D148_16 (by decide +kernel) (by decide +kernel) (by decide) (QA_o h0) (QA_g2 h0)).trans ?_
  refine (sx_iload_n D148_19 rfl).trans ?_
  exact sx_virt (c := 3) (ag := [(2, 5), (0, a1)]) (r := [(2, 67)]) (al' := [(2, 5), (0, a1), uU, uU]) (np := 1) (nl := 4) (q := (1, 22, 575)) D148_20 (by decide +kernel) (by decide) mP_22 mL_22 mC_22 (Nat.le_of_ble_eq_true rfl) rfl rfl (by simp [cat]) (by decide) (DA_o (QA_k2 h0)) rfl rfl
theorem E148_23 {d : Nat} {a1 s1 : Int} {S : SS} {I : II} (h0 : PA S 67) : ev (d + 1) 148 23 [(2, 0), (0, a1)] [(0, s1), (2, 67)] S I = (ev d 104 0 [(2, 67), (0, s1)] [] S I).bind (fun q => ev (d + 1) 148 26 [(2, 0), (0, a1)] (psh q.1 []) q.2.1 q.2.2) := by
  exact sx_virt (c := 6) (ag := [(2, 67), (0, s1)]) (r := []) (al' := [(2, 67), (0, s1)]) (np := 1) (nl := 2) (q := (1, 104, 566)) D148_23 (by decide +kernel) (by decide) mP_104 mL_104 mC_104 (Nat.le_of_ble_eq_true rfl) rfl rfl (by simp [cat]) (by decide) (PA_o h0) rfl rfl
theorem E148_26 {d : Nat} {a1 s0 : Int} {S : SS} {I : II}  : ev d 148 26 [(2, 0), (0, a1)] [(0, s0)] S I = some ((0, s0), S, I) := by
  exact sx_ireturn D148_26 (by decide +kernel)
theorem E149_0 {d : Nat} {a1 : Int} {S : SS} {I : II} (h0 : QA S 0) : ev (d + 1) 149 0 [(2, 0), (0, a1)] [] S I = (ev d 103 0 [(2, 67), (2, 5)] [] S I).bind (fun q => ev (d + 1) 149 11 [(2, 0), (0, a1)] (psh q.1 []) q.2.1 q.2.2) := by
  refine (sx_aload_n D149_0 rfl).trans ?_
  refine (sx_gfR (q := (8, 4, 0, 291)) (b := 67) D149_1 (by decide +kernel) (by decide +kernel) (by decide) (QA_o h0) (QA_g4 h0)).trans ?_
  refine (sx_aload_n D149_4 rfl).trans ?_
  refine (sx_gfR (q := (8, 2, 0, 289)) (b := 5) D149_5 (by decide +kernel) (by decide +kernel) (by decide) (QA_o h0) (QA_g2 h0)).trans ?_
  exact sx_virt (c := 6) (ag := [(2, 67), (2, 5)]) (r := []) (al' := [(2, 67), (2, 5)]) (np := 1) (nl := 2) (q := (1, 103, 525)) D149_8 (by decide +kernel) (by decide) mP_103 mL_103 mC_103 (Nat.le_of_ble_eq_true rfl) rfl rfl (by simp [cat]) (by decide) (PA_o (QA_k4 h0)) rfl rfl
theorem E149_11 {d : Nat} {a1 : Int} {S : SS} {I : II} (h0 : QA S 0) : ev (d + 1) 149 11 [(2, 0), (0, a1)] [] S I = (ev d 23 0 [(2, 5), (0, a1), (2, 412), (2, 3), uU, uU, uU, uU] [] S I).bind (fun q => ev (d + 1) 149 31 [(2, 0), (0, a1)] (psh q.1 [(2, 67)]) q.2.1 q.2.2) := by
  refine (sx_aload_n D149_11 rfl).trans ?_
  refine (sx_gfR (q := (8, 4, 0, 291)) (b := 67) D149_12 (by decide +kernel) (by decide +kernel) (by decide) (QA_o h0) (QA_g4 h0)).trans ?_
  refine (sx_aload_n D149_15 rfl).trans ?_
  refine (sx_gfR (q := (8, 2, 0, 289)) (b := 5) D149_16 (by decide +kernel) (by decide +kernel) (by decide) (QA_o h0) (QA_g2 h0)).trans ?_
  refine (sx_iload_n D149_19 rfl).trans ?_
  refine (sx_aload_n D149_20 rfl).trans ?_
  refine (sx_gfR (q := (8, 5, 0, 292)) (b := 412) D149_21 (by decide +kernel) (by decide +kernel) (by decide) (QA_o h0) (QA_g5 h0)).trans ?_
  refine (sx_aload_n D149_24 rfl).trans ?_
  refine (sx_gfR (q := (8, 1, 0, 288)) (b := 3) D149_25 (by decide +kernel) (by decide +kernel) (by decide) (QA_o h0) (QA_g1 h0)).trans ?_
  exact sx_virt (c := 3) (ag := [(2, 5), (0, a1), (2, 412), (2, 3)]) (r := [(2, 67)]) (al' := [(2, 5), (0, a1), (2, 412), (2, 3), uU, uU, uU, uU]) (np := 3) (nl := 8) (q := (1, 23, 587)) D149_28 (by decide +kernel) (by decide) mP_23 mL_23 mC_23 (Nat.le_of_ble_eq_true rfl) rfl rfl (by simp [cat]) (by decide) (DA_o (QA_k2 h0)) rfl rfl
theorem E149_31 {d : Nat} {a1 s1 : Int} {S : SS} {I : II} (h0 : PA S 67) : ev (d + 1) 149 31 [(2, 0), (0, a1)] [(0, s1), (2, 67)] S I = (ev d 104 0 [(2, 67), (0, s1)] [] S I).bind (fun q => ev (d + 1) 149 34 [(2, 0), (0, a1)] (psh q.1 []) q.2.1 q.2.2) := by
  exact sx_virt (c := 6) (ag := [(2, 67), (0, s1)]) (r := []) (al' := [(2, 67), (0, s1)]) (np := 1) (nl := 2) (q := (1, 104, 566)) D149_31 (by decide +kernel) (by decide) mP_104 mL_104 mC_104 (Nat.le_of_ble_eq_true rfl) rfl rfl (by simp [cat]) (by decide) (PA_o h0) rfl rfl
theorem E149_34 {d : Nat} {a1 s0 : Int} {S : SS} {I : II}  : ev d 149 34 [(2, 0), (0, a1)] [(0, s0)] S I = some ((0, s0), S, I) := by
  exact sx_ireturn D149_34 (by decide +kernel)
theorem E150_0 {d : Nat} {a1 : Int} {S : SS} {I : II} (h0 : QA S 0) : ev (d + 1) 150 0 [(2, 0), (0, a1)] [] S I = (ev d 103 0 [(2, 67), (2, 5)] [] S I).bind (fun q => ev (d + 1) 150 11 [(2, 0), (0, a1)] (psh q.1 []) q.2.1 q.2.2) := by
  refine (sx_aload_n D150_0 rfl).trans ?_
  refine (sx_gfR (q := (8, 4, 0, 291)) (b := 67) D150_1 (by decide +kernel) (by decide +kernel) (by decide) (QA_o h0) (QA_g4 h0)).trans ?_
  refine (sx_aload_n D150_4 rfl).trans ?_
  refine (sx_gfR (q := (8, 2, 0, 289)) (b := 5) D150_5 (by decide +kernel) (by decide +kernel) (by decide) (QA_o h0) (QA_g2 h0)).trans ?_
  exact sx_virt (c := 6) (ag := [(2, 67), (2, 5)]) (r := []) (al' := [(2, 67), (2, 5)]) (np := 1) (nl := 2) (q := (1, 103, 525)) D150_8 (by decide +kernel) (by decide) mP_103 mL_103 mC_103 (Nat.le_of_ble_eq_true rfl) rfl rfl (by simp [cat]) (by decide) (PA_o (QA_k4 h0)) rfl rfl
theorem E150_11 {d : Nat} {a1 : Int} {S : SS} {I : II} (h0 : QA S 0) : ev (d + 1) 150 11 [(2, 0), (0, a1)] [] S I = (ev d 39 0 [(2, 5), (0, a1), (2, 3), uU, uU] [] S I).bind (fun q => ev (d + 1) 150 27 [(2, 0), (0, a1)] (psh q.1 [(2, 67)]) q.2.1 q.2.2) := by
  refine (sx_aload_n D150_11 rfl).trans ?_
  refine (sx_gfR (q := (8, 4, 0, 291)) (b := 67) D150_12 (by decide +kernel) (by decide +kernel) (by decide) (QA_o h0) (QA_g4 h0)).trans ?_
  refine (sx_aload_n D150_15 rfl).trans ?_
  refine (sx_gfR (q := (8, 2, 0, 289)) (b := 5) D150_16 (by decide +kernel) (by decide +kernel) (by decide) (QA_o h0) (QA_g2 h0)).trans ?_
  refine (sx_iload_n D150_19 rfl).trans ?_
  refine (sx_aload_n D150_20 rfl).trans ?_
  refine (sx_gfR (q := (8, 1, 0, 288)) (b := 3) D150_21 (by decide +kernel) (by decide +kernel) (by decide) (QA_o h0) (QA_g1 h0)).trans ?_
  exact sx_virt (c := 3) (ag := [(2, 5), (0, a1), (2, 3)]) (r := [(2, 67)]) (al' := [(2, 5), (0, a1), (2, 3), uU, uU]) (np := 2) (nl := 5) (q := (1, 39, 743)) D150_24 (by decide +kernel) (by decide) mP_39 mL_39 mC_39 (Nat.le_of_ble_eq_true rfl) rfl rfl (by simp [cat]) (by decide) (DA_o (QA_k2 h0)) rfl rfl
theorem E150_27 {d : Nat} {a1 s1 : Int} {S : SS} {I : II} (h0 : PA S 67) : ev (d + 1) 150 27 [(2, 0), (0, a1)] [(0, s1), (2, 67)] S I = (ev d 104 0 [(2, 67), (0, s1)] [] S I).bind (fun q => ev (d + 1) 150 30 [(2, 0), (0, a1)] (psh q.1 []) q.2.1 q.2.2) := by
  exact sx_virt (c := 6) (ag := [(2, 67), (0, s1)]) (r := []) (al' := [(2, 67), (0, s1)]) (np := 1) (nl := 2) (q := (1, 104, 566)) D150_27 (by decide +kernel) (by decide) mP_104 mL_104 mC_104 (Nat.le_of_ble_eq_true rfl) rfl rfl (by simp [cat]) (by decide) (PA_o h0) rfl rfl
theorem E150_30 {d : Nat} {a1 s0 : Int} {S : SS} {I : II}  : ev d 150 30 [(2, 0), (0, a1)] [(0, s0)] S I = some ((0, s0), S, I) := by
  exact sx_ireturn D150_30 (by decide +kernel)
theorem E151_0 {d : Nat} {a1 a2 : Int} {S : SS} {I : II} (h0 : QA S 0) : ev (d + 1) 151 0 [(2, 0), (0, a1), (0, a2)] [] S I = (ev d 103 0 [(2, 67), (2, 5)] [] S I).bind (fun q => ev (d + 1) 151 11 [(2, 0), (0, a1), (0, a2)] (psh q.1 []) q.2.1 q.2.2) := by
  refine (sx_aload_n D151_0 rfl).trans ?_
  refine (sx_gfR (q := (8, 4, 0, 291)) (b := 67) D151_1 (by decide +kernel) (by decide +kernel) (by decide) (QA_o h0) (QA_g4 h0)).trans ?_
  refine (sx_aload_n D151_4 rfl).trans ?_
  refine (sx_gfR (q := (8, 2, 0, 289)) (b := 5) D151_5 (by decide +kernel) (by decide +kernel) (by decide) (QA_o h0) (QA_g2 h0)).trans ?_
  exact sx_virt (c := 6) (ag := [(2, 67), (2, 5)]) (r := []) (al' := [(2, 67), (2, 5)]) (np := 1) (nl := 2) (q := (1, 103, 525)) D151_8 (by decide +kernel) (by decide) mP_103 mL_103 mC_103 (Nat.le_of_ble_eq_true rfl) rfl rfl (by simp [cat]) (by decide) (PA_o (QA_k4 h0)) rfl rfl
theorem E151_11 {d : Nat} {a1 a2 : Int} {S : SS} {I : II} (h0 : QA S 0) : ev (d + 1) 151 11 [(2, 0), (0, a1), (0, a2)] [] S I = (ev d 40 0 [(2, 5), (0, a1), (0, a2), uU, uU] [] S I).bind (fun q => ev (d + 1) 151 24 [(2, 0), (0, a1), (0, a2)] (psh q.1 [(2, 67)]) q.2.1 q.2.2) := by
  refine (sx_aload_n D151_11 rfl).trans ?_
  refine (sx_gfR (q := (8, 4, 0, 291)) (b := 67) D151_12 (by decide +kernel) (by decide +kernel) (by decide) (QA_o h0) (QA_g4 h0)).trans ?_
  refine (sx_aload_n D151_15 rfl).trans ?_
  refine (sx_gfR (q := (8, 2, 0, 289)) (b := 5) D151_16 (by decide +kernel) (by decide +kernel) (by decide) (QA_o h0) (QA_g2 h0)).trans ?_
  refine (sx_iload_n D151_19 rfl).trans ?_
  refine (sx_iload_n D151_20 rfl).trans ?_
  exact sx_virt (c := 3) (ag := [(2, 5), (0, a1), (0, a2)]) (r := [(2, 67)]) (al' := [(2, 5), (0, a1), (0, a2), uU, uU]) (np := 2) (nl := 5) (q := (1, 40, 784)) D151_21 (by decide +kernel) (by decide) mP_40 mL_40 mC_40 (Nat.le_of_ble_eq_true rfl) rfl rfl (by simp [cat]) (by decide) (DA_o (QA_k2 h0)) rfl rfl
theorem E151_24 {d : Nat} {a1 a2 s1 : Int} {S : SS} {I : II} (h0 : PA S 67) : ev (d + 1) 151 24 [(2, 0), (0, a1), (0, a2)] [(0, s1), (2, 67)] S I = (ev d 104 0 [(2, 67), (0, s1)] [] S I).bind (fun q => ev (d + 1) 151 27 [(2, 0), (0, a1), (0, a2)] (psh q.1 []) q.2.1 q.2.2) := by
  exact sx_virt (c := 6) (ag := [(2, 67), (0, s1)]) (r := []) (al' := [(2, 67), (0, s1)]) (np := 1) (nl := 2) (q := (1, 104, 566)) D151_24 (by decide +kernel) (by decide) mP_104 mL_104 mC_104 (Nat.le_of_ble_eq_true rfl) rfl rfl (by simp [cat]) (by decide) (PA_o h0) rfl rfl
theorem E151_27 {d : Nat} {a1 a2 s0 : Int} {S : SS} {I : II}  : ev d 151 27 [(2, 0), (0, a1), (0, a2)] [(0, s0)] S I = some ((0, s0), S, I) := by
  exact sx_ireturn D151_27 (by decide +kernel)
theorem E152_0 {d : Nat} {S : SS} {I : II} (h0 : QA S 0) : ev (d + 1) 152 0 [(2, 0)] [] S I = (ev d 103 0 [(2, 67), (2, 5)] [] S I).bind (fun q => ev (d + 1) 152 11 [(2, 0)] (psh q.1 []) q.2.1 q.2.2) := by
  refine (sx_aload_n D152_0 rfl).trans ?_
  refine (sx_gfR (q := (8, 4, 0, 291)) (b := 67) D152_1 (by decide +kernel) (by decide +kernel) (by decide) (QA_o h0) (QA_g4 h0)).trans ?_
  refine (sx_aload_n D152_4 rfl).trans ?_
  refine (sx_gfR (q := (8, 2, 0, 289)) (b := 5) D152_5 (by decide +kernel) (by decide +kernel) (by decide) (QA_o h0) (QA_g2 h0)).trans ?_
  exact sx_virt (c := 6) (ag := [(2, 67), (2, 5)]) (r := []) (al' := [(2, 67), (2, 5)]) (np := 1) (nl := 2) (q := (1, 103, 525)) D152_8 (by decide +kernel) (by decide) mP_103 mL_103 mC_103 (Nat.le_of_ble_eq_true rfl) rfl rfl (by simp [cat]) (by decide) (PA_o (QA_k4 h0)) rfl rfl
theorem E152_11 {d : Nat} {S : SS} {I : II} (h0 : QA S 0) : ev (d + 1) 152 11 [(2, 0)] [] S I = (ev d 44 0 [(2, 5), (2, 3), uU, uU, uU, uU] [] S I).bind (fun q => ev (d + 1) 152 26 [(2, 0)] (psh q.1 [(2, 67)]) q.2.1 q.2.2) := by
  refine (sx_aload_n D152_11 rfl).trans ?_
  refine (sx_gfR (q := (8, 4, 0, 291)) (b := 67) D152_12 (by decide +kernel) (by decide +kernel) (by decide) (QA_o h0) (QA_g4 h0)).trans ?_
  refine (sx_aload_n D152_15 rfl).trans ?_
  refine (sx_gfR (q := (8, 2, 0, 289)) (b := 5) D152_16 (by decide +kernel) (by decide +kernel) (by decide) (QA_o h0) (QA_g2 h0)).trans ?_
  refine (sx_aload_n D152_19 rfl).trans ?_
  refine (sx_gfR (q := (8, 1, 0, 288)) (b := 3) D152_20 (by decide +kernel) (by decide +kernel) (by decide) (QA_o h0) (QA_g1 h0)).trans ?_
  exact sx_virt (c := 3) (ag := [(2, 5), (2, 3)]) (r := [(2, 67)]) (al' := [(2, 5), (2, 3), uU, uU, uU, uU]) (np := 1) (nl := 6) (q := (1, 44, 819)) D152_23 (by decide +kernel) (by decide) mP_44 mL_44 mC_44 (Nat.le_of_ble_eq_true rfl) rfl rfl (by simp [cat]) (by decide) (DA_o (QA_k2 h0)) rfl rfl
theorem E152_26 {d : Nat} {s1 : Int} {S : SS} {I : II} (h0 : PA S 67) : ev (d + 1) 152 26 [(2, 0)] [(0, s1), (2, 67)] S I = (ev d 104 0 [(2, 67), (0, s1)] [] S I).bind (fun q => ev (d + 1) 152 29 [(2, 0)] (psh q.1 []) q.2.1 q.2.2) := by
  exact sx_virt (c := 6) (ag := [(2, 67), (0, s1)]) (r := []) (al' := [(2, 67), (0, s1)]) (np := 1) (nl := 2) (q := (1, 104, 566)) D152_26 (by decide +kernel) (by decide) mP_104 mL_104 mC_104 (Nat.le_of_ble_eq_true rfl) rfl rfl (by simp [cat]) (by decide) (PA_o h0) rfl rfl
theorem E152_29 {d : Nat} {s0 : Int} {S : SS} {I : II}  : ev d 152 29 [(2, 0)] [(0, s0)] S I = some ((0, s0), S, I) := by
  exact sx_ireturn D152_29 (by decide +kernel)
theorem E153_0 {d : Nat} {a1 a2 : Int} {S : SS} {I : II} (h0 : QA S 0) : ev (d + 1) 153 0 [(2, 0), (0, a1), (0, a2)] [] S I = (ev d 103 0 [(2, 67), (2, 5)] [] S I).bind (fun q => ev (d + 1) 153 11 [(2, 0), (0, a1), (0, a2)] (psh q.1 []) q.2.1 q.2.2) := by
  refine (sx_aload_n D153_0 rfl).trans ?_
  refine (sx_gfR (q := (8, 4, 0, 291)) (b := 67) D153_1 (by decide +kernel) (by decide +kernel) (by decide) (QA_o h0) (QA_g4 h0)).trans ?_
  refine (sx_aload_n D153_4 rfl).trans ?_
  refine (sx_gfR (q := (8, 2, 0, 289)) (b := 5) D153_5 (by decide +kernel) (by decide +kernel) (by decide) (QA_o h0) (QA_g2 h0)).trans ?_
  exact sx_virt (c := 6) (ag := [(2, 67), (2, 5)]) (r := []) (al' := [(2, 67), (2, 5)]) (np := 1) (nl := 2) (q := (1, 103, 525)) D153_8 (by decide +kernel) (by decide) mP_103 mL_103 mC_103 (Nat.le_of_ble_eq_true rfl) rfl rfl (by simp [cat]) (by decide) (PA_o (QA_k4 h0)) rfl rfl
theorem E153_11 {d : Nat} {a1 a2 : Int} {S : SS} {I : II} (h0 : QA S 0) : ev (d + 1) 153 11 [(2, 0), (0, a1), (0, a2)] [] S I = (ev d 47 0 [(2, 5), (0, a1), (0, a2), uU] [] S I).bind (fun q => ev (d + 1) 153 24 [(2, 0), (0, a1), (0, a2)] (psh q.1 [(2, 67)]) q.2.1 q.2.2) := by
  refine (sx_aload_n D153_11 rfl).trans ?_
  refine (sx_gfR (q := (8, 4, 0, 291)) (b := 67) D153_12 (by decide +kernel) (by decide +kernel) (by decide) (QA_o h0) (QA_g4 h0)).trans ?_
  refine (sx_aload_n D153_15 rfl).trans ?_
  refine (sx_gfR (q := (8, 2, 0, 289)) (b := 5) D153_16 (by decide +kernel) (by decide +kernel) (by decide) (QA_o h0) (QA_g2 h0)).trans ?_
  refine (sx_iload_n D153_19 rfl).trans ?_
  refine (sx_iload_n D153_20 rfl).trans ?_
  exact sx_virt (c := 3) (ag := [(2, 5), (0, a1), (0, a2)]) (r := [(2, 67)]) (al' := [(2, 5), (0, a1), (0, a2), uU]) (np := 2) (nl := 4) (q := (1, 47, 849)) D153_21 (by decide +kernel) (by decide) mP_47 mL_47 mC_47 (Nat.le_of_ble_eq_true rfl) rfl rfl (by simp [cat]) (by decide) (DA_o (QA_k2 h0)) rfl rfl
theorem E153_24 {d : Nat} {a1 a2 s1 : Int} {S : SS} {I : II} (h0 : PA S 67) : ev (d + 1) 153 24 [(2, 0), (0, a1), (0, a2)] [(0, s1), (2, 67)] S I = (ev d 104 0 [(2, 67), (0, s1)] [] S I).bind (fun q => ev (d + 1) 153 27 [(2, 0), (0, a1), (0, a2)] (psh q.1 []) q.2.1 q.2.2) := by
  exact sx_virt (c := 6) (ag := [(2, 67), (0, s1)]) (r := []) (al' := [(2, 67), (0, s1)]) (np := 1) (nl := 2) (q := (1, 104, 566)) D153_24 (by decide +kernel) (by decide) mP_104 mL_104 mC_104 (Nat.le_of_ble_eq_true rfl) rfl rfl (by simp [cat]) (by decide) (PA_o h0) rfl rfl
theorem E153_27 {d : Nat} {a1 a2 s0 : Int} {S : SS} {I : II}  : ev d 153 27 [(2, 0), (0, a1), (0, a2)] [(0, s0)] S I = some ((0, s0), S, I) := by
  exact sx_ireturn D153_27 (by decide +kernel)
theorem E154_0 {d : Nat} {a1 : Int} {S : SS} {I : II} (h0 : QA S 0) : ev (d + 1) 154 0 [(2, 0), (0, a1)] [] S I = (ev d 103 0 [(2, 67), (2, 5)] [] S I).bind (fun q => ev (d + 1) 154 11 [(2, 0), (0, a1)] (psh q.1 []) q.2.1 q.2.2) := by
  refine (sx_aload_n D154_0 rfl).trans ?_
  refine (sx_gfR (q := (8, 4, 0, 291)) (b := 67) D154_1 (by decide +kernel) (by decide +kernel) (by decide) (QA_o h0) (QA_g4 h0)).trans ?_
  refine (sx_aload_n D154_4 rfl).trans ?_
  refine (sx_gfR (q := (8, 2, 0, 289)) (b := 5) D154_5 (by decide +kernel) (by decide +kernel) (by decide) (QA_o h0) (QA_g2 h0)).trans ?_
  exact sx_virt (c := 6) (ag := [(2, 67), (2, 5)]) (r := []) (al' := [(2, 67), (2, 5)]) (np := 1) (nl := 2) (q := (1, 103, 525)) D154_8 (by decide +kernel) (by decide) mP_103 mL_103 mC_103 (Nat.le_of_ble_eq_true rfl) rfl rfl (by simp [cat]) (by decide) (PA_o (QA_k4 h0)) rfl rfl
theorem E154_11 {d : Nat} {a1 : Int} {S : SS} {I : II} (h0 : QA S 0) : ev (d + 1) 154 11 [(2, 0), (0, a1)] [] S I = (ev d 48 0 [(2, 5), (0, a1), uU] [] S I).bind (fun q => ev (d + 1) 154 23 [(2, 0), (0, a1)] (psh q.1 [(2, 67)]) q.2.1 q.2.2) := by
  refine (sx_aload_n D154_11 rfl).trans ?_
  refine (sx_gfR (q := (8, 4, 0, 291)) (b := 67) D154_12 (by decide +kernel) (by decide +kernel) (by decide) (QA_o h0) (QA_g4 h0)).trans ?_
  refine (sx_aload_n D154_15 rfl).trans ?_
  refine (sx_gfR (q := (8, 2, 0, 289)) (b := 5) D154_16 (by decide +kernel) (by decide +kernel) (by decide) (QA_o h0) (QA_g2 h0)).trans ?_
  refine (sx_iload_n D154_19 rfl).trans ?_
  exact sx_virt (c := 3) (ag := [(2, 5), (0, a1)]) (r := [(2, 67)]) (al' := [(2, 5), (0, a1), uU]) (np := 1) (nl := 3) (q := (1, 48, 857)) D154_20 (by decide +kernel) (by decide) mP_48 mL_48 mC_48 (Nat.le_of_ble_eq_true rfl) rfl rfl (by simp [cat]) (by decide) (DA_o (QA_k2 h0)) rfl rfl
theorem E154_23 {d : Nat} {a1 s1 : Int} {S : SS} {I : II} (h0 : PA S 67) : ev (d + 1) 154 23 [(2, 0), (0, a1)] [(0, s1), (2, 67)] S I = (ev d 104 0 [(2, 67), (0, s1)] [] S I).bind (fun q => ev (d + 1) 154 26 [(2, 0), (0, a1)] (psh q.1 []) q.2.1 q.2.2) := by
  exact sx_virt (c := 6) (ag := [(2, 67), (0, s1)]) (r := []) (al' := [(2, 67), (0, s1)]) (np := 1) (nl := 2) (q := (1, 104, 566)) D154_23 (by decide +kernel) (by decide) mP_104 mL_104 mC_104 (Nat.le_of_ble_eq_true rfl) rfl rfl (by simp [cat]) (by decide) (PA_o h0) rfl rfl
theorem E154_26 {d : Nat} {a1 s0 : Int} {S : SS} {I : II}  : ev d 154 26 [(2, 0), (0, a1)] [(0, s0)] S I = some ((0, s0), S, I) := by
  exact sx_ireturn D154_26 (by decide +kernel)
theorem E155_0 {d : Nat} {S : SS} {I : II} (h0 : QA S 0) : ev (d + 1) 155 0 [(2, 0), uU, uU, uU, uU, uU] [] S I = (ev d 156 0 [(2, 0), uU, uU, uU] [] S I).bind (fun q => ev (d + 1) 155 4 [(2, 0), uU, uU, uU, uU, uU] (psh q.1 []) q.2.1 q.2.2) := by
  refine (sx_aload_n D155_0 rfl).trans ?_
  exact sx_virt (c := 10) (ag := [(2, 0)]) (r := []) (al' := [(2, 0), uU, uU, uU]) (np := 0) (nl := 4) (q := (1, 156, 865)) D155_1 (by decide +kernel) (by decide) mP_156 mL_156 mC_156 (Nat.le_of_ble_eq_true rfl) rfl rfl (by simp [cat]) (by decide) (QA_o h0) rfl rfl
theorem E155_4 {d : Nat} {s0 : Int} {S : SS} {I : II} (h0 : QA S 0) : ev (d + 1) 155 4 [(2, 0), uU, uU, uU, uU, uU] [(0, s0)] S I = if w s0 < 0 then ((ev d 103 0 [(2, 67), (2, 5)] [] S I).bind (fun q => ev (d + 1) 155 31 [(2, 0), (0, s0), uU, uU, uU, uU] (psh q.1 []) q.2.1 q.2.2)) else ((ev d 137 0 [(2, 1)] [] S I).bind (fun q => ev (d + 1) 155 16 [(2, 0), (0, s0), uU, uU, uU, uU] (psh q.1 []) q.2.1 q.2.2)) := by
  refine (sx_istore_n (al' := [(2, 0), (0, s0), uU, uU, uU, uU]) D155_4 (Nat.le_of_ble_eq_true rfl) rfl rfl).trans ?_
  refine (sx_iload_n D155_5 rfl).trans ?_
  refine sx_i0_lt (pc' := 20) D155_6 (by decide) (by decide) ?_ ?_ rfl
  · refine (sx_aload_n D155_20 rfl).trans ?_
    refine (sx_gfR (q := (8, 4, 0, 291)) (b := 67) D155_21 (by decide +kernel) (by decide +kernel) (by decide) (QA_o h0) (QA_g4 h0)).trans ?_
    refine (sx_aload_n D155_24 rfl).trans ?_
    refine (sx_gfR (q := (8, 2, 0, 289)) (b := 5) D155_25 (by decide +kernel) (by decide +kernel) (by decide) (QA_o h0) (QA_g2 h0)).trans ?_
    exact sx_virt (c := 6) (ag := [(2, 67), (2, 5)]) (r := []) (al' := [(2, 67), (2, 5)]) (np := 1) (nl := 2) (q := (1, 103, 525)) D155_28 (by decide +kernel) (by decide) mP_103 mL_103 mC_103 (Nat.le_of_ble_eq_true rfl) rfl rfl (by simp [cat]) (by decide) (PA_o (QA_k4 h0)) rfl rfl
  · refine (sx_aload_n D155_9 rfl).trans ?_
    refine (sx_gfR (q := (8, 0, 0, 287)) (b := 1) D155_10 (by decide +kernel) (by decide +kernel) (by decide) (QA_o h0) (QA_g0 h0)).trans ?_
    exact sx_virt (c := 9) (ag := [(2, 1)]) (r := []) (al' := [(2, 1)]) (np := 0) (nl := 1) (q := (1, 137, 352)) D155_13 (by decide +kernel) (by decide) mP_137 mL_137 mC_137 (Nat.le_of_ble_eq_true rfl) rfl rfl (by simp [cat]) (by decide) (TA_o (QA_k0 h0)) rfl rfl
theorem E155_16 {d : Nat} {a1 : Int} {S : SS} {I : II}  : ev d 155 16 [(2, 0), (0, a1), uU, uU, uU, uU] [] S I = some ((0, (-1) - a1), S, I) := by
  refine (sx_iconst D155_16).trans ?_
  refine (sx_iload_n D155_17 rfl).trans ?_
  refine (sx_isub D155_18).trans ?_
  exact sx_ireturn D155_19 (by decide +kernel)
theorem E155_31 {d : Nat} {a1 : Int} {S : SS} {I : II}  : ev d 155 31 [(2, 0), (0, a1), uU, uU, uU, uU] [] S I = ev d 155 41 [(2, 0), (0, a1), (0, 0), (0, 0), (0, 0), (0, 0)] [] S I := by
  refine (sx_iconst D155_31).trans ?_
  refine (sx_istore_n (al' := [(2, 0), (0, a1), (0, 0), uU, uU, uU]) D155_32 (Nat.le_of_ble_eq_true rfl) rfl rfl).trans ?_
  refine (sx_iconst D155_33).trans ?_
  refine (sx_istore_n (al' := [(2, 0), (0, a1), (0, 0), (0, 0), uU, uU]) D155_34 (Nat.le_of_ble_eq_true rfl) rfl rfl).trans ?_
  refine (sx_iconst D155_35).trans ?_
  refine (sx_istore (al' := [(2, 0), (0, a1), (0, 0), (0, 0), (0, 0), uU]) D155_36 (Nat.le_of_ble_eq_true rfl) rfl rfl).trans ?_
  refine (sx_iconst D155_38).trans ?_
  refine (sx_istore (al' := [(2, 0), (0, a1), (0, 0), (0, 0), (0, 0), (0, 0)]) D155_39 (Nat.le_of_ble_eq_true rfl) rfl rfl).trans ?_
  exact rfl
theorem E155_41 {d : Nat} {a1 a2 a3 a4 a5 : Int} {S : SS} {I : II} (h0 : QA S 0) : ev (d + 1) 155 41 [(2, 0), (0, a1), (0, a2), (0, a3), (0, a4), (0, a5)] [] S I = if w a5 < 80 then (if w a4 < w (I 1 1) then (if w a3 = 0 then ((ev d 158 0 [(2, 0), (0, a4), uU] [] S I).bind (fun q => ev (d + 1) 155 70 [(2, 0), (0, a1), (0, a2), (0, a3), (0, a4), (0, a5)] (psh q.1 []) q.2.1 q.2.2)) else (ev (d + 1) 155 108 [(2, 0), (0, a1), (0, a2), (0, a3), (0, a4), (0, a5)] [] S I)) else (ev (d + 1) 155 108 [(2, 0), (0, a1), (0, a2), (0, a3), (0, a4), (0, a5)] [] S I)) else (ev (d + 1) 155 108 [(2, 0), (0, a1), (0, a2), (0, a3), (0, a4), (0, a5)] [] S I) := by
  refine (sx_iload D155_41 rfl).trans ?_
  refine (sx_bipush D155_43 (by decide)).trans ?_
  refine sx_if_ge (pc' := 108) D155_45 (by decide) (by decide) ?_ ?_ rfl (w_small (by decide) (by decide))
  · refine (sx_iload D155_48 rfl).trans ?_
    refine (sx_aload_n D155_50 rfl).trans ?_
    refine (sx_gfR (q := (8, 0, 0, 287)) (b := 1) D155_51 (by decide +kernel) (by decide +kernel) (by decide) (QA_o h0) (QA_g0 h0)).trans ?_
    refine (sx_gfI (q := (7, 1, 1, 43)) (j := 1) D155_54 (by decide +kernel) (by decide +kernel) (by decide) (TA_o (QA_k0 h0)) rfl rfl).trans ?_
    refine sx_if_ge (pc' := 108) D155_57 (by decide) (by decide) ?_ ?_ rfl rfl
    · refine (sx_iload_n D155_60 rfl).trans ?_
      refine sx_i0_ne (pc' := 108) D155_61 (by decide) (by decide) ?_ ?_ rfl
      · refine (sx_aload_n D155_64 rfl).trans ?_
        refine (sx_iload D155_65 rfl).trans ?_
        exact sx_virt (c := 10) (ag := [(2, 0), (0, a4)]) (r := []) (al' := [(2, 0), (0, a4), uU]) (np := 1) (nl := 3) (q := (1, 158, 897)) D155_67 (by decide +kernel) (by decide) mP_158 mL_158 mC_158 (Nat.le_of_ble_eq_true rfl) rfl rfl (by simp [cat]) (by decide) (QA_o h0) rfl rfl
      · exact rfl
    · exact rfl
  · exact rfl
theorem E155_70 {d : Nat} {a1 a2 a3 a4 a5 s0 : Int} {S : SS} {I : II}  : ev d 155 70 [(2, 0), (0, a1), (0, a2), (0, a3), (0, a4), (0, a5)] [(0, s0)] S I = if w s0 < 0 then (ev d 155 78 [(2, 0), (0, a1), (0, a2), (0, a3), (0, a4), (0, a5)] [(0, 1)] S I) else (ev d 155 78 [(2, 0), (0, a1), (0, a2), (0, a3), (0, a4), (0, a5)] [(0, 0)] S I) := by
  refine sx_i0_ge (pc' := 77) D155_70 (by decide) (by decide) ?_ ?_ rfl
  · refine (sx_iconst D155_73).trans ?_
    refine (sx_goto (pc' := 78) D155_74 (by decide) (by decide)).trans ?_
    exact rfl
  · refine (sx_iconst D155_77).trans ?_
    exact rfl
theorem E155_78 {d : Nat} {a1 a2 a3 a4 a5 s0 : Int} {S : SS} {I : II}  : ev d 155 78 [(2, 0), (0, a1), (0, a2), (0, a3), (0, a4), (0, a5)] [(0, s0)] S I = if w s0 = 0 then (ev d 155 89 [(2, 0), (0, a1), (0, a2), (0, s0), (0, a4), (0, a5)] [(0, 1), (0, a2)] S I) else (ev d 155 89 [(2, 0), (0, a1), (0, a2), (0, s0), (0, a4), (0, a5)] [(0, 0), (0, a2)] S I) := by
  refine (sx_istore_n (al' := [(2, 0), (0, a1), (0, a2), (0, s0), (0, a4), (0, a5)]) D155_78 (Nat.le_of_ble_eq_true rfl) rfl rfl).trans ?_
  refine (sx_iload_n D155_79 rfl).trans ?_
  refine (sx_iload_n D155_80 rfl).trans ?_
  refine sx_i0_eq (pc' := 88) D155_81 (by decide) (by decide) ?_ ?_ rfl
  · refine (sx_iconst D155_88).trans ?_
    exact rfl
  · refine (sx_iconst D155_84).trans ?_
    refine (sx_goto (pc' := 89) D155_85 (by decide) (by decide)).trans ?_
    exact rfl
theorem E155_89 {d : Nat} {a1 a2 a3 a4 a5 s0 s1 : Int} {S : SS} {I : II} (h0 : QA S 0) : ev (d + 1) 155 89 [(2, 0), (0, a1), (0, a2), (0, a3), (0, a4), (0, a5)] [(0, s1), (0, s0)] S I = (ev d 159 0 [(2, 0), (0, a4), uU] [] S I).bind (fun q => ev (d + 1) 155 99 [(2, 0), (0, a1), (0, s0 + s1), (0, a3), (0, a4), (0, a5)] (psh q.1 [(0, a4)]) q.2.1 q.2.2) := by
  refine (sx_iadd D155_89).trans ?_
  refine (sx_istore_n (al' := [(2, 0), (0, a1), (0, s0 + s1), (0, a3), (0, a4), (0, a5)]) D155_90 (Nat.le_of_ble_eq_true rfl) rfl rfl).trans ?_
  refine (sx_iload D155_91 rfl).trans ?_
  refine (sx_aload_n D155_93 rfl).trans ?_
  refine (sx_iload D155_94 rfl).trans ?_
  exact sx_virt (c := 10) (ag := [(2, 0), (0, a4)]) (r := [(0, a4)]) (al' := [(2, 0), (0, a4), uU]) (np := 1) (nl := 3) (q := (1, 159, 906)) D155_96 (by decide +kernel) (by decide) mP_159 mL_159 mC_159 (Nat.le_of_ble_eq_true rfl) rfl rfl (by simp [cat]) (by decide) (QA_o h0) rfl rfl
theorem E155_99 {d : Nat} {a1 a2 a3 a4 a5 s0 s1 : Int} {S : SS} {I : II}  : ev d 155 99 [(2, 0), (0, a1), (0, a2), (0, a3), (0, a4), (0, a5)] [(0, s1), (0, s0)] S I = ev d 155 41 [(2, 0), (0, a1), (0, a2), (0, a3), (0, s0 + s1), (0, a5 + 1)] [] S I := by
  refine (sx_iadd D155_99).trans ?_
  refine (sx_istore (al' := [(2, 0), (0, a1), (0, a2), (0, a3), (0, s0 + s1), (0, a5)]) D155_100 (Nat.le_of_ble_eq_true rfl) rfl rfl).trans ?_
  refine (sx_iinc (al' := [(2, 0), (0, a1), (0, a2), (0, a3), (0, s0 + s1), (0, a5 + 1)]) D155_102 rfl rfl).trans ?_
  refine (sx_goto (pc' := 41) D155_105 (by decide) (by decide)).trans ?_
  exact rfl
theorem E155_108 {d : Nat} {a1 a2 a3 a4 a5 : Int} {S : SS} {I : II} (h0 : QA S 0) : ev d 155 108 [(2, 0), (0, a1), (0, a2), (0, a3), (0, a4), (0, a5)] [] S I = if 0 < w a2 then (ev d 155 121 [(2, 0), (0, a1), (0, a2), (0, a3), (0, a4), (0, a5)] [(0, a2), (2, 67)] S I) else (ev d 155 121 [(2, 0), (0, a1), (0, a2), (0, a3), (0, a4), (0, a5)] [(0, (-1)), (2, 67)] S I) := by
  refine (sx_aload_n D155_108 rfl).trans ?_
  refine (sx_gfR (q := (8, 4, 0, 291)) (b := 67) D155_109 (by decide +kernel) (by decide +kernel) (by decide) (QA_o h0) (QA_g4 h0)).trans ?_
  refine (sx_iload_n D155_112 rfl).trans ?_
  refine sx_i0_le (pc' := 120) D155_113 (by decide) (by decide) ?_ ?_ rfl
  · refine (sx_iload_n D155_116 rfl).trans ?_
    refine (sx_goto (pc' := 121) D155_117 (by decide) (by decide)).trans ?_
    exact rfl
  · refine (sx_iconst D155_120).trans ?_
    exact rfl
theorem E155_121 {d : Nat} {a1 a2 a3 a4 a5 s1 : Int} {S : SS} {I : II} (h0 : PA S 67) : ev (d + 1) 155 121 [(2, 0), (0, a1), (0, a2), (0, a3), (0, a4), (0, a5)] [(0, s1), (2, 67)] S I = (ev d 104 0 [(2, 67), (0, s1)] [] S I).bind (fun q => ev (d + 1) 155 124 [(2, 0), (0, a1), (0, a2), (0, a3), (0, a4), (0, a5)] (psh q.1 []) q.2.1 q.2.2) := by
  exact sx_virt (c := 6) (ag := [(2, 67), (0, s1)]) (r := []) (al' := [(2, 67), (0, s1)]) (np := 1) (nl := 2) (q := (1, 104, 566)) D155_121 (by decide +kernel) (by decide) mP_104 mL_104 mC_104 (Nat.le_of_ble_eq_true rfl) rfl rfl (by simp [cat]) (by decide) (PA_o h0) rfl rfl
theorem E155_124 {d : Nat} {a1 a2 a3 a4 a5 s0 : Int} {S : SS} {I : II} (h0 : QA S 0) : ev d 155 124 [(2, 0), (0, a1), (0, a2), (0, a3), (0, a4), (0, a5)] [(0, s0)] S I = if w a3 = 0 then (ev d 155 138 [(2, 0), (0, a1), (0, a2), (0, a3), (0, a4), (0, a5)] [(1, 0), (2, 3)] S I) else (ev d 155 138 [(2, 0), (0, a1), (0, a2), (0, a3), (0, a4), (0, a5)] [(1, 1), (2, 3)] S I) := by
  refine (sx_pop D155_124 (by decide)).trans ?_
  refine (sx_aload_n D155_125 rfl).trans ?_
  refine (sx_gfR (q := (8, 1, 0, 288)) (b := 3) D155_126 (by decide +kernel) (by decide +kernel) (by decide) (QA_o h0) (QA_g1 h0)).trans ?_
  refine (sx_iload_n D155_129 rfl).trans ?_
  refine sx_i0_eq (pc' := 137) D155_130 (by decide) (by decide) ?_ ?_ rfl
  · refine (sx_lconst D155_137).trans ?_
    exact rfl
  · refine (sx_lconst D155_133).trans ?_
    refine (sx_goto (pc' := 138) D155_134 (by decide) (by decide)).trans ?_
    exact rfl
theorem E155_138 {d : Nat} {a1 a2 a3 a4 a5 s1 : Int} {S : SS} {I : II} (h0 : QA S 0) (h1 : RA S 3) : ev (d + 1) 155 138 [(2, 0), (0, a1), (0, a2), (0, a3), (0, a4), (0, a5)] [(1, s1), (2, 3)] S I = (ev d 109 0 [(2, 3), (1, s1), uU, (1, w (I 5 7)), uU] [] S I).bind (fun q => ev (d + 1) 155 149 [(2, 0), (0, a1), (0, a2), (0, a3), (0, a4), (0, a5)] (psh q.1 []) q.2.1 q.2.2) := by
  refine (sx_aload_n D155_138 rfl).trans ?_
  refine (sx_gfR (q := (8, 2, 0, 289)) (b := 5) D155_139 (by decide +kernel) (by decide +kernel) (by decide) (QA_o h0) (QA_g2 h0)).trans ?_
  refine (sx_gfI (q := (1, 7, 1, 157)) (j := 7) D155_142 (by decide +kernel) (by decide +kernel) (by decide) (DA_o (QA_k2 h0)) rfl rfl).trans ?_
  refine (sx_i2l D155_145).trans ?_
  exact sx_virt (c := 7) (ag := [(2, 3), (1, s1), (1, w (I 5 7))]) (r := []) (al' := [(2, 3), (1, s1), uU, (1, w (I 5 7)), uU]) (np := 2) (nl := 5) (q := (1, 109, 910)) D155_146 (by decide +kernel) (by decide) mP_109 mL_109 mC_109 (Nat.le_of_ble_eq_true rfl) rfl rfl (by simp [cat]) (by decide) (RA_o h1) rfl rfl
theorem E155_149 {d : Nat} {a1 a2 a3 a4 a5 : Int} {S : SS} {I : II} (h0 : QA S 0) : ev (d + 1) 155 149 [(2, 0), (0, a1), (0, a2), (0, a3), (0, a4), (0, a5)] [] S I = (ev d 137 0 [(2, 1)] [] S I).bind (fun q => ev (d + 1) 155 156 [(2, 0), (0, a1), (0, a2), (0, a3), (0, a4), (0, a5)] (psh q.1 []) q.2.1 q.2.2) := by
  refine (sx_aload_n D155_149 rfl).trans ?_
  refine (sx_gfR (q := (8, 0, 0, 287)) (b := 1) D155_150 (by decide +kernel) (by decide +kernel) (by decide) (QA_o h0) (QA_g0 h0)).trans ?_
  exact sx_virt (c := 9) (ag := [(2, 1)]) (r := []) (al' := [(2, 1)]) (np := 0) (nl := 1) (q := (1, 137, 352)) D155_153 (by decide +kernel) (by decide) mP_137 mL_137 mC_137 (Nat.le_of_ble_eq_true rfl) rfl rfl (by simp [cat]) (by decide) (TA_o (QA_k0 h0)) rfl rfl
theorem E155_156 {d : Nat} {a1 a2 a3 a4 a5 : Int} {S : SS} {I : II}  : ev d 155 156 [(2, 0), (0, a1), (0, a2), (0, a3), (0, a4), (0, a5)] [] S I = some ((0, a2), S, I) := by
  refine (sx_iload_n D155_156 rfl).trans ?_
  exact sx_ireturn D155_157 (by decide +kernel)
theorem E156_0 {d : Nat} {S : SS} {I : II}  : ev d 156 0 [(2, 0), uU, uU, uU] [] S I = ev d 156 2 [(2, 0), (0, 0), uU, uU] [] S I := by
  refine (sx_iconst D156_0).trans ?_
  refine (sx_istore_n (al' := [(2, 0), (0, 0), uU, uU]) D156_1 (Nat.le_of_ble_eq_true rfl) rfl rfl).trans ?_
  exact rfl
theorem E156_2 {d : Nat} {a1 : Int} {a2 a3 : AV} {S : SS} {I : II} (h0 : QA S 0) : ev (d + 1) 156 2 [(2, 0), (0, a1), a2, a3] [] S I = if w a1 < w (I 1 1) then ((ev d 135 0 [(2, 1), (0, a1)] [] S I).bind (fun q => ev (d + 1) 156 21 [(2, 0), (0, a1), a2, a3] (psh q.1 []) q.2.1 q.2.2)) else (some ((0, (-1)), S, I)) := by
  refine (sx_iload_n D156_2 rfl).trans ?_
  refine (sx_aload_n D156_3 rfl).trans ?_
  refine (sx_gfR (q := (8, 0, 0, 287)) (b := 1) D156_4 (by decide +kernel) (by decide +kernel) (by decide) (QA_o h0) (QA_g0 h0)).trans ?_
  refine (sx_gfI (q := (7, 1, 1, 43)) (j := 1) D156_7 (by decide +kernel) (by decide +kernel) (by decide) (TA_o (QA_k0 h0)) rfl rfl).trans ?_
  refine sx_if_ge (pc' := 87) D156_10 (by decide) (by decide) ?_ ?_ rfl rfl
  · refine (sx_aload_n D156_13 rfl).trans ?_
    refine (sx_gfR (q := (8, 0, 0, 287)) (b := 1) D156_14 (by decide +kernel) (by decide +kernel) (by decide) (QA_o h0) (QA_g0 h0)).trans ?_
    refine (sx_iload_n D156_17 rfl).trans ?_
    exact sx_virt (c := 9) (ag := [(2, 1), (0, a1)]) (r := []) (al' := [(2, 1), (0, a1)]) (np := 1) (nl := 2) (q := (1, 135, 336)) D156_18 (by decide +kernel) (by decide) mP_135 mL_135 mC_135 (Nat.le_of_ble_eq_true rfl) rfl rfl (by simp [cat]) (by decide) (TA_o (QA_k0 h0)) rfl rfl
  · refine (sx_iconst D156_87).trans ?_
    exact sx_ireturn D156_88 (by decide +kernel)
theorem E156_21 {d : Nat} {a1 s0 : Int} {a2 a3 : AV} {S : SS} {I : II}  : ev (d + 1) 156 21 [(2, 0), (0, a1), a2, a3] [(0, s0)] S I = (ev d 157 0 [(0, s0)] [] S I).bind (fun q => ev (d + 1) 156 24 [(2, 0), (0, a1), a2, a3] (psh q.1 []) q.2.1 q.2.2) := by
  exact sx_stat (ag := [(0, s0)]) (r := []) (al' := [(0, s0)]) (np := 1) (nl := 1) (q := (0, 157, 869)) D156_21 (by decide +kernel) (by decide) mP_157 mL_157 (Nat.le_of_ble_eq_true rfl) rfl rfl (by simp [cat]) rfl rfl
theorem E156_24 {d : Nat} {a1 s0 : Int} {a2 a3 : AV} {S : SS} {I : II} (h0 : s0 = -1 ∨ isT (-10 - s0)) : ev d 156 24 [(2, 0), (0, a1), a2, a3] [(2, s0)] S I = if s0 = -1 then (some ((0, a1), S, I)) else (ev d 156 36 [(2, 0), (0, a1 + 1), (2, s0), (0, 0)] [] S I) := by
  refine (sx_astore_n (al' := [(2, 0), (0, a1), (2, s0), a3]) D156_24 (Nat.le_of_ble_eq_true rfl) rfl rfl).trans ?_
  refine (sx_aload_n D156_25 rfl).trans ?_
  refine sx_ifnonnull (pc' := 31) D156_26 (by decide) (by decide) (null_okS h0) (fun _ => ?_) (fun n1 => ?_)
  · refine (sx_iload_n D156_29 rfl).trans ?_
    exact sx_ireturn D156_30 (by decide +kernel)
  · refine (sx_iinc (al' := [(2, 0), (0, a1 + 1), (2, s0), a3]) D156_31 rfl rfl).trans ?_
    refine (sx_iconst D156_34).trans ?_
    refine (sx_istore_n (al' := [(2, 0), (0, a1 + 1), (2, s0), (0, 0)]) D156_35 (Nat.le_of_ble_eq_true rfl) rfl rfl).trans ?_
    exact rfl
theorem E156_36 {d : Nat} {a1 a2 a3 : Int} {S : SS} {I : II} (h0 : isT (-10 - a2)) : ev (d + 1) 156 36 [(2, 0), (0, a1), (2, a2), (0, a3)] [] S I = (ev d 315 0 [(2, a2)] [] S I).bind (fun q => ev (d + 1) 156 41 [(2, 0), (0, a1), (2, a2), (0, a3)] (psh q.1 [(0, a3)]) q.2.1 q.2.2) := by
  refine (sx_iload_n D156_36 rfl).trans ?_
  refine (sx_aload_n D156_37 rfl).trans ?_
  exact sx_virtS (ag := [(2, a2)]) (r := [(0, a3)]) (al' := [(2, a2)]) (np := 0) (nl := 1) (q := (1, 315, 876)) D156_38 (by decide +kernel) (by decide) mP_315 mL_315 mC_315 (Nat.le_of_ble_eq_true rfl) rfl rfl (by simp [cat]) h0 rfl rfl
theorem E156_41 {d : Nat} {a1 a2 a3 s0 s1 : Int} {S : SS} {I : II} (h0 : QA S 0) : ev (d + 1) 156 41 [(2, 0), (0, a1), (2, a2), (0, a3)] [(0, s1), (0, s0)] S I = if w s0 < w s1 then ((ev d 135 0 [(2, 1), (0, a1)] [] S I).bind (fun q => ev (d + 1) 156 52 [(2, 0), (0, a1), (2, a2), (0, a3)] (psh q.1 []) q.2.1 q.2.2)) else (ev (d + 1) 156 2 [(2, 0), (0, a1), (2, a2), (0, a3)] [] S I) := by
  refine sx_if_ge (pc' := 84) D156_41 (by decide) (by decide) ?_ ?_ rfl rfl
  · refine (sx_aload_n D156_44 rfl).trans ?_
    refine (sx_gfR (q := (8, 0, 0, 287)) (b := 1) D156_45 (by decide +kernel) (by decide +kernel) (by decide) (QA_o h0) (QA_g0 h0)).trans ?_
    refine (sx_iload_n D156_48 rfl).trans ?_
    exact sx_virt (c := 9) (ag := [(2, 1), (0, a1)]) (r := []) (al' := [(2, 1), (0, a1)]) (np := 1) (nl := 2) (q := (1, 135, 336)) D156_49 (by decide +kernel) (by decide) mP_135 mL_135 mC_135 (Nat.le_of_ble_eq_true rfl) rfl rfl (by simp [cat]) (by decide) (TA_o (QA_k0 h0)) rfl rfl
  · refine (sx_goto (pc' := 2) D156_84 (by decide) (by decide)).trans ?_
    exact rfl
theorem E156_52 {d : Nat} {a1 a2 a3 s0 : Int} {S : SS} {I : II} (h0 : QA S 0) : ev (d + 1) 156 52 [(2, 0), (0, a1), (2, a2), (0, a3)] [(0, s0)] S I = if w s0 < 48 then (ev (d + 1) 156 73 [(2, 0), (0, a1), (2, a2), (0, a3)] [] S I) else ((ev d 135 0 [(2, 1), (0, a1)] [] S I).bind (fun q => ev (d + 1) 156 65 [(2, 0), (0, a1), (2, a2), (0, a3)] (psh q.1 []) q.2.1 q.2.2)) := by
  refine (sx_bipush D156_52 (by decide)).trans ?_
  refine sx_if_lt (pc' := 73) D156_54 (by decide) (by decide) ?_ ?_ rfl (w_small (by decide) (by decide))
  · exact rfl
  · refine (sx_aload_n D156_57 rfl).trans ?_
    refine (sx_gfR (q := (8, 0, 0, 287)) (b := 1) D156_58 (by decide +kernel) (by decide +kernel) (by decide) (QA_o h0) (QA_g0 h0)).trans ?_
    refine (sx_iload_n D156_61 rfl).trans ?_
    exact sx_virt (c := 9) (ag := [(2, 1), (0, a1)]) (r := []) (al' := [(2, 1), (0, a1)]) (np := 1) (nl := 2) (q := (1, 135, 336)) D156_62 (by decide +kernel) (by decide) mP_135 mL_135 mC_135 (Nat.le_of_ble_eq_true rfl) rfl rfl (by simp [cat]) (by decide) (TA_o (QA_k0 h0)) rfl rfl
theorem E156_65 {d : Nat} {a1 a2 a3 s0 : Int} {S : SS} {I : II} (h0 : isT (-10 - a2)) : ev (d + 1) 156 65 [(2, 0), (0, a1), (2, a2), (0, a3)] [(0, s0)] S I = (ev d 317 0 [(2, a2), (0, a3)] [] S I).bind (fun q => ev (d + 1) 156 70 [(2, 0), (0, a1), (2, a2), (0, a3)] (psh q.1 [(0, s0)]) q.2.1 q.2.2) := by
  refine (sx_aload_n D156_65 rfl).trans ?_
  refine (sx_iload_n D156_66 rfl).trans ?_
  exact sx_virtS (ag := [(2, a2), (0, a3)]) (r := [(0, s0)]) (al' := [(2, a2), (0, a3)]) (np := 1) (nl := 2) (q := (1, 317, 877)) D156_67 (by decide +kernel) (by decide) mP_317 mL_317 mC_317 (Nat.le_of_ble_eq_true rfl) rfl rfl (by simp [cat]) h0 rfl rfl
theorem E156_70 {d : Nat} {a1 a2 a3 s0 s1 : Int} {S : SS} {I : II}  : ev d 156 70 [(2, 0), (0, a1), (2, a2), (0, a3)] [(0, s1), (0, s0)] S I = if w s1 < w s0 then (ev d 156 73 [(2, 0), (0, a1), (2, a2), (0, a3)] [] S I) else (ev d 156 36 [(2, 0), (0, a1 + 1), (2, a2), (0, a3 + 1)] [] S I) := by
  refine sx_if_le (pc' := 75) D156_70 (by decide) (by decide) ?_ ?_ rfl rfl
  · exact rfl
  · refine (sx_iinc (al' := [(2, 0), (0, a1), (2, a2), (0, a3 + 1)]) D156_75 rfl rfl).trans ?_
    refine (sx_iinc (al' := [(2, 0), (0, a1 + 1), (2, a2), (0, a3 + 1)]) D156_78 rfl rfl).trans ?_
    refine (sx_goto (pc' := 36) D156_81 (by decide) (by decide)).trans ?_
    exact rfl
theorem E156_73 {d : Nat} {a1 a2 a3 : Int} {S : SS} {I : II}  : ev d 156 73 [(2, 0), (0, a1), (2, a2), (0, a3)] [] S I = some ((0, a1), S, I) := by
  refine (sx_iload_n D156_73 rfl).trans ?_
  exact sx_ireturn D156_74 (by decide +kernel)
theorem E157_0 {d : Nat} {a0 : Int} {S : SS} {I : II}  : ev d 157 0 [(0, a0)] [] S I = if w a0 = 99 then (some ((2, (-13)), S, I)) else (if w a0 = 107 then (some ((2, (-12)), S, I)) else (if w a0 = 112 then (some ((2, (-11)), S, I)) else (if w a0 = 114 then (some ((2, (-12)), S, I)) else (if w a0 = 116 then (some ((2, (-12)), S, I)) else (if w a0 = 120 then (some ((2, (-14)), S, I)) else (some ((2, (-1)), S, I))))))) := by
  refine (sx_iload_n D157_0 rfl).trans ?_
  refine ite_go (c := w a0 = 99) (fun x1 => ?_) (fun x1 => ?_)
  · refine (sx_lsw (pc' := 76) D157_1 (by decide) (by rw [(rfl).trans x1]) (by decide) (by decide)).trans ?_
    refine (sx_ldc_wS (q := (3, 874)) D157_76 (by decide +kernel) (by decide +kernel)).trans ?_
    show ev d 157 79 [(0, a0)] [(2, (-13))] S I = _
    exact sx_areturn (s := "java/lang/String") D157_79 (by decide +kernel)
  refine ite_go (c := w a0 = 107) (fun x2 => ?_) (fun x2 => ?_)
  · refine (sx_lsw (pc' := 72) D157_1 (by decide) (by rw [(rfl).trans x2]) (by decide) (by decide)).trans ?_
    refine (sx_ldc_wS (q := (2, 873)) D157_72 (by decide +kernel) (by decide +kernel)).trans ?_
    show ev d 157 75 [(0, a0)] [(2, (-12))] S I = _
    exact sx_areturn (s := "java/lang/String") D157_75 (by decide +kernel)
  refine ite_go (c := w a0 = 112) (fun x3 => ?_) (fun x3 => ?_)
  · refine (sx_lsw (pc' := 60) D157_1 (by decide) (by rw [(rfl).trans x3]) (by decide) (by decide)).trans ?_
    refine (sx_ldc_wS (q := (1, 872)) D157_60 (by decide +kernel) (by decide +kernel)).trans ?_
    show ev d 157 63 [(0, a0)] [(2, (-11))] S I = _
    exact sx_areturn (s := "java/lang/String") D157_63 (by decide +kernel)
  refine ite_go (c := w a0 = 114) (fun x4 => ?_) (fun x4 => ?_)
  · refine (sx_lsw (pc' := 64) D157_1 (by decide) (by rw [(rfl).trans x4]) (by decide) (by decide)).trans ?_
    refine (sx_ldc_wS (q := (2, 873)) D157_64 (by decide +kernel) (by decide +kernel)).trans ?_
    show ev d 157 67 [(0, a0)] [(2, (-12))] S I = _
    exact sx_areturn (s := "java/lang/String") D157_67 (by decide +kernel)
  refine ite_go (c := w a0 = 116) (fun x5 => ?_) (fun x5 => ?_)
  · refine (sx_lsw (pc' := 68) D157_1 (by decide) (by rw [(rfl).trans x5]) (by decide) (by decide)).trans ?_
    refine (sx_ldc_wS (q := (2, 873)) D157_68 (by decide +kernel) (by decide +kernel)).trans ?_
    show ev d 157 71 [(0, a0)] [(2, (-12))] S I = _
    exact sx_areturn (s := "java/lang/String") D157_71 (by decide +kernel)
  refine ite_go (c := w a0 = 120) (fun x6 => ?_) (fun x6 => ?_)
  · refine (sx_lsw (pc' := 80) D157_1 (by decide) (by rw [(rfl).trans x6]) (by decide) (by decide)).trans ?_
    refine (sx_ldc_wS (q := (4, 875)) D157_80 (by decide +kernel) (by decide +kernel)).trans ?_
    show ev d 157 83 [(0, a0)] [(2, (-14))] S I = _
    exact sx_areturn (s := "java/lang/String") D157_83 (by decide +kernel)
  refine (sx_lsw (pc' := 84) (o := 83) D157_1 (by decide) (by rw [show w _ = _ from rfl]; simp [Op.lookupswitch.offset, Ne.symm x1, Ne.symm x2, Ne.symm x3, Ne.symm x4, Ne.symm x5, Ne.symm x6]) (by decide) (by decide)).trans ?_
  refine (sx_aconst_null D157_84).trans ?_
  exact sx_areturn (s := "java/lang/String") D157_85 (by decide +kernel)
theorem E158_0 {d : Nat} {a1 : Int} {S : SS} {I : II} (h0 : QA S 0) : ev (d + 1) 158 0 [(2, 0), (0, a1), uU] [] S I = (ev d 136 0 [(2, 1), (0, a1 + 1)] [] S I).bind (fun q => ev (d + 1) 158 10 [(2, 0), (0, a1), uU] (psh q.1 []) q.2.1 q.2.2) := by
  refine (sx_aload_n D158_0 rfl).trans ?_
  refine (sx_gfR (q := (8, 0, 0, 287)) (b := 1) D158_1 (by decide +kernel) (by decide +kernel) (by decide) (QA_o h0) (QA_g0 h0)).trans ?_
  refine (sx_iload_n D158_4 rfl).trans ?_
  refine (sx_iconst D158_5).trans ?_
  refine (sx_iadd D158_6).trans ?_
  exact sx_virt (c := 9) (ag := [(2, 1), (0, a1 + 1)]) (r := []) (al' := [(2, 1), (0, a1 + 1)]) (np := 1) (nl := 2) (q := (1, 136, 343)) D158_7 (by decide +kernel) (by decide) mP_136 mL_136 mC_136 (Nat.le_of_ble_eq_true rfl) rfl rfl (by simp [cat]) (by decide) (TA_o (QA_k0 h0)) rfl rfl
theorem E158_10 {d : Nat} {a1 s0 : Int} {S : SS} {I : II} (h0 : QA S 0) : ev (d + 1) 158 10 [(2, 0), (0, a1), uU] [(0, s0)] S I = (ev d 135 0 [(2, 1), (0, a1)] [] S I).bind (fun q => ev (d + 1) 158 19 [(2, 0), (0, a1), (0, s0)] (psh q.1 []) q.2.1 q.2.2) := by
  refine (sx_istore_n (al' := [(2, 0), (0, a1), (0, s0)]) D158_10 (Nat.le_of_ble_eq_true rfl) rfl rfl).trans ?_
  refine (sx_aload_n D158_11 rfl).trans ?_
  refine (sx_gfR (q := (8, 0, 0, 287)) (b := 1) D158_12 (by decide +kernel) (by decide +kernel) (by decide) (QA_o h0) (QA_g0 h0)).trans ?_
  refine (sx_iload_n D158_15 rfl).trans ?_
  exact sx_virt (c := 9) (ag := [(2, 1), (0, a1)]) (r := []) (al' := [(2, 1), (0, a1)]) (np := 1) (nl := 2) (q := (1, 135, 336)) D158_16 (by decide +kernel) (by decide) mP_135 mL_135 mC_135 (Nat.le_of_ble_eq_true rfl) rfl rfl (by simp [cat]) (by decide) (TA_o (QA_k0 h0)) rfl rfl
theorem E158_19 {d : Nat} {a1 a2 s0 : Int} {S : SS} {I : II} (h0 : QA S 0) : ev (d + 1) 158 19 [(2, 0), (0, a1), (0, a2)] [(0, s0)] S I = if w s0 = 99 then ((ev d 138 0 [(2, 1), (0, a1 + 2)] [] S I).bind (fun q => ev (d + 1) 158 169 [(2, 0), (0, a1), (0, a2)] (psh q.1 [(0, a2), (2, 5)]) q.2.1 q.2.2)) else (if w s0 = 107 then ((ev d 39 0 [(2, 5), (0, a2), (2, 3), uU, uU] [] S I).bind (fun q => ev (d + 1) 158 153 [(2, 0), (0, a1), (0, a2)] (psh q.1 []) q.2.1 q.2.2)) else (if w s0 = 112 then ((ev d 136 0 [(2, 1), (0, a1 + 2)] [] S I).bind (fun q => ev (d + 1) 158 91 [(2, 0), (0, a1), (0, a2)] (psh q.1 [(0, a2), (2, 5)]) q.2.1 q.2.2)) else (if w s0 = 114 then ((ev d 22 0 [(2, 5), (0, a2), uU, uU] [] S I).bind (fun q => ev (d + 1) 158 123 [(2, 0), (0, a1), (0, a2)] (psh q.1 []) q.2.1 q.2.2)) else (if w s0 = 116 then ((ev d 23 0 [(2, 5), (0, a2), (2, 412), (2, 3), uU, uU, uU, uU] [] S I).bind (fun q => ev (d + 1) 158 140 [(2, 0), (0, a1), (0, a2)] (psh q.1 []) q.2.1 q.2.2)) else (if w s0 = 120 then ((ev d 44 0 [(2, 5), (2, 3), uU, uU, uU, uU] [] S I).bind (fun q => ev (d + 1) 158 184 [(2, 0), (0, a1), (0, a2)] (psh q.1 []) q.2.1 q.2.2)) else (some ((0, (-1)), S, I))))))) := by
  refine ite_go (c := w s0 = 99) (fun x1 => ?_) (fun x1 => ?_)
  · refine (sx_lsw (pc' := 154) D158_19 (by decide) (by rw [(rfl).trans x1]) (by decide) (by decide)).trans ?_
    refine (sx_aload_n D158_154 rfl).trans ?_
    refine (sx_gfR (q := (8, 2, 0, 289)) (b := 5) D158_155 (by decide +kernel) (by decide +kernel) (by decide) (QA_o h0) (QA_g2 h0)).trans ?_
    refine (sx_iload_n D158_158 rfl).trans ?_
    refine (sx_aload_n D158_159 rfl).trans ?_
    refine (sx_gfR (q := (8, 0, 0, 287)) (b := 1) D158_160 (by decide +kernel) (by decide +kernel) (by decide) (QA_o h0) (QA_g0 h0)).trans ?_
    refine (sx_iload_n D158_163 rfl).trans ?_
    refine (sx_iconst D158_164).trans ?_
    refine (sx_iadd D158_165).trans ?_
    exact sx_virt (c := 9) (ag := [(2, 1), (0, a1 + 2)]) (r := [(0, a2), (2, 5)]) (al' := [(2, 1), (0, a1 + 2)]) (np := 1) (nl := 2) (q := (1, 138, 901)) D158_166 (by decide +kernel) (by decide) mP_138 mL_138 mC_138 (Nat.le_of_ble_eq_true rfl) rfl rfl (by simp [cat]) (by decide) (TA_o (QA_k0 h0)) rfl rfl
  refine ite_go (c := w s0 = 107) (fun x2 => ?_) (fun x2 => ?_)
  · refine (sx_lsw (pc' := 141) D158_19 (by decide) (by rw [(rfl).trans x2]) (by decide) (by decide)).trans ?_
    refine (sx_aload_n D158_141 rfl).trans ?_
    refine (sx_gfR (q := (8, 2, 0, 289)) (b := 5) D158_142 (by decide +kernel) (by decide +kernel) (by decide) (QA_o h0) (QA_g2 h0)).trans ?_
    refine (sx_iload_n D158_145 rfl).trans ?_
    refine (sx_aload_n D158_146 rfl).trans ?_
    refine (sx_gfR (q := (8, 1, 0, 288)) (b := 3) D158_147 (by decide +kernel) (by decide +kernel) (by decide) (QA_o h0) (QA_g1 h0)).trans ?_
    exact sx_virt (c := 3) (ag := [(2, 5), (0, a2), (2, 3)]) (r := []) (al' := [(2, 5), (0, a2), (2, 3), uU, uU]) (np := 2) (nl := 5) (q := (1, 39, 743)) D158_150 (by decide +kernel) (by decide) mP_39 mL_39 mC_39 (Nat.le_of_ble_eq_true rfl) rfl rfl (by simp [cat]) (by decide) (DA_o (QA_k2 h0)) rfl rfl
  refine ite_go (c := w s0 = 112) (fun x3 => ?_) (fun x3 => ?_)
  · refine (sx_lsw (pc' := 76) D158_19 (by decide) (by rw [(rfl).trans x3]) (by decide) (by decide)).trans ?_
    refine (sx_aload_n D158_76 rfl).trans ?_
    refine (sx_gfR (q := (8, 2, 0, 289)) (b := 5) D158_77 (by decide +kernel) (by decide +kernel) (by decide) (QA_o h0) (QA_g2 h0)).trans ?_
    refine (sx_iload_n D158_80 rfl).trans ?_
    refine (sx_aload_n D158_81 rfl).trans ?_
    refine (sx_gfR (q := (8, 0, 0, 287)) (b := 1) D158_82 (by decide +kernel) (by decide +kernel) (by decide) (QA_o h0) (QA_g0 h0)).trans ?_
    refine (sx_iload_n D158_85 rfl).trans ?_
    refine (sx_iconst D158_86).trans ?_
    refine (sx_iadd D158_87).trans ?_
    exact sx_virt (c := 9) (ag := [(2, 1), (0, a1 + 2)]) (r := [(0, a2), (2, 5)]) (al' := [(2, 1), (0, a1 + 2)]) (np := 1) (nl := 2) (q := (1, 136, 343)) D158_88 (by decide +kernel) (by decide) mP_136 mL_136 mC_136 (Nat.le_of_ble_eq_true rfl) rfl rfl (by simp [cat]) (by decide) (TA_o (QA_k0 h0)) rfl rfl
  refine ite_go (c := w s0 = 114) (fun x4 => ?_) (fun x4 => ?_)
  · refine (sx_lsw (pc' := 115) D158_19 (by decide) (by rw [(rfl).trans x4]) (by decide) (by decide)).trans ?_
    refine (sx_aload_n D158_115 rfl).trans ?_
    refine (sx_gfR (q := (8, 2, 0, 289)) (b := 5) D158_116 (by decide +kernel) (by decide +kernel) (by decide) (QA_o h0) (QA_g2 h0)).trans ?_
    refine (sx_iload_n D158_119 rfl).trans ?_
    exact sx_virt (c := 3) (ag := [(2, 5), (0, a2)]) (r := []) (al' := [(2, 5), (0, a2), uU, uU]) (np := 1) (nl := 4) (q := (1, 22, 575)) D158_120 (by decide +kernel) (by decide) mP_22 mL_22 mC_22 (Nat.le_of_ble_eq_true rfl) rfl rfl (by simp [cat]) (by decide) (DA_o (QA_k2 h0)) rfl rfl
  refine ite_go (c := w s0 = 116) (fun x5 => ?_) (fun x5 => ?_)
  · refine (sx_lsw (pc' := 124) D158_19 (by decide) (by rw [(rfl).trans x5]) (by decide) (by decide)).trans ?_
    refine (sx_aload_n D158_124 rfl).trans ?_
    refine (sx_gfR (q := (8, 2, 0, 289)) (b := 5) D158_125 (by decide +kernel) (by decide +kernel) (by decide) (QA_o h0) (QA_g2 h0)).trans ?_
    refine (sx_iload_n D158_128 rfl).trans ?_
    refine (sx_aload_n D158_129 rfl).trans ?_
    refine (sx_gfR (q := (8, 5, 0, 292)) (b := 412) D158_130 (by decide +kernel) (by decide +kernel) (by decide) (QA_o h0) (QA_g5 h0)).trans ?_
    refine (sx_aload_n D158_133 rfl).trans ?_
    refine (sx_gfR (q := (8, 1, 0, 288)) (b := 3) D158_134 (by decide +kernel) (by decide +kernel) (by decide) (QA_o h0) (QA_g1 h0)).trans ?_
    exact sx_virt (c := 3) (ag := [(2, 5), (0, a2), (2, 412), (2, 3)]) (r := []) (al' := [(2, 5), (0, a2), (2, 412), (2, 3), uU, uU, uU, uU]) (np := 3) (nl := 8) (q := (1, 23, 587)) D158_137 (by decide +kernel) (by decide) mP_23 mL_23 mC_23 (Nat.le_of_ble_eq_true rfl) rfl rfl (by simp [cat]) (by decide) (DA_o (QA_k2 h0)) rfl rfl
  refine ite_go (c := w s0 = 120) (fun x6 => ?_) (fun x6 => ?_)
  · refine (sx_lsw (pc' := 173) D158_19 (by decide) (by rw [(rfl).trans x6]) (by decide) (by decide)).trans ?_
    refine (sx_aload_n D158_173 rfl).trans ?_
    refine (sx_gfR (q := (8, 2, 0, 289)) (b := 5) D158_174 (by decide +kernel) (by decide +kernel) (by decide) (QA_o h0) (QA_g2 h0)).trans ?_
    refine (sx_aload_n D158_177 rfl).trans ?_
    refine (sx_gfR (q := (8, 1, 0, 288)) (b := 3) D158_178 (by decide +kernel) (by decide +kernel) (by decide) (QA_o h0) (QA_g1 h0)).trans ?_
    exact sx_virt (c := 3) (ag := [(2, 5), (2, 3)]) (r := []) (al' := [(2, 5), (2, 3), uU, uU, uU, uU]) (np := 1) (nl := 6) (q := (1, 44, 819)) D158_181 (by decide +kernel) (by decide) mP_44 mL_44 mC_44 (Nat.le_of_ble_eq_true rfl) rfl rfl (by simp [cat]) (by decide) (DA_o (QA_k2 h0)) rfl rfl
  refine (sx_lsw (pc' := 185) (o := 166) D158_19 (by decide) (by rw [show w _ = _ from rfl]; simp [Op.lookupswitch.offset, Ne.symm x1, Ne.symm x2, Ne.symm x3, Ne.symm x4, Ne.symm x5, Ne.symm x6]) (by decide) (by decide)).trans ?_
  refine (sx_iconst D158_185).trans ?_
  exact sx_ireturn D158_186 (by decide +kernel)
theorem E158_91 {d : Nat} {a1 a2 s0 s1 s2 : Int} {S : SS} {I : II} (h0 : QA S 0) : ev (d + 1) 158 91 [(2, 0), (0, a1), (0, a2)] [(0, s2), (0, s1), (2, s0)] S I = (ev d 136 0 [(2, 1), (0, a1 + 3)] [] S I).bind (fun q => ev (d + 1) 158 101 [(2, 0), (0, a1), (0, a2)] (psh q.1 [(0, s2), (0, s1), (2, s0)]) q.2.1 q.2.2) := by
  refine (sx_aload_n D158_91 rfl).trans ?_
  refine (sx_gfR (q := (8, 0, 0, 287)) (b := 1) D158_92 (by decide +kernel) (by decide +kernel) (by decide) (QA_o h0) (QA_g0 h0)).trans ?_
  refine (sx_iload_n D158_95 rfl).trans ?_
  refine (sx_iconst D158_96).trans ?_
  refine (sx_iadd D158_97).trans ?_
  exact sx_virt (c := 9) (ag := [(2, 1), (0, a1 + 3)]) (r := [(0, s2), (0, s1), (2, s0)]) (al' := [(2, 1), (0, a1 + 3)]) (np := 1) (nl := 2) (q := (1, 136, 343)) D158_98 (by decide +kernel) (by decide) mP_136 mL_136 mC_136 (Nat.le_of_ble_eq_true rfl) rfl rfl (by simp [cat]) (by decide) (TA_o (QA_k0 h0)) rfl rfl
theorem E158_101 {d : Nat} {a1 a2 s0 s1 s2 s3 : Int} {S : SS} {I : II} (h0 : QA S 0) : ev (d + 1) 158 101 [(2, 0), (0, a1), (0, a2)] [(0, s3), (0, s2), (0, s1), (2, s0)] S I = (ev d 138 0 [(2, 1), (0, a1 + 4)] [] S I).bind (fun q => ev (d + 1) 158 111 [(2, 0), (0, a1), (0, a2)] (psh q.1 [(0, s3), (0, s2), (0, s1), (2, s0)]) q.2.1 q.2.2) := by
  refine (sx_aload_n D158_101 rfl).trans ?_
  refine (sx_gfR (q := (8, 0, 0, 287)) (b := 1) D158_102 (by decide +kernel) (by decide +kernel) (by decide) (QA_o h0) (QA_g0 h0)).trans ?_
  refine (sx_iload_n D158_105 rfl).trans ?_
  refine (sx_iconst D158_106).trans ?_
  refine (sx_iadd D158_107).trans ?_
  exact sx_virt (c := 9) (ag := [(2, 1), (0, a1 + 4)]) (r := [(0, s3), (0, s2), (0, s1), (2, s0)]) (al' := [(2, 1), (0, a1 + 4)]) (np := 1) (nl := 2) (q := (1, 138, 901)) D158_108 (by decide +kernel) (by decide) mP_138 mL_138 mC_138 (Nat.le_of_ble_eq_true rfl) rfl rfl (by simp [cat]) (by decide) (TA_o (QA_k0 h0)) rfl rfl
theorem E158_111 {d : Nat} {a1 a2 s0 s1 s2 s3 s4 : Int} {S : SS} {I : II} (h0 : DA S s0) : ev (d + 1) 158 111 [(2, 0), (0, a1), (0, a2)] [(0, s4), (0, s3), (0, s2), (0, s1), (2, s0)] S I = (ev d 20 0 [(2, s0), (0, s1), (0, s2), (0, s3), (0, s4), uU] [] S I).bind (fun q => ev (d + 1) 158 114 [(2, 0), (0, a1), (0, a2)] (psh q.1 []) q.2.1 q.2.2) := by
  exact sx_virt (c := 3) (ag := [(2, s0), (0, s1), (0, s2), (0, s3), (0, s4)]) (r := []) (al' := [(2, s0), (0, s1), (0, s2), (0, s3), (0, s4), uU]) (np := 4) (nl := 6) (q := (1, 20, 539)) D158_111 (by decide +kernel) (by decide) mP_20 mL_20 mC_20 (Nat.le_of_ble_eq_true rfl) rfl rfl (by simp [cat]) (by decide) (DA_o h0) rfl rfl
theorem E158_114 {d : Nat} {a1 a2 s0 : Int} {S : SS} {I : II}  : ev d 158 114 [(2, 0), (0, a1), (0, a2)] [(0, s0)] S I = some ((0, s0), S, I) := by
  exact sx_ireturn D158_114 (by decide +kernel)
theorem E158_123 {d : Nat} {a1 a2 s0 : Int} {S : SS} {I : II}  : ev d 158 123 [(2, 0), (0, a1), (0, a2)] [(0, s0)] S I = some ((0, s0), S, I) := by
  exact sx_ireturn D158_123 (by decide +kernel)
theorem E158_140 {d : Nat} {a1 a2 s0 : Int} {S : SS} {I : II}  : ev d 158 140 [(2, 0), (0, a1), (0, a2)] [(0, s0)] S I = some ((0, s0), S, I) := by
  exact sx_ireturn D158_140 (by decide +kernel)
theorem E158_153 {d : Nat} {a1 a2 s0 : Int} {S : SS} {I : II}  : ev d 158 153 [(2, 0), (0, a1), (0, a2)] [(0, s0)] S I = some ((0, s0), S, I) := by
  exact sx_ireturn D158_153 (by decide +kernel)
theorem E158_169 {d : Nat} {a1 a2 s0 s1 s2 : Int} {S : SS} {I : II} (h0 : DA S s0) : ev (d + 1) 158 169 [(2, 0), (0, a1), (0, a2)] [(0, s2), (0, s1), (2, s0)] S I = (ev d 40 0 [(2, s0), (0, s1), (0, s2), uU, uU] [] S I).bind (fun q => ev (d + 1) 158 172 [(2, 0), (0, a1), (0, a2)] (psh q.1 []) q.2.1 q.2.2) := by
  exact sx_virt (c := 3) (ag := [(2, s0), (0, s1), (0, s2)]) (r := []) (al' := [(2, s0), (0, s1), (0, s2), uU, uU]) (np := 2) (nl := 5) (q := (1, 40, 784)) D158_169 (by decide +kernel) (by decide) mP_40 mL_40 mC_40 (Nat.le_of_ble_eq_true rfl) rfl rfl (by simp [cat]) (by decide) (DA_o h0) rfl rfl
theorem E158_172 {d : Nat} {a1 a2 s0 : Int} {S : SS} {I : II}  : ev d 158 172 [(2, 0), (0, a1), (0, a2)] [(0, s0)] S I = some ((0, s0), S, I) := by
  exact sx_ireturn D158_172 (by decide +kernel)
theorem E158_184 {d : Nat} {a1 a2 s0 : Int} {S : SS} {I : II}  : ev d 158 184 [(2, 0), (0, a1), (0, a2)] [(0, s0)] S I = some ((0, s0), S, I) := by
  exact sx_ireturn D158_184 (by decide +kernel)
theorem E159_0 {d : Nat} {a1 : Int} {S : SS} {I : II} (h0 : QA S 0) : ev (d + 1) 159 0 [(2, 0), (0, a1), uU] [] S I = (ev d 135 0 [(2, 1), (0, a1)] [] S I).bind (fun q => ev (d + 1) 159 8 [(2, 0), (0, a1), uU] (psh q.1 []) q.2.1 q.2.2) := by
  refine (sx_aload_n D159_0 rfl).trans ?_
  refine (sx_gfR (q := (8, 0, 0, 287)) (b := 1) D159_1 (by decide +kernel) (by decide +kernel) (by decide) (QA_o h0) (QA_g0 h0)).trans ?_
  refine (sx_iload_n D159_4 rfl).trans ?_
  exact sx_virt (c := 9) (ag := [(2, 1), (0, a1)]) (r := []) (al' := [(2, 1), (0, a1)]) (np := 1) (nl := 2) (q := (1, 135, 336)) D159_5 (by decide +kernel) (by decide) mP_135 mL_135 mC_135 (Nat.le_of_ble_eq_true rfl) rfl rfl (by simp [cat]) (by decide) (TA_o (QA_k0 h0)) rfl rfl
theorem E159_8 {d : Nat} {a1 s0 : Int} {S : SS} {I : II}  : ev (d + 1) 159 8 [(2, 0), (0, a1), uU] [(0, s0)] S I = (ev d 157 0 [(0, s0)] [] S I).bind (fun q => ev (d + 1) 159 11 [(2, 0), (0, a1), uU] (psh q.1 []) q.2.1 q.2.2) := by
  exact sx_stat (ag := [(0, s0)]) (r := []) (al' := [(0, s0)]) (np := 1) (nl := 1) (q := (0, 157, 869)) D159_8 (by decide +kernel) (by decide) mP_157 mL_157 (Nat.le_of_ble_eq_true rfl) rfl rfl (by simp [cat]) rfl rfl
theorem E159_11 {d : Nat} {a1 s0 : Int} {S : SS} {I : II} (h0 : s0 = -1 ∨ isT (-10 - s0)) : ev (d + 1) 159 11 [(2, 0), (0, a1), uU] [(2, s0)] S I = if s0 = -1 then (ev (d + 1) 159 26 [(2, 0), (0, a1), (2, s0)] [(0, 1)] S I) else ((ev d 315 0 [(2, s0)] [] S I).bind (fun q => ev (d + 1) 159 25 [(2, 0), (0, a1), (2, s0)] (psh q.1 [(0, 1)]) q.2.1 q.2.2)) := by
  refine (sx_astore_n (al' := [(2, 0), (0, a1), (2, s0)]) D159_11 (Nat.le_of_ble_eq_true rfl) rfl rfl).trans ?_
  refine (sx_aload_n D159_12 rfl).trans ?_
  refine sx_ifnonnull (pc' := 20) D159_13 (by decide) (by decide) (null_okS h0) (fun _ => ?_) (fun n1 => ?_)
  · refine (sx_iconst D159_16).trans ?_
    refine (sx_goto (pc' := 26) D159_17 (by decide) (by decide)).trans ?_
    exact rfl
  · refine (sx_iconst D159_20).trans ?_
    refine (sx_aload_n D159_21 rfl).trans ?_
    exact sx_virtS (ag := [(2, s0)]) (r := [(0, 1)]) (al' := [(2, s0)]) (np := 0) (nl := 1) (q := (1, 315, 876)) D159_22 (by decide +kernel) (by decide) mP_315 mL_315 mC_315 (Nat.le_of_ble_eq_true rfl) rfl rfl (by simp [cat]) (h0.resolve_left n1) rfl rfl
theorem E159_25 {d : Nat} {a1 a2 s0 s1 : Int} {S : SS} {I : II}  : ev d 159 25 [(2, 0), (0, a1), (2, a2)] [(0, s1), (0, s0)] S I = ev d 159 26 [(2, 0), (0, a1), (2, a2)] [(0, s0 + s1)] S I := by
  refine (sx_iadd D159_25).trans ?_
  exact rfl
theorem E159_26 {d : Nat} {a1 a2 s0 : Int} {S : SS} {I : II}  : ev d 159 26 [(2, 0), (0, a1), (2, a2)] [(0, s0)] S I = some ((0, s0), S, I) := by
  exact sx_ireturn D159_26 (by decide +kernel)
theorem E160_0 {d : Nat} {S : SS} {I : II} (h0 : QA S 0) : ev (d + 1) 160 0 [(2, 0)] [] S I = (ev d 105 0 [(2, 67), (2, 5)] [] S I).bind (fun q => ev (d + 1) 160 11 [(2, 0)] (psh q.1 []) q.2.1 q.2.2) := by
  refine (sx_aload_n D160_0 rfl).trans ?_
  refine (sx_gfR (q := (8, 4, 0, 291)) (b := 67) D160_1 (by decide +kernel) (by decide +kernel) (by decide) (QA_o h0) (QA_g4 h0)).trans ?_
  refine (sx_aload_n D160_4 rfl).trans ?_
  refine (sx_gfR (q := (8, 2, 0, 289)) (b := 5) D160_5 (by decide +kernel) (by decide +kernel) (by decide) (QA_o h0) (QA_g2 h0)).trans ?_
  exact sx_virt (c := 6) (ag := [(2, 67), (2, 5)]) (r := []) (al' := [(2, 67), (2, 5)]) (np := 1) (nl := 2) (q := (1, 105, 915)) D160_8 (by decide +kernel) (by decide) mP_105 mL_105 mC_105 (Nat.le_of_ble_eq_true rfl) rfl rfl (by simp [cat]) (by decide) (PA_o (QA_k4 h0)) rfl rfl
theorem E160_11 {d : Nat} {s0 : Int} {S : SS} {I : II}  : ev d 160 11 [(2, 0)] [(0, s0)] S I = some ((0, s0), S, I) := by
  exact sx_ireturn D160_11 (by decide +kernel)
theorem E161_0 {d : Nat} {a1 : Int} {S : SS} {I : II} (h0 : QA S 0) : ev (d + 1) 161 0 [(2, 0), (0, a1), uU, uU, uU, uU] [] S I = (ev d 21 0 [(2, 5), (0, a1)] [] S I).bind (fun q => ev (d + 1) 161 8 [(2, 0), (0, a1), uU, uU, uU, uU] (psh q.1 []) q.2.1 q.2.2) := by
  refine (sx_aload_n D161_0 rfl).trans ?_
  refine (sx_gfR (q := (8, 2, 0, 289)) (b := 5) D161_1 (by decide +kernel) (by decide +kernel) (by decide) (QA_o h0) (QA_g2 h0)).trans ?_
  refine (sx_iload_n D161_4 rfl).trans ?_
  exact sx_virt (c := 3) (ag := [(2, 5), (0, a1)]) (r := []) (al' := [(2, 5), (0, a1)]) (np := 1) (nl := 2) (q := (1, 21, 923)) D161_5 (by decide +kernel) (by decide) mP_21 mL_21 mC_21 (Nat.le_of_ble_eq_true rfl) rfl rfl (by simp [cat]) (by decide) (DA_o (QA_k2 h0)) rfl rfl
theorem E161_8 {d : Nat} {a1 s0 : Int} {S : SS} {I : II} (h0 : s0 = -1 ∨ LA S s0) (h1 : QA S 0) : ev (d + 1) 161 8 [(2, 0), (0, a1), uU, uU, uU, uU] [(2, s0)] S I = if s0 = -1 then (some ((0, (-1)), S, I)) else ((ev d 111 0 [(2, 3)] [] S I).bind (fun q => ev (d + 1) 161 22 [(2, 0), (0, a1), (2, s0), uU, uU, uU] (psh q.1 []) q.2.1 q.2.2)) := by
  refine (sx_astore_n (al' := [(2, 0), (0, a1), (2, s0), uU, uU, uU]) D161_8 (Nat.le_of_ble_eq_true rfl) rfl rfl).trans ?_
  refine (sx_aload_n D161_9 rfl).trans ?_
  refine sx_ifnonnull (pc' := 15) D161_10 (by decide) (by decide) (null_ok (h0.imp id (fun h => (LA_o h).1))) (fun _ => ?_) (fun n1 => ?_)
  · refine (sx_iconst D161_13).trans ?_
    exact sx_ireturn D161_14 (by decide +kernel)
  · refine (sx_aload_n D161_15 rfl).trans ?_
    refine (sx_gfR (q := (8, 1, 0, 288)) (b := 3) D161_16 (by decide +kernel) (by decide +kernel) (by decide) (QA_o h1) (QA_g1 h1)).trans ?_
    exact sx_virt (c := 7) (ag := [(2, 3)]) (r := []) (al' := [(2, 3)]) (np := 0) (nl := 1) (q := (1, 111, 924)) D161_19 (by decide +kernel) (by decide) mP_111 mL_111 mC_111 (Nat.le_of_ble_eq_true rfl) rfl rfl (by simp [cat]) (by decide) (RA_o (QA_k1 h1)) rfl rfl
theorem E161_22 {d : Nat} {a1 a2 : Int} {S : SS} {I : II} (h0 : LA S a2) : ev (d + 1) 161 22 [(2, 0), (0, a1), (2, a2), uU, uU, uU] [] S I = (ev d 93 0 [(2, a2)] [] S I).bind (fun q => ev (d + 1) 161 26 [(2, 0), (0, a1), (2, a2), uU, uU, uU] (psh q.1 []) q.2.1 q.2.2) := by
  refine (sx_aload_n D161_22 rfl).trans ?_
  exact sx_virt (c := 5) (ag := [(2, a2)]) (r := []) (al' := [(2, a2)]) (np := 0) (nl := 1) (q := (1, 93, 925)) D161_23 (by decide +kernel) (by decide) mP_93 mL_93 mC_93 (Nat.le_of_ble_eq_true rfl) rfl rfl (by simp [cat]) (by decide) (LA_o h0) rfl rfl
theorem E161_26 {d : Nat} {a1 a2 s0 : Int} {S : SS} {I : II}  : ev d 161 26 [(2, 0), (0, a1), (2, a2), uU, uU, uU] [(0, s0)] S I = ev d 161 30 [(2, 0), (0, a1), (2, a2), (0, s0), (0, 0), uU] [] S I := by
  refine (sx_istore_n (al' := [(2, 0), (0, a1), (2, a2), (0, s0), uU, uU]) D161_26 (Nat.le_of_ble_eq_true rfl) rfl rfl).trans ?_
  refine (sx_iconst D161_27).trans ?_
  refine (sx_istore (al' := [(2, 0), (0, a1), (2, a2), (0, s0), (0, 0), uU]) D161_28 (Nat.le_of_ble_eq_true rfl) rfl rfl).trans ?_
  exact rfl
theorem E161_30 {d : Nat} {a1 a2 a3 a4 : Int} {a5 : AV} {S : SS} {I : II} (h0 : LA S a2) : ev (d + 1) 161 30 [(2, 0), (0, a1), (2, a2), (0, a3), (0, a4), a5] [] S I = if w a4 < w a3 then ((ev d 86 0 [(2, a2), (0, a4)] [] S I).bind (fun q => ev (d + 1) 161 42 [(2, 0), (0, a1), (2, a2), (0, a3), (0, a4), a5] (psh q.1 []) q.2.1 q.2.2)) else (some ((0, a3), S, I)) := by
  refine (sx_iload D161_30 rfl).trans ?_
  refine (sx_iload_n D161_32 rfl).trans ?_
  refine sx_if_ge (pc' := 72) D161_33 (by decide) (by decide) ?_ ?_ rfl rfl
  · refine (sx_aload_n D161_36 rfl).trans ?_
    refine (sx_iload D161_37 rfl).trans ?_
    exact sx_virt (c := 5) (ag := [(2, a2), (0, a4)]) (r := []) (al' := [(2, a2), (0, a4)]) (np := 1) (nl := 2) (q := (1, 86, 926)) D161_39 (by decide +kernel) (by decide) mP_86 mL_86 mC_86 (Nat.le_of_ble_eq_true rfl) rfl rfl (by simp [cat]) (by decide) (LA_o h0) rfl rfl
  · refine (sx_iload_n D161_72 rfl).trans ?_
    exact sx_ireturn D161_73 (by decide +kernel)
theorem E161_42 {d : Nat} {a1 a2 a3 a4 s0 : Int} {a5 : AV} {S : SS} {I : II} (h0 : QA S 0) : ev (d + 1) 161 42 [(2, 0), (0, a1), (2, a2), (0, a3), (0, a4), a5] [(0, s0)] S I = (ev d 3 0 [(0, s0)] [] S I).bind (fun q => ev (d + 1) 161 55 [(2, 0), (0, a1), (2, a2), (0, a3), (0, a4), (0, s0)] (psh q.1 [(0, 10), (2, 3)]) q.2.1 q.2.2) := by
  refine (sx_istore (al' := [(2, 0), (0, a1), (2, a2), (0, a3), (0, a4), (0, s0)]) D161_42 (Nat.le_of_ble_eq_true rfl) rfl rfl).trans ?_
  refine (sx_aload_n D161_44 rfl).trans ?_
  refine (sx_gfR (q := (8, 1, 0, 288)) (b := 3) D161_45 (by decide +kernel) (by decide +kernel) (by decide) (QA_o h0) (QA_g1 h0)).trans ?_
  refine (sx_bipush D161_48 (by decide)).trans ?_
  refine (sx_iload D161_50 rfl).trans ?_
  exact sx_stat (ag := [(0, s0)]) (r := [(0, 10), (2, 3)]) (al' := [(0, s0)]) (np := 1) (nl := 1) (q := (0, 3, 927)) D161_52 (by decide +kernel) (by decide) mP_3 mL_3 (Nat.le_of_ble_eq_true rfl) rfl rfl (by simp [cat]) rfl rfl
theorem E161_55 {d : Nat} {a1 a2 a3 a4 a5 s1 s2 : Int} {S : SS} {I : II}  : ev (d + 1) 161 55 [(2, 0), (0, a1), (2, a2), (0, a3), (0, a4), (0, a5)] [(0, s2), (0, s1), (2, 3)] S I = (ev d 2 0 [(0, a5)] [] S I).bind (fun q => ev (d + 1) 161 61 [(2, 0), (0, a1), (2, a2), (0, a3), (0, a4), (0, a5)] (psh q.1 [(0, s1 * s2), (2, 3)]) q.2.1 q.2.2) := by
  refine (sx_imul D161_55).trans ?_
  refine (sx_iload D161_56 rfl).trans ?_
  exact sx_stat (ag := [(0, a5)]) (r := [(0, s1 * s2), (2, 3)]) (al' := [(0, a5)]) (np := 1) (nl := 1) (q := (0, 2, 928)) D161_58 (by decide +kernel) (by decide) mP_2 mL_2 (Nat.le_of_ble_eq_true rfl) rfl rfl (by simp [cat]) rfl rfl
theorem E161_61 {d : Nat} {a1 a2 a3 a4 a5 s1 s2 : Int} {S : SS} {I : II} (h0 : RA S 3) : ev (d + 1) 161 61 [(2, 0), (0, a1), (2, a2), (0, a3), (0, a4), (0, a5)] [(0, s2), (0, s1), (2, 3)] S I = (ev d 112 0 [(2, 3), (1, w (s1 + s2)), uU] [] S I).bind (fun q => ev (d + 1) 161 66 [(2, 0), (0, a1), (2, a2), (0, a3), (0, a4), (0, a5)] (psh q.1 []) q.2.1 q.2.2) := by
  refine (sx_iadd D161_61).trans ?_
  refine (sx_i2l D161_62).trans ?_
  exact sx_virt (c := 7) (ag := [(2, 3), (1, w (s1 + s2))]) (r := []) (al' := [(2, 3), (1, w (s1 + s2)), uU]) (np := 1) (nl := 3) (q := (1, 112, 929)) D161_63 (by decide +kernel) (by decide) mP_112 mL_112 mC_112 (Nat.le_of_ble_eq_true rfl) rfl rfl (by simp [cat]) (by decide) (RA_o h0) rfl rfl
theorem E161_66 {d : Nat} {a1 a2 a3 a4 a5 : Int} {S : SS} {I : II}  : ev d 161 66 [(2, 0), (0, a1), (2, a2), (0, a3), (0, a4), (0, a5)] [] S I = ev d 161 30 [(2, 0), (0, a1), (2, a2), (0, a3), (0, a4 + 1), (0, a5)] [] S I := by
  refine (sx_iinc (al' := [(2, 0), (0, a1), (2, a2), (0, a3), (0, a4 + 1), (0, a5)]) D161_66 rfl rfl).trans ?_
  refine (sx_goto (pc' := 30) D161_69 (by decide) (by decide)).trans ?_
  exact rfl
theorem E162_0 {d : Nat} {S : SS} {I : II} (h0 : QA S 0) : ev (d + 1) 162 0 [(2, 0)] [] S I = (ev d 49 0 [(2, 5), (2, 3), uU] [] S I).bind (fun q => ev (d + 1) 162 11 [(2, 0)] (psh q.1 []) q.2.1 q.2.2) := by
  refine (sx_aload_n D162_0 rfl).trans ?_
  refine (sx_gfR (q := (8, 2, 0, 289)) (b := 5) D162_1 (by decide +kernel) (by decide +kernel) (by decide) (QA_o h0) (QA_g2 h0)).trans ?_
  refine (sx_aload_n D162_4 rfl).trans ?_
  refine (sx_gfR (q := (8, 1, 0, 288)) (b := 3) D162_5 (by decide +kernel) (by decide +kernel) (by decide) (QA_o h0) (QA_g1 h0)).trans ?_
  exact sx_virt (c := 3) (ag := [(2, 5), (2, 3)]) (r := []) (al' := [(2, 5), (2, 3), uU]) (np := 1) (nl := 3) (q := (1, 49, 934)) D162_8 (by decide +kernel) (by decide) mP_49 mL_49 mC_49 (Nat.le_of_ble_eq_true rfl) rfl rfl (by simp [cat]) (by decide) (DA_o (QA_k2 h0)) rfl rfl
theorem E162_11 {d : Nat} {s0 : Int} {S : SS} {I : II}  : ev d 162 11 [(2, 0)] [(0, s0)] S I = some ((0, s0), S, I) := by
  exact sx_ireturn D162_11 (by decide +kernel)
theorem E163_0 {d : Nat} {S : SS} {I : II} (h0 : QA S 0) : ev (d + 1) 163 0 [(2, 0)] [] S I = (ev d 50 0 [(2, 5), (2, 3), uU, uU] [] S I).bind (fun q => ev (d + 1) 163 11 [(2, 0)] (psh q.1 []) q.2.1 q.2.2) := by
  refine (sx_aload_n D163_0 rfl).trans ?_
  refine (sx_gfR (q := (8, 2, 0, 289)) (b := 5) D163_1 (by decide +kernel) (by decide +kernel) (by decide) (QA_o h0) (QA_g2 h0)).trans ?_
  refine (sx_aload_n D163_4 rfl).trans ?_
  refine (sx_gfR (q := (8, 1, 0, 288)) (b := 3) D163_5 (by decide +kernel) (by decide +kernel) (by decide) (QA_o h0) (QA_g1 h0)).trans ?_
  exact sx_virt (c := 3) (ag := [(2, 5), (2, 3)]) (r := []) (al' := [(2, 5), (2, 3), uU, uU]) (np := 1) (nl := 4) (q := (1, 50, 944)) D163_8 (by decide +kernel) (by decide) mP_50 mL_50 mC_50 (Nat.le_of_ble_eq_true rfl) rfl rfl (by simp [cat]) (by decide) (DA_o (QA_k2 h0)) rfl rfl
theorem E163_11 {d : Nat} {s0 : Int} {S : SS} {I : II}  : ev d 163 11 [(2, 0)] [(0, s0)] S I = some ((0, s0), S, I) := by
  exact sx_ireturn D163_11 (by decide +kernel)
theorem E164_0 {d : Nat} {a1 : Int} {S : SS} {I : II} (h0 : QA S 0) : ev (d + 1) 164 0 [(2, 0), (0, a1), uU] [] S I = (ev d 21 0 [(2, 5), (0, a1)] [] S I).bind (fun q => ev (d + 1) 164 8 [(2, 0), (0, a1), uU] (psh q.1 []) q.2.1 q.2.2) := by
  refine (sx_aload_n D164_0 rfl).trans ?_
  refine (sx_gfR (q := (8, 2, 0, 289)) (b := 5) D164_1 (by decide +kernel) (by decide +kernel) (by decide) (QA_o h0) (QA_g2 h0)).trans ?_
  refine (sx_iload_n D164_4 rfl).trans ?_
  exact sx_virt (c := 3) (ag := [(2, 5), (0, a1)]) (r := []) (al' := [(2, 5), (0, a1)]) (np := 1) (nl := 2) (q := (1, 21, 923)) D164_5 (by decide +kernel) (by decide) mP_21 mL_21 mC_21 (Nat.le_of_ble_eq_true rfl) rfl rfl (by simp [cat]) (by decide) (DA_o (QA_k2 h0)) rfl rfl
theorem E164_8 {d : Nat} {a1 s0 : Int} {S : SS} {I : II} (h0 : s0 = -1 ∨ LA S s0) (h1 : QA S 0) : ev (d + 1) 164 8 [(2, 0), (0, a1), uU] [(2, s0)] S I = if s0 = -1 then (ev (d + 1) 164 21 [(2, 0), (0, a1), (2, s0)] [] S I) else (if w (I s0 1) < 1 then (ev (d + 1) 164 21 [(2, 0), (0, a1), (2, s0)] [] S I) else (gdR (w (I s0 1) ≠ 0) ((ev d 90 0 [(2, s0), (0, I s0 10)] [] S I).bind (fun q => ev (d + 1) 164 45 [(2, 0), (0, a1), (2, s0)] (psh q.1 [(1, w (iRem (I s0 10) (I s0 1))), (2, 3)]) q.2.1 q.2.2)))) := by
  refine (sx_astore_n (al' := [(2, 0), (0, a1), (2, s0)]) D164_8 (Nat.le_of_ble_eq_true rfl) rfl rfl).trans ?_
  refine (sx_aload_n D164_9 rfl).trans ?_
  refine sx_ifnull (pc' := 21) D164_10 (by decide) (by decide) (null_ok (h0.imp id (fun h => (LA_o h).1))) (fun _ => ?_) (fun n1 => ?_)
  · exact rfl
  · refine (sx_aload_n D164_13 rfl).trans ?_
    refine (sx_gfI (q := (3, 1, 1, 82)) (j := 1) D164_14 (by decide +kernel) (by decide +kernel) (by decide) (LA_o (h0.resolve_left n1)) rfl rfl).trans ?_
    refine (sx_iconst D164_17).trans ?_
    refine sx_if_ge (pc' := 23) D164_18 (by decide) (by decide) ?_ ?_ rfl (w_small (by decide) (by decide))
    · exact rfl
    · refine (sx_aload_n D164_23 rfl).trans ?_
      refine (sx_gfR (q := (8, 1, 0, 288)) (b := 3) D164_24 (by decide +kernel) (by decide +kernel) (by decide) (QA_o h1) (QA_g1 h1)).trans ?_
      refine (sx_aload_n D164_27 rfl).trans ?_
      refine (sx_gfI (q := (3, 10, 1, 100)) (j := 10) D164_28 (by decide +kernel) (by decide +kernel) (by decide) (LA_o (h0.resolve_left n1)) rfl rfl).trans ?_
      refine (sx_aload_n D164_31 rfl).trans ?_
      refine (sx_gfI (q := (3, 1, 1, 82)) (j := 1) D164_32 (by decide +kernel) (by decide +kernel) (by decide) (LA_o (h0.resolve_left n1)) rfl rfl).trans ?_
      refine (sx_irem D164_35).trans (gdR_to fun g2 => ?_)
      refine (sx_i2l D164_36).trans ?_
      refine (sx_aload_n D164_37 rfl).trans ?_
      refine (sx_aload_n D164_38 rfl).trans ?_
      refine (sx_gfI (q := (3, 10, 1, 100)) (j := 10) D164_39 (by decide +kernel) (by decide +kernel) (by decide) (LA_o (h0.resolve_left n1)) rfl rfl).trans ?_
      exact sx_virt (c := 5) (ag := [(2, s0), (0, I s0 10)]) (r := [(1, w (iRem (I s0 10) (I s0 1))), (2, 3)]) (al' := [(2, s0), (0, I s0 10)]) (np := 1) (nl := 2) (q := (1, 90, 952)) D164_42 (by decide +kernel) (by decide) mP_90 mL_90 mC_90 (Nat.le_of_ble_eq_true rfl) rfl rfl (by simp [cat]) (by decide) (LA_o (h0.resolve_left n1)) rfl rfl
theorem E164_21 {d : Nat} {a1 a2 : Int} {S : SS} {I : II}  : ev d 164 21 [(2, 0), (0, a1), (2, a2)] [] S I = some ((0, (-1)), S, I) := by
  refine (sx_iconst D164_21).trans ?_
  exact sx_ireturn D164_22 (by decide +kernel)
theorem E164_45 {d : Nat} {a1 a2 s1 s2 : Int} {S : SS} {I : II} (h0 : RA S 3) : ev (d + 1) 164 45 [(2, 0), (0, a1), (2, a2)] [(0, s2), (1, s1), (2, 3)] S I = (ev d 109 0 [(2, 3), (1, s1), uU, (1, w s2), uU] [] S I).bind (fun q => ev (d + 1) 164 49 [(2, 0), (0, a1), (2, a2)] (psh q.1 []) q.2.1 q.2.2) := by
  refine (sx_i2l D164_45).trans ?_
  exact sx_virt (c := 7) (ag := [(2, 3), (1, s1), (1, w s2)]) (r := []) (al' := [(2, 3), (1, s1), uU, (1, w s2), uU]) (np := 2) (nl := 5) (q := (1, 109, 910)) D164_46 (by decide +kernel) (by decide) mP_109 mL_109 mC_109 (Nat.le_of_ble_eq_true rfl) rfl rfl (by simp [cat]) (by decide) (RA_o h0) rfl rfl
theorem E164_49 {d : Nat} {a1 a2 : Int} {S : SS} {I : II} (h0 : LA S a2) : ev (d + 1) 164 49 [(2, 0), (0, a1), (2, a2)] [] S I = (ev d 97 0 [(2, a2), uU, uU] [] S I).bind (fun q => ev (d + 1) 164 53 [(2, 0), (0, a1), (2, a2)] (psh q.1 []) q.2.1 q.2.2) := by
  refine (sx_aload_n D164_49 rfl).trans ?_
  exact sx_virt (c := 5) (ag := [(2, a2)]) (r := []) (al' := [(2, a2), uU, uU]) (np := 0) (nl := 3) (q := (1, 97, 953)) D164_50 (by decide +kernel) (by decide) mP_97 mL_97 mC_97 (Nat.le_of_ble_eq_true rfl) rfl rfl (by simp [cat]) (by decide) (LA_o h0) rfl rfl
theorem E164_53 {d : Nat} {a1 a2 s0 : Int} {S : SS} {I : II}  : ev d 164 53 [(2, 0), (0, a1), (2, a2)] [(0, s0)] S I = some ((0, s0), S, I) := by
  exact sx_ireturn D164_53 (by decide +kernel)
theorem E165_0 {d : Nat} {a1 : Int} {S : SS} {I : II} (h0 : QA S 0) : ev (d + 1) 165 0 [(2, 0), (0, a1), uU] [] S I = (ev d 21 0 [(2, 5), (0, a1)] [] S I).bind (fun q => ev (d + 1) 165 8 [(2, 0), (0, a1), uU] (psh q.1 []) q.2.1 q.2.2) := by
  refine (sx_aload_n D165_0 rfl).trans ?_
  refine (sx_gfR (q := (8, 2, 0, 289)) (b := 5) D165_1 (by decide +kernel) (by decide +kernel) (by decide) (QA_o h0) (QA_g2 h0)).trans ?_
  refine (sx_iload_n D165_4 rfl).trans ?_
  exact sx_virt (c := 3) (ag := [(2, 5), (0, a1)]) (r := []) (al' := [(2, 5), (0, a1)]) (np := 1) (nl := 2) (q := (1, 21, 923)) D165_5 (by decide +kernel) (by decide) mP_21 mL_21 mC_21 (Nat.le_of_ble_eq_true rfl) rfl rfl (by simp [cat]) (by decide) (DA_o (QA_k2 h0)) rfl rfl
theorem E165_8 {d : Nat} {a1 s0 : Int} {S : SS} {I : II} (h0 : s0 = -1 ∨ LA S s0) (h1 : QA S 0) : ev (d + 1) 165 8 [(2, 0), (0, a1), uU] [(2, s0)] S I = if s0 = -1 then (some ((0, (-1)), S, I)) else ((ev d 77 0 [(2, s0)] [] S I).bind (fun q => ev (d + 1) 165 23 [(2, 0), (0, a1), (2, s0)] (psh q.1 [(2, 3)]) q.2.1 q.2.2)) := by
  refine (sx_astore_n (al' := [(2, 0), (0, a1), (2, s0)]) D165_8 (Nat.le_of_ble_eq_true rfl) rfl rfl).trans ?_
  refine (sx_aload_n D165_9 rfl).trans ?_
  refine sx_ifnonnull (pc' := 15) D165_10 (by decide) (by decide) (null_ok (h0.imp id (fun h => (LA_o h).1))) (fun _ => ?_) (fun n1 => ?_)
  · refine (sx_iconst D165_13).trans ?_
    exact sx_ireturn D165_14 (by decide +kernel)
  · refine (sx_aload_n D165_15 rfl).trans ?_
    refine (sx_gfR (q := (8, 1, 0, 288)) (b := 3) D165_16 (by decide +kernel) (by decide +kernel) (by decide) (QA_o h1) (QA_g1 h1)).trans ?_
    refine (sx_aload_n D165_19 rfl).trans ?_
    exact sx_virt (c := 5) (ag := [(2, s0)]) (r := [(2, 3)]) (al' := [(2, s0)]) (np := 0) (nl := 1) (q := (1, 77, 963)) D165_20 (by decide +kernel) (by decide) mP_77 mL_77 mC_77 (Nat.le_of_ble_eq_true rfl) rfl rfl (by simp [cat]) (by decide) (LA_o (h0.resolve_left n1)) rfl rfl
theorem E165_23 {d : Nat} {a1 a2 s1 : Int} {S : SS} {I : II} (h0 : LA S a2) : ev (d + 1) 165 23 [(2, 0), (0, a1), (2, a2)] [(0, s1), (2, 3)] S I = (ev d 98 0 [(2, a2)] [] S I).bind (fun q => ev (d + 1) 165 28 [(2, 0), (0, a1), (2, a2)] (psh q.1 [(1, w s1), (2, 3)]) q.2.1 q.2.2) := by
  refine (sx_i2l D165_23).trans ?_
  refine (sx_aload_n D165_24 rfl).trans ?_
  exact sx_virt (c := 5) (ag := [(2, a2)]) (r := [(1, w s1), (2, 3)]) (al' := [(2, a2)]) (np := 0) (nl := 1) (q := (1, 98, 964)) D165_25 (by decide +kernel) (by decide) mP_98 mL_98 mC_98 (Nat.le_of_ble_eq_true rfl) rfl rfl (by simp [cat]) (by decide) (LA_o h0) rfl rfl
theorem E165_28 {d : Nat} {a1 a2 s1 s2 : Int} {S : SS} {I : II} (h0 : RA S 3) : ev (d + 1) 165 28 [(2, 0), (0, a1), (2, a2)] [(0, s2), (1, s1), (2, 3)] S I = (ev d 109 0 [(2, 3), (1, s1), uU, (1, w s2), uU] [] S I).bind (fun q => ev (d + 1) 165 32 [(2, 0), (0, a1), (2, a2)] (psh q.1 []) q.2.1 q.2.2) := by
  refine (sx_i2l D165_28).trans ?_
  exact sx_virt (c := 7) (ag := [(2, 3), (1, s1), (1, w s2)]) (r := []) (al' := [(2, 3), (1, s1), uU, (1, w s2), uU]) (np := 2) (nl := 5) (q := (1, 109, 910)) D165_29 (by decide +kernel) (by decide) mP_109 mL_109 mC_109 (Nat.le_of_ble_eq_true rfl) rfl rfl (by simp [cat]) (by decide) (RA_o h0) rfl rfl
theorem E165_32 {d : Nat} {a1 a2 : Int} {S : SS} {I : II} (h0 : LA S a2) : ev (d + 1) 165 32 [(2, 0), (0, a1), (2, a2)] [] S I = (ev d 77 0 [(2, a2)] [] S I).bind (fun q => ev (d + 1) 165 36 [(2, 0), (0, a1), (2, a2)] (psh q.1 []) q.2.1 q.2.2) := by
  refine (sx_aload_n D165_32 rfl).trans ?_
  exact sx_virt (c := 5) (ag := [(2, a2)]) (r := []) (al' := [(2, a2)]) (np := 0) (nl := 1) (q := (1, 77, 963)) D165_33 (by decide +kernel) (by decide) mP_77 mL_77 mC_77 (Nat.le_of_ble_eq_true rfl) rfl rfl (by simp [cat]) (by decide) (LA_o h0) rfl rfl
theorem E165_36 {d : Nat} {a1 a2 s0 : Int} {S : SS} {I : II} (h0 : LA S a2) : ev (d + 1) 165 36 [(2, 0), (0, a1), (2, a2)] [(0, s0)] S I = (ev d 98 0 [(2, a2)] [] S I).bind (fun q => ev (d + 1) 165 40 [(2, 0), (0, a1), (2, a2)] (psh q.1 [(0, s0)]) q.2.1 q.2.2) := by
  refine (sx_aload_n D165_36 rfl).trans ?_
  exact sx_virt (c := 5) (ag := [(2, a2)]) (r := [(0, s0)]) (al' := [(2, a2)]) (np := 0) (nl := 1) (q := (1, 98, 964)) D165_37 (by decide +kernel) (by decide) mP_98 mL_98 mC_98 (Nat.le_of_ble_eq_true rfl) rfl rfl (by simp [cat]) (by decide) (LA_o h0) rfl rfl
theorem E165_40 {d : Nat} {a1 a2 s0 s1 : Int} {S : SS} {I : II}  : ev d 165 40 [(2, 0), (0, a1), (2, a2)] [(0, s1), (0, s0)] S I = some ((0, if w s1 < w s0 then w s1 else w s0), S, I) := by
  refine (sx_min (q := (13, 0, 969)) D165_40 (by decide +kernel) rfl (by simp [cat]) rfl rfl).trans ?_
  exact sx_ireturn D165_43 (by decide +kernel)
theorem E166_0 {d : Nat} {a1 : Int} {S : SS} {I : II} (h0 : QA S 0) : ev (d + 1) 166 0 [(2, 0), (0, a1)] [] S I = if w a1 < 0 then (ev (d + 1) 166 10 [(2, 0), (0, a1)] [] S I) else (if w a1 < 10 then ((ev d 51 0 [(2, 5), (0, a1), uU, uU, uU, uU] [] S I).bind (fun q => ev (d + 1) 166 24 [(2, 0), (0, a1)] (psh q.1 [(2, 3)]) q.2.1 q.2.2)) else (ev (d + 1) 166 10 [(2, 0), (0, a1)] [] S I)) := by
  refine (sx_iload_n D166_0 rfl).trans ?_
  refine sx_i0_lt (pc' := 10) D166_1 (by decide) (by decide) ?_ ?_ rfl
  · exact rfl
  · refine (sx_iload_n D166_4 rfl).trans ?_
    refine (sx_bipush D166_5 (by decide)).trans ?_
    refine sx_if_lt (pc' := 12) D166_7 (by decide) (by decide) ?_ ?_ rfl (w_small (by decide) (by decide))
    · refine (sx_aload_n D166_12 rfl).trans ?_
      refine (sx_gfR (q := (8, 1, 0, 288)) (b := 3) D166_13 (by decide +kernel) (by decide +kernel) (by decide) (QA_o h0) (QA_g1 h0)).trans ?_
      refine (sx_aload_n D166_16 rfl).trans ?_
      refine (sx_gfR (q := (8, 2, 0, 289)) (b := 5) D166_17 (by decide +kernel) (by decide +kernel) (by decide) (QA_o h0) (QA_g2 h0)).trans ?_
      refine (sx_iload_n D166_20 rfl).trans ?_
      exact sx_virt (c := 3) (ag := [(2, 5), (0, a1)]) (r := [(2, 3)]) (al' := [(2, 5), (0, a1), uU, uU, uU, uU]) (np := 1) (nl := 6) (q := (1, 51, 974)) D166_21 (by decide +kernel) (by decide) mP_51 mL_51 mC_51 (Nat.le_of_ble_eq_true rfl) rfl rfl (by simp [cat]) (by decide) (DA_o (QA_k2 h0)) rfl rfl
    · exact rfl
theorem E166_10 {d : Nat} {a1 : Int} {S : SS} {I : II}  : ev d 166 10 [(2, 0), (0, a1)] [] S I = some ((0, (-1)), S, I) := by
  refine (sx_iconst D166_10).trans ?_
  exact sx_ireturn D166_11 (by decide +kernel)
theorem E166_24 {d : Nat} {a1 s1 : Int} {S : SS} {I : II} (h0 : QA S 0) : ev (d + 1) 166 24 [(2, 0), (0, a1)] [(0, s1), (2, 3)] S I = (ev d 52 0 [(2, 5), (0, a1), uU, uU, uU] [] S I).bind (fun q => ev (d + 1) 166 33 [(2, 0), (0, a1)] (psh q.1 [(1, w s1), (2, 3)]) q.2.1 q.2.2) := by
  refine (sx_i2l D166_24).trans ?_
  refine (sx_aload_n D166_25 rfl).trans ?_
  refine (sx_gfR (q := (8, 2, 0, 289)) (b := 5) D166_26 (by decide +kernel) (by decide +kernel) (by decide) (QA_o h0) (QA_g2 h0)).trans ?_
  refine (sx_iload_n D166_29 rfl).trans ?_
  exact sx_virt (c := 3) (ag := [(2, 5), (0, a1)]) (r := [(1, w s1), (2, 3)]) (al' := [(2, 5), (0, a1), uU, uU, uU]) (np := 1) (nl := 5) (q := (1, 52, 984)) D166_30 (by decide +kernel) (by decide) mP_52 mL_52 mC_52 (Nat.le_of_ble_eq_true rfl) rfl rfl (by simp [cat]) (by decide) (DA_o (QA_k2 h0)) rfl rfl
theorem E166_33 {d : Nat} {a1 s1 s2 : Int} {S : SS} {I : II} (h0 : RA S 3) : ev (d + 1) 166 33 [(2, 0), (0, a1)] [(0, s2), (1, s1), (2, 3)] S I = (ev d 109 0 [(2, 3), (1, s1), uU, (1, w s2), uU] [] S I).bind (fun q => ev (d + 1) 166 37 [(2, 0), (0, a1)] (psh q.1 []) q.2.1 q.2.2) := by
  refine (sx_i2l D166_33).trans ?_
  exact sx_virt (c := 7) (ag := [(2, 3), (1, s1), (1, w s2)]) (r := []) (al' := [(2, 3), (1, s1), uU, (1, w s2), uU]) (np := 2) (nl := 5) (q := (1, 109, 910)) D166_34 (by decide +kernel) (by decide) mP_109 mL_109 mC_109 (Nat.le_of_ble_eq_true rfl) rfl rfl (by simp [cat]) (by decide) (RA_o h0) rfl rfl
theorem E166_37 {d : Nat} {a1 : Int} {S : SS} {I : II} (h0 : QA S 0) : ev (d + 1) 166 37 [(2, 0), (0, a1)] [] S I = (ev d 29 0 [(2, 5), (0, a1)] [] S I).bind (fun q => ev (d + 1) 166 45 [(2, 0), (0, a1)] (psh q.1 []) q.2.1 q.2.2) := by
  refine (sx_aload_n D166_37 rfl).trans ?_
  refine (sx_gfR (q := (8, 2, 0, 289)) (b := 5) D166_38 (by decide +kernel) (by decide +kernel) (by decide) (QA_o h0) (QA_g2 h0)).trans ?_
  refine (sx_iload_n D166_41 rfl).trans ?_
  exact sx_virt (c := 3) (ag := [(2, 5), (0, a1)]) (r := []) (al' := [(2, 5), (0, a1)]) (np := 1) (nl := 2) (q := (1, 29, 988)) D166_42 (by decide +kernel) (by decide) mP_29 mL_29 mC_29 (Nat.le_of_ble_eq_true rfl) rfl rfl (by simp [cat]) (by decide) (DA_o (QA_k2 h0)) rfl rfl
theorem E166_45 {d : Nat} {a1 s0 : Int} {S : SS} {I : II}  : ev d 166 45 [(2, 0), (0, a1)] [(0, s0)] S I = some ((0, s0), S, I) := by
  exact sx_ireturn D166_45 (by decide +kernel)
theorem E167_0 {d : Nat} {S : SS} {I : II} (h0 : QA S 0) : ev (d + 1) 167 0 [(2, 0), uU, uU] [] S I = (ev d 19 0 [(2, 36), (2, 5), uU] [] S I).bind (fun q => ev (d + 1) 167 11 [(2, 0), uU, uU] (psh q.1 []) q.2.1 q.2.2) := by
  refine (sx_aload_n D167_0 rfl).trans ?_
  refine (sx_gfR (q := (8, 3, 0, 290)) (b := 36) D167_1 (by decide +kernel) (by decide +kernel) (by decide) (QA_o h0) (QA_g3 h0)).trans ?_
  refine (sx_aload_n D167_4 rfl).trans ?_
  refine (sx_gfR (q := (8, 2, 0, 289)) (b := 5) D167_5 (by decide +kernel) (by decide +kernel) (by decide) (QA_o h0) (QA_g2 h0)).trans ?_
  exact sx_virt (c := 3) (ag := [(2, 36), (2, 5)]) (r := []) (al' := [(2, 36), (2, 5), uU]) (np := 1) (nl := 3) (q := (1, 19, 993)) D167_8 (by decide +kernel) (by decide) mP_19 mL_19 mC_19 (Nat.le_of_ble_eq_true rfl) rfl rfl (by simp [cat]) (by decide) (DA_o (QA_k3 h0)) rfl rfl
theorem E167_11 {d : Nat} {S : SS} {I : II} (h0 : QA S 0) : ev (d + 1) 167 11 [(2, 0), uU, uU] [] S I = (ev d 35 0 [(2, 36), uU, uU] [] S I).bind (fun q => ev (d + 1) 167 18 [(2, 0), uU, uU] (psh q.1 []) q.2.1 q.2.2) := by
  refine (sx_aload_n D167_11 rfl).trans ?_
  refine (sx_gfR (q := (8, 3, 0, 290)) (b := 36) D167_12 (by decide +kernel) (by decide +kernel) (by decide) (QA_o h0) (QA_g3 h0)).trans ?_
  exact sx_virt (c := 3) (ag := [(2, 36)]) (r := []) (al' := [(2, 36), uU, uU]) (np := 0) (nl := 3) (q := (1, 35, 994)) D167_15 (by decide +kernel) (by decide) mP_35 mL_35 mC_35 (Nat.le_of_ble_eq_true rfl) rfl rfl (by simp [cat]) (by decide) (DA_o (QA_k3 h0)) rfl rfl
theorem E167_18 {d : Nat} {s0 : Int} {S : SS} {I : II} (h0 : QA S 0) : ev (d + 1) 167 18 [(2, 0), uU, uU] [(0, s0)] S I = (ev d 21 0 [(2, 36), (0, s0)] [] S I).bind (fun q => ev (d + 1) 167 27 [(2, 0), (0, s0), uU] (psh q.1 []) q.2.1 q.2.2) := by
  refine (sx_istore_n (al' := [(2, 0), (0, s0), uU]) D167_18 (Nat.le_of_ble_eq_true rfl) rfl rfl).trans ?_
  refine (sx_aload_n D167_19 rfl).trans ?_
  refine (sx_gfR (q := (8, 3, 0, 290)) (b := 36) D167_20 (by decide +kernel) (by decide +kernel) (by decide) (QA_o h0) (QA_g3 h0)).trans ?_
  refine (sx_iload_n D167_23 rfl).trans ?_
  exact sx_virt (c := 3) (ag := [(2, 36), (0, s0)]) (r := []) (al' := [(2, 36), (0, s0)]) (np := 1) (nl := 2) (q := (1, 21, 923)) D167_24 (by decide +kernel) (by decide) mP_21 mL_21 mC_21 (Nat.le_of_ble_eq_true rfl) rfl rfl (by simp [cat]) (by decide) (DA_o (QA_k3 h0)) rfl rfl
theorem E167_27 {d : Nat} {a1 s0 : Int} {S : SS} {I : II} (h0 : s0 = -1 ∨ LA S s0) (h1 : QA S 0) : ev (d + 1) 167 27 [(2, 0), (0, a1), uU] [(2, s0)] S I = if s0 = -1 then (some ((0, (-2)), S, I)) else ((ev d 53 0 [(2, 36), (0, I s0 2)] [] S I).bind (fun q => ev (d + 1) 167 55 [(2, 0), (0, a1), (2, s0)] (psh q.1 [(1, w (I s0 2)), (2, 3)]) q.2.1 q.2.2)) := by
  refine (sx_astore_n (al' := [(2, 0), (0, a1), (2, s0)]) D167_27 (Nat.le_of_ble_eq_true rfl) rfl rfl).trans ?_
  refine (sx_aload_n D167_28 rfl).trans ?_
  refine sx_ifnonnull (pc' := 35) D167_29 (by decide) (by decide) (null_ok (h0.imp id (fun h => (LA_o h).1))) (fun _ => ?_) (fun n1 => ?_)
  · refine (sx_bipush D167_32 (by decide)).trans ?_
    exact sx_ireturn D167_34 (by decide +kernel)
  · refine (sx_aload_n D167_35 rfl).trans ?_
    refine (sx_gfR (q := (8, 1, 0, 288)) (b := 3) D167_36 (by decide +kernel) (by decide +kernel) (by decide) (QA_o h1) (QA_g1 h1)).trans ?_
    refine (sx_aload_n D167_39 rfl).trans ?_
    refine (sx_gfI (q := (3, 2, 1, 85)) (j := 2) D167_40 (by decide +kernel) (by decide +kernel) (by decide) (LA_o (h0.resolve_left n1)) rfl rfl).trans ?_
    refine (sx_i2l D167_43).trans ?_
    refine (sx_aload_n D167_44 rfl).trans ?_
    refine (sx_gfR (q := (8, 3, 0, 290)) (b := 36) D167_45 (by decide +kernel) (by decide +kernel) (by decide) (QA_o h1) (QA_g3 h1)).trans ?_
    refine (sx_aload_n D167_48 rfl).trans ?_
    refine (sx_gfI (q := (3, 2, 1, 85)) (j := 2) D167_49 (by decide +kernel) (by decide +kernel) (by decide) (LA_o (h0.resolve_left n1)) rfl rfl).trans ?_
    exact sx_virt (c := 3) (ag := [(2, 36), (0, I s0 2)]) (r := [(1, w (I s0 2)), (2, 3)]) (al' := [(2, 36), (0, I s0 2)]) (np := 1) (nl := 2) (q := (1, 53, 995)) D167_52 (by decide +kernel) (by decide) mP_53 mL_53 mC_53 (Nat.le_of_ble_eq_true rfl) rfl rfl (by simp [cat]) (by decide) (DA_o (QA_k3 h1)) rfl rfl
theorem E167_55 {d : Nat} {a1 a2 s1 s2 : Int} {S : SS} {I : II} (h0 : RA S 3) : ev (d + 1) 167 55 [(2, 0), (0, a1), (2, a2)] [(0, s2), (1, s1), (2, 3)] S I = (ev d 109 0 [(2, 3), (1, s1), uU, (1, w s2), uU] [] S I).bind (fun q => ev (d + 1) 167 59 [(2, 0), (0, a1), (2, a2)] (psh q.1 []) q.2.1 q.2.2) := by
  refine (sx_i2l D167_55).trans ?_
  exact sx_virt (c := 7) (ag := [(2, 3), (1, s1), (1, w s2)]) (r := []) (al' := [(2, 3), (1, s1), uU, (1, w s2), uU]) (np := 2) (nl := 5) (q := (1, 109, 910)) D167_56 (by decide +kernel) (by decide) mP_109 mL_109 mC_109 (Nat.le_of_ble_eq_true rfl) rfl rfl (by simp [cat]) (by decide) (RA_o h0) rfl rfl
theorem E167_59 {d : Nat} {a1 a2 : Int} {S : SS} {I : II}  : ev d 167 59 [(2, 0), (0, a1), (2, a2)] [] S I = some ((0, a1), S, I) := by
  refine (sx_iload_n D167_59 rfl).trans ?_
  exact sx_ireturn D167_60 (by decide +kernel)
theorem E168_0 {d : Nat} {a1 : Int} {S : SS} {I : II} (h0 : QA S 0) : ev (d + 1) 168 0 [(2, 0), (0, a1)] [] S I = if w a1 < 1 then (ev (d + 1) 168 11 [(2, 0), (0, a1)] [] S I) else (if 60 < w a1 then (ev (d + 1) 168 11 [(2, 0), (0, a1)] [] S I) else ((ev d 34 0 [(2, 5), uU] [] S I).bind (fun q => ev (d + 1) 168 20 [(2, 0), (0, a1)] (psh q.1 []) q.2.1 q.2.2))) := by
  refine (sx_iload_n D168_0 rfl).trans ?_
  refine (sx_iconst D168_1).trans ?_
  refine sx_if_lt (pc' := 11) D168_2 (by decide) (by decide) ?_ ?_ rfl (w_small (by decide) (by decide))
  · exact rfl
  · refine (sx_iload_n D168_5 rfl).trans ?_
    refine (sx_bipush D168_6 (by decide)).trans ?_
    refine sx_if_le (pc' := 13) D168_8 (by decide) (by decide) ?_ ?_ rfl (w_small (by decide) (by decide))
    · exact rfl
    · refine (sx_aload_n D168_13 rfl).trans ?_
      refine (sx_gfR (q := (8, 2, 0, 289)) (b := 5) D168_14 (by decide +kernel) (by decide +kernel) (by decide) (QA_o h0) (QA_g2 h0)).trans ?_
      exact sx_virt (c := 3) (ag := [(2, 5)]) (r := []) (al' := [(2, 5), uU]) (np := 0) (nl := 2) (q := (1, 34, 1003)) D168_17 (by decide +kernel) (by decide) mP_34 mL_34 mC_34 (Nat.le_of_ble_eq_true rfl) rfl rfl (by simp [cat]) (by decide) (DA_o (QA_k2 h0)) rfl rfl
theorem E168_11 {d : Nat} {a1 : Int} {S : SS} {I : II}  : ev d 168 11 [(2, 0), (0, a1)] [] S I = some ((0, (-1)), S, I) := by
  refine (sx_iconst D168_11).trans ?_
  exact sx_ireturn D168_12 (by decide +kernel)
theorem E168_20 {d : Nat} {a1 s0 : Int} {S : SS} {I : II} (h0 : QA S 0) : ev (d + 1) 168 20 [(2, 0), (0, a1)] [(0, s0)] S I = if w s0 = 0 then (some ((0, (-2)), S, I)) else ((ev d 19 0 [(2, 36), (2, 5), uU] [] S I).bind (fun q => ev (d + 1) 168 37 [(2, 0), (0, a1)] (psh q.1 []) q.2.1 q.2.2)) := by
  refine sx_i0_ne (pc' := 26) D168_20 (by decide) (by decide) ?_ ?_ rfl
  · refine (sx_bipush D168_23 (by decide)).trans ?_
    exact sx_ireturn D168_25 (by decide +kernel)
  · refine (sx_aload_n D168_26 rfl).trans ?_
    refine (sx_gfR (q := (8, 3, 0, 290)) (b := 36) D168_27 (by decide +kernel) (by decide +kernel) (by decide) (QA_o h0) (QA_g3 h0)).trans ?_
    refine (sx_aload_n D168_30 rfl).trans ?_
    refine (sx_gfR (q := (8, 2, 0, 289)) (b := 5) D168_31 (by decide +kernel) (by decide +kernel) (by decide) (QA_o h0) (QA_g2 h0)).trans ?_
    exact sx_virt (c := 3) (ag := [(2, 36), (2, 5)]) (r := []) (al' := [(2, 36), (2, 5), uU]) (np := 1) (nl := 3) (q := (1, 19, 993)) D168_34 (by decide +kernel) (by decide) mP_19 mL_19 mC_19 (Nat.le_of_ble_eq_true rfl) rfl rfl (by simp [cat]) (by decide) (DA_o (QA_k3 h0)) rfl rfl
theorem E168_37 {d : Nat} {a1 : Int} {S : SS} {I : II} (h0 : QA S 0) : ev (d + 1) 168 37 [(2, 0), (0, a1)] [] S I = (ev d 54 0 [(2, 36), (0, a1), (2, 3), uU, uU, uU, uU, uU] [] S I).bind (fun q => ev (d + 1) 168 49 [(2, 0), (0, a1)] (psh q.1 []) q.2.1 q.2.2) := by
  refine (sx_aload_n D168_37 rfl).trans ?_
  refine (sx_gfR (q := (8, 3, 0, 290)) (b := 36) D168_38 (by decide +kernel) (by decide +kernel) (by decide) (QA_o h0) (QA_g3 h0)).trans ?_
  refine (sx_iload_n D168_41 rfl).trans ?_
  refine (sx_aload_n D168_42 rfl).trans ?_
  refine (sx_gfR (q := (8, 1, 0, 288)) (b := 3) D168_43 (by decide +kernel) (by decide +kernel) (by decide) (QA_o h0) (QA_g1 h0)).trans ?_
  exact sx_virt (c := 3) (ag := [(2, 36), (0, a1), (2, 3)]) (r := []) (al' := [(2, 36), (0, a1), (2, 3), uU, uU, uU, uU, uU]) (np := 2) (nl := 8) (q := (1, 54, 1004)) D168_46 (by decide +kernel) (by decide) mP_54 mL_54 mC_54 (Nat.le_of_ble_eq_true rfl) rfl rfl (by simp [cat]) (by decide) (DA_o (QA_k3 h0)) rfl rfl
theorem E168_49 {d : Nat} {a1 s0 : Int} {S : SS} {I : II}  : ev d 168 49 [(2, 0), (0, a1)] [(0, s0)] S I = some ((0, s0), S, I) := by
  exact sx_ireturn D168_49 (by decide +kernel)
theorem E169_0 {d : Nat} {a1 a2 : Int} {S : SS} {I : II} (h0 : QA S 0) : ev (d + 1) 169 0 [(2, 0), (0, a1), (0, a2), uU] [] S I = (ev d 21 0 [(2, 5), (0, a1)] [] S I).bind (fun q => ev (d + 1) 169 8 [(2, 0), (0, a1), (0, a2), uU] (psh q.1 []) q.2.1 q.2.2) := by
  refine (sx_aload_n D169_0 rfl).trans ?_
  refine (sx_gfR (q := (8, 2, 0, 289)) (b := 5) D169_1 (by decide +kernel) (by decide +kernel) (by decide) (QA_o h0) (QA_g2 h0)).trans ?_
  refine (sx_iload_n D169_4 rfl).trans ?_
  exact sx_virt (c := 3) (ag := [(2, 5), (0, a1)]) (r := []) (al' := [(2, 5), (0, a1)]) (np := 1) (nl := 2) (q := (1, 21, 923)) D169_5 (by decide +kernel) (by decide) mP_21 mL_21 mC_21 (Nat.le_of_ble_eq_true rfl) rfl rfl (by simp [cat]) (by decide) (DA_o (QA_k2 h0)) rfl rfl
theorem E169_8 {d : Nat} {a1 a2 s0 : Int} {S : SS} {I : II} (h0 : s0 = -1 ∨ LA S s0) : ev (d + 1) 169 8 [(2, 0), (0, a1), (0, a2), uU] [(2, s0)] S I = if s0 = -1 then (ev (d + 1) 169 23 [(2, 0), (0, a1), (0, a2), (2, s0)] [] S I) else (if w a2 < 0 then (ev (d + 1) 169 23 [(2, 0), (0, a1), (0, a2), (2, s0)] [] S I) else (if w a2 < 16 then ((ev d 79 0 [(2, s0), (0, a2)] [] S I).bind (fun q => ev (d + 1) 169 30 [(2, 0), (0, a1), (0, a2), (2, s0)] (psh q.1 []) q.2.1 q.2.2)) else (ev (d + 1) 169 23 [(2, 0), (0, a1), (0, a2), (2, s0)] [] S I))) := by
  refine (sx_astore_n (al' := [(2, 0), (0, a1), (0, a2), (2, s0)]) D169_8 (Nat.le_of_ble_eq_true rfl) rfl rfl).trans ?_
  refine (sx_aload_n D169_9 rfl).trans ?_
  refine sx_ifnull (pc' := 23) D169_10 (by decide) (by decide) (null_ok (h0.imp id (fun h => (LA_o h).1))) (fun _ => ?_) (fun n1 => ?_)
  · exact rfl
  · refine (sx_iload_n D169_13 rfl).trans ?_
    refine sx_i0_lt (pc' := 23) D169_14 (by decide) (by decide) ?_ ?_ rfl
    · exact rfl
    · refine (sx_iload_n D169_17 rfl).trans ?_
      refine (sx_bipush D169_18 (by decide)).trans ?_
      refine sx_if_lt (pc' := 25) D169_20 (by decide) (by decide) ?_ ?_ rfl (w_small (by decide) (by decide))
      · refine (sx_aload_n D169_25 rfl).trans ?_
        refine (sx_iload_n D169_26 rfl).trans ?_
        exact sx_virt (c := 5) (ag := [(2, s0), (0, a2)]) (r := []) (al' := [(2, s0), (0, a2)]) (np := 1) (nl := 2) (q := (1, 79, 1012)) D169_27 (by decide +kernel) (by decide) mP_79 mL_79 mC_79 (Nat.le_of_ble_eq_true rfl) rfl rfl (by simp [cat]) (by decide) (LA_o (h0.resolve_left n1)) rfl rfl
      · exact rfl
theorem E169_23 {d : Nat} {a1 a2 a3 : Int} {S : SS} {I : II}  : ev d 169 23 [(2, 0), (0, a1), (0, a2), (2, a3)] [] S I = some ((0, (-1)), S, I) := by
  refine (sx_iconst D169_23).trans ?_
  exact sx_ireturn D169_24 (by decide +kernel)
theorem E169_30 {d : Nat} {a1 a2 a3 s0 : Int} {S : SS} {I : II} (h0 : LA S a3) : ev (d + 1) 169 30 [(2, 0), (0, a1), (0, a2), (2, a3)] [(0, s0)] S I = if w s0 = 0 then (ev (d + 1) 169 42 [(2, 0), (0, a1), (0, a2), (2, a3)] [] S I) else ((ev d 99 0 [(2, a3), (0, a2), uU] [] S I).bind (fun q => ev (d + 1) 169 38 [(2, 0), (0, a1), (0, a2), (2, a3)] (psh q.1 []) q.2.1 q.2.2)) := by
  refine sx_i0_eq (pc' := 42) D169_30 (by decide) (by decide) ?_ ?_ rfl
  · exact rfl
  · refine (sx_aload_n D169_33 rfl).trans ?_
    refine (sx_iload_n D169_34 rfl).trans ?_
    exact sx_virt (c := 5) (ag := [(2, a3), (0, a2)]) (r := []) (al' := [(2, a3), (0, a2), uU]) (np := 1) (nl := 3) (q := (1, 99, 1013)) D169_35 (by decide +kernel) (by decide) mP_99 mL_99 mC_99 (Nat.le_of_ble_eq_true rfl) rfl rfl (by simp [cat]) (by decide) (LA_o h0) rfl rfl
theorem E169_38 {d : Nat} {a1 a2 a3 s0 : Int} {S : SS} {I : II} (h0 : QA S 0) : ev (d + 1) 169 38 [(2, 0), (0, a1), (0, a2), (2, a3)] [(0, s0)] S I = if w s0 = (-1) then ((ev d 19 0 [(2, 36), (2, 5), uU] [] S I).bind (fun q => ev (d + 1) 169 56 [(2, 0), (0, a1), (0, a2), (2, a3)] (psh q.1 []) q.2.1 q.2.2)) else (ev (d + 1) 169 42 [(2, 0), (0, a1), (0, a2), (2, a3)] [] S I) := by
  refine (sx_iconst D169_38).trans ?_
  refine sx_if_eq (pc' := 45) D169_39 (by decide) (by decide) ?_ ?_ rfl (w_small (by decide) (by decide))
  · refine (sx_aload_n D169_45 rfl).trans ?_
    refine (sx_gfR (q := (8, 3, 0, 290)) (b := 36) D169_46 (by decide +kernel) (by decide +kernel) (by decide) (QA_o h0) (QA_g3 h0)).trans ?_
    refine (sx_aload_n D169_49 rfl).trans ?_
    refine (sx_gfR (q := (8, 2, 0, 289)) (b := 5) D169_50 (by decide +kernel) (by decide +kernel) (by decide) (QA_o h0) (QA_g2 h0)).trans ?_
    exact sx_virt (c := 3) (ag := [(2, 36), (2, 5)]) (r := []) (al' := [(2, 36), (2, 5), uU]) (np := 1) (nl := 3) (q := (1, 19, 993)) D169_53 (by decide +kernel) (by decide) mP_19 mL_19 mC_19 (Nat.le_of_ble_eq_true rfl) rfl rfl (by simp [cat]) (by decide) (DA_o (QA_k3 h0)) rfl rfl
  · exact rfl
theorem E169_42 {d : Nat} {a1 a2 a3 : Int} {S : SS} {I : II}  : ev d 169 42 [(2, 0), (0, a1), (0, a2), (2, a3)] [] S I = some ((0, (-3)), S, I) := by
  refine (sx_bipush D169_42 (by decide)).trans ?_
  exact sx_ireturn D169_44 (by decide +kernel)
theorem E169_56 {d : Nat} {a1 a2 a3 : Int} {S : SS} {I : II} (h0 : QA S 0) : ev (d + 1) 169 56 [(2, 0), (0, a1), (0, a2), (2, a3)] [] S I = (ev d 55 0 [(2, 36), (0, a1), (0, a2), (2, 412), (2, 3), uU, uU, uU, uU] [] S I).bind (fun q => ev (d + 1) 169 73 [(2, 0), (0, a1), (0, a2), (2, a3)] (psh q.1 []) q.2.1 q.2.2) := by
  refine (sx_aload_n D169_56 rfl).trans ?_
  refine (sx_gfR (q := (8, 3, 0, 290)) (b := 36) D169_57 (by decide +kernel) (by decide +kernel) (by decide) (QA_o h0) (QA_g3 h0)).trans ?_
  refine (sx_iload_n D169_60 rfl).trans ?_
  refine (sx_iload_n D169_61 rfl).trans ?_
  refine (sx_aload_n D169_62 rfl).trans ?_
  refine (sx_gfR (q := (8, 5, 0, 292)) (b := 412) D169_63 (by decide +kernel) (by decide +kernel) (by decide) (QA_o h0) (QA_g5 h0)).trans ?_
  refine (sx_aload_n D169_66 rfl).trans ?_
  refine (sx_gfR (q := (8, 1, 0, 288)) (b := 3) D169_67 (by decide +kernel) (by decide +kernel) (by decide) (QA_o h0) (QA_g1 h0)).trans ?_
  exact sx_virt (c := 3) (ag := [(2, 36), (0, a1), (0, a2), (2, 412), (2, 3)]) (r := []) (al' := [(2, 36), (0, a1), (0, a2), (2, 412), (2, 3), uU, uU, uU, uU]) (np := 4) (nl := 9) (q := (1, 55, 1017)) D169_70 (by decide +kernel) (by decide) mP_55 mL_55 mC_55 (Nat.le_of_ble_eq_true rfl) rfl rfl (by simp [cat]) (by decide) (DA_o (QA_k3 h0)) rfl rfl
theorem E169_73 {d : Nat} {a1 a2 a3 s0 : Int} {S : SS} {I : II}  : ev d 169 73 [(2, 0), (0, a1), (0, a2), (2, a3)] [(0, s0)] S I = some ((0, s0), S, I) := by
  exact sx_ireturn D169_73 (by decide +kernel)
theorem E170_0 {d : Nat} {S : SS} {I : II} (h0 : QA S 0) : ev (d + 1) 170 0 [(2, 0), uU] [] S I = (ev d 19 0 [(2, 36), (2, 5), uU] [] S I).bind (fun q => ev (d + 1) 170 11 [(2, 0), uU] (psh q.1 []) q.2.1 q.2.2) := by
  refine (sx_aload_n D170_0 rfl).trans ?_
  refine (sx_gfR (q := (8, 3, 0, 290)) (b := 36) D170_1 (by decide +kernel) (by decide +kernel) (by decide) (QA_o h0) (QA_g3 h0)).trans ?_
  refine (sx_aload_n D170_4 rfl).trans ?_
  refine (sx_gfR (q := (8, 2, 0, 289)) (b := 5) D170_5 (by decide +kernel) (by decide +kernel) (by decide) (QA_o h0) (QA_g2 h0)).trans ?_
  exact sx_virt (c := 3) (ag := [(2, 36), (2, 5)]) (r := []) (al' := [(2, 36), (2, 5), uU]) (np := 1) (nl := 3) (q := (1, 19, 993)) D170_8 (by decide +kernel) (by decide) mP_19 mL_19 mC_19 (Nat.le_of_ble_eq_true rfl) rfl rfl (by simp [cat]) (by decide) (DA_o (QA_k3 h0)) rfl rfl
theorem E170_11 {d : Nat} {S : SS} {I : II} (h0 : QA S 0) : ev (d + 1) 170 11 [(2, 0), uU] [] S I = (ev d 56 0 [(2, 36), (2, 412), uU, uU] [] S I).bind (fun q => ev (d + 1) 170 22 [(2, 0), uU] (psh q.1 []) q.2.1 q.2.2) := by
  refine (sx_aload_n D170_11 rfl).trans ?_
  refine (sx_gfR (q := (8, 3, 0, 290)) (b := 36) D170_12 (by decide +kernel) (by decide +kernel) (by decide) (QA_o h0) (QA_g3 h0)).trans ?_
  refine (sx_aload_n D170_15 rfl).trans ?_
  refine (sx_gfR (q := (8, 5, 0, 292)) (b := 412) D170_16 (by decide +kernel) (by decide +kernel) (by decide) (QA_o h0) (QA_g5 h0)).trans ?_
  exact sx_virt (c := 3) (ag := [(2, 36), (2, 412)]) (r := []) (al' := [(2, 36), (2, 412), uU, uU]) (np := 1) (nl := 4) (q := (1, 56, 1026)) D170_19 (by decide +kernel) (by decide) mP_56 mL_56 mC_56 (Nat.le_of_ble_eq_true rfl) rfl rfl (by simp [cat]) (by decide) (DA_o (QA_k3 h0)) rfl rfl
theorem E170_22 {d : Nat} {s0 : Int} {S : SS} {I : II} (h0 : QA S 0) : ev (d + 1) 170 22 [(2, 0), uU] [(0, s0)] S I = if w s0 < 0 then (ev (d + 1) 170 62 [(2, 0), (0, s0)] [] S I) else ((ev d 24 0 [(2, 36), (0, 10), uU, uU] [] S I).bind (fun q => ev (d + 1) 170 40 [(2, 0), (0, s0)] (psh q.1 [(2, 3)]) q.2.1 q.2.2)) := by
  refine (sx_istore_n (al' := [(2, 0), (0, s0)]) D170_22 (Nat.le_of_ble_eq_true rfl) rfl rfl).trans ?_
  refine (sx_iload_n D170_23 rfl).trans ?_
  refine sx_i0_lt (pc' := 62) D170_24 (by decide) (by decide) ?_ ?_ rfl
  · exact rfl
  · refine (sx_aload_n D170_27 rfl).trans ?_
    refine (sx_gfR (q := (8, 1, 0, 288)) (b := 3) D170_28 (by decide +kernel) (by decide +kernel) (by decide) (QA_o h0) (QA_g1 h0)).trans ?_
    refine (sx_aload_n D170_31 rfl).trans ?_
    refine (sx_gfR (q := (8, 3, 0, 290)) (b := 36) D170_32 (by decide +kernel) (by decide +kernel) (by decide) (QA_o h0) (QA_g3 h0)).trans ?_
    refine (sx_bipush D170_35 (by decide)).trans ?_
    exact sx_virt (c := 3) (ag := [(2, 36), (0, 10)]) (r := [(2, 3)]) (al' := [(2, 36), (0, 10), uU, uU]) (np := 1) (nl := 4) (q := (1, 24, 1039)) D170_37 (by decide +kernel) (by decide) mP_24 mL_24 mC_24 (Nat.le_of_ble_eq_true rfl) rfl rfl (by simp [cat]) (by decide) (DA_o (QA_k3 h0)) rfl rfl
theorem E170_40 {d : Nat} {a1 s1 : Int} {S : SS} {I : II} (h0 : QA S 0) : ev (d + 1) 170 40 [(2, 0), (0, a1)] [(0, s1), (2, 3)] S I = (ev d 24 0 [(2, 5), (0, 10), uU, uU] [] S I).bind (fun q => ev (d + 1) 170 49 [(2, 0), (0, a1)] (psh q.1 [(0, s1), (2, 3)]) q.2.1 q.2.2) := by
  refine (sx_aload_n D170_40 rfl).trans ?_
  refine (sx_gfR (q := (8, 2, 0, 289)) (b := 5) D170_41 (by decide +kernel) (by decide +kernel) (by decide) (QA_o h0) (QA_g2 h0)).trans ?_
  refine (sx_bipush D170_44 (by decide)).trans ?_
  exact sx_virt (c := 3) (ag := [(2, 5), (0, 10)]) (r := [(0, s1), (2, 3)]) (al' := [(2, 5), (0, 10), uU, uU]) (np := 1) (nl := 4) (q := (1, 24, 1039)) D170_46 (by decide +kernel) (by decide) mP_24 mL_24 mC_24 (Nat.le_of_ble_eq_true rfl) rfl rfl (by simp [cat]) (by decide) (DA_o (QA_k2 h0)) rfl rfl
theorem E170_49 {d : Nat} {a1 s1 s2 : Int} {S : SS} {I : II} (h0 : QA S 0) : ev (d + 1) 170 49 [(2, 0), (0, a1)] [(0, s2), (0, s1), (2, 3)] S I = (ev d 18 0 [(2, 36), uU, uU] [] S I).bind (fun q => ev (d + 1) 170 58 [(2, 0), (0, a1)] (psh q.1 [(1, w (s1 - s2)), (2, 3)]) q.2.1 q.2.2) := by
  refine (sx_isub D170_49).trans ?_
  refine (sx_i2l D170_50).trans ?_
  refine (sx_aload_n D170_51 rfl).trans ?_
  refine (sx_gfR (q := (8, 3, 0, 290)) (b := 36) D170_52 (by decide +kernel) (by decide +kernel) (by decide) (QA_o h0) (QA_g3 h0)).trans ?_
  exact sx_virt (c := 3) (ag := [(2, 36)]) (r := [(1, w (s1 - s2)), (2, 3)]) (al' := [(2, 36), uU, uU]) (np := 0) (nl := 3) (q := (1, 18, 1040)) D170_55 (by decide +kernel) (by decide) mP_18 mL_18 mC_18 (Nat.le_of_ble_eq_true rfl) rfl rfl (by simp [cat]) (by decide) (DA_o (QA_k3 h0)) rfl rfl
theorem E170_58 {d : Nat} {a1 s1 s2 : Int} {S : SS} {I : II} (h0 : RA S 3) : ev (d + 1) 170 58 [(2, 0), (0, a1)] [(0, s2), (1, s1), (2, 3)] S I = (ev d 109 0 [(2, 3), (1, s1), uU, (1, w s2), uU] [] S I).bind (fun q => ev (d + 1) 170 62 [(2, 0), (0, a1)] (psh q.1 []) q.2.1 q.2.2) := by
  refine (sx_i2l D170_58).trans ?_
  exact sx_virt (c := 7) (ag := [(2, 3), (1, s1), (1, w s2)]) (r := []) (al' := [(2, 3), (1, s1), uU, (1, w s2), uU]) (np := 2) (nl := 5) (q := (1, 109, 910)) D170_59 (by decide +kernel) (by decide) mP_109 mL_109 mC_109 (Nat.le_of_ble_eq_true rfl) rfl rfl (by simp [cat]) (by decide) (RA_o h0) rfl rfl
theorem E170_62 {d : Nat} {a1 : Int} {S : SS} {I : II}  : ev d 170 62 [(2, 0), (0, a1)] [] S I = some ((0, a1), S, I) := by
  refine (sx_iload_n D170_62 rfl).trans ?_
  exact sx_ireturn D170_63 (by decide +kernel)
theorem E171_0 {d : Nat} {a1 : Int} {S : SS} {I : II} (h0 : QA S 0) : ev (d + 1) 171 0 [(2, 0), (0, a1)] [] S I = if w a1 < 0 then (ev (d + 1) 171 10 [(2, 0), (0, a1)] [] S I) else (if w a1 < 10 then ((ev d 19 0 [(2, 36), (2, 5), uU] [] S I).bind (fun q => ev (d + 1) 171 23 [(2, 0), (0, a1)] (psh q.1 []) q.2.1 q.2.2)) else (ev (d + 1) 171 10 [(2, 0), (0, a1)] [] S I)) := by
  refine (sx_iload_n D171_0 rfl).trans ?_
  refine sx_i0_lt (pc' := 10) D171_1 (by decide) (by decide) ?_ ?_ rfl
  · exact rfl
  · refine (sx_iload_n D171_4 rfl).trans ?_
    refine (sx_bipush D171_5 (by decide)).trans ?_
    refine sx_if_lt (pc' := 12) D171_7 (by decide) (by decide) ?_ ?_ rfl (w_small (by decide) (by decide))
    · refine (sx_aload_n D171_12 rfl).trans ?_
      refine (sx_gfR (q := (8, 3, 0, 290)) (b := 36) D171_13 (by decide +kernel) (by decide +kernel) (by decide) (QA_o h0) (QA_g3 h0)).trans ?_
      refine (sx_aload_n D171_16 rfl).trans ?_
      refine (sx_gfR (q := (8, 2, 0, 289)) (b := 5) D171_17 (by decide +kernel) (by decide +kernel) (by decide) (QA_o h0) (QA_g2 h0)).trans ?_
      exact sx_virt (c := 3) (ag := [(2, 36), (2, 5)]) (r := []) (al' := [(2, 36), (2, 5), uU]) (np := 1) (nl := 3) (q := (1, 19, 993)) D171_20 (by decide +kernel) (by decide) mP_19 mL_19 mC_19 (Nat.le_of_ble_eq_true rfl) rfl rfl (by simp [cat]) (by decide) (DA_o (QA_k3 h0)) rfl rfl
    · exact rfl
theorem E171_10 {d : Nat} {a1 : Int} {S : SS} {I : II}  : ev d 171 10 [(2, 0), (0, a1)] [] S I = some ((0, (-1)), S, I) := by
  refine (sx_iconst D171_10).trans ?_
  exact sx_ireturn D171_11 (by decide +kernel)
theorem E171_23 {d : Nat} {a1 : Int} {S : SS} {I : II} (h0 : QA S 0) : ev (d + 1) 171 23 [(2, 0), (0, a1)] [] S I = (ev d 58 0 [(2, 36), uU] [] S I).bind (fun q => ev (d + 1) 171 30 [(2, 0), (0, a1)] (psh q.1 []) q.2.1 q.2.2) := by
  refine (sx_aload_n D171_23 rfl).trans ?_
  refine (sx_gfR (q := (8, 3, 0, 290)) (b := 36) D171_24 (by decide +kernel) (by decide +kernel) (by decide) (QA_o h0) (QA_g3 h0)).trans ?_
  exact sx_virt (c := 3) (ag := [(2, 36)]) (r := []) (al' := [(2, 36), uU]) (np := 0) (nl := 2) (q := (1, 58, 1045)) D171_27 (by decide +kernel) (by decide) mP_58 mL_58 mC_58 (Nat.le_of_ble_eq_true rfl) rfl rfl (by simp [cat]) (by decide) (DA_o (QA_k3 h0)) rfl rfl
theorem E171_30 {d : Nat} {a1 : Int} {S : SS} {I : II} (h0 : QA S 0) : ev (d + 1) 171 30 [(2, 0), (0, a1)] [] S I = (ev d 56 0 [(2, 36), (2, 412), uU, uU] [] S I).bind (fun q => ev (d + 1) 171 45 [(2, 0), (0, a1)] (psh q.1 [(2, 3)]) q.2.1 q.2.2) := by
  refine (sx_aload_n D171_30 rfl).trans ?_
  refine (sx_gfR (q := (8, 1, 0, 288)) (b := 3) D171_31 (by decide +kernel) (by decide +kernel) (by decide) (QA_o h0) (QA_g1 h0)).trans ?_
  refine (sx_aload_n D171_34 rfl).trans ?_
  refine (sx_gfR (q := (8, 3, 0, 290)) (b := 36) D171_35 (by decide +kernel) (by decide +kernel) (by decide) (QA_o h0) (QA_g3 h0)).trans ?_
  refine (sx_aload_n D171_38 rfl).trans ?_
  refine (sx_gfR (q := (8, 5, 0, 292)) (b := 412) D171_39 (by decide +kernel) (by decide +kernel) (by decide) (QA_o h0) (QA_g5 h0)).trans ?_
  exact sx_virt (c := 3) (ag := [(2, 36), (2, 412)]) (r := [(2, 3)]) (al' := [(2, 36), (2, 412), uU, uU]) (np := 1) (nl := 4) (q := (1, 56, 1026)) D171_42 (by decide +kernel) (by decide) mP_56 mL_56 mC_56 (Nat.le_of_ble_eq_true rfl) rfl rfl (by simp [cat]) (by decide) (DA_o (QA_k3 h0)) rfl rfl
theorem E171_45 {d : Nat} {a1 s1 : Int} {S : SS} {I : II}  : ev d 171 45 [(2, 0), (0, a1)] [(0, s1), (2, 3)] S I = if w s1 < 0 then (ev d 171 53 [(2, 0), (0, a1)] [(1, 0), (2, 3)] S I) else (ev d 171 53 [(2, 0), (0, a1)] [(1, 1), (2, 3)] S I) := by
  refine sx_i0_lt (pc' := 52) D171_45 (by decide) (by decide) ?_ ?_ rfl
  · refine (sx_lconst D171_52).trans ?_
    exact rfl
  · refine (sx_lconst D171_48).trans ?_
    refine (sx_goto (pc' := 53) D171_49 (by decide) (by decide)).trans ?_
    exact rfl
theorem E171_53 {d : Nat} {a1 s1 : Int} {S : SS} {I : II} (h0 : RA S 3) : ev (d + 1) 171 53 [(2, 0), (0, a1)] [(1, s1), (2, 3)] S I = (ev d 110 0 [(2, 3), (1, s1), uU] [] S I).bind (fun q => ev (d + 1) 171 56 [(2, 0), (0, a1)] (psh q.1 []) q.2.1 q.2.2) := by
  exact sx_virt (c := 7) (ag := [(2, 3), (1, s1)]) (r := []) (al' := [(2, 3), (1, s1), uU]) (np := 1) (nl := 3) (q := (1, 110, 1050)) D171_53 (by decide +kernel) (by decide) mP_110 mL_110 mC_110 (Nat.le_of_ble_eq_true rfl) rfl rfl (by simp [cat]) (by decide) (RA_o h0) rfl rfl
theorem E171_56 {d : Nat} {a1 : Int} {S : SS} {I : II} (h0 : QA S 0) : ev (d + 1) 171 56 [(2, 0), (0, a1)] [] S I = (ev d 29 0 [(2, 36), (0, a1)] [] S I).bind (fun q => ev (d + 1) 171 64 [(2, 0), (0, a1)] (psh q.1 []) q.2.1 q.2.2) := by
  refine (sx_aload_n D171_56 rfl).trans ?_
  refine (sx_gfR (q := (8, 3, 0, 290)) (b := 36) D171_57 (by decide +kernel) (by decide +kernel) (by decide) (QA_o h0) (QA_g3 h0)).trans ?_
  refine (sx_iload_n D171_60 rfl).trans ?_
  exact sx_virt (c := 3) (ag := [(2, 36), (0, a1)]) (r := []) (al' := [(2, 36), (0, a1)]) (np := 1) (nl := 2) (q := (1, 29, 988)) D171_61 (by decide +kernel) (by decide) mP_29 mL_29 mC_29 (Nat.le_of_ble_eq_true rfl) rfl rfl (by simp [cat]) (by decide) (DA_o (QA_k3 h0)) rfl rfl
theorem E171_64 {d : Nat} {a1 s0 : Int} {S : SS} {I : II}  : ev d 171 64 [(2, 0), (0, a1)] [(0, s0)] S I = some ((0, s0), S, I) := by
  exact sx_ireturn D171_64 (by decide +kernel)
theorem E172_0 {d : Nat} {a1 : Int} {S : SS} {I : II} (h0 : QA S 0) : ev (d + 1) 172 0 [(2, 0), (0, a1), uU, uU, uU] [] S I = (ev d 19 0 [(2, 36), (2, 5), uU] [] S I).bind (fun q => ev (d + 1) 172 11 [(2, 0), (0, a1), uU, uU, uU] (psh q.1 []) q.2.1 q.2.2) := by
  refine (sx_aload_n D172_0 rfl).trans ?_
  refine (sx_gfR (q := (8, 3, 0, 290)) (b := 36) D172_1 (by decide +kernel) (by decide +kernel) (by decide) (QA_o h0) (QA_g3 h0)).trans ?_
  refine (sx_aload_n D172_4 rfl).trans ?_
  refine (sx_gfR (q := (8, 2, 0, 289)) (b := 5) D172_5 (by decide +kernel) (by decide +kernel) (by decide) (QA_o h0) (QA_g2 h0)).trans ?_
  exact sx_virt (c := 3) (ag := [(2, 36), (2, 5)]) (r := []) (al' := [(2, 36), (2, 5), uU]) (np := 1) (nl := 3) (q := (1, 19, 993)) D172_8 (by decide +kernel) (by decide) mP_19 mL_19 mC_19 (Nat.le_of_ble_eq_true rfl) rfl rfl (by simp [cat]) (by decide) (DA_o (QA_k3 h0)) rfl rfl
theorem E172_11 {d : Nat} {a1 : Int} {S : SS} {I : II} (h0 : QA S 0) : ev (d + 1) 172 11 [(2, 0), (0, a1), uU, uU, uU] [] S I = (ev d 22 0 [(2, 36), (0, a1), uU, uU] [] S I).bind (fun q => ev (d + 1) 172 19 [(2, 0), (0, a1), uU, uU, uU] (psh q.1 []) q.2.1 q.2.2) := by
  refine (sx_aload_n D172_11 rfl).trans ?_
  refine (sx_gfR (q := (8, 3, 0, 290)) (b := 36) D172_12 (by decide +kernel) (by decide +kernel) (by decide) (QA_o h0) (QA_g3 h0)).trans ?_
  refine (sx_iload_n D172_15 rfl).trans ?_
  exact sx_virt (c := 3) (ag := [(2, 36), (0, a1)]) (r := []) (al' := [(2, 36), (0, a1), uU, uU]) (np := 1) (nl := 4) (q := (1, 22, 575)) D172_16 (by decide +kernel) (by decide) mP_22 mL_22 mC_22 (Nat.le_of_ble_eq_true rfl) rfl rfl (by simp [cat]) (by decide) (DA_o (QA_k3 h0)) rfl rfl
theorem E172_19 {d : Nat} {a1 s0 : Int} {S : SS} {I : II} (h0 : QA S 0) : ev (d + 1) 172 19 [(2, 0), (0, a1), uU, uU, uU] [(0, s0)] S I = (ev d 21 0 [(2, 5), (0, a1)] [] S I).bind (fun q => ev (d + 1) 172 28 [(2, 0), (0, a1), (0, s0), uU, uU] (psh q.1 []) q.2.1 q.2.2) := by
  refine (sx_istore_n (al' := [(2, 0), (0, a1), (0, s0), uU, uU]) D172_19 (Nat.le_of_ble_eq_true rfl) rfl rfl).trans ?_
  refine (sx_aload_n D172_20 rfl).trans ?_
  refine (sx_gfR (q := (8, 2, 0, 289)) (b := 5) D172_21 (by decide +kernel) (by decide +kernel) (by decide) (QA_o h0) (QA_g2 h0)).trans ?_
  refine (sx_iload_n D172_24 rfl).trans ?_
  exact sx_virt (c := 3) (ag := [(2, 5), (0, a1)]) (r := []) (al' := [(2, 5), (0, a1)]) (np := 1) (nl := 2) (q := (1, 21, 923)) D172_25 (by decide +kernel) (by decide) mP_21 mL_21 mC_21 (Nat.le_of_ble_eq_true rfl) rfl rfl (by simp [cat]) (by decide) (DA_o (QA_k2 h0)) rfl rfl
theorem E172_28 {d : Nat} {a1 a2 s0 : Int} {S : SS} {I : II} (h0 : QA S 0) : ev (d + 1) 172 28 [(2, 0), (0, a1), (0, a2), uU, uU] [(2, s0)] S I = (ev d 21 0 [(2, 36), (0, a1)] [] S I).bind (fun q => ev (d + 1) 172 37 [(2, 0), (0, a1), (0, a2), (2, s0), uU] (psh q.1 []) q.2.1 q.2.2) := by
  refine (sx_astore_n (al' := [(2, 0), (0, a1), (0, a2), (2, s0), uU]) D172_28 (Nat.le_of_ble_eq_true rfl) rfl rfl).trans ?_
  refine (sx_aload_n D172_29 rfl).trans ?_
  refine (sx_gfR (q := (8, 3, 0, 290)) (b := 36) D172_30 (by decide +kernel) (by decide +kernel) (by decide) (QA_o h0) (QA_g3 h0)).trans ?_
  refine (sx_iload_n D172_33 rfl).trans ?_
  exact sx_virt (c := 3) (ag := [(2, 36), (0, a1)]) (r := []) (al' := [(2, 36), (0, a1)]) (np := 1) (nl := 2) (q := (1, 21, 923)) D172_34 (by decide +kernel) (by decide) mP_21 mL_21 mC_21 (Nat.le_of_ble_eq_true rfl) rfl rfl (by simp [cat]) (by decide) (DA_o (QA_k3 h0)) rfl rfl
theorem E172_37 {d : Nat} {a1 a2 a3 s0 : Int} {S : SS} {I : II} (h0 : a3 = -1 ∨ LA S a3) (h1 : s0 = -1 ∨ LA S s0) (h2 : QA S 0) : ev (d + 1) 172 37 [(2, 0), (0, a1), (0, a2), (2, a3), uU] [(2, s0)] S I = if w a2 < 0 then (ev (d + 1) 172 70 [(2, 0), (0, a1), (0, a2), (2, a3), (2, s0)] [] S I) else (if a3 = -1 then (ev (d + 1) 172 70 [(2, 0), (0, a1), (0, a2), (2, a3), (2, s0)] [] S I) else (if s0 = -1 then (ev (d + 1) 172 70 [(2, 0), (0, a1), (0, a2), (2, a3), (2, s0)] [] S I) else ((ev d 110 0 [(2, 3), (1, w ((I s0 6) - (I a3 6))), uU] [] S I).bind (fun q => ev (d + 1) 172 70 [(2, 0), (0, a1), (0, a2), (2, a3), (2, s0)] (psh q.1 []) q.2.1 q.2.2)))) := by
  refine (sx_astore (al' := [(2, 0), (0, a1), (0, a2), (2, a3), (2, s0)]) D172_37 (Nat.le_of_ble_eq_true rfl) rfl rfl).trans ?_
  refine (sx_iload_n D172_39 rfl).trans ?_
  refine sx_i0_lt (pc' := 70) D172_40 (by decide) (by decide) ?_ ?_ rfl
  · exact rfl
  · refine (sx_aload_n D172_43 rfl).trans ?_
    refine sx_ifnull (pc' := 70) D172_44 (by decide) (by decide) (null_ok (h0.imp id (fun h => (LA_o h).1))) (fun _ => ?_) (fun n1 => ?_)
    · exact rfl
    · refine (sx_aload D172_47 rfl).trans ?_
      refine sx_ifnull (pc' := 70) D172_49 (by decide) (by decide) (null_ok (h1.imp id (fun h => (LA_o h).1))) (fun _ => ?_) (fun n2 => ?_)
      · exact rfl
      · refine (sx_aload_n D172_52 rfl).trans ?_
        refine (sx_gfR (q := (8, 1, 0, 288)) (b := 3) D172_53 (by decide +kernel) (by decide +kernel) (by decide) (QA_o h2) (QA_g1 h2)).trans ?_
        refine (sx_aload D172_56 rfl).trans ?_
        refine (sx_gfI (q := (3, 6, 1, 92)) (j := 6) D172_58 (by decide +kernel) (by decide +kernel) (by decide) (LA_o (h1.resolve_left n2)) rfl rfl).trans ?_
        refine (sx_aload_n D172_61 rfl).trans ?_
        refine (sx_gfI (q := (3, 6, 1, 92)) (j := 6) D172_62 (by decide +kernel) (by decide +kernel) (by decide) (LA_o (h0.resolve_left n1)) rfl rfl).trans ?_
        refine (sx_isub D172_65).trans ?_
        refine (sx_i2l D172_66).trans ?_
        exact sx_virt (c := 7) (ag := [(2, 3), (1, w ((I s0 6) - (I a3 6)))]) (r := []) (al' := [(2, 3), (1, w ((I s0 6) - (I a3 6))), uU]) (np := 1) (nl := 3) (q := (1, 110, 1050)) D172_67 (by decide +kernel) (by decide) mP_110 mL_110 mC_110 (Nat.le_of_ble_eq_true rfl) rfl rfl (by simp [cat]) (by decide) (RA_o (QA_k1 h2)) rfl rfl
theorem E172_70 {d : Nat} {a1 a2 a3 a4 : Int} {S : SS} {I : II}  : ev d 172 70 [(2, 0), (0, a1), (0, a2), (2, a3), (2, a4)] [] S I = some ((0, a2), S, I) := by
  refine (sx_iload_n D172_70 rfl).trans ?_
  exact sx_ireturn D172_71 (by decide +kernel)
theorem E173_0 {d : Nat} {S : SS} {I : II} (h0 : QA S 0) : ev (d + 1) 173 0 [(2, 0)] [] S I = (ev d 110 0 [(2, 3), (1, w (I 5 9)), uU] [] S I).bind (fun q => ev (d + 1) 173 15 [(2, 0)] (psh q.1 []) q.2.1 q.2.2) := by
  refine (sx_aload_n D173_0 rfl).trans ?_
  refine (sx_gfR (q := (8, 1, 0, 288)) (b := 3) D173_1 (by decide +kernel) (by decide +kernel) (by decide) (QA_o h0) (QA_g1 h0)).trans ?_
  refine (sx_aload_n D173_4 rfl).trans ?_
  refine (sx_gfR (q := (8, 2, 0, 289)) (b := 5) D173_5 (by decide +kernel) (by decide +kernel) (by decide) (QA_o h0) (QA_g2 h0)).trans ?_
  refine (sx_gfI (q := (1, 9, 1, 161)) (j := 9) D173_8 (by decide +kernel) (by decide +kernel) (by decide) (DA_o (QA_k2 h0)) rfl rfl).trans ?_
  refine (sx_i2l D173_11).trans ?_
  exact sx_virt (c := 7) (ag := [(2, 3), (1, w (I 5 9))]) (r := []) (al' := [(2, 3), (1, w (I 5 9)), uU]) (np := 1) (nl := 3) (q := (1, 110, 1050)) D173_12 (by decide +kernel) (by decide) mP_110 mL_110 mC_110 (Nat.le_of_ble_eq_true rfl) rfl rfl (by simp [cat]) (by decide) (RA_o (QA_k1 h0)) rfl rfl
theorem E173_15 {d : Nat} {S : SS} {I : II} (h0 : QA S 0) : ev d 173 15 [(2, 0)] [] S I = some ((0, I 5 8), S, I) := by
  refine (sx_aload_n D173_15 rfl).trans ?_
  refine (sx_gfR (q := (8, 2, 0, 289)) (b := 5) D173_16 (by decide +kernel) (by decide +kernel) (by decide) (QA_o h0) (QA_g2 h0)).trans ?_
  refine (sx_gfI (q := (1, 8, 1, 159)) (j := 8) D173_19 (by decide +kernel) (by decide +kernel) (by decide) (DA_o (QA_k2 h0)) rfl rfl).trans ?_
  exact sx_ireturn D173_22 (by decide +kernel)
theorem E174_0 {d : Nat} {a1 a2 : Int} {S : SS} {I : II} (h0 : QA S 0) : ev (d + 1) 174 0 [(2, 0), (0, a1), (0, a2), uU] [] S I = (ev d 41 0 [(2, 5), (0, a1), (0, a2), uU, uU, uU] [] S I).bind (fun q => ev (d + 1) 174 9 [(2, 0), (0, a1), (0, a2), uU] (psh q.1 []) q.2.1 q.2.2) := by
  refine (sx_aload_n D174_0 rfl).trans ?_
  refine (sx_gfR (q := (8, 2, 0, 289)) (b := 5) D174_1 (by decide +kernel) (by decide +kernel) (by decide) (QA_o h0) (QA_g2 h0)).trans ?_
  refine (sx_iload_n D174_4 rfl).trans ?_
  refine (sx_iload_n D174_5 rfl).trans ?_
  exact sx_virt (c := 3) (ag := [(2, 5), (0, a1), (0, a2)]) (r := []) (al' := [(2, 5), (0, a1), (0, a2), uU, uU, uU]) (np := 2) (nl := 6) (q := (1, 41, 1063)) D174_6 (by decide +kernel) (by decide) mP_41 mL_41 mC_41 (Nat.le_of_ble_eq_true rfl) rfl rfl (by simp [cat]) (by decide) (DA_o (QA_k2 h0)) rfl rfl
theorem E174_9 {d : Nat} {a1 a2 s0 : Int} {S : SS} {I : II} (h0 : QA S 0) : ev (d + 1) 174 9 [(2, 0), (0, a1), (0, a2), uU] [(0, s0)] S I = if w s0 < 0 then (ev (d + 1) 174 41 [(2, 0), (0, a1), (0, a2), (0, s0)] [] S I) else ((ev d 59 0 [(2, 5), (0, a1), (0, a2), uU] [] S I).bind (fun q => ev (d + 1) 174 27 [(2, 0), (0, a1), (0, a2), (0, s0)] (psh q.1 [(2, 3)]) q.2.1 q.2.2)) := by
  refine (sx_istore_n (al' := [(2, 0), (0, a1), (0, a2), (0, s0)]) D174_9 (Nat.le_of_ble_eq_true rfl) rfl rfl).trans ?_
  refine (sx_iload_n D174_10 rfl).trans ?_
  refine sx_i0_lt (pc' := 41) D174_11 (by decide) (by decide) ?_ ?_ rfl
  · exact rfl
  · refine (sx_aload_n D174_14 rfl).trans ?_
    refine (sx_gfR (q := (8, 1, 0, 288)) (b := 3) D174_15 (by decide +kernel) (by decide +kernel) (by decide) (QA_o h0) (QA_g1 h0)).trans ?_
    refine (sx_aload_n D174_18 rfl).trans ?_
    refine (sx_gfR (q := (8, 2, 0, 289)) (b := 5) D174_19 (by decide +kernel) (by decide +kernel) (by decide) (QA_o h0) (QA_g2 h0)).trans ?_
    refine (sx_iload_n D174_22 rfl).trans ?_
    refine (sx_iload_n D174_23 rfl).trans ?_
    exact sx_virt (c := 3) (ag := [(2, 5), (0, a1), (0, a2)]) (r := [(2, 3)]) (al' := [(2, 5), (0, a1), (0, a2), uU]) (np := 2) (nl := 4) (q := (1, 59, 1064)) D174_24 (by decide +kernel) (by decide) mP_59 mL_59 mC_59 (Nat.le_of_ble_eq_true rfl) rfl rfl (by simp [cat]) (by decide) (DA_o (QA_k2 h0)) rfl rfl
theorem E174_27 {d : Nat} {a1 a2 a3 s1 : Int} {S : SS} {I : II} (h0 : QA S 0) : ev (d + 1) 174 27 [(2, 0), (0, a1), (0, a2), (0, a3)] [(0, s1), (2, 3)] S I = (ev d 60 0 [(2, 5), (0, a1), (0, a2), uU, uU] [] S I).bind (fun q => ev (d + 1) 174 37 [(2, 0), (0, a1), (0, a2), (0, a3)] (psh q.1 [(1, w s1), (2, 3)]) q.2.1 q.2.2) := by
  refine (sx_i2l D174_27).trans ?_
  refine (sx_aload_n D174_28 rfl).trans ?_
  refine (sx_gfR (q := (8, 2, 0, 289)) (b := 5) D174_29 (by decide +kernel) (by decide +kernel) (by decide) (QA_o h0) (QA_g2 h0)).trans ?_
  refine (sx_iload_n D174_32 rfl).trans ?_
  refine (sx_iload_n D174_33 rfl).trans ?_
  exact sx_virt (c := 3) (ag := [(2, 5), (0, a1), (0, a2)]) (r := [(1, w s1), (2, 3)]) (al' := [(2, 5), (0, a1), (0, a2), uU, uU]) (np := 2) (nl := 5) (q := (1, 60, 1068)) D174_34 (by decide +kernel) (by decide) mP_60 mL_60 mC_60 (Nat.le_of_ble_eq_true rfl) rfl rfl (by simp [cat]) (by decide) (DA_o (QA_k2 h0)) rfl rfl
theorem E174_37 {d : Nat} {a1 a2 a3 s1 s2 : Int} {S : SS} {I : II} (h0 : RA S 3) : ev (d + 1) 174 37 [(2, 0), (0, a1), (0, a2), (0, a3)] [(0, s2), (1, s1), (2, 3)] S I = (ev d 109 0 [(2, 3), (1, s1), uU, (1, w s2), uU] [] S I).bind (fun q => ev (d + 1) 174 41 [(2, 0), (0, a1), (0, a2), (0, a3)] (psh q.1 []) q.2.1 q.2.2) := by
  refine (sx_i2l D174_37).trans ?_
  exact sx_virt (c := 7) (ag := [(2, 3), (1, s1), (1, w s2)]) (r := []) (al' := [(2, 3), (1, s1), uU, (1, w s2), uU]) (np := 2) (nl := 5) (q := (1, 109, 910)) D174_38 (by decide +kernel) (by decide) mP_109 mL_109 mC_109 (Nat.le_of_ble_eq_true rfl) rfl rfl (by simp [cat]) (by decide) (RA_o h0) rfl rfl
theorem E174_41 {d : Nat} {a1 a2 a3 : Int} {S : SS} {I : II}  : ev d 174 41 [(2, 0), (0, a1), (0, a2), (0, a3)] [] S I = some ((0, a3), S, I) := by
  refine (sx_iload_n D174_41 rfl).trans ?_
  exact sx_ireturn D174_42 (by decide +kernel)
theorem E175_0 {d : Nat} {S : SS} {I : II} (h0 : QA S 0) : ev (d + 1) 175 0 [(2, 0), uU, uU, uU] [] S I = (ev d 61 0 [(2, 5), (0, 1), uU, uU] [] S I).bind (fun q => ev (d + 1) 175 8 [(2, 0), uU, uU, uU] (psh q.1 []) q.2.1 q.2.2) := by
  refine (sx_aload_n D175_0 rfl).trans ?_
  refine (sx_gfR (q := (8, 2, 0, 289)) (b := 5) D175_1 (by decide +kernel) (by decide +kernel) (by decide) (QA_o h0) (QA_g2 h0)).trans ?_
  refine (sx_iconst D175_4).trans ?_
  exact sx_virt (c := 3) (ag := [(2, 5), (0, 1)]) (r := []) (al' := [(2, 5), (0, 1), uU, uU]) (np := 1) (nl := 4) (q := (1, 61, 1076)) D175_5 (by decide +kernel) (by decide) mP_61 mL_61 mC_61 (Nat.le_of_ble_eq_true rfl) rfl rfl (by simp [cat]) (by decide) (DA_o (QA_k2 h0)) rfl rfl
theorem E175_8 {d : Nat} {s0 : Int} {S : SS} {I : II} (h0 : QA S 0) : ev (d + 1) 175 8 [(2, 0), uU, uU, uU] [(0, s0)] S I = (ev d 61 0 [(2, 5), (0, 2), uU, uU] [] S I).bind (fun q => ev (d + 1) 175 17 [(2, 0), (0, s0), uU, uU] (psh q.1 []) q.2.1 q.2.2) := by
  refine (sx_istore_n (al' := [(2, 0), (0, s0), uU, uU]) D175_8 (Nat.le_of_ble_eq_true rfl) rfl rfl).trans ?_
  refine (sx_aload_n D175_9 rfl).trans ?_
  refine (sx_gfR (q := (8, 2, 0, 289)) (b := 5) D175_10 (by decide +kernel) (by decide +kernel) (by decide) (QA_o h0) (QA_g2 h0)).trans ?_
  refine (sx_iconst D175_13).trans ?_
  exact sx_virt (c := 3) (ag := [(2, 5), (0, 2)]) (r := []) (al' := [(2, 5), (0, 2), uU, uU]) (np := 1) (nl := 4) (q := (1, 61, 1076)) D175_14 (by decide +kernel) (by decide) mP_61 mL_61 mC_61 (Nat.le_of_ble_eq_true rfl) rfl rfl (by simp [cat]) (by decide) (DA_o (QA_k2 h0)) rfl rfl
theorem E175_17 {d : Nat} {a1 s0 : Int} {S : SS} {I : II} (h0 : QA S 0) : ev (d + 1) 175 17 [(2, 0), (0, a1), uU, uU] [(0, s0)] S I = (ev d 61 0 [(2, 5), (0, 3), uU, uU] [] S I).bind (fun q => ev (d + 1) 175 26 [(2, 0), (0, a1), (0, s0), uU] (psh q.1 []) q.2.1 q.2.2) := by
  refine (sx_istore_n (al' := [(2, 0), (0, a1), (0, s0), uU]) D175_17 (Nat.le_of_ble_eq_true rfl) rfl rfl).trans ?_
  refine (sx_aload_n D175_18 rfl).trans ?_
  refine (sx_gfR (q := (8, 2, 0, 289)) (b := 5) D175_19 (by decide +kernel) (by decide +kernel) (by decide) (QA_o h0) (QA_g2 h0)).trans ?_
  refine (sx_iconst D175_22).trans ?_
  exact sx_virt (c := 3) (ag := [(2, 5), (0, 3)]) (r := []) (al' := [(2, 5), (0, 3), uU, uU]) (np := 1) (nl := 4) (q := (1, 61, 1076)) D175_23 (by decide +kernel) (by decide) mP_61 mL_61 mC_61 (Nat.le_of_ble_eq_true rfl) rfl rfl (by simp [cat]) (by decide) (DA_o (QA_k2 h0)) rfl rfl
theorem E175_26 {d : Nat} {a1 a2 s0 : Int} {S : SS} {I : II} (h0 : QA S 0) : ev (d + 1) 175 26 [(2, 0), (0, a1), (0, a2), uU] [(0, s0)] S I = (ev d 113 0 [(2, 3), (1, w a1), uU, (1, w a2), uU, (1, w s0), uU] [] S I).bind (fun q => ev (d + 1) 175 40 [(2, 0), (0, a1), (0, a2), (0, s0)] (psh q.1 []) q.2.1 q.2.2) := by
  refine (sx_istore_n (al' := [(2, 0), (0, a1), (0, a2), (0, s0)]) D175_26 (Nat.le_of_ble_eq_true rfl) rfl rfl).trans ?_
  refine (sx_aload_n D175_27 rfl).trans ?_
  refine (sx_gfR (q := (8, 1, 0, 288)) (b := 3) D175_28 (by decide +kernel) (by decide +kernel) (by decide) (QA_o h0) (QA_g1 h0)).trans ?_
  refine (sx_iload_n D175_31 rfl).trans ?_
  refine (sx_i2l D175_32).trans ?_
  refine (sx_iload_n D175_33 rfl).trans ?_
  refine (sx_i2l D175_34).trans ?_
  refine (sx_iload_n D175_35 rfl).trans ?_
  refine (sx_i2l D175_36).trans ?_
  exact sx_virt (c := 7) (ag := [(2, 3), (1, w a1), (1, w a2), (1, w s0)]) (r := []) (al' := [(2, 3), (1, w a1), uU, (1, w a2), uU, (1, w s0), uU]) (np := 3) (nl := 7) (q := (1, 113, 1080)) D175_37 (by decide +kernel) (by decide) mP_113 mL_113 mC_113 (Nat.le_of_ble_eq_true rfl) rfl rfl (by simp [cat]) (by decide) (RA_o (QA_k1 h0)) rfl rfl
theorem E175_40 {d : Nat} {a1 a2 a3 : Int} {S : SS} {I : II} (h0 : QA S 0) : ev (d + 1) 175 40 [(2, 0), (0, a1), (0, a2), (0, a3)] [] S I = (ev d 61 0 [(2, 5), (0, 0), uU, uU] [] S I).bind (fun q => ev (d + 1) 175 52 [(2, 0), (0, a1), (0, a2), (0, a3)] (psh q.1 [(2, 3)]) q.2.1 q.2.2) := by
  refine (sx_aload_n D175_40 rfl).trans ?_
  refine (sx_gfR (q := (8, 1, 0, 288)) (b := 3) D175_41 (by decide +kernel) (by decide +kernel) (by decide) (QA_o h0) (QA_g1 h0)).trans ?_
  refine (sx_aload_n D175_44 rfl).trans ?_
  refine (sx_gfR (q := (8, 2, 0, 289)) (b := 5) D175_45 (by decide +kernel) (by decide +kernel) (by decide) (QA_o h0) (QA_g2 h0)).trans ?_
  refine (sx_iconst D175_48).trans ?_
  exact sx_virt (c := 3) (ag := [(2, 5), (0, 0)]) (r := [(2, 3)]) (al' := [(2, 5), (0, 0), uU, uU]) (np := 1) (nl := 4) (q := (1, 61, 1076)) D175_49 (by decide +kernel) (by decide) mP_61 mL_61 mC_61 (Nat.le_of_ble_eq_true rfl) rfl rfl (by simp [cat]) (by decide) (DA_o (QA_k2 h0)) rfl rfl
theorem E175_52 {d : Nat} {a1 a2 a3 s1 : Int} {S : SS} {I : II} (h0 : RA S 3) : ev (d + 1) 175 52 [(2, 0), (0, a1), (0, a2), (0, a3)] [(0, s1), (2, 3)] S I = (ev d 112 0 [(2, 3), (1, w s1), uU] [] S I).bind (fun q => ev (d + 1) 175 56 [(2, 0), (0, a1), (0, a2), (0, a3)] (psh q.1 []) q.2.1 q.2.2) := by
  refine (sx_i2l D175_52).trans ?_
  exact sx_virt (c := 7) (ag := [(2, 3), (1, w s1)]) (r := []) (al' := [(2, 3), (1, w s1), uU]) (np := 1) (nl := 3) (q := (1, 112, 929)) D175_53 (by decide +kernel) (by decide) mP_112 mL_112 mC_112 (Nat.le_of_ble_eq_true rfl) rfl rfl (by simp [cat]) (by decide) (RA_o h0) rfl rfl
theorem E175_56 {d : Nat} {a1 a2 a3 : Int} {S : SS} {I : II}  : ev d 175 56 [(2, 0), (0, a1), (0, a2), (0, a3)] [] S I = some ((0, (a1 + a2) + a3), S, I) := by
  refine (sx_iload_n D175_56 rfl).trans ?_
  refine (sx_iload_n D175_57 rfl).trans ?_
  refine (sx_iadd D175_58).trans ?_
  refine (sx_iload_n D175_59 rfl).trans ?_
  refine (sx_iadd D175_60).trans ?_
  exact sx_ireturn D175_61 (by decide +kernel)
theorem E176_0 {d : Nat} {a1 a2 : Int} {S : SS} {I : II} (h0 : QA S 0) : ev (d + 1) 176 0 [(2, 0), (0, a1), (0, a2)] [] S I = (ev d 66 0 [(2, 424), (0, a1), (0, a2)] [] S I).bind (fun q => ev (d + 1) 176 9 [(2, 0), (0, a1), (0, a2)] (psh q.1 []) q.2.1 q.2.2) := by
  refine (sx_aload_n D176_0 rfl).trans ?_
  refine (sx_gfR (q := (8, 7, 0, 294)) (b := 424) D176_1 (by decide +kernel) (by decide +kernel) (by decide) (QA_o h0) (QA_g7 h0)).trans ?_
  refine (sx_iload_n D176_4 rfl).trans ?_
  refine (sx_iload_n D176_5 rfl).trans ?_
  exact sx_virt (c := 4) (ag := [(2, 424), (0, a1), (0, a2)]) (r := []) (al' := [(2, 424), (0, a1), (0, a2)]) (np := 2) (nl := 3) (q := (1, 66, 1085)) D176_6 (by decide +kernel) (by decide) mP_66 mL_66 mC_66 (Nat.le_of_ble_eq_true rfl) rfl rfl (by simp [cat]) (by decide) (HA_o (QA_k7 h0)) rfl rfl
theorem E176_9 {d : Nat} {a1 a2 s0 : Int} {S : SS} {I : II}  : ev d 176 9 [(2, 0), (0, a1), (0, a2)] [(0, s0)] S I = some ((0, s0), S, I) := by
  exact sx_ireturn D176_9 (by decide +kernel)
theorem E177_0 {d : Nat} {S : SS} {I : II} (h0 : QA S 0) : ev (d + 1) 177 0 [(2, 0)] [] S I = (ev d 68 0 [(2, 424), uU] [] S I).bind (fun q => ev (d + 1) 177 7 [(2, 0)] (psh q.1 []) q.2.1 q.2.2) := by
  refine (sx_aload_n D177_0 rfl).trans ?_
  refine (sx_gfR (q := (8, 7, 0, 294)) (b := 424) D177_1 (by decide +kernel) (by decide +kernel) (by decide) (QA_o h0) (QA_g7 h0)).trans ?_
  exact sx_virt (c := 4) (ag := [(2, 424)]) (r := []) (al' := [(2, 424), uU]) (np := 0) (nl := 2) (q := (1, 68, 1096)) D177_4 (by decide +kernel) (by decide) mP_68 mL_68 mC_68 (Nat.le_of_ble_eq_true rfl) rfl rfl (by simp [cat]) (by decide) (HA_o (QA_k7 h0)) rfl rfl
theorem E177_7 {d : Nat} {s0 : Int} {S : SS} {I : II}  : ev d 177 7 [(2, 0)] [(0, s0)] S I = some ((0, s0), S, I) := by
  exact sx_ireturn D177_7 (by decide +kernel)
theorem E178_0 {d : Nat} {S : SS} {I : II} (h0 : QA S 0) : ev (d + 1) 178 0 [(2, 0)] [] S I = (ev d 69 0 [(2, 424), (2, 5), (2, 3), uU, uU, uU] [] S I).bind (fun q => ev (d + 1) 178 15 [(2, 0)] (psh q.1 []) q.2.1 q.2.2) := by
  refine (sx_aload_n D178_0 rfl).trans ?_
  refine (sx_gfR (q := (8, 7, 0, 294)) (b := 424) D178_1 (by decide +kernel) (by decide +kernel) (by decide) (QA_o h0) (QA_g7 h0)).trans ?_
  refine (sx_aload_n D178_4 rfl).trans ?_
  refine (sx_gfR (q := (8, 2, 0, 289)) (b := 5) D178_5 (by decide +kernel) (by decide +kernel) (by decide) (QA_o h0) (QA_g2 h0)).trans ?_
  refine (sx_aload_n D178_8 rfl).trans ?_
  refine (sx_gfR (q := (8, 1, 0, 288)) (b := 3) D178_9 (by decide +kernel) (by decide +kernel) (by decide) (QA_o h0) (QA_g1 h0)).trans ?_
  exact sx_virt (c := 4) (ag := [(2, 424), (2, 5), (2, 3)]) (r := []) (al' := [(2, 424), (2, 5), (2, 3), uU, uU, uU]) (np := 2) (nl := 6) (q := (1, 69, 1104)) D178_12 (by decide +kernel) (by decide) mP_69 mL_69 mC_69 (Nat.le_of_ble_eq_true rfl) rfl rfl (by simp [cat]) (by decide) (HA_o (QA_k7 h0)) rfl rfl
theorem E178_15 {d : Nat} {s0 : Int} {S : SS} {I : II}  : ev d 178 15 [(2, 0)] [(0, s0)] S I = some ((0, s0), S, I) := by
  exact sx_ireturn D178_15 (by decide +kernel)
theorem E179_0 {d : Nat} {S : SS} {I : II} (h0 : QA S 0) : ev (d + 1) 179 0 [(2, 0)] [] S I = (ev d 72 0 [(2, 424), (2, 5), (2, 3), uU, uU, uU, uU, uU, uU, uU] [] S I).bind (fun q => ev (d + 1) 179 15 [(2, 0)] (psh q.1 []) q.2.1 q.2.2) := by
  refine (sx_aload_n D179_0 rfl).trans ?_
  refine (sx_gfR (q := (8, 7, 0, 294)) (b := 424) D179_1 (by decide +kernel) (by decide +kernel) (by decide) (QA_o h0) (QA_g7 h0)).trans ?_
  refine (sx_aload_n D179_4 rfl).trans ?_
  refine (sx_gfR (q := (8, 2, 0, 289)) (b := 5) D179_5 (by decide +kernel) (by decide +kernel) (by decide) (QA_o h0) (QA_g2 h0)).trans ?_
  refine (sx_aload_n D179_8 rfl).trans ?_
  refine (sx_gfR (q := (8, 1, 0, 288)) (b := 3) D179_9 (by decide +kernel) (by decide +kernel) (by decide) (QA_o h0) (QA_g1 h0)).trans ?_
  exact sx_virt (c := 4) (ag := [(2, 424), (2, 5), (2, 3)]) (r := []) (al' := [(2, 424), (2, 5), (2, 3), uU, uU, uU, uU, uU, uU, uU]) (np := 2) (nl := 10) (q := (1, 72, 1131)) D179_12 (by decide +kernel) (by decide) mP_72 mL_72 mC_72 (Nat.le_of_ble_eq_true rfl) rfl rfl (by simp [cat]) (by decide) (HA_o (QA_k7 h0)) rfl rfl
theorem E179_15 {d : Nat} {s0 : Int} {S : SS} {I : II}  : ev d 179 15 [(2, 0)] [(0, s0)] S I = some ((0, s0), S, I) := by
  exact sx_ireturn D179_15 (by decide +kernel)
theorem E180_0 {d : Nat} {a1 a2 a3 : Int} {S : SS} {I : II}  : ev d 180 0 [(2, 0), (0, a1), (0, a2), (0, a3)] [] S I = if w a1 < 2 then (ev d 180 33 [(2, 0), (0, a1), (0, a2), (0, a3)] [] S I) else (if 40 < w a1 then (ev d 180 33 [(2, 0), (0, a1), (0, a2), (0, a3)] [] S I) else (if w a2 < 0 then (ev d 180 33 [(2, 0), (0, a1), (0, a2), (0, a3)] [] S I) else (if w (a1 - 1) < w a2 then (ev d 180 33 [(2, 0), (0, a1), (0, a2), (0, a3)] [] S I) else (if w a3 < 1 then (ev d 180 33 [(2, 0), (0, a1), (0, a2), (0, a3)] [] S I) else (if 9 < w a3 then (ev d 180 33 [(2, 0), (0, a1), (0, a2), (0, a3)] [] S I) else (gdR (w (a3 + 1) ≠ 0) (some ((0, iRem ((a1 - 1) - a2) (a3 + 1)), S, I)))))))) := by
  refine (sx_iload_n D180_0 rfl).trans ?_
  refine (sx_iconst D180_1).trans ?_
  refine sx_if_lt (pc' := 33) D180_2 (by decide) (by decide) ?_ ?_ rfl (w_small (by decide) (by decide))
  · exact rfl
  · refine (sx_iload_n D180_5 rfl).trans ?_
    refine (sx_bipush D180_6 (by decide)).trans ?_
    refine sx_if_gt (pc' := 33) D180_8 (by decide) (by decide) ?_ ?_ rfl (w_small (by decide) (by decide))
    · exact rfl
    · refine (sx_iload_n D180_11 rfl).trans ?_
      refine sx_i0_lt (pc' := 33) D180_12 (by decide) (by decide) ?_ ?_ rfl
      · exact rfl
      · refine (sx_iload_n D180_15 rfl).trans ?_
        refine (sx_iload_n D180_16 rfl).trans ?_
        refine (sx_iconst D180_17).trans ?_
        refine (sx_isub D180_18).trans ?_
        refine sx_if_gt (pc' := 33) D180_19 (by decide) (by decide) ?_ ?_ rfl rfl
        · exact rfl
        · refine (sx_iload_n D180_22 rfl).trans ?_
          refine (sx_iconst D180_23).trans ?_
          refine sx_if_lt (pc' := 33) D180_24 (by decide) (by decide) ?_ ?_ rfl (w_small (by decide) (by decide))
          · exact rfl
          · refine (sx_iload_n D180_27 rfl).trans ?_
            refine (sx_bipush D180_28 (by decide)).trans ?_
            refine sx_if_le (pc' := 35) D180_30 (by decide) (by decide) ?_ ?_ rfl (w_small (by decide) (by decide))
            · exact rfl
            · refine (sx_iload_n D180_35 rfl).trans ?_
              refine (sx_iconst D180_36).trans ?_
              refine (sx_isub D180_37).trans ?_
              refine (sx_iload_n D180_38 rfl).trans ?_
              refine (sx_isub D180_39).trans ?_
              refine (sx_iload_n D180_40 rfl).trans ?_
              refine (sx_iconst D180_41).trans ?_
              refine (sx_iadd D180_42).trans ?_
              refine (sx_irem D180_43).trans (gdR_to fun g1 => ?_)
              exact sx_ireturn D180_44 (by decide +kernel)
theorem E180_33 {d : Nat} {a1 a2 a3 : Int} {S : SS} {I : II}  : ev d 180 33 [(2, 0), (0, a1), (0, a2), (0, a3)] [] S I = some ((0, (-1)), S, I) := by
  refine (sx_iconst D180_33).trans ?_
  exact sx_ireturn D180_34 (by decide +kernel)
theorem E181_0 {d : Nat} {S : SS} {I : II} (h0 : QA S 0) : ev (d + 1) 181 0 [(2, 0), uU, uU, uU] [] S I = (ev d 116 0 [(2, 418), (2, 1), uU, uU] [] S I).bind (fun q => ev (d + 1) 181 11 [(2, 0), uU, uU, uU] (psh q.1 []) q.2.1 q.2.2) := by
  refine (sx_aload_n D181_0 rfl).trans ?_
  refine (sx_gfR (q := (8, 6, 0, 293)) (b := 418) D181_1 (by decide +kernel) (by decide +kernel) (by decide) (QA_o h0) (QA_g6 h0)).trans ?_
  refine (sx_aload_n D181_4 rfl).trans ?_
  refine (sx_gfR (q := (8, 0, 0, 287)) (b := 1) D181_5 (by decide +kernel) (by decide +kernel) (by decide) (QA_o h0) (QA_g0 h0)).trans ?_
  exact sx_virt (c := 8) (ag := [(2, 418), (2, 1)]) (r := []) (al' := [(2, 418), (2, 1), uU, uU]) (np := 1) (nl := 4) (q := (1, 116, 364)) D181_8 (by decide +kernel) (by decide) mP_116 mL_116 mC_116 (Nat.le_of_ble_eq_true rfl) rfl rfl (by simp [cat]) (by decide) (UA_o (QA_k6 h0)) rfl rfl
theorem E181_11 {d : Nat} {s0 : Int} {S : SS} {I : II} (h0 : QA S 0) : ev (d + 1) 181 11 [(2, 0), uU, uU, uU] [(0, s0)] S I = (ev d 137 0 [(2, 1)] [] S I).bind (fun q => ev (d + 1) 181 19 [(2, 0), (0, s0), uU, uU] (psh q.1 []) q.2.1 q.2.2) := by
  refine (sx_istore_n (al' := [(2, 0), (0, s0), uU, uU]) D181_11 (Nat.le_of_ble_eq_true rfl) rfl rfl).trans ?_
  refine (sx_aload_n D181_12 rfl).trans ?_
  refine (sx_gfR (q := (8, 0, 0, 287)) (b := 1) D181_13 (by decide +kernel) (by decide +kernel) (by decide) (QA_o h0) (QA_g0 h0)).trans ?_
  exact sx_virt (c := 9) (ag := [(2, 1)]) (r := []) (al' := [(2, 1)]) (np := 0) (nl := 1) (q := (1, 137, 352)) D181_16 (by decide +kernel) (by decide) mP_137 mL_137 mC_137 (Nat.le_of_ble_eq_true rfl) rfl rfl (by simp [cat]) (by decide) (TA_o (QA_k0 h0)) rfl rfl
theorem E181_19 {d : Nat} {a1 : Int} {S : SS} {I : II} (h0 : QA S 0) : ev (d + 1) 181 19 [(2, 0), (0, a1), uU, uU] [] S I = if w a1 < 0 then (some ((0, a1 - 999), S, I)) else ((ev d 182 0 [(2, 0), (2, 418), uU] [] S I).bind (fun q => ev (d + 1) 181 37 [(2, 0), (0, a1), uU, uU] (psh q.1 []) q.2.1 q.2.2)) := by
  refine (sx_iload_n D181_19 rfl).trans ?_
  refine sx_i0_ge (pc' := 29) D181_20 (by decide) (by decide) ?_ ?_ rfl
  · refine (sx_iload_n D181_23 rfl).trans ?_
    refine (sx_sipush D181_24 (by decide)).trans ?_
    refine (sx_isub D181_27).trans ?_
    exact sx_ireturn D181_28 (by decide +kernel)
  · refine (sx_aload_n D181_29 rfl).trans ?_
    refine (sx_aload_n D181_30 rfl).trans ?_
    refine (sx_gfR (q := (8, 6, 0, 293)) (b := 418) D181_31 (by decide +kernel) (by decide +kernel) (by decide) (QA_o h0) (QA_g6 h0)).trans ?_
    exact sx_virt (c := 10) (ag := [(2, 0), (2, 418)]) (r := []) (al' := [(2, 0), (2, 418), uU]) (np := 1) (nl := 3) (q := (1, 182, 1149)) D181_34 (by decide +kernel) (by decide) mP_182 mL_182 mC_182 (Nat.le_of_ble_eq_true rfl) rfl rfl (by simp [cat]) (by decide) (QA_o h0) rfl rfl
theorem E181_37 {d : Nat} {a1 s0 : Int} {S : SS} {I : II} (h0 : QA S 0) : ev (d + 1) 181 37 [(2, 0), (0, a1), uU, uU] [(0, s0)] S I = (ev d 182 0 [(2, 0), (2, 412), uU] [] S I).bind (fun q => ev (d + 1) 181 46 [(2, 0), (0, a1), (0, s0), uU] (psh q.1 []) q.2.1 q.2.2) := by
  refine (sx_istore_n (al' := [(2, 0), (0, a1), (0, s0), uU]) D181_37 (Nat.le_of_ble_eq_true rfl) rfl rfl).trans ?_
  refine (sx_aload_n D181_38 rfl).trans ?_
  refine (sx_aload_n D181_39 rfl).trans ?_
  refine (sx_gfR (q := (8, 5, 0, 292)) (b := 412) D181_40 (by decide +kernel) (by decide +kernel) (by decide) (QA_o h0) (QA_g5 h0)).trans ?_
  exact sx_virt (c := 10) (ag := [(2, 0), (2, 412)]) (r := []) (al' := [(2, 0), (2, 412), uU]) (np := 1) (nl := 3) (q := (1, 182, 1149)) D181_43 (by decide +kernel) (by decide) mP_182 mL_182 mC_182 (Nat.le_of_ble_eq_true rfl) rfl rfl (by simp [cat]) (by decide) (QA_o h0) rfl rfl
theorem E181_46 {d : Nat} {a1 a2 s0 : Int} {S : SS} {I : II} (h0 : QA S 0) : ev (d + 1) 181 46 [(2, 0), (0, a1), (0, a2), uU] [(0, s0)] S I = (ev d 109 0 [(2, 3), (1, w a2), uU, (1, w s0), uU] [] S I).bind (fun q => ev (d + 1) 181 58 [(2, 0), (0, a1), (0, a2), (0, s0)] (psh q.1 []) q.2.1 q.2.2) := by
  refine (sx_istore_n (al' := [(2, 0), (0, a1), (0, a2), (0, s0)]) D181_46 (Nat.le_of_ble_eq_true rfl) rfl rfl).trans ?_
  refine (sx_aload_n D181_47 rfl).trans ?_
  refine (sx_gfR (q := (8, 1, 0, 288)) (b := 3) D181_48 (by decide +kernel) (by decide +kernel) (by decide) (QA_o h0) (QA_g1 h0)).trans ?_
  refine (sx_iload_n D181_51 rfl).trans ?_
  refine (sx_i2l D181_52).trans ?_
  refine (sx_iload_n D181_53 rfl).trans ?_
  refine (sx_i2l D181_54).trans ?_
  exact sx_virt (c := 7) (ag := [(2, 3), (1, w a2), (1, w s0)]) (r := []) (al' := [(2, 3), (1, w a2), uU, (1, w s0), uU]) (np := 2) (nl := 5) (q := (1, 109, 910)) D181_55 (by decide +kernel) (by decide) mP_109 mL_109 mC_109 (Nat.le_of_ble_eq_true rfl) rfl rfl (by simp [cat]) (by decide) (RA_o (QA_k1 h0)) rfl rfl
theorem E181_58 {d : Nat} {a1 a2 a3 : Int} {S : SS} {I : II}  : ev d 181 58 [(2, 0), (0, a1), (0, a2), (0, a3)] [] S I = some ((0, a2 - a3), S, I) := by
  refine (sx_iload_n D181_58 rfl).trans ?_
  refine (sx_iload_n D181_59 rfl).trans ?_
  refine (sx_isub D181_60).trans ?_
  exact sx_ireturn D181_61 (by decide +kernel)
theorem E182_0 {d : Nat} {a1 : Int} {S : SS} {I : II} (h0 : QA S 0) : ev (d + 1) 182 0 [(2, 0), (2, a1), uU] [] S I = (ev d 19 0 [(2, 36), (2, 5), uU] [] S I).bind (fun q => ev (d + 1) 182 11 [(2, 0), (2, a1), uU] (psh q.1 []) q.2.1 q.2.2) := by
  refine (sx_aload_n D182_0 rfl).trans ?_
  refine (sx_gfR (q := (8, 3, 0, 290)) (b := 36) D182_1 (by decide +kernel) (by decide +kernel) (by decide) (QA_o h0) (QA_g3 h0)).trans ?_
  refine (sx_aload_n D182_4 rfl).trans ?_
  refine (sx_gfR (q := (8, 2, 0, 289)) (b := 5) D182_5 (by decide +kernel) (by decide +kernel) (by decide) (QA_o h0) (QA_g2 h0)).trans ?_
  exact sx_virt (c := 3) (ag := [(2, 36), (2, 5)]) (r := []) (al' := [(2, 36), (2, 5), uU]) (np := 1) (nl := 3) (q := (1, 19, 993)) D182_8 (by decide +kernel) (by decide) mP_19 mL_19 mC_19 (Nat.le_of_ble_eq_true rfl) rfl rfl (by simp [cat]) (by decide) (DA_o (QA_k3 h0)) rfl rfl
theorem E182_11 {d : Nat} {a1 : Int} {S : SS} {I : II} (h0 : QA S 0) : ev (d + 1) 182 11 [(2, 0), (2, a1), uU] [] S I = (ev d 56 0 [(2, 36), (2, a1), uU, uU] [] S I).bind (fun q => ev (d + 1) 182 19 [(2, 0), (2, a1), uU] (psh q.1 []) q.2.1 q.2.2) := by
  refine (sx_aload_n D182_11 rfl).trans ?_
  refine (sx_gfR (q := (8, 3, 0, 290)) (b := 36) D182_12 (by decide +kernel) (by decide +kernel) (by decide) (QA_o h0) (QA_g3 h0)).trans ?_
  refine (sx_aload_n D182_15 rfl).trans ?_
  exact sx_virt (c := 3) (ag := [(2, 36), (2, a1)]) (r := []) (al' := [(2, 36), (2, a1), uU, uU]) (np := 1) (nl := 4) (q := (1, 56, 1026)) D182_16 (by decide +kernel) (by decide) mP_56 mL_56 mC_56 (Nat.le_of_ble_eq_true rfl) rfl rfl (by simp [cat]) (by decide) (DA_o (QA_k3 h0)) rfl rfl
theorem E182_19 {d : Nat} {a1 s0 : Int} {S : SS} {I : II}  : ev d 182 19 [(2, 0), (2, a1), uU] [(0, s0)] S I = if w s0 < 0 then (ev d 182 30 [(2, 0), (2, a1), (0, s0)] [(0, 100)] S I) else (ev d 182 30 [(2, 0), (2, a1), (0, s0)] [(0, s0)] S I) := by
  refine (sx_istore_n (al' := [(2, 0), (2, a1), (0, s0)]) D182_19 (Nat.le_of_ble_eq_true rfl) rfl rfl).trans ?_
  refine (sx_iload_n D182_20 rfl).trans ?_
  refine sx_i0_ge (pc' := 29) D182_21 (by decide) (by decide) ?_ ?_ rfl
  · refine (sx_bipush D182_24 (by decide)).trans ?_
    refine (sx_goto (pc' := 30) D182_26 (by decide) (by decide)).trans ?_
    exact rfl
  · refine (sx_iload_n D182_29 rfl).trans ?_
    exact rfl
theorem E182_30 {d : Nat} {a1 a2 s0 : Int} {S : SS} {I : II}  : ev d 182 30 [(2, 0), (2, a1), (0, a2)] [(0, s0)] S I = some ((0, s0), S, I) := by
  exact sx_ireturn D182_30 (by decide +kernel)
theorem E183_0 {d : Nat} {a1 a2 : Int} {S : SS} {I : II} (h0 : QA S 0) : ev (d + 1) 183 0 [(2, 0), (0, a1), (0, a2), uU, uU] [] S I = if w a2 < 1 then (ev (d + 1) 183 11 [(2, 0), (0, a1), (0, a2), uU, uU] [] S I) else (if 40 < w a2 then (ev (d + 1) 183 11 [(2, 0), (0, a1), (0, a2), uU, uU] [] S I) else ((ev d 19 0 [(2, 36), (2, 5), uU] [] S I).bind (fun q => ev (d + 1) 183 24 [(2, 0), (0, a1), (0, a2), uU, uU] (psh q.1 []) q.2.1 q.2.2))) := by
  refine (sx_iload_n D183_0 rfl).trans ?_
  refine (sx_iconst D183_1).trans ?_
  refine sx_if_lt (pc' := 11) D183_2 (by decide) (by decide) ?_ ?_ rfl (w_small (by decide) (by decide))
  · exact rfl
  · refine (sx_iload_n D183_5 rfl).trans ?_
    refine (sx_bipush D183_6 (by decide)).trans ?_
    refine sx_if_le (pc' := 13) D183_8 (by decide) (by decide) ?_ ?_ rfl (w_small (by decide) (by decide))
    · exact rfl
    · refine (sx_aload_n D183_13 rfl).trans ?_
      refine (sx_gfR (q := (8, 3, 0, 290)) (b := 36) D183_14 (by decide +kernel) (by decide +kernel) (by decide) (QA_o h0) (QA_g3 h0)).trans ?_
      refine (sx_aload_n D183_17 rfl).trans ?_
      refine (sx_gfR (q := (8, 2, 0, 289)) (b := 5) D183_18 (by decide +kernel) (by decide +kernel) (by decide) (QA_o h0) (QA_g2 h0)).trans ?_
      exact sx_virt (c := 3) (ag := [(2, 36), (2, 5)]) (r := []) (al' := [(2, 36), (2, 5), uU]) (np := 1) (nl := 3) (q := (1, 19, 993)) D183_21 (by decide +kernel) (by decide) mP_19 mL_19 mC_19 (Nat.le_of_ble_eq_true rfl) rfl rfl (by simp [cat]) (by decide) (DA_o (QA_k3 h0)) rfl rfl
theorem E183_11 {d : Nat} {a1 a2 : Int} {S : SS} {I : II}  : ev d 183 11 [(2, 0), (0, a1), (0, a2), uU, uU] [] S I = some ((0, (-1)), S, I) := by
  refine (sx_iconst D183_11).trans ?_
  exact sx_ireturn D183_12 (by decide +kernel)
theorem E183_24 {d : Nat} {a1 a2 : Int} {S : SS} {I : II}  : ev d 183 24 [(2, 0), (0, a1), (0, a2), uU, uU] [] S I = ev d 183 27 [(2, 0), (0, a1), (0, a2), uU, uU] [(2, (S.1 : Int))] (newS S 0 1) (newI S I) := by
  refine (sx_newobj (q := (0, 1157)) D183_24 (by decide +kernel)).trans ?_
  exact rfl
theorem E183_27 {d : Nat} {a1 a2 s0 : Int} {S : SS} {I : II} (h0 : (0 : Int) ≤ s0) : ev (d + 1) 183 27 [(2, 0), (0, a1), (0, a2), uU, uU] [(2, s0)] S I = (ev d 12 0 [(2, s0), (0, a1)] [] S I).bind (fun q => ev (d + 1) 183 32 [(2, 0), (0, a1), (0, a2), uU, uU] (psh q.1 [(2, s0)]) q.2.1 q.2.2) := by
  refine (sx_dup D183_27 (by decide)).trans ?_
  refine (sx_iload_n D183_28 rfl).trans ?_
  exact sx_spec (ag := [(2, s0), (0, a1)]) (r := [(2, s0)]) (al' := [(2, s0), (0, a1)]) (np := 1) (nl := 2) (q := (2, 12, 1159)) D183_29 (by decide +kernel) (by decide) mP_12 mL_12 (Nat.le_of_ble_eq_true rfl) rfl rfl (by simp [cat]) h0 rfl rfl
theorem E183_32 {d : Nat} {a1 a2 s0 : Int} {S : SS} {I : II}  : ev d 183 32 [(2, 0), (0, a1), (0, a2), uU, uU] [(2, s0)] S I = ev d 183 36 [(2, 0), (0, a1), (0, a2), (2, s0), (0, 0)] [] S I := by
  refine (sx_astore_n (al' := [(2, 0), (0, a1), (0, a2), (2, s0), uU]) D183_32 (Nat.le_of_ble_eq_true rfl) rfl rfl).trans ?_
  refine (sx_iconst D183_33).trans ?_
  refine (sx_istore (al' := [(2, 0), (0, a1), (0, a2), (2, s0), (0, 0)]) D183_34 (Nat.le_of_ble_eq_true rfl) rfl rfl).trans ?_
  exact rfl
theorem E183_36 {d : Nat} {a1 a2 a3 a4 : Int} {S : SS} {I : II} (h0 : QA S 0) : ev (d + 1) 183 36 [(2, 0), (0, a1), (0, a2), (2, a3), (0, a4)] [] S I = if w a4 < w a2 then ((ev d 64 0 [(2, 36), (2, a3), (2, 412), (2, 3), uU, uU, uU, uU] [] S I).bind (fun q => ev (d + 1) 183 58 [(2, 0), (0, a1), (0, a2), (2, a3), (0, a4)] (psh q.1 []) q.2.1 q.2.2)) else ((ev d 24 0 [(2, 36), (0, 7), uU, uU] [] S I).bind (fun q => ev (d + 1) 183 77 [(2, 0), (0, a1), (0, a2), (2, a3), (0, a4)] (psh q.1 [(2, 3)]) q.2.1 q.2.2)) := by
  refine (sx_iload D183_36 rfl).trans ?_
  refine (sx_iload_n D183_38 rfl).trans ?_
  refine sx_if_ge (pc' := 64) D183_39 (by decide) (by decide) ?_ ?_ rfl rfl
  · refine (sx_aload_n D183_42 rfl).trans ?_
    refine (sx_gfR (q := (8, 3, 0, 290)) (b := 36) D183_43 (by decide +kernel) (by decide +kernel) (by decide) (QA_o h0) (QA_g3 h0)).trans ?_
    refine (sx_aload_n D183_46 rfl).trans ?_
    refine (sx_aload_n D183_47 rfl).trans ?_
    refine (sx_gfR (q := (8, 5, 0, 292)) (b := 412) D183_48 (by decide +kernel) (by decide +kernel) (by decide) (QA_o h0) (QA_g5 h0)).trans ?_
    refine (sx_aload_n D183_51 rfl).trans ?_
    refine (sx_gfR (q := (8, 1, 0, 288)) (b := 3) D183_52 (by decide +kernel) (by decide +kernel) (by decide) (QA_o h0) (QA_g1 h0)).trans ?_
    exact sx_virt (c := 3) (ag := [(2, 36), (2, a3), (2, 412), (2, 3)]) (r := []) (al' := [(2, 36), (2, a3), (2, 412), (2, 3), uU, uU, uU, uU]) (np := 3) (nl := 8) (q := (1, 64, 1167)) D183_55 (by decide +kernel) (by decide) mP_64 mL_64 mC_64 (Nat.le_of_ble_eq_true rfl) rfl rfl (by simp [cat]) (by decide) (DA_o (QA_k3 h0)) rfl rfl
  · refine (sx_aload_n D183_64 rfl).trans ?_
    refine (sx_gfR (q := (8, 1, 0, 288)) (b := 3) D183_65 (by decide +kernel) (by decide +kernel) (by decide) (QA_o h0) (QA_g1 h0)).trans ?_
    refine (sx_aload_n D183_68 rfl).trans ?_
    refine (sx_gfR (q := (8, 3, 0, 290)) (b := 36) D183_69 (by decide +kernel) (by decide +kernel) (by decide) (QA_o h0) (QA_g3 h0)).trans ?_
    refine (sx_bipush D183_72 (by decide)).trans ?_
    exact sx_virt (c := 3) (ag := [(2, 36), (0, 7)]) (r := [(2, 3)]) (al' := [(2, 36), (0, 7), uU, uU]) (np := 1) (nl := 4) (q := (1, 24, 1039)) D183_74 (by decide +kernel) (by decide) mP_24 mL_24 mC_24 (Nat.le_of_ble_eq_true rfl) rfl rfl (by simp [cat]) (by decide) (DA_o (QA_k3 h0)) rfl rfl
theorem E183_58 {d : Nat} {a1 a2 a3 a4 : Int} {S : SS} {I : II}  : ev d 183 58 [(2, 0), (0, a1), (0, a2), (2, a3), (0, a4)] [] S I = ev d 183 36 [(2, 0), (0, a1), (0, a2), (2, a3), (0, a4 + 1)] [] S I := by
  refine (sx_iinc (al' := [(2, 0), (0, a1), (0, a2), (2, a3), (0, a4 + 1)]) D183_58 rfl rfl).trans ?_
  refine (sx_goto (pc' := 36) D183_61 (by decide) (by decide)).trans ?_
  exact rfl
theorem E183_77 {d : Nat} {a1 a2 a3 a4 s1 : Int} {S : SS} {I : II} (h0 : QA S 0) : ev (d + 1) 183 77 [(2, 0), (0, a1), (0, a2), (2, a3), (0, a4)] [(0, s1), (2, 3)] S I = (ev d 24 0 [(2, 5), (0, 7), uU, uU] [] S I).bind (fun q => ev (d + 1) 183 86 [(2, 0), (0, a1), (0, a2), (2, a3), (0, a4)] (psh q.1 [(0, s1), (2, 3)]) q.2.1 q.2.2) := by
  refine (sx_aload_n D183_77 rfl).trans ?_
  refine (sx_gfR (q := (8, 2, 0, 289)) (b := 5) D183_78 (by decide +kernel) (by decide +kernel) (by decide) (QA_o h0) (QA_g2 h0)).trans ?_
  refine (sx_bipush D183_81 (by decide)).trans ?_
  exact sx_virt (c := 3) (ag := [(2, 5), (0, 7)]) (r := [(0, s1), (2, 3)]) (al' := [(2, 5), (0, 7), uU, uU]) (np := 1) (nl := 4) (q := (1, 24, 1039)) D183_83 (by decide +kernel) (by decide) mP_24 mL_24 mC_24 (Nat.le_of_ble_eq_true rfl) rfl rfl (by simp [cat]) (by decide) (DA_o (QA_k2 h0)) rfl rfl
theorem E183_86 {d : Nat} {a1 a2 a3 a4 s1 s2 : Int} {S : SS} {I : II} (h0 : QA S 0) : ev (d + 1) 183 86 [(2, 0), (0, a1), (0, a2), (2, a3), (0, a4)] [(0, s2), (0, s1), (2, 3)] S I = (ev d 18 0 [(2, 36), uU, uU] [] S I).bind (fun q => ev (d + 1) 183 95 [(2, 0), (0, a1), (0, a2), (2, a3), (0, a4)] (psh q.1 [(1, w (s1 - s2)), (2, 3)]) q.2.1 q.2.2) := by
  refine (sx_isub D183_86).trans ?_
  refine (sx_i2l D183_87).trans ?_
  refine (sx_aload_n D183_88 rfl).trans ?_
  refine (sx_gfR (q := (8, 3, 0, 290)) (b := 36) D183_89 (by decide +kernel) (by decide +kernel) (by decide) (QA_o h0) (QA_g3 h0)).trans ?_
  exact sx_virt (c := 3) (ag := [(2, 36)]) (r := [(1, w (s1 - s2)), (2, 3)]) (al' := [(2, 36), uU, uU]) (np := 0) (nl := 3) (q := (1, 18, 1040)) D183_92 (by decide +kernel) (by decide) mP_18 mL_18 mC_18 (Nat.le_of_ble_eq_true rfl) rfl rfl (by simp [cat]) (by decide) (DA_o (QA_k3 h0)) rfl rfl
theorem E183_95 {d : Nat} {a1 a2 a3 a4 s1 s2 : Int} {S : SS} {I : II} (h0 : QA S 0) (h1 : RA S 3) : ev (d + 1) 183 95 [(2, 0), (0, a1), (0, a2), (2, a3), (0, a4)] [(0, s2), (1, s1), (2, 3)] S I = (ev d 113 0 [(2, 3), (1, s1), uU, (1, w s2), uU, (1, w (I 36 7)), uU] [] S I).bind (fun q => ev (d + 1) 183 107 [(2, 0), (0, a1), (0, a2), (2, a3), (0, a4)] (psh q.1 []) q.2.1 q.2.2) := by
  refine (sx_i2l D183_95).trans ?_
  refine (sx_aload_n D183_96 rfl).trans ?_
  refine (sx_gfR (q := (8, 3, 0, 290)) (b := 36) D183_97 (by decide +kernel) (by decide +kernel) (by decide) (QA_o h0) (QA_g3 h0)).trans ?_
  refine (sx_gfI (q := (1, 7, 1, 157)) (j := 7) D183_100 (by decide +kernel) (by decide +kernel) (by decide) (DA_o (QA_k3 h0)) rfl rfl).trans ?_
  refine (sx_i2l D183_103).trans ?_
  exact sx_virt (c := 7) (ag := [(2, 3), (1, s1), (1, w s2), (1, w (I 36 7))]) (r := []) (al' := [(2, 3), (1, s1), uU, (1, w s2), uU, (1, w (I 36 7)), uU]) (np := 3) (nl := 7) (q := (1, 113, 1080)) D183_104 (by decide +kernel) (by decide) mP_113 mL_113 mC_113 (Nat.le_of_ble_eq_true rfl) rfl rfl (by simp [cat]) (by decide) (RA_o h1) rfl rfl
theorem E183_107 {d : Nat} {a1 a2 a3 a4 : Int} {S : SS} {I : II} (h0 : QA S 0) : ev (d + 1) 183 107 [(2, 0), (0, a1), (0, a2), (2, a3), (0, a4)] [] S I = (ev d 24 0 [(2, 36), (0, 10), uU, uU] [] S I).bind (fun q => ev (d + 1) 183 116 [(2, 0), (0, a1), (0, a2), (2, a3), (0, a4)] (psh q.1 []) q.2.1 q.2.2) := by
  refine (sx_aload_n D183_107 rfl).trans ?_
  refine (sx_gfR (q := (8, 3, 0, 290)) (b := 36) D183_108 (by decide +kernel) (by decide +kernel) (by decide) (QA_o h0) (QA_g3 h0)).trans ?_
  refine (sx_bipush D183_111 (by decide)).trans ?_
  exact sx_virt (c := 3) (ag := [(2, 36), (0, 10)]) (r := []) (al' := [(2, 36), (0, 10), uU, uU]) (np := 1) (nl := 4) (q := (1, 24, 1039)) D183_113 (by decide +kernel) (by decide) mP_24 mL_24 mC_24 (Nat.le_of_ble_eq_true rfl) rfl rfl (by simp [cat]) (by decide) (DA_o (QA_k3 h0)) rfl rfl
theorem E183_116 {d : Nat} {a1 a2 a3 a4 s0 : Int} {S : SS} {I : II} (h0 : QA S 0) : ev (d + 1) 183 116 [(2, 0), (0, a1), (0, a2), (2, a3), (0, a4)] [(0, s0)] S I = (ev d 24 0 [(2, 5), (0, 10), uU, uU] [] S I).bind (fun q => ev (d + 1) 183 125 [(2, 0), (0, a1), (0, a2), (2, a3), (0, a4)] (psh q.1 [(0, s0)]) q.2.1 q.2.2) := by
  refine (sx_aload_n D183_116 rfl).trans ?_
  refine (sx_gfR (q := (8, 2, 0, 289)) (b := 5) D183_117 (by decide +kernel) (by decide +kernel) (by decide) (QA_o h0) (QA_g2 h0)).trans ?_
  refine (sx_bipush D183_120 (by decide)).trans ?_
  exact sx_virt (c := 3) (ag := [(2, 5), (0, 10)]) (r := [(0, s0)]) (al' := [(2, 5), (0, 10), uU, uU]) (np := 1) (nl := 4) (q := (1, 24, 1039)) D183_122 (by decide +kernel) (by decide) mP_24 mL_24 mC_24 (Nat.le_of_ble_eq_true rfl) rfl rfl (by simp [cat]) (by decide) (DA_o (QA_k2 h0)) rfl rfl
theorem E183_125 {d : Nat} {a1 a2 a3 a4 s0 s1 : Int} {S : SS} {I : II}  : ev d 183 125 [(2, 0), (0, a1), (0, a2), (2, a3), (0, a4)] [(0, s1), (0, s0)] S I = some ((0, s0 - s1), S, I) := by
  refine (sx_isub D183_125).trans ?_
  exact sx_ireturn D183_126 (by decide +kernel)
theorem E184_0 {d : Nat} {a1 : Int} {S : SS} {I : II} (h0 : QA S 0) : ev (d + 1) 184 0 [(2, 0), (0, a1)] [] S I = (ev d 106 0 [(2, 67), (0, a1), (2, 5)] [] S I).bind (fun q => ev (d + 1) 184 12 [(2, 0), (0, a1)] (psh q.1 []) q.2.1 q.2.2) := by
  refine (sx_aload_n D184_0 rfl).trans ?_
  refine (sx_gfR (q := (8, 4, 0, 291)) (b := 67) D184_1 (by decide +kernel) (by decide +kernel) (by decide) (QA_o h0) (QA_g4 h0)).trans ?_
  refine (sx_iload_n D184_4 rfl).trans ?_
  refine (sx_aload_n D184_5 rfl).trans ?_
  refine (sx_gfR (q := (8, 2, 0, 289)) (b := 5) D184_6 (by decide +kernel) (by decide +kernel) (by decide) (QA_o h0) (QA_g2 h0)).trans ?_
  exact sx_virt (c := 6) (ag := [(2, 67), (0, a1), (2, 5)]) (r := []) (al' := [(2, 67), (0, a1), (2, 5)]) (np := 2) (nl := 3) (q := (1, 106, 1183)) D184_9 (by decide +kernel) (by decide) mP_106 mL_106 mC_106 (Nat.le_of_ble_eq_true rfl) rfl rfl (by simp [cat]) (by decide) (PA_o (QA_k4 h0)) rfl rfl
theorem E184_12 {d : Nat} {a1 s0 : Int} {S : SS} {I : II} (h0 : s0 = 0 ∨ s0 = 1) : ev d 184 12 [(2, 0), (0, a1)] [(0, s0)] S I = some ((0, s0), S, I) := by
  exact sx_zreturn D184_12 (by decide +kernel) h0
theorem E185_0 {d : Nat} {a1 : Int} {S : SS} {I : II} (h0 : QA S 0) : ev (d + 1) 185 0 [(2, 0), (0, a1)] [] S I = (ev d 107 0 [(2, 67), (0, a1), (2, 5)] [] S I).bind (fun q => ev (d + 1) 185 12 [(2, 0), (0, a1)] (psh q.1 []) q.2.1 q.2.2) := by
  refine (sx_aload_n D185_0 rfl).trans ?_
  refine (sx_gfR (q := (8, 4, 0, 291)) (b := 67) D185_1 (by decide +kernel) (by decide +kernel) (by decide) (QA_o h0) (QA_g4 h0)).trans ?_
  refine (sx_iload_n D185_4 rfl).trans ?_
  refine (sx_aload_n D185_5 rfl).trans ?_
  refine (sx_gfR (q := (8, 2, 0, 289)) (b := 5) D185_6 (by decide +kernel) (by decide +kernel) (by decide) (QA_o h0) (QA_g2 h0)).trans ?_
  exact sx_virt (c := 6) (ag := [(2, 67), (0, a1), (2, 5)]) (r := []) (al' := [(2, 67), (0, a1), (2, 5)]) (np := 2) (nl := 3) (q := (1, 107, 1191)) D185_9 (by decide +kernel) (by decide) mP_107 mL_107 mC_107 (Nat.le_of_ble_eq_true rfl) rfl rfl (by simp [cat]) (by decide) (PA_o (QA_k4 h0)) rfl rfl
theorem E185_12 {d : Nat} {a1 s0 : Int} {S : SS} {I : II} (h0 : s0 = 0 ∨ s0 = 1) : ev d 185 12 [(2, 0), (0, a1)] [(0, s0)] S I = some ((0, s0), S, I) := by
  exact sx_zreturn D185_12 (by decide +kernel) h0
theorem E186_0 {d : Nat} {a1 : Int} {S : SS} {I : II} (h0 : QA S 0) : ev (d + 1) 186 0 [(2, 0), (0, a1)] [] S I = if w a1 = 0 then (some ((0, I 5 0), S, I)) else (if w a1 = 1 then ((ev d 45 0 [(2, 5)] [] S I).bind (fun q => ev (d + 1) 186 79 [(2, 0), (0, a1)] (psh q.1 []) q.2.1 q.2.2)) else (if w a1 = 2 then (some ((0, I 5 10), S, I)) else (if w a1 = 3 then (some ((0, I 5 15), S, I)) else (if w a1 = 4 then ((ev d 24 0 [(2, 5), (0, 9), uU, uU] [] S I).bind (fun q => ev (d + 1) 186 105 [(2, 0), (0, a1)] (psh q.1 []) q.2.1 q.2.2)) else (if w a1 = 5 then (some ((0, I 5 7), S, I)) else (if w a1 = 6 then (some ((0, I 5 6), S, I)) else (if w a1 = 7 then ((ev d 18 0 [(2, 5), uU, uU] [] S I).bind (fun q => ev (d + 1) 186 139 [(2, 0), (0, a1)] (psh q.1 []) q.2.1 q.2.2)) else (if w a1 = 8 then (some ((0, I 424 2), S, I)) else (if w a1 = 9 then (some ((0, I 67 2), S, I)) else (if w a1 = 10 then (some ((0, I 3 1), S, I)) else (if w a1 = 11 then (some ((0, I 1 1), S, I)) else (some ((0, (-100)), S, I))))))))))))) := by
  refine (sx_iload_n D186_0 rfl).trans ?_
  refine ite_go (c := w a1 = 0) (fun x1 => ?_) (fun x1 => ?_)
  · refine (sx_tsw (pc' := 64) D186_1 ((rfl).trans x1) (by decide) rfl (by decide) (by decide)).trans ?_
    refine (sx_aload_n D186_64 rfl).trans ?_
    refine (sx_gfR (q := (8, 2, 0, 289)) (b := 5) D186_65 (by decide +kernel) (by decide +kernel) (by decide) (QA_o h0) (QA_g2 h0)).trans ?_
    refine (sx_gfI (q := (1, 0, 1, 148)) (j := 0) D186_68 (by decide +kernel) (by decide +kernel) (by decide) (DA_o (QA_k2 h0)) rfl rfl).trans ?_
    exact sx_ireturn D186_71 (by decide +kernel)
  refine ite_go (c := w a1 = 1) (fun x2 => ?_) (fun x2 => ?_)
  · refine (sx_tsw (pc' := 72) D186_1 ((rfl).trans x2) (by decide) rfl (by decide) (by decide)).trans ?_
    refine (sx_aload_n D186_72 rfl).trans ?_
    refine (sx_gfR (q := (8, 2, 0, 289)) (b := 5) D186_73 (by decide +kernel) (by decide +kernel) (by decide) (QA_o h0) (QA_g2 h0)).trans ?_
    exact sx_virt (c := 3) (ag := [(2, 5)]) (r := []) (al' := [(2, 5)]) (np := 0) (nl := 1) (q := (1, 45, 1200)) D186_76 (by decide +kernel) (by decide) mP_45 mL_45 mC_45 (Nat.le_of_ble_eq_true rfl) rfl rfl (by simp [cat]) (by decide) (DA_o (QA_k2 h0)) rfl rfl
  refine ite_go (c := w a1 = 2) (fun x3 => ?_) (fun x3 => ?_)
  · refine (sx_tsw (pc' := 80) D186_1 ((rfl).trans x3) (by decide) rfl (by decide) (by decide)).trans ?_
    refine (sx_aload_n D186_80 rfl).trans ?_
    refine (sx_gfR (q := (8, 2, 0, 289)) (b := 5) D186_81 (by decide +kernel) (by decide +kernel) (by decide) (QA_o h0) (QA_g2 h0)).trans ?_
    refine (sx_gfI (q := (1, 10, 1, 163)) (j := 10) D186_84 (by decide +kernel) (by decide +kernel) (by decide) (DA_o (QA_k2 h0)) rfl rfl).trans ?_
    exact sx_ireturn D186_87 (by decide +kernel)
  refine ite_go (c := w a1 = 3) (fun x4 => ?_) (fun x4 => ?_)
  · refine (sx_tsw (pc' := 88) D186_1 ((rfl).trans x4) (by decide) rfl (by decide) (by decide)).trans ?_
    refine (sx_aload_n D186_88 rfl).trans ?_
    refine (sx_gfR (q := (8, 2, 0, 289)) (b := 5) D186_89 (by decide +kernel) (by decide +kernel) (by decide) (QA_o h0) (QA_g2 h0)).trans ?_
    refine (sx_gfI (q := (1, 15, 1, 169)) (j := 15) D186_92 (by decide +kernel) (by decide +kernel) (by decide) (DA_o (QA_k2 h0)) rfl rfl).trans ?_
    exact sx_ireturn D186_95 (by decide +kernel)
  refine ite_go (c := w a1 = 4) (fun x5 => ?_) (fun x5 => ?_)
  · refine (sx_tsw (pc' := 96) D186_1 ((rfl).trans x5) (by decide) rfl (by decide) (by decide)).trans ?_
    refine (sx_aload_n D186_96 rfl).trans ?_
    refine (sx_gfR (q := (8, 2, 0, 289)) (b := 5) D186_97 (by decide +kernel) (by decide +kernel) (by decide) (QA_o h0) (QA_g2 h0)).trans ?_
    refine (sx_bipush D186_100 (by decide)).trans ?_
    exact sx_virt (c := 3) (ag := [(2, 5), (0, 9)]) (r := []) (al' := [(2, 5), (0, 9), uU, uU]) (np := 1) (nl := 4) (q := (1, 24, 1039)) D186_102 (by decide +kernel) (by decide) mP_24 mL_24 mC_24 (Nat.le_of_ble_eq_true rfl) rfl rfl (by simp [cat]) (by decide) (DA_o (QA_k2 h0)) rfl rfl
  refine ite_go (c := w a1 = 5) (fun x6 => ?_) (fun x6 => ?_)
  · refine (sx_tsw (pc' := 116) D186_1 ((rfl).trans x6) (by decide) rfl (by decide) (by decide)).trans ?_
    refine (sx_aload_n D186_116 rfl).trans ?_
    refine (sx_gfR (q := (8, 2, 0, 289)) (b := 5) D186_117 (by decide +kernel) (by decide +kernel) (by decide) (QA_o h0) (QA_g2 h0)).trans ?_
    refine (sx_gfI (q := (1, 7, 1, 157)) (j := 7) D186_120 (by decide +kernel) (by decide +kernel) (by decide) (DA_o (QA_k2 h0)) rfl rfl).trans ?_
    exact sx_ireturn D186_123 (by decide +kernel)
  refine ite_go (c := w a1 = 6) (fun x7 => ?_) (fun x7 => ?_)
  · refine (sx_tsw (pc' := 124) D186_1 ((rfl).trans x7) (by decide) rfl (by decide) (by decide)).trans ?_
    refine (sx_aload_n D186_124 rfl).trans ?_
    refine (sx_gfR (q := (8, 2, 0, 289)) (b := 5) D186_125 (by decide +kernel) (by decide +kernel) (by decide) (QA_o h0) (QA_g2 h0)).trans ?_
    refine (sx_gfI (q := (1, 6, 1, 155)) (j := 6) D186_128 (by decide +kernel) (by decide +kernel) (by decide) (DA_o (QA_k2 h0)) rfl rfl).trans ?_
    exact sx_ireturn D186_131 (by decide +kernel)
  refine ite_go (c := w a1 = 7) (fun x8 => ?_) (fun x8 => ?_)
  · refine (sx_tsw (pc' := 132) D186_1 ((rfl).trans x8) (by decide) rfl (by decide) (by decide)).trans ?_
    refine (sx_aload_n D186_132 rfl).trans ?_
    refine (sx_gfR (q := (8, 2, 0, 289)) (b := 5) D186_133 (by decide +kernel) (by decide +kernel) (by decide) (QA_o h0) (QA_g2 h0)).trans ?_
    exact sx_virt (c := 3) (ag := [(2, 5)]) (r := []) (al' := [(2, 5), uU, uU]) (np := 0) (nl := 3) (q := (1, 18, 1040)) D186_136 (by decide +kernel) (by decide) mP_18 mL_18 mC_18 (Nat.le_of_ble_eq_true rfl) rfl rfl (by simp [cat]) (by decide) (DA_o (QA_k2 h0)) rfl rfl
  refine ite_go (c := w a1 = 8) (fun x9 => ?_) (fun x9 => ?_)
  · refine (sx_tsw (pc' := 140) D186_1 ((rfl).trans x9) (by decide) rfl (by decide) (by decide)).trans ?_
    refine (sx_aload_n D186_140 rfl).trans ?_
    refine (sx_gfR (q := (8, 7, 0, 294)) (b := 424) D186_141 (by decide +kernel) (by decide +kernel) (by decide) (QA_o h0) (QA_g7 h0)).trans ?_
    refine (sx_gfI (q := (2, 2, 1, 279)) (j := 2) D186_144 (by decide +kernel) (by decide +kernel) (by decide) (HA_o (QA_k7 h0)) rfl rfl).trans ?_
    exact sx_ireturn D186_147 (by decide +kernel)
  refine ite_go (c := w a1 = 9) (fun x10 => ?_) (fun x10 => ?_)
  · refine (sx_tsw (pc' := 148) D186_1 ((rfl).trans x10) (by decide) rfl (by decide) (by decide)).trans ?_
    refine (sx_aload_n D186_148 rfl).trans ?_
    refine (sx_gfR (q := (8, 4, 0, 291)) (b := 67) D186_149 (by decide +kernel) (by decide +kernel) (by decide) (QA_o h0) (QA_g4 h0)).trans ?_
    refine (sx_gfI (q := (4, 2, 1, 218)) (j := 2) D186_152 (by decide +kernel) (by decide +kernel) (by decide) (PA_o (QA_k4 h0)) rfl rfl).trans ?_
    exact sx_ireturn D186_155 (by decide +kernel)
  refine ite_go (c := w a1 = 10) (fun x11 => ?_) (fun x11 => ?_)
  · refine (sx_tsw (pc' := 156) D186_1 ((rfl).trans x11) (by decide) rfl (by decide) (by decide)).trans ?_
    refine (sx_aload_n D186_156 rfl).trans ?_
    refine (sx_gfR (q := (8, 1, 0, 288)) (b := 3) D186_157 (by decide +kernel) (by decide +kernel) (by decide) (QA_o h0) (QA_g1 h0)).trans ?_
    refine (sx_gfI (q := (5, 1, 1, 58)) (j := 1) D186_160 (by decide +kernel) (by decide +kernel) (by decide) (RA_o (QA_k1 h0)) rfl rfl).trans ?_
    exact sx_ireturn D186_163 (by decide +kernel)
  refine ite_go (c := w a1 = 11) (fun x12 => ?_) (fun x12 => ?_)
  · refine (sx_tsw (pc' := 164) D186_1 ((rfl).trans x12) (by decide) rfl (by decide) (by decide)).trans ?_
    refine (sx_aload_n D186_164 rfl).trans ?_
    refine (sx_gfR (q := (8, 0, 0, 287)) (b := 1) D186_165 (by decide +kernel) (by decide +kernel) (by decide) (QA_o h0) (QA_g0 h0)).trans ?_
    refine (sx_gfI (q := (7, 1, 1, 43)) (j := 1) D186_168 (by decide +kernel) (by decide +kernel) (by decide) (TA_o (QA_k0 h0)) rfl rfl).trans ?_
    exact sx_ireturn D186_171 (by decide +kernel)
  refine (sx_tsd (pc' := 172) D186_1 (by rw [show w _ = _ from rfl]; omega) (by decide) (by decide)).trans ?_
  refine (sx_bipush D186_172 (by decide)).trans ?_
  exact sx_ireturn D186_174 (by decide +kernel)
theorem E186_79 {d : Nat} {a1 s0 : Int} {S : SS} {I : II}  : ev d 186 79 [(2, 0), (0, a1)] [(0, s0)] S I = some ((0, s0), S, I) := by
  exact sx_ireturn D186_79 (by decide +kernel)
theorem E186_105 {d : Nat} {a1 s0 : Int} {S : SS} {I : II} (h0 : QA S 0) : ev (d + 1) 186 105 [(2, 0), (0, a1)] [(0, s0)] S I = (ev d 24 0 [(2, 5), (0, 10), uU, uU] [] S I).bind (fun q => ev (d + 1) 186 114 [(2, 0), (0, a1)] (psh q.1 [(0, s0)]) q.2.1 q.2.2) := by
  refine (sx_aload_n D186_105 rfl).trans ?_
  refine (sx_gfR (q := (8, 2, 0, 289)) (b := 5) D186_106 (by decide +kernel) (by decide +kernel) (by decide) (QA_o h0) (QA_g2 h0)).trans ?_
  refine (sx_bipush D186_109 (by decide)).trans ?_
  exact sx_virt (c := 3) (ag := [(2, 5), (0, 10)]) (r := [(0, s0)]) (al' := [(2, 5), (0, 10), uU, uU]) (np := 1) (nl := 4) (q := (1, 24, 1039)) D186_111 (by decide +kernel) (by decide) mP_24 mL_24 mC_24 (Nat.le_of_ble_eq_true rfl) rfl rfl (by simp [cat]) (by decide) (DA_o (QA_k2 h0)) rfl rfl
theorem E186_114 {d : Nat} {a1 s0 s1 : Int} {S : SS} {I : II}  : ev d 186 114 [(2, 0), (0, a1)] [(0, s1), (0, s0)] S I = some ((0, s0 - s1), S, I) := by
  refine (sx_isub D186_114).trans ?_
  exact sx_ireturn D186_115 (by decide +kernel)
theorem E186_139 {d : Nat} {a1 s0 : Int} {S : SS} {I : II}  : ev d 186 139 [(2, 0), (0, a1)] [(0, s0)] S I = some ((0, s0), S, I) := by
  exact sx_ireturn D186_139 (by decide +kernel)
theorem E187_0 {d : Nat} {a1 a2 : Int} {S : SS} {I : II} (h0 : QA S 0) : ev (d + 1) 187 0 [(2, 0), (0, a1), (0, a2), uU] [] S I = (ev d 21 0 [(2, 5), (0, a1)] [] S I).bind (fun q => ev (d + 1) 187 8 [(2, 0), (0, a1), (0, a2), uU] (psh q.1 []) q.2.1 q.2.2) := by
  refine (sx_aload_n D187_0 rfl).trans ?_
  refine (sx_gfR (q := (8, 2, 0, 289)) (b := 5) D187_1 (by decide +kernel) (by decide +kernel) (by decide) (QA_o h0) (QA_g2 h0)).trans ?_
  refine (sx_iload_n D187_4 rfl).trans ?_
  exact sx_virt (c := 3) (ag := [(2, 5), (0, a1)]) (r := []) (al' := [(2, 5), (0, a1)]) (np := 1) (nl := 2) (q := (1, 21, 923)) D187_5 (by decide +kernel) (by decide) mP_21 mL_21 mC_21 (Nat.le_of_ble_eq_true rfl) rfl rfl (by simp [cat]) (by decide) (DA_o (QA_k2 h0)) rfl rfl
theorem E187_8 {d : Nat} {a1 a2 s0 : Int} {S : SS} {I : II} (h0 : s0 = -1 ∨ LA S s0) : ev (d + 1) 187 8 [(2, 0), (0, a1), (0, a2), uU] [(2, s0)] S I = if s0 = -1 then (ev (d + 1) 187 23 [(2, 0), (0, a1), (0, a2), (2, s0)] [] S I) else (if w a2 < 0 then (ev (d + 1) 187 23 [(2, 0), (0, a1), (0, a2), (2, s0)] [] S I) else (if w a2 < 13 then ((ev d 81 0 [(2, s0), (0, a2)] [] S I).bind (fun q => ev (d + 1) 187 38 [(2, 0), (0, a1), (0, a2), (2, s0)] (psh q.1 []) q.2.1 q.2.2)) else (ev (d + 1) 187 23 [(2, 0), (0, a1), (0, a2), (2, s0)] [] S I))) := by
  refine (sx_astore_n (al' := [(2, 0), (0, a1), (0, a2), (2, s0)]) D187_8 (Nat.le_of_ble_eq_true rfl) rfl rfl).trans ?_
  refine (sx_aload_n D187_9 rfl).trans ?_
  refine sx_ifnull (pc' := 23) D187_10 (by decide) (by decide) (null_ok (h0.imp id (fun h => (LA_o h).1))) (fun _ => ?_) (fun n1 => ?_)
  · exact rfl
  · refine (sx_iload_n D187_13 rfl).trans ?_
    refine sx_i0_lt (pc' := 23) D187_14 (by decide) (by decide) ?_ ?_ rfl
    · exact rfl
    · refine (sx_iload_n D187_17 rfl).trans ?_
      refine (sx_bipush D187_18 (by decide)).trans ?_
      refine sx_if_lt (pc' := 33) D187_20 (by decide) (by decide) ?_ ?_ rfl (w_small (by decide) (by decide))
      · refine (sx_aload_n D187_33 rfl).trans ?_
        refine (sx_iload_n D187_34 rfl).trans ?_
        exact sx_virt (c := 5) (ag := [(2, s0), (0, a2)]) (r := []) (al' := [(2, s0), (0, a2)]) (np := 1) (nl := 2) (q := (1, 81, 1274)) D187_35 (by decide +kernel) (by decide) mP_81 mL_81 mC_81 (Nat.le_of_ble_eq_true rfl) rfl rfl (by simp [cat]) (by decide) (LA_o (h0.resolve_left n1)) rfl rfl
      · exact rfl
theorem E187_23 {d : Nat} {a1 a2 a3 : Int} {S : SS} {I : II}  : ev d 187 23 [(2, 0), (0, a1), (0, a2), (2, a3)] [] S I = none := by
  exact sx_noclass D187_23 (by decide +kernel)
theorem E187_26 {d : Nat} {a1 a2 a3 s0 : Int} {S : SS} {I : II}  : ev d 187 26 [(2, 0), (0, a1), (0, a2), (2, a3)] [(2, s0)] S I = none := by
  refine (sx_dup D187_26 (by decide)).trans ?_
  refine (sx_ldcS (q := (5, 1248)) D187_27 (by decide +kernel) (by decide +kernel)).trans ?_
  show ev d 187 29 [(2, 0), (0, a1), (0, a2), (2, a3)] [(2, (-15)), (2, s0), (2, s0)] S I = _
  exact sx_nolink2 D187_29 (by decide +kernel)
theorem E187_38 {d : Nat} {a1 a2 a3 s0 : Int} {S : SS} {I : II}  : ev d 187 38 [(2, 0), (0, a1), (0, a2), (2, a3)] [(0, s0)] S I = some ((0, s0), S, I) := by
  exact sx_ireturn D187_38 (by decide +kernel)
theorem E188_0 {d : Nat} {a1 : Int} {S : SS} {I : II} (h0 : QA S 0) : ev (d + 1) 188 0 [(2, 0), (0, a1)] [] S I = if w a1 < 0 then (ev (d + 1) 188 15 [(2, 0), (0, a1)] [] S I) else (if w a1 < w (I 3 1) then ((ev d 114 0 [(2, 3), (0, a1)] [] S I).bind (fun q => ev (d + 1) 188 34 [(2, 0), (0, a1)] (psh q.1 []) q.2.1 q.2.2)) else (ev (d + 1) 188 15 [(2, 0), (0, a1)] [] S I)) := by
  refine (sx_iload_n D188_0 rfl).trans ?_
  refine sx_i0_lt (pc' := 15) D188_1 (by decide) (by decide) ?_ ?_ rfl
  · exact rfl
  · refine (sx_iload_n D188_4 rfl).trans ?_
    refine (sx_aload_n D188_5 rfl).trans ?_
    refine (sx_gfR (q := (8, 1, 0, 288)) (b := 3) D188_6 (by decide +kernel) (by decide +kernel) (by decide) (QA_o h0) (QA_g1 h0)).trans ?_
    refine (sx_gfI (q := (5, 1, 1, 58)) (j := 1) D188_9 (by decide +kernel) (by decide +kernel) (by decide) (RA_o (QA_k1 h0)) rfl rfl).trans ?_
    refine sx_if_lt (pc' := 26) D188_12 (by decide) (by decide) ?_ ?_ rfl rfl
    · refine (sx_aload_n D188_26 rfl).trans ?_
      refine (sx_gfR (q := (8, 1, 0, 288)) (b := 3) D188_27 (by decide +kernel) (by decide +kernel) (by decide) (QA_o h0) (QA_g1 h0)).trans ?_
      refine (sx_iload_n D188_30 rfl).trans ?_
      exact sx_virt (c := 7) (ag := [(2, 3), (0, a1)]) (r := []) (al' := [(2, 3), (0, a1)]) (np := 1) (nl := 2) (q := (1, 114, 1283)) D188_31 (by decide +kernel) (by decide) mP_114 mL_114 mC_114 (Nat.le_of_ble_eq_true rfl) rfl rfl (by simp [cat]) (by decide) (RA_o (QA_k1 h0)) rfl rfl
    · exact rfl
theorem E188_15 {d : Nat} {a1 : Int} {S : SS} {I : II}  : ev d 188 15 [(2, 0), (0, a1)] [] S I = none := by
  exact sx_noclass D188_15 (by decide +kernel)
theorem E188_18 {d : Nat} {a1 s0 : Int} {S : SS} {I : II}  : ev d 188 18 [(2, 0), (0, a1)] [(2, s0)] S I = none := by
  refine (sx_dup D188_18 (by decide)).trans ?_
  refine (sx_ldc_wS (q := (6, 1282)) D188_19 (by decide +kernel) (by decide +kernel)).trans ?_
  show ev d 188 22 [(2, 0), (0, a1)] [(2, (-16)), (2, s0), (2, s0)] S I = _
  exact sx_nolink2 D188_22 (by decide +kernel)
theorem E188_34 {d : Nat} {a1 s0 : Int} {S : SS} {I : II}  : ev d 188 34 [(2, 0), (0, a1)] [(1, s0)] S I = some ((1, s0), S, I) := by
  exact sx_lreturn D188_34 (by decide +kernel)
