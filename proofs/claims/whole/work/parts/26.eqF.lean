/-! equations, by places where ways meet: methods 311 to 324 (written by wip/whole/genE.py) -/
theorem D311_0 : decode (mB 311) 0 = .ok (.iload_n 0, 1) := by decide +kernel
theorem D311_1 : decode (mB 311) 1 = .ok (.iload_n 0, 1) := by decide +kernel
theorem D311_2 : decode (mB 311) 2 = .ok (.iconst 1, 1) := by decide +kernel
theorem D311_3 : decode (mB 311) 3 = .ok (.iushr, 1) := by decide +kernel
theorem D311_4 : decode (mB 311) 4 = .ok (.ldc_w 265, 3) := by decide +kernel
theorem D311_7 : decode (mB 311) 7 = .ok (.iand, 1) := by decide +kernel
theorem D311_8 : decode (mB 311) 8 = .ok (.isub, 1) := by decide +kernel
theorem D311_9 : decode (mB 311) 9 = .ok (.istore_n 0, 1) := by decide +kernel
theorem D311_10 : decode (mB 311) 10 = .ok (.iload_n 0, 1) := by decide +kernel
theorem D311_11 : decode (mB 311) 11 = .ok (.ldc_w 266, 3) := by decide +kernel
theorem D311_14 : decode (mB 311) 14 = .ok (.iand, 1) := by decide +kernel
theorem D311_15 : decode (mB 311) 15 = .ok (.iload_n 0, 1) := by decide +kernel
theorem D311_16 : decode (mB 311) 16 = .ok (.iconst 2, 1) := by decide +kernel
theorem D311_17 : decode (mB 311) 17 = .ok (.iushr, 1) := by decide +kernel
theorem D311_18 : decode (mB 311) 18 = .ok (.ldc_w 266, 3) := by decide +kernel
theorem D311_21 : decode (mB 311) 21 = .ok (.iand, 1) := by decide +kernel
theorem D311_22 : decode (mB 311) 22 = .ok (.iadd, 1) := by decide +kernel
theorem D311_23 : decode (mB 311) 23 = .ok (.istore_n 0, 1) := by decide +kernel
theorem D311_24 : decode (mB 311) 24 = .ok (.iload_n 0, 1) := by decide +kernel
theorem D311_25 : decode (mB 311) 25 = .ok (.iload_n 0, 1) := by decide +kernel
theorem D311_26 : decode (mB 311) 26 = .ok (.iconst 4, 1) := by decide +kernel
theorem D311_27 : decode (mB 311) 27 = .ok (.iushr, 1) := by decide +kernel
theorem D311_28 : decode (mB 311) 28 = .ok (.iadd, 1) := by decide +kernel
theorem D311_29 : decode (mB 311) 29 = .ok (.ldc_w 267, 3) := by decide +kernel
theorem D311_32 : decode (mB 311) 32 = .ok (.iand, 1) := by decide +kernel
theorem D311_33 : decode (mB 311) 33 = .ok (.istore_n 0, 1) := by decide +kernel
theorem D311_34 : decode (mB 311) 34 = .ok (.iload_n 0, 1) := by decide +kernel
theorem D311_35 : decode (mB 311) 35 = .ok (.iload_n 0, 1) := by decide +kernel
theorem D311_36 : decode (mB 311) 36 = .ok (.bipush 8, 2) := by decide +kernel
theorem D311_38 : decode (mB 311) 38 = .ok (.iushr, 1) := by decide +kernel
theorem D311_39 : decode (mB 311) 39 = .ok (.iadd, 1) := by decide +kernel
theorem D311_40 : decode (mB 311) 40 = .ok (.istore_n 0, 1) := by decide +kernel
theorem D311_41 : decode (mB 311) 41 = .ok (.iload_n 0, 1) := by decide +kernel
theorem D311_42 : decode (mB 311) 42 = .ok (.iload_n 0, 1) := by decide +kernel
theorem D311_43 : decode (mB 311) 43 = .ok (.bipush 16, 2) := by decide +kernel
theorem D311_45 : decode (mB 311) 45 = .ok (.iushr, 1) := by decide +kernel
theorem D311_46 : decode (mB 311) 46 = .ok (.iadd, 1) := by decide +kernel
theorem D311_47 : decode (mB 311) 47 = .ok (.istore_n 0, 1) := by decide +kernel
theorem D311_48 : decode (mB 311) 48 = .ok (.iload_n 0, 1) := by decide +kernel
theorem D311_49 : decode (mB 311) 49 = .ok (.bipush 63, 2) := by decide +kernel
theorem D311_51 : decode (mB 311) 51 = .ok (.iand, 1) := by decide +kernel
theorem D311_52 : decode (mB 311) 52 = .ok (.ireturn, 1) := by decide +kernel
theorem D312_0 : decode (mB 312) 0 = .ok (.aload_n 0, 1) := by decide +kernel
theorem D312_1 : decode (mB 312) 1 = .ok (.iload_n 1, 1) := by decide +kernel
theorem D312_2 : decode (mB 312) 2 = .ok (.iconst 0, 1) := by decide +kernel
theorem D312_3 : decode (mB 312) 3 = .ok (.invokevirtual 633, 3) := by decide +kernel
theorem D312_6 : decode (mB 312) 6 = .ok (.ireturn, 1) := by decide +kernel
theorem D313_0 : decode (mB 313) 0 = .ok (.aload_n 0, 1) := by decide +kernel
theorem D313_1 : decode (mB 313) 1 = .ok (.invokevirtual 492, 3) := by decide +kernel
theorem D313_4 : decode (mB 313) 4 = .ok (.ifCond .eq 19, 3) := by decide +kernel
theorem D313_7 : decode (mB 313) 7 = .ok (.aload_n 0, 1) := by decide +kernel
theorem D313_8 : decode (mB 313) 8 = .ok (.getfield 9, 3) := by decide +kernel
theorem D313_11 : decode (mB 313) 11 = .ok (.iload_n 1, 1) := by decide +kernel
theorem D313_12 : decode (mB 313) 12 = .ok (.iload_n 2, 1) := by decide +kernel
theorem D313_13 : decode (mB 313) 13 = .ok (.aload_n 0, 1) := by decide +kernel
theorem D313_14 : decode (mB 313) 14 = .ok (.invokevirtual 505, 3) := by decide +kernel
theorem D313_17 : decode (mB 313) 17 = .ok (.invokestatic 637, 3) := by decide +kernel
theorem D313_20 : decode (mB 313) 20 = .ok (.goto 16, 3) := by decide +kernel
theorem D313_23 : decode (mB 313) 23 = .ok (.aload_n 0, 1) := by decide +kernel
theorem D313_24 : decode (mB 313) 24 = .ok (.getfield 9, 3) := by decide +kernel
theorem D313_27 : decode (mB 313) 27 = .ok (.iload_n 1, 1) := by decide +kernel
theorem D313_28 : decode (mB 313) 28 = .ok (.iload_n 2, 1) := by decide +kernel
theorem D313_29 : decode (mB 313) 29 = .ok (.aload_n 0, 1) := by decide +kernel
theorem D313_30 : decode (mB 313) 30 = .ok (.invokevirtual 505, 3) := by decide +kernel
theorem D313_33 : decode (mB 313) 33 = .ok (.invokestatic 640, 3) := by decide +kernel
theorem D313_36 : decode (mB 313) 36 = .ok (.ireturn, 1) := by decide +kernel
theorem D314_0 : decode (mB 314) 0 = .ok (.getstatic 38, 3) := by decide +kernel
theorem D314_3 : decode (mB 314) 3 = .ok (.ifCond .eq 14, 3) := by decide +kernel
theorem D314_6 : decode (mB 314) 6 = .ok (.aload_n 0, 1) := by decide +kernel
theorem D314_7 : decode (mB 314) 7 = .ok (.getfield 15, 3) := by decide +kernel
theorem D314_10 : decode (mB 314) 10 = .ok (.ifCond .ne 7, 3) := by decide +kernel
theorem D314_13 : decode (mB 314) 13 = .ok (.iconst 1, 1) := by decide +kernel
theorem D314_14 : decode (mB 314) 14 = .ok (.goto 4, 3) := by decide +kernel
theorem D314_17 : decode (mB 314) 17 = .ok (.iconst 0, 1) := by decide +kernel
theorem D314_18 : decode (mB 314) 18 = .ok (.ireturn, 1) := by decide +kernel
theorem D315_0 : decode (mB 315) 0 = .ok (.aload_n 0, 1) := by decide +kernel
theorem D315_1 : decode (mB 315) 1 = .ok (.getfield 9, 3) := by decide +kernel
theorem D315_4 : decode (mB 315) 4 = .ok (.arraylength, 1) := by decide +kernel
theorem D315_5 : decode (mB 315) 5 = .ok (.aload_n 0, 1) := by decide +kernel
theorem D315_6 : decode (mB 315) 6 = .ok (.invokevirtual 335, 3) := by decide +kernel
theorem D315_9 : decode (mB 315) 9 = .ok (.ishr, 1) := by decide +kernel
theorem D315_10 : decode (mB 315) 10 = .ok (.ireturn, 1) := by decide +kernel
theorem D316_0 : decode (mB 316) 0 = .ok (.getstatic 38, 3) := by decide +kernel
theorem D316_3 : decode (mB 316) 3 = .ok (.ifCond .eq 10, 3) := by decide +kernel
theorem D316_6 : decode (mB 316) 6 = .ok (.aload_n 0, 1) := by decide +kernel
theorem D316_7 : decode (mB 316) 7 = .ok (.getfield 15, 3) := by decide +kernel
theorem D316_10 : decode (mB 316) 10 = .ok (.goto 4, 3) := by decide +kernel
theorem D316_13 : decode (mB 316) 13 = .ok (.iconst 1, 1) := by decide +kernel
theorem D316_14 : decode (mB 316) 14 = .ok (.ireturn, 1) := by decide +kernel
theorem D317_0 : decode (mB 317) 0 = .ok (.aload_n 0, 1) := by decide +kernel
theorem D317_1 : decode (mB 317) 1 = .ok (.invokevirtual 492, 3) := by decide +kernel
theorem D317_4 : decode (mB 317) 4 = .ok (.ifCond .eq 12, 3) := by decide +kernel
theorem D317_7 : decode (mB 317) 7 = .ok (.aload_n 0, 1) := by decide +kernel
theorem D317_8 : decode (mB 317) 8 = .ok (.getfield 9, 3) := by decide +kernel
theorem D317_11 : decode (mB 317) 11 = .ok (.iload_n 1, 1) := by decide +kernel
theorem D317_12 : decode (mB 317) 12 = .ok (.invokestatic 495, 3) := by decide +kernel
theorem D317_15 : decode (mB 317) 15 = .ok (.ireturn, 1) := by decide +kernel
theorem D317_16 : decode (mB 317) 16 = .ok (.aload_n 0, 1) := by decide +kernel
theorem D317_17 : decode (mB 317) 17 = .ok (.getfield 9, 3) := by decide +kernel
theorem D317_20 : decode (mB 317) 20 = .ok (.iload_n 1, 1) := by decide +kernel
theorem D317_21 : decode (mB 317) 21 = .ok (.invokestatic 498, 3) := by decide +kernel
theorem D318_0 : decode (mB 318) 0 = .ok (.iload_n 0, 1) := by decide +kernel
theorem D318_1 : decode (mB 318) 1 = .ok (.iload_n 1, 1) := by decide +kernel
theorem D318_2 : decode (mB 318) 2 = .ok (.getstatic 1053, 3) := by decide +kernel
theorem D318_5 : decode (mB 318) 5 = .ok (.invokestatic 1059, 3) := by decide +kernel
theorem D318_8 : decode (mB 318) 8 = .ok (.pop, 1) := by decide +kernel
theorem D318_9 : decode (mB 318) 9 = .ok (.return_, 1) := by decide +kernel
theorem D319_0 : decode (mB 319) 0 = .ok (.iload_n 1, 1) := by decide +kernel
theorem D319_1 : decode (mB 319) 1 = .ok (.invokestatic 88, 3) := by decide +kernel
theorem D319_4 : decode (mB 319) 4 = .ok (.ifCond .ne 5, 3) := by decide +kernel
theorem D319_7 : decode (mB 319) 7 = .ok (.iconst (-1), 1) := by decide +kernel
theorem D319_8 : decode (mB 319) 8 = .ok (.ireturn, 1) := by decide +kernel
theorem D319_9 : decode (mB 319) 9 = .ok (.iload_n 2, 1) := by decide +kernel
theorem D319_10 : decode (mB 319) 10 = .ok (.iconst 0, 1) := by decide +kernel
theorem D319_11 : decode (mB 319) 11 = .ok (.invokestatic 92, 3) := by decide +kernel
theorem D319_14 : decode (mB 319) 14 = .ok (.istore_n 2, 1) := by decide +kernel
theorem D319_15 : decode (mB 319) 15 = .ok (.iload_n 3, 1) := by decide +kernel
theorem D319_16 : decode (mB 319) 16 = .ok (.aload_n 0, 1) := by decide +kernel
theorem D319_17 : decode (mB 319) 17 = .ok (.arraylength, 1) := by decide +kernel
theorem D319_18 : decode (mB 319) 18 = .ok (.invokestatic 38, 3) := by decide +kernel
theorem D319_21 : decode (mB 319) 21 = .ok (.istore_n 3, 1) := by decide +kernel
theorem D319_22 : decode (mB 319) 22 = .ok (.iload_n 2, 1) := by decide +kernel
theorem D319_23 : decode (mB 319) 23 = .ok (.iload_n 3, 1) := by decide +kernel
theorem D319_24 : decode (mB 319) 24 = .ok (.if_icmp .lt 5, 3) := by decide +kernel
theorem D319_27 : decode (mB 319) 27 = .ok (.iconst (-1), 1) := by decide +kernel
theorem D319_28 : decode (mB 319) 28 = .ok (.ireturn, 1) := by decide +kernel
theorem D319_29 : decode (mB 319) 29 = .ok (.aload_n 0, 1) := by decide +kernel
theorem D319_30 : decode (mB 319) 30 = .ok (.iload_n 1, 1) := by decide +kernel
theorem D319_31 : decode (mB 319) 31 = .ok (.iload_n 2, 1) := by decide +kernel
theorem D319_32 : decode (mB 319) 32 = .ok (.iload_n 3, 1) := by decide +kernel
theorem D319_33 : decode (mB 319) 33 = .ok (.invokestatic 95, 3) := by decide +kernel
theorem D319_36 : decode (mB 319) 36 = .ok (.ireturn, 1) := by decide +kernel
theorem D320_0 : decode (mB 320) 0 = .ok (.iload_n 0, 1) := by decide +kernel
theorem D320_1 : decode (mB 320) 1 = .ok (.ifCond .lt 14, 3) := by decide +kernel
theorem D320_4 : decode (mB 320) 4 = .ok (.iload_n 0, 1) := by decide +kernel
theorem D320_5 : decode (mB 320) 5 = .ok (.sipush 255, 3) := by decide +kernel
theorem D320_8 : decode (mB 320) 8 = .ok (.if_icmp .gt 7, 3) := by decide +kernel
theorem D320_11 : decode (mB 320) 11 = .ok (.iconst 1, 1) := by decide +kernel
theorem D320_12 : decode (mB 320) 12 = .ok (.goto 4, 3) := by decide +kernel
theorem D320_15 : decode (mB 320) 15 = .ok (.iconst 0, 1) := by decide +kernel
theorem D320_16 : decode (mB 320) 16 = .ok (.ireturn, 1) := by decide +kernel
theorem D321_0 : decode (mB 321) 0 = .ok (.iload_n 1, 1) := by decide +kernel
theorem D321_1 : decode (mB 321) 1 = .ok (.i2b, 1) := by decide +kernel
theorem D321_2 : decode (mB 321) 2 = .ok (.istore 4, 2) := by decide +kernel
theorem D321_4 : decode (mB 321) 4 = .ok (.iload_n 2, 1) := by decide +kernel
theorem D321_5 : decode (mB 321) 5 = .ok (.istore 5, 2) := by decide +kernel
theorem D321_7 : decode (mB 321) 7 = .ok (.iload 5, 2) := by decide +kernel
theorem D321_9 : decode (mB 321) 9 = .ok (.iload_n 3, 1) := by decide +kernel
theorem D321_10 : decode (mB 321) 10 = .ok (.if_icmp .ge 21, 3) := by decide +kernel
theorem D321_13 : decode (mB 321) 13 = .ok (.aload_n 0, 1) := by decide +kernel
theorem D321_14 : decode (mB 321) 14 = .ok (.iload 5, 2) := by decide +kernel
theorem D321_16 : decode (mB 321) 16 = .ok (.baload, 1) := by decide +kernel
theorem D321_17 : decode (mB 321) 17 = .ok (.iload 4, 2) := by decide +kernel
theorem D321_19 : decode (mB 321) 19 = .ok (.if_icmp .ne 6, 3) := by decide +kernel
theorem D321_22 : decode (mB 321) 22 = .ok (.iload 5, 2) := by decide +kernel
theorem D321_24 : decode (mB 321) 24 = .ok (.ireturn, 1) := by decide +kernel
theorem D321_25 : decode (mB 321) 25 = .ok (.iinc 5 1, 3) := by decide +kernel
theorem D321_28 : decode (mB 321) 28 = .ok (.goto (-21), 3) := by decide +kernel
theorem D321_31 : decode (mB 321) 31 = .ok (.iconst (-1), 1) := by decide +kernel
theorem D321_32 : decode (mB 321) 32 = .ok (.ireturn, 1) := by decide +kernel
theorem D322_0 : decode (mB 322) 0 = .ok (.iload_n 1, 1) := by decide +kernel
theorem D322_1 : decode (mB 322) 1 = .ok (.aload_n 0, 1) := by decide +kernel
theorem D322_2 : decode (mB 322) 2 = .ok (.arraylength, 1) := by decide +kernel
theorem D322_3 : decode (mB 322) 3 = .ok (.invokestatic 9, 3) := by decide +kernel
theorem D322_6 : decode (mB 322) 6 = .ok (.aload_n 0, 1) := by decide +kernel
theorem D322_7 : decode (mB 322) 7 = .ok (.iload_n 1, 1) := by decide +kernel
theorem D322_8 : decode (mB 322) 8 = .ok (.baload, 1) := by decide +kernel
theorem D322_9 : decode (mB 322) 9 = .ok (.sipush 255, 3) := by decide +kernel
theorem D322_12 : decode (mB 322) 12 = .ok (.iand, 1) := by decide +kernel
theorem D322_13 : decode (mB 322) 13 = .ok (.i2c, 1) := by decide +kernel
theorem D322_14 : decode (mB 322) 14 = .ok (.ireturn, 1) := by decide +kernel
theorem D323_0 : decode (mB 323) 0 = .ok (.iconst 0, 1) := by decide +kernel
theorem D323_1 : decode (mB 323) 1 = .ok (.istore_n 2, 1) := by decide +kernel
theorem D323_2 : decode (mB 323) 2 = .ok (.aload_n 0, 1) := by decide +kernel
theorem D323_3 : decode (mB 323) 3 = .ok (.arraylength, 1) := by decide +kernel
theorem D323_4 : decode (mB 323) 4 = .ok (.istore_n 3, 1) := by decide +kernel
theorem D323_5 : decode (mB 323) 5 = .ok (.iload_n 2, 1) := by decide +kernel
theorem D323_6 : decode (mB 323) 6 = .ok (.iload_n 3, 1) := by decide +kernel
theorem D323_7 : decode (mB 323) 7 = .ok (.if_icmp .ge 13, 3) := by decide +kernel
theorem D323_10 : decode (mB 323) 10 = .ok (.aload_n 0, 1) := by decide +kernel
theorem D323_11 : decode (mB 323) 11 = .ok (.iload_n 2, 1) := by decide +kernel
theorem D323_12 : decode (mB 323) 12 = .ok (.iload_n 1, 1) := by decide +kernel
theorem D323_13 : decode (mB 323) 13 = .ok (.iastore, 1) := by decide +kernel
theorem D323_14 : decode (mB 323) 14 = .ok (.iinc 2 1, 3) := by decide +kernel
theorem D323_17 : decode (mB 323) 17 = .ok (.goto (-12), 3) := by decide +kernel
theorem D323_20 : decode (mB 323) 20 = .ok (.return_, 1) := by decide +kernel
theorem D324_0 : decode (mB 324) 0 = .ok (.iload_n 0, 1) := by decide +kernel
theorem D324_1 : decode (mB 324) 1 = .ok (.ifCond .lt 8, 3) := by decide +kernel
theorem D324_4 : decode (mB 324) 4 = .ok (.iload_n 0, 1) := by decide +kernel
theorem D324_5 : decode (mB 324) 5 = .ok (.iload_n 1, 1) := by decide +kernel
theorem D324_6 : decode (mB 324) 6 = .ok (.if_icmp .lt 10, 3) := by decide +kernel
theorem D324_9 : decode (mB 324) 9 = .ok (.aload_n 2, 1) := by decide +kernel
theorem D324_10 : decode (mB 324) 10 = .ok (.iload_n 0, 1) := by decide +kernel
theorem D324_11 : decode (mB 324) 11 = .ok (.iload_n 1, 1) := by decide +kernel
theorem D324_12 : decode (mB 324) 12 = .ok (.invokestatic 95, 3) := by decide +kernel
theorem D324_16 : decode (mB 324) 16 = .ok (.iload_n 0, 1) := by decide +kernel
theorem D324_17 : decode (mB 324) 17 = .ok (.ireturn, 1) := by decide +kernel
theorem E311_0 {d : Nat} {a0 : Int} {S : SS} {I : II}  : ev d 311 0 [(0, a0)] [] S I = some ((0, iAnd (((iAnd (((iAnd (a0 - (iAnd (iUshr a0 1) 1431655765)) 858993459) + (iAnd (iUshr (a0 - (iAnd (iUshr a0 1) 1431655765)) 2) 858993459)) + (iUshr ((iAnd (a0 - (iAnd (iUshr a0 1) 1431655765)) 858993459) + (iAnd (iUshr (a0 - (iAnd (iUshr a0 1) 1431655765)) 2) 858993459)) 4)) 252645135) + (iUshr (iAnd (((iAnd (a0 - (iAnd (iUshr a0 1) 1431655765)) 858993459) + (iAnd (iUshr (a0 - (iAnd (iUshr a0 1) 1431655765)) 2) 858993459)) + (iUshr ((iAnd (a0 - (iAnd (iUshr a0 1) 1431655765)) 858993459) + (iAnd (iUshr (a0 - (iAnd (iUshr a0 1) 1431655765)) 2) 858993459)) 4)) 252645135) 8)) + (iUshr ((iAnd (((iAnd (a0 - (iAnd (iUshr a0 1) 1431655765)) 858993459) + (iAnd (iUshr (a0 - (iAnd (iUshr a0 1) 1431655765)) 2) 858993459)) + (iUshr ((iAnd (a0 - (iAnd (iUshr a0 1) 1431655765)) 858993459) + (iAnd (iUshr (a0 - (iAnd (iUshr a0 1) 1431655765)) 2) 858993459)) 4)) 252645135) + (iUshr (iAnd (((iAnd (a0 - (iAnd (iUshr a0 1) 1431655765)) 858993459) + (iAnd (iUshr (a0 - (iAnd (iUshr a0 1) 1431655765)) 2) 858993459)) + (iUshr ((iAnd (a0 - (iAnd (iUshr a0 1) 1431655765)) 858993459) + (iAnd (iUshr (a0 - (iAnd (iUshr a0 1) 1431655765)) 2) 858993459)) 4)) 252645135) 8)) 16)) 63), S, I) := by
  refine (sx_iload_n D311_0 rfl).trans ?_
  refine (sx_iload_n D311_1 rfl).trans ?_
  refine (sx_iconst D311_2).trans ?_
  refine (sx_iushr D311_3).trans ?_
  refine (sx_ldc_w (q := (1431655765, 838)) D311_4 (by decide +kernel)).trans ?_
  refine (sx_iand D311_7).trans ?_
  refine (sx_isub D311_8).trans ?_
  refine (sx_istore_n (al' := [(0, a0 - (iAnd (iUshr a0 1) 1431655765))]) D311_9 (Nat.le_of_ble_eq_true rfl) rfl rfl).trans ?_
  refine (sx_iload_n D311_10 rfl).trans ?_
  refine (sx_ldc_w (q := (858993459, 839)) D311_11 (by decide +kernel)).trans ?_
  refine (sx_iand D311_14).trans ?_
  refine (sx_iload_n D311_15 rfl).trans ?_
  refine (sx_iconst D311_16).trans ?_
  refine (sx_iushr D311_17).trans ?_
  refine (sx_ldc_w (q := (858993459, 839)) D311_18 (by decide +kernel)).trans ?_
  refine (sx_iand D311_21).trans ?_
  refine (sx_iadd D311_22).trans ?_
  refine (sx_istore_n (al' := [(0, (iAnd (a0 - (iAnd (iUshr a0 1) 1431655765)) 858993459) + (iAnd (iUshr (a0 - (iAnd (iUshr a0 1) 1431655765)) 2) 858993459))]) D311_23 (Nat.le_of_ble_eq_true rfl) rfl rfl).trans ?_
  refine (sx_iload_n D311_24 rfl).trans ?_
  refine (sx_iload_n D311_25 rfl).trans ?_
  refine (sx_iconst D311_26).trans ?_
  refine (sx_iushr D311_27).trans ?_
  refine (sx_iadd D311_28).trans ?_
  refine (sx_ldc_w (q := (252645135, 840)) D311_29 (by decide +kernel)).trans ?_
  refine (sx_iand D311_32).trans ?_
  refine (sx_istore_n (al' := [(0, iAnd (((iAnd (a0 - (iAnd (iUshr a0 1) 1431655765)) 858993459) + (iAnd (iUshr (a0 - (iAnd (iUshr a0 1) 1431655765)) 2) 858993459)) + (iUshr ((iAnd (a0 - (iAnd (iUshr a0 1) 1431655765)) 858993459) + (iAnd (iUshr (a0 - (iAnd (iUshr a0 1) 1431655765)) 2) 858993459)) 4)) 252645135)]) D311_33 (Nat.le_of_ble_eq_true rfl) rfl rfl).trans ?_
  refine (sx_iload_n D311_34 rfl).trans ?_
  refine (sx_iload_n D311_35 rfl).trans ?_
  refine (sx_bipush D311_36 (by decide)).trans ?_
  refine (sx_iushr D311_38).trans ?_
  refine (sx_iadd D311_39).trans ?_
  refine (sx_istore_n (al' := [(0, (iAnd (((iAnd (a0 - (iAnd (iUshr a0 1) 1431655765)) 858993459) + (iAnd (iUshr (a0 - (iAnd (iUshr a0 1) 1431655765)) 2) 858993459)) + (iUshr ((iAnd (a0 - (iAnd (iUshr a0 1) 1431655765)) 858993459) + (iAnd (iUshr (a0 - (iAnd (iUshr a0 1) 1431655765)) 2) 858993459)) 4)) 252645135) + (iUshr (iAnd (((iAnd (a0 - (iAnd (iUshr a0 1) 1431655765)) 858993459) + (iAnd (iUshr (a0 - (iAnd (iUshr a0 1) 1431655765)) 2) 858993459)) + (iUshr ((iAnd (a0 - (iAnd (iUshr a0 1) 1431655765)) 858993459) + (iAnd (iUshr (a0 - (iAnd (iUshr a0 1) 1431655765)) 2) 858993459)) 4)) 252645135) 8))]) D311_40 (Nat.le_of_ble_eq_true rfl) rfl rfl).trans ?_
  refine (sx_iload_n D311_41 rfl).trans ?_
  refine (sx_iload_n D311_42 rfl).trans ?_
  refine (sx_bipush D311_43 (by decide)).trans ?_
  refine (sx_iushr D311_45).trans ?_
  refine (sx_iadd D311_46).trans ?_
  refine (sx_istore_n (al' := [(0, ((iAnd (((iAnd (a0 - (iAnd (iUshr a0 1) 1431655765)) 858993459) + (iAnd (iUshr (a0 - (iAnd (iUshr a0 1) 1431655765)) 2) 858993459)) + (iUshr ((iAnd (a0 - (iAnd (iUshr a0 1) 1431655765)) 858993459) + (iAnd (iUshr (a0 - (iAnd (iUshr a0 1) 1431655765)) 2) 858993459)) 4)) 252645135) + (iUshr (iAnd (((iAnd (a0 - (iAnd (iUshr a0 1) 1431655765)) 858993459) + (iAnd (iUshr (a0 - (iAnd (iUshr a0 1) 1431655765)) 2) 858993459)) + (iUshr ((iAnd (a0 - (iAnd (iUshr a0 1) 1431655765)) 858993459) + (iAnd (iUshr (a0 - (iAnd (iUshr a0 1) 1431655765)) 2) 858993459)) 4)) 252645135) 8)) + (iUshr ((iAnd (((iAnd (a0 - (iAnd (iUshr a0 1) 1431655765)) 858993459) + (iAnd (iUshr (a0 - (iAnd (iUshr a0 1) 1431655765)) 2) 858993459)) + (iUshr ((iAnd (a0 - (iAnd (iUshr a0 1) 1431655765)) 858993459) + (iAnd (iUshr (a0 - (iAnd (iUshr a0 1) 1431655765)) 2) 858993459)) 4)) 252645135) + (iUshr (iAnd (((iAnd (a0 - (iAnd (iUshr a0 1) 1431655765)) 858993459) + (iAnd (iUshr (a0 - (iAnd (iUshr a0 1) 1431655765)) 2) 858993459)) + (iUshr ((iAnd (a0 - (iAnd (iUshr a0 1) 1431655765)) 858993459) + (iAnd (iUshr (a0 - (iAnd (iUshr a0 1) 1431655765)) 2) 858993459)) 4)) 252645135) 8)) 16))]) D311_47 (Nat.le_of_ble_eq_true rfl) rfl rfl).trans ?_
  refine (sx_iload_n D311_48 rfl).trans ?_
  refine (sx_bipush D311_49 (by decide)).trans ?_
  refine (sx_iand D311_51).trans ?_
  exact sx_ireturn D311_52 (by decide +kernel)
theorem E312_0 {d : Nat} {a0 a1 : Int} {S : SS} {I : II} (h0 : isT (-10 - a0)) : ev (d + 1) 312 0 [(2, a0), (0, a1)] [] S I = (ev d 313 0 [(2, a0), (0, a1), (0, 0)] [] S I).bind (fun q => ev (d + 1) 312 6 [(2, a0), (0, a1)] (psh q.1 []) q.2.1 q.2.2) := by
  refine (sx_aload_n D312_0 rfl).trans ?_
  refine (sx_iload_n D312_1 rfl).trans ?_
  refine (sx_iconst D312_2).trans ?_
  exact sx_virtS (ag := [(2, a0), (0, a1), (0, 0)]) (r := []) (al' := [(2, a0), (0, a1), (0, 0)]) (np := 2) (nl := 3) (q := (1, 313, 401)) D312_3 (by decide +kernel) (by decide) mP_313 mL_313 mC_313 (Nat.le_of_ble_eq_true rfl) rfl rfl (by simp [cat]) h0 rfl rfl
theorem E312_6 {d : Nat} {a0 a1 s0 : Int} {S : SS} {I : II}  : ev d 312 6 [(2, a0), (0, a1)] [(0, s0)] S I = some ((0, s0), S, I) := by
  exact sx_ireturn D312_6 (by decide +kernel)
theorem E313_0 {d : Nat} {a0 a1 a2 : Int} {S : SS} {I : II} (h0 : isT (-10 - a0)) : ev (d + 1) 313 0 [(2, a0), (0, a1), (0, a2)] [] S I = (ev d 314 0 [(2, a0)] [] S I).bind (fun q => ev (d + 1) 313 4 [(2, a0), (0, a1), (0, a2)] (psh q.1 []) q.2.1 q.2.2) := by
  refine (sx_aload_n D313_0 rfl).trans ?_
  exact sx_virtS (ag := [(2, a0)]) (r := []) (al' := [(2, a0)]) (np := 0) (nl := 1) (q := (1, 314, 405)) D313_1 (by decide +kernel) (by decide) mP_314 mL_314 mC_314 (Nat.le_of_ble_eq_true rfl) rfl rfl (by simp [cat]) h0 rfl rfl
theorem E313_4 {d : Nat} {a0 a1 a2 s0 : Int} {S : SS} {I : II} (h0 : isT (-10 - a0)) : ev (d + 1) 313 4 [(2, a0), (0, a1), (0, a2)] [(0, s0)] S I = if w s0 = 0 then ((ev d 315 0 [(2, a0)] [] S I).bind (fun q => ev (d + 1) 313 33 [(2, a0), (0, a1), (0, a2)] (psh q.1 [(0, a2), (0, a1), (2, -90 + a0)]) q.2.1 q.2.2)) else ((ev d 315 0 [(2, a0)] [] S I).bind (fun q => ev (d + 1) 313 17 [(2, a0), (0, a1), (0, a2)] (psh q.1 [(0, a2), (0, a1), (2, -90 + a0)]) q.2.1 q.2.2)) := by
  refine sx_i0_eq (pc' := 23) D313_4 (by decide) (by decide) ?_ ?_ rfl
  · refine (sx_aload_n D313_23 rfl).trans ?_
    refine (sx_gfS9 D313_24 (by decide +kernel) h0).trans ?_
    refine (sx_iload_n D313_27 rfl).trans ?_
    refine (sx_iload_n D313_28 rfl).trans ?_
    refine (sx_aload_n D313_29 rfl).trans ?_
    exact sx_virtS (ag := [(2, a0)]) (r := [(0, a2), (0, a1), (2, -90 + a0)]) (al' := [(2, a0)]) (np := 0) (nl := 1) (q := (1, 315, 411)) D313_30 (by decide +kernel) (by decide) mP_315 mL_315 mC_315 (Nat.le_of_ble_eq_true rfl) rfl rfl (by simp [cat]) h0 rfl rfl
  · refine (sx_aload_n D313_7 rfl).trans ?_
    refine (sx_gfS9 D313_8 (by decide +kernel) h0).trans ?_
    refine (sx_iload_n D313_11 rfl).trans ?_
    refine (sx_iload_n D313_12 rfl).trans ?_
    refine (sx_aload_n D313_13 rfl).trans ?_
    exact sx_virtS (ag := [(2, a0)]) (r := [(0, a2), (0, a1), (2, -90 + a0)]) (al' := [(2, a0)]) (np := 0) (nl := 1) (q := (1, 315, 411)) D313_14 (by decide +kernel) (by decide) mP_315 mL_315 mC_315 (Nat.le_of_ble_eq_true rfl) rfl rfl (by simp [cat]) h0 rfl rfl
theorem E313_17 {d : Nat} {a0 a1 a2 s0 s1 s2 s3 : Int} {S : SS} {I : II}  : ev (d + 1) 313 17 [(2, a0), (0, a1), (0, a2)] [(0, s3), (0, s2), (0, s1), (2, s0)] S I = (ev d 319 0 [(2, s0), (0, s1), (0, s2), (0, s3)] [] S I).bind (fun q => ev (d + 1) 313 20 [(2, a0), (0, a1), (0, a2)] (psh q.1 []) q.2.1 q.2.2) := by
  exact sx_stat (ag := [(2, s0), (0, s1), (0, s2), (0, s3)]) (r := []) (al' := [(2, s0), (0, s1), (0, s2), (0, s3)]) (np := 4) (nl := 4) (q := (0, 319, 419)) D313_17 (by decide +kernel) (by decide) mP_319 mL_319 (Nat.le_of_ble_eq_true rfl) rfl rfl (by simp [cat]) rfl rfl
theorem E313_20 {d : Nat} {a0 a1 a2 s0 : Int} {S : SS} {I : II}  : ev d 313 20 [(2, a0), (0, a1), (0, a2)] [(0, s0)] S I = ev d 313 36 [(2, a0), (0, a1), (0, a2)] [(0, s0)] S I := by
  refine (sx_goto (pc' := 36) D313_20 (by decide) (by decide)).trans ?_
  exact rfl
theorem E313_33 {d : Nat} {a0 a1 a2 s0 s1 s2 s3 : Int} {S : SS} {I : II}  : ev d 313 33 [(2, a0), (0, a1), (0, a2)] [(0, s3), (0, s2), (0, s1), (2, s0)] S I = none := by
  exact sx_nolink0 D313_33 (by decide +kernel)
theorem E313_36 {d : Nat} {a0 a1 a2 s0 : Int} {S : SS} {I : II}  : ev d 313 36 [(2, a0), (0, a1), (0, a2)] [(0, s0)] S I = some ((0, s0), S, I) := by
  exact sx_ireturn D313_36 (by decide +kernel)
theorem E314_0 {d : Nat} {a0 : Int} {S : SS} {I : II} (h0 : isT (-10 - a0)) : ev d 314 0 [(2, a0)] [] S I = if (1 : Int) = 0 then (ev d 314 17 [(2, a0)] [] S I) else (if (0 : Int) = 0 then (ev d 314 18 [(2, a0)] [(0, 1)] S I) else (ev d 314 17 [(2, a0)] [] S I)) := by
  refine (sx_gsS38 D314_0 (by decide +kernel)).trans ?_
  refine sx_i0_eq (pc' := 17) D314_3 (by decide) (by decide) ?_ ?_ (w_small (by decide) (by decide))
  · exact rfl
  · refine (sx_aload_n D314_6 rfl).trans ?_
    refine (sx_gfS15 D314_7 (by decide +kernel) h0).trans ?_
    refine sx_i0_ne (pc' := 17) D314_10 (by decide) (by decide) ?_ ?_ (w_small (by decide) (by decide))
    · refine (sx_iconst D314_13).trans ?_
      refine (sx_goto (pc' := 18) D314_14 (by decide) (by decide)).trans ?_
      exact rfl
    · exact rfl
theorem E314_17 {d : Nat} {a0 : Int} {S : SS} {I : II}  : ev d 314 17 [(2, a0)] [] S I = ev d 314 18 [(2, a0)] [(0, 0)] S I := by
  refine (sx_iconst D314_17).trans ?_
  exact rfl
theorem E314_18 {d : Nat} {a0 s0 : Int} {S : SS} {I : II} (h0 : s0 = 0 ∨ s0 = 1) : ev d 314 18 [(2, a0)] [(0, s0)] S I = some ((0, s0), S, I) := by
  exact sx_zreturn D314_18 (by decide +kernel) h0
theorem E315_0 {d : Nat} {a0 : Int} {S : SS} {I : II} (h0 : isT (-10 - a0)) : ev (d + 1) 315 0 [(2, a0)] [] S I = (ev d 316 0 [(2, a0)] [] S I).bind (fun q => ev (d + 1) 315 9 [(2, a0)] (psh q.1 [(0, ((txt (-100 - (-90 + a0))).length : Int))]) q.2.1 q.2.2) := by
  refine (sx_aload_n D315_0 rfl).trans ?_
  refine (sx_gfS9 D315_1 (by decide +kernel) h0).trans ?_
  refine (sx_alenB D315_4 (show isT (-100 - (-90 + a0)) by have := h0; omega)).trans ?_
  refine (sx_aload_n D315_5 rfl).trans ?_
  exact sx_virtS (ag := [(2, a0)]) (r := [(0, ((txt (-100 - (-90 + a0))).length : Int))]) (al' := [(2, a0)]) (np := 0) (nl := 1) (q := (1, 316, 415)) D315_6 (by decide +kernel) (by decide) mP_316 mL_316 mC_316 (Nat.le_of_ble_eq_true rfl) rfl rfl (by simp [cat]) h0 rfl rfl
theorem E315_9 {d : Nat} {a0 s0 s1 : Int} {S : SS} {I : II}  : ev d 315 9 [(2, a0)] [(0, s1), (0, s0)] S I = some ((0, iShr s0 s1), S, I) := by
  refine (sx_ishr D315_9).trans ?_
  exact sx_ireturn D315_10 (by decide +kernel)
theorem E316_0 {d : Nat} {a0 : Int} {S : SS} {I : II} (h0 : isT (-10 - a0)) : ev d 316 0 [(2, a0)] [] S I = if (1 : Int) = 0 then (ev d 316 14 [(2, a0)] [(0, 1)] S I) else (ev d 316 14 [(2, a0)] [(0, 0)] S I) := by
  refine (sx_gsS38 D316_0 (by decide +kernel)).trans ?_
  refine sx_i0_eq (pc' := 13) D316_3 (by decide) (by decide) ?_ ?_ (w_small (by decide) (by decide))
  · refine (sx_iconst D316_13).trans ?_
    exact rfl
  · refine (sx_aload_n D316_6 rfl).trans ?_
    refine (sx_gfS15 D316_7 (by decide +kernel) h0).trans ?_
    refine (sx_goto (pc' := 14) D316_10 (by decide) (by decide)).trans ?_
    exact rfl
theorem E316_14 {d : Nat} {a0 s0 : Int} {S : SS} {I : II} (h0 : 0 ≤ s0 ∧ s0 < 128) : ev d 316 14 [(2, a0)] [(0, s0)] S I = some ((0, s0), S, I) := by
  exact sx_creturn D316_14 (by decide +kernel) h0
theorem E317_0 {d : Nat} {a0 a1 : Int} {S : SS} {I : II} (h0 : isT (-10 - a0)) : ev (d + 1) 317 0 [(2, a0), (0, a1)] [] S I = (ev d 314 0 [(2, a0)] [] S I).bind (fun q => ev (d + 1) 317 4 [(2, a0), (0, a1)] (psh q.1 []) q.2.1 q.2.2) := by
  refine (sx_aload_n D317_0 rfl).trans ?_
  exact sx_virtS (ag := [(2, a0)]) (r := []) (al' := [(2, a0)]) (np := 0) (nl := 1) (q := (1, 314, 405)) D317_1 (by decide +kernel) (by decide) mP_314 mL_314 mC_314 (Nat.le_of_ble_eq_true rfl) rfl rfl (by simp [cat]) h0 rfl rfl
theorem E317_4 {d : Nat} {a0 a1 s0 : Int} {S : SS} {I : II} (h0 : isT (-10 - a0)) : ev (d + 1) 317 4 [(2, a0), (0, a1)] [(0, s0)] S I = if w s0 = 0 then (none) else ((ev d 322 0 [(2, -90 + a0), (0, a1)] [] S I).bind (fun q => ev (d + 1) 317 15 [(2, a0), (0, a1)] (psh q.1 []) q.2.1 q.2.2)) := by
  refine sx_i0_eq (pc' := 16) D317_4 (by decide) (by decide) ?_ ?_ rfl
  · refine (sx_aload_n D317_16 rfl).trans ?_
    refine (sx_gfS9 D317_17 (by decide +kernel) h0).trans ?_
    refine (sx_iload_n D317_20 rfl).trans ?_
    exact sx_nolink0 D317_21 (by decide +kernel)
  · refine (sx_aload_n D317_7 rfl).trans ?_
    refine (sx_gfS9 D317_8 (by decide +kernel) h0).trans ?_
    refine (sx_iload_n D317_11 rfl).trans ?_
    exact sx_stat (ag := [(2, -90 + a0), (0, a1)]) (r := []) (al' := [(2, -90 + a0), (0, a1)]) (np := 2) (nl := 2) (q := (0, 322, 881)) D317_12 (by decide +kernel) (by decide) mP_322 mL_322 (Nat.le_of_ble_eq_true rfl) rfl rfl (by simp [cat]) rfl rfl
theorem E317_15 {d : Nat} {a0 a1 s0 : Int} {S : SS} {I : II} (h0 : 0 ≤ s0 ∧ s0 < 128) : ev d 317 15 [(2, a0), (0, a1)] [(0, s0)] S I = some ((0, s0), S, I) := by
  exact sx_creturn D317_15 (by decide +kernel) h0
theorem E318_0 {d : Nat} {a0 a1 : Int} {S : SS} {I : II}  : ev (d + 1) 318 0 [(0, a0), (0, a1)] [] S I = (ev d 324 0 [(0, a0), (0, a1), (2, (-3))] [] S I).bind (fun q => ev (d + 1) 318 8 [(0, a0), (0, a1)] (psh q.1 []) q.2.1 q.2.2) := by
  refine (sx_iload_n D318_0 rfl).trans ?_
  refine (sx_iload_n D318_1 rfl).trans ?_
  refine (sx_gsS1053 D318_2 (by decide +kernel)).trans ?_
  exact sx_stat (ag := [(0, a0), (0, a1), (2, (-3))]) (r := []) (al' := [(0, a0), (0, a1), (2, (-3))]) (np := 3) (nl := 3) (q := (0, 324, 887)) D318_5 (by decide +kernel) (by decide) mP_324 mL_324 (Nat.le_of_ble_eq_true rfl) rfl rfl (by simp [cat]) rfl rfl
theorem E318_8 {d : Nat} {a0 a1 s0 : Int} {S : SS} {I : II}  : ev d 318 8 [(0, a0), (0, a1)] [(0, s0)] S I = some (uU, S, I) := by
  refine (sx_pop D318_8 (by decide)).trans ?_
  exact sx_return D318_9 (by decide +kernel)
theorem E319_0 {d : Nat} {a0 a1 a2 a3 : Int} {S : SS} {I : II}  : ev (d + 1) 319 0 [(2, a0), (0, a1), (0, a2), (0, a3)] [] S I = (ev d 320 0 [(0, a1)] [] S I).bind (fun q => ev (d + 1) 319 4 [(2, a0), (0, a1), (0, a2), (0, a3)] (psh q.1 []) q.2.1 q.2.2) := by
  refine (sx_iload_n D319_0 rfl).trans ?_
  exact sx_stat (ag := [(0, a1)]) (r := []) (al' := [(0, a1)]) (np := 1) (nl := 1) (q := (0, 320, 422)) D319_1 (by decide +kernel) (by decide) mP_320 mL_320 (Nat.le_of_ble_eq_true rfl) rfl rfl (by simp [cat]) rfl rfl
theorem E319_4 {d : Nat} {a0 a1 a2 a3 s0 : Int} {S : SS} {I : II} (h0 : isT (-100 - a0)) : ev (d + 1) 319 4 [(2, a0), (0, a1), (0, a2), (0, a3)] [(0, s0)] S I = if w s0 = 0 then (some ((0, (-1)), S, I)) else (if (if w a2 < 0 then 0 else w a2) < (if w ((txt (-100 - a0)).length : Int) < w a3 then w ((txt (-100 - a0)).length : Int) else w a3) then ((ev d 321 0 [(2, a0), (0, a1), (0, if w a2 < 0 then 0 else w a2), (0, if w ((txt (-100 - a0)).length : Int) < w a3 then w ((txt (-100 - a0)).length : Int) else w a3), uU, uU] [] S I).bind (fun q => ev (d + 1) 319 36 [(2, a0), (0, a1), (0, if w a2 < 0 then 0 else w a2), (0, if w ((txt (-100 - a0)).length : Int) < w a3 then w ((txt (-100 - a0)).length : Int) else w a3)] (psh q.1 []) q.2.1 q.2.2)) else (some ((0, (-1)), S, I))) := by
  refine sx_i0_ne (pc' := 9) D319_4 (by decide) (by decide) ?_ ?_ rfl
  · refine (sx_iconst D319_7).trans ?_
    exact sx_ireturn D319_8 (by decide +kernel)
  · refine (sx_iload_n D319_9 rfl).trans ?_
    refine (sx_iconst D319_10).trans ?_
    refine (sx_max (q := (12, 0, 425)) D319_11 (by decide +kernel) rfl (by simp [cat]) rfl (w_small (by decide) (by decide))).trans ?_
    refine (sx_istore_n (al' := [(2, a0), (0, a1), (0, if w a2 < 0 then 0 else w a2), (0, a3)]) D319_14 (Nat.le_of_ble_eq_true rfl) rfl rfl).trans ?_
    refine (sx_iload_n D319_15 rfl).trans ?_
    refine (sx_aload_n D319_16 rfl).trans ?_
    refine (sx_alenB D319_17 h0).trans ?_
    refine (sx_min (q := (13, 0, 428)) D319_18 (by decide +kernel) rfl (by simp [cat]) rfl rfl).trans ?_
    refine (sx_istore_n (al' := [(2, a0), (0, a1), (0, if w a2 < 0 then 0 else w a2), (0, if w ((txt (-100 - a0)).length : Int) < w a3 then w ((txt (-100 - a0)).length : Int) else w a3)]) D319_21 (Nat.le_of_ble_eq_true rfl) rfl rfl).trans ?_
    refine (sx_iload_n D319_22 rfl).trans ?_
    refine (sx_iload_n D319_23 rfl).trans ?_
    refine sx_if_lt (pc' := 29) D319_24 (by decide) (by decide) ?_ ?_ (w_ite (w_small (by decide) (by decide)) (w_toInt _)) (w_ite (w_toInt _) (w_toInt _))
    · refine (sx_aload_n D319_29 rfl).trans ?_
      refine (sx_iload_n D319_30 rfl).trans ?_
      refine (sx_iload_n D319_31 rfl).trans ?_
      refine (sx_iload_n D319_32 rfl).trans ?_
      exact sx_stat (ag := [(2, a0), (0, a1), (0, if w a2 < 0 then 0 else w a2), (0, if w ((txt (-100 - a0)).length : Int) < w a3 then w ((txt (-100 - a0)).length : Int) else w a3)]) (r := []) (al' := [(2, a0), (0, a1), (0, if w a2 < 0 then 0 else w a2), (0, if w ((txt (-100 - a0)).length : Int) < w a3 then w ((txt (-100 - a0)).length : Int) else w a3), uU, uU]) (np := 4) (nl := 6) (q := (0, 321, 429)) D319_33 (by decide +kernel) (by decide) mP_321 mL_321 (Nat.le_of_ble_eq_true rfl) rfl rfl (by simp [cat]) rfl rfl
    · refine (sx_iconst D319_27).trans ?_
      exact sx_ireturn D319_28 (by decide +kernel)
theorem E319_36 {d : Nat} {a0 a1 a2 a3 s0 : Int} {S : SS} {I : II}  : ev d 319 36 [(2, a0), (0, a1), (0, a2), (0, a3)] [(0, s0)] S I = some ((0, s0), S, I) := by
  exact sx_ireturn D319_36 (by decide +kernel)
theorem E320_0 {d : Nat} {a0 : Int} {S : SS} {I : II}  : ev d 320 0 [(0, a0)] [] S I = if w a0 < 0 then (ev d 320 15 [(0, a0)] [] S I) else (if 255 < w a0 then (ev d 320 15 [(0, a0)] [] S I) else (ev d 320 16 [(0, a0)] [(0, 1)] S I)) := by
  refine (sx_iload_n D320_0 rfl).trans ?_
  refine sx_i0_lt (pc' := 15) D320_1 (by decide) (by decide) ?_ ?_ rfl
  · exact rfl
  · refine (sx_iload_n D320_4 rfl).trans ?_
    refine (sx_sipush D320_5 (by decide)).trans ?_
    refine sx_if_gt (pc' := 15) D320_8 (by decide) (by decide) ?_ ?_ rfl (w_small (by decide) (by decide))
    · exact rfl
    · refine (sx_iconst D320_11).trans ?_
      refine (sx_goto (pc' := 16) D320_12 (by decide) (by decide)).trans ?_
      exact rfl
theorem E320_15 {d : Nat} {a0 : Int} {S : SS} {I : II}  : ev d 320 15 [(0, a0)] [] S I = ev d 320 16 [(0, a0)] [(0, 0)] S I := by
  refine (sx_iconst D320_15).trans ?_
  exact rfl
theorem E320_16 {d : Nat} {a0 s0 : Int} {S : SS} {I : II} (h0 : s0 = 0 ∨ s0 = 1) : ev d 320 16 [(0, a0)] [(0, s0)] S I = some ((0, s0), S, I) := by
  exact sx_zreturn D320_16 (by decide +kernel) h0
theorem E321_0 {d : Nat} {a0 a1 a2 a3 : Int} {S : SS} {I : II}  : ev d 321 0 [(2, a0), (0, a1), (0, a2), (0, a3), uU, uU] [] S I = ev d 321 7 [(2, a0), (0, a1), (0, a2), (0, a3), (0, iB a1), (0, a2)] [] S I := by
  refine (sx_iload_n D321_0 rfl).trans ?_
  refine (sx_i2b D321_1).trans ?_
  refine (sx_istore (al' := [(2, a0), (0, a1), (0, a2), (0, a3), (0, iB a1), uU]) D321_2 (Nat.le_of_ble_eq_true rfl) rfl rfl).trans ?_
  refine (sx_iload_n D321_4 rfl).trans ?_
  refine (sx_istore (al' := [(2, a0), (0, a1), (0, a2), (0, a3), (0, iB a1), (0, a2)]) D321_5 (Nat.le_of_ble_eq_true rfl) rfl rfl).trans ?_
  exact rfl
theorem E321_7 {d : Nat} {a0 a1 a2 a3 a4 a5 : Int} {S : SS} {I : II} (h0 : isT (-100 - a0)) : ev d 321 7 [(2, a0), (0, a1), (0, a2), (0, a3), (0, a4), (0, a5)] [] S I = if w a5 < w a3 then (gdR (0 ≤ w a5 ∧ w a5 < ((txt (-100 - a0)).length : Int)) (if w ((txt (-100 - a0)).getD (w a5).toNat 0 : Int) = w a4 then (some ((0, a5), S, I)) else (ev d 321 7 [(2, a0), (0, a1), (0, a2), (0, a3), (0, a4), (0, a5 + 1)] [] S I))) else (some ((0, (-1)), S, I)) := by
  refine (sx_iload D321_7 rfl).trans ?_
  refine (sx_iload_n D321_9 rfl).trans ?_
  refine sx_if_ge (pc' := 31) D321_10 (by decide) (by decide) ?_ ?_ rfl rfl
  · refine (sx_aload_n D321_13 rfl).trans ?_
    refine (sx_iload D321_14 rfl).trans ?_
    refine (sx_baB D321_16 h0).trans (gdR_to fun g1 => ?_)
    refine (sx_iload D321_17 rfl).trans ?_
    refine sx_if_ne (pc' := 25) D321_19 (by decide) (by decide) ?_ ?_ rfl rfl
    · refine (sx_iload D321_22 rfl).trans ?_
      exact sx_ireturn D321_24 (by decide +kernel)
    · refine (sx_iinc (al' := [(2, a0), (0, a1), (0, a2), (0, a3), (0, a4), (0, a5 + 1)]) D321_25 rfl rfl).trans ?_
      refine (sx_goto (pc' := 7) D321_28 (by decide) (by decide)).trans ?_
      exact rfl
  · refine (sx_iconst D321_31).trans ?_
    exact sx_ireturn D321_32 (by decide +kernel)
theorem E322_0 {d : Nat} {a0 a1 : Int} {S : SS} {I : II} (h0 : isT (-100 - a0)) : ev (d + 1) 322 0 [(2, a0), (0, a1)] [] S I = (ev d 318 0 [(0, a1), (0, ((txt (-100 - a0)).length : Int))] [] S I).bind (fun q => ev (d + 1) 322 6 [(2, a0), (0, a1)] (psh q.1 []) q.2.1 q.2.2) := by
  refine (sx_iload_n D322_0 rfl).trans ?_
  refine (sx_aload_n D322_1 rfl).trans ?_
  refine (sx_alenB D322_2 h0).trans ?_
  exact sx_stat (ag := [(0, a1), (0, ((txt (-100 - a0)).length : Int))]) (r := []) (al' := [(0, a1), (0, ((txt (-100 - a0)).length : Int))]) (np := 2) (nl := 2) (q := (0, 318, 884)) D322_3 (by decide +kernel) (by decide) mP_318 mL_318 (Nat.le_of_ble_eq_true rfl) rfl rfl (by simp [cat]) rfl rfl
theorem E322_6 {d : Nat} {a0 a1 : Int} {S : SS} {I : II} (h0 : isT (-100 - a0)) (h1 : 0 ≤ iC (iAnd ((txt (-100 - a0)).getD (w a1).toNat 0 : Int) 255) ∧ iC (iAnd ((txt (-100 - a0)).getD (w a1).toNat 0 : Int) 255) < 128) : ev d 322 6 [(2, a0), (0, a1)] [] S I = gdR (0 ≤ w a1 ∧ w a1 < ((txt (-100 - a0)).length : Int)) (some ((0, iC (iAnd ((txt (-100 - a0)).getD (w a1).toNat 0 : Int) 255)), S, I)) := by
  refine (sx_aload_n D322_6 rfl).trans ?_
  refine (sx_iload_n D322_7 rfl).trans ?_
  refine (sx_baB D322_8 h0).trans (gdR_to fun g1 => ?_)
  refine (sx_sipush D322_9 (by decide)).trans ?_
  refine (sx_iand D322_12).trans ?_
  refine (sx_i2c D322_13).trans ?_
  exact sx_creturn D322_14 (by decide +kernel) h1
theorem E323_0 {d : Nat} {a0 a1 ln0 : Int} {S : SS} {I : II} (h0 : KA S a0 20 ln0) : ev d 323 0 [(2, a0), (0, a1), uU, uU] [] S I = ev d 323 5 [(2, a0), (0, a1), (0, 0), (0, ln0)] [] S I := by
  refine (sx_iconst D323_0).trans ?_
  refine (sx_istore_n (al' := [(2, a0), (0, a1), (0, 0), uU]) D323_1 (Nat.le_of_ble_eq_true rfl) rfl rfl).trans ?_
  refine (sx_aload_n D323_2 rfl).trans ?_
  refine (sx_alen D323_3 (by decide) h0).trans ?_
  refine (sx_istore_n (al' := [(2, a0), (0, a1), (0, 0), (0, ln0)]) D323_4 (Nat.le_of_ble_eq_true rfl) rfl rfl).trans ?_
  exact rfl
theorem E323_5 {d : Nat} {a0 a1 a2 a3 ln0 : Int} {S : SS} {I : II} (h0 : KA S a0 20 ln0) : ev d 323 5 [(2, a0), (0, a1), (0, a2), (0, a3)] [] S I = if w a2 < w a3 then (gdR (0 ≤ w a2 ∧ w a2 < ln0) (ev d 323 5 [(2, a0), (0, a1), (0, a2 + 1), (0, a3)] [] S (up2 I a0 (w a2) a1))) else (some (uU, S, I)) := by
  refine (sx_iload_n D323_5 rfl).trans ?_
  refine (sx_iload_n D323_6 rfl).trans ?_
  refine sx_if_ge (pc' := 20) D323_7 (by decide) (by decide) ?_ ?_ rfl rfl
  · refine (sx_aload_n D323_10 rfl).trans ?_
    refine (sx_iload_n D323_11 rfl).trans ?_
    refine (sx_iload_n D323_12 rfl).trans ?_
    refine (sx_is D323_13 h0).trans (gdR_to fun g1 => ?_)
    refine (sx_iinc (al' := [(2, a0), (0, a1), (0, a2 + 1), (0, a3)]) D323_14 rfl rfl).trans ?_
    refine (sx_goto (pc' := 5) D323_17 (by decide) (by decide)).trans ?_
    exact rfl
  · exact sx_return D323_20 (by decide +kernel)
theorem E324_0 {d : Nat} {a0 a1 a2 : Int} {S : SS} {I : II}  : ev d 324 0 [(0, a0), (0, a1), (2, a2)] [] S I = if w a0 < 0 then (ev d 324 9 [(0, a0), (0, a1), (2, a2)] [] S I) else (if w a0 < w a1 then (some ((0, a0), S, I)) else (ev d 324 9 [(0, a0), (0, a1), (2, a2)] [] S I)) := by
  refine (sx_iload_n D324_0 rfl).trans ?_
  refine sx_i0_lt (pc' := 9) D324_1 (by decide) (by decide) ?_ ?_ rfl
  · exact rfl
  · refine (sx_iload_n D324_4 rfl).trans ?_
    refine (sx_iload_n D324_5 rfl).trans ?_
    refine sx_if_lt (pc' := 16) D324_6 (by decide) (by decide) ?_ ?_ rfl rfl
    · refine (sx_iload_n D324_16 rfl).trans ?_
      exact sx_ireturn D324_17 (by decide +kernel)
    · exact rfl
theorem E324_9 {d : Nat} {a0 a1 a2 : Int} {S : SS} {I : II}  : ev d 324 9 [(0, a0), (0, a1), (2, a2)] [] S I = none := by
  refine (sx_aload_n D324_9 rfl).trans ?_
  refine (sx_iload_n D324_10 rfl).trans ?_
  refine (sx_iload_n D324_11 rfl).trans ?_
  exact sx_nolink0 D324_12 (by decide +kernel)
