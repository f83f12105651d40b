theorem dX0_init_0 : decode cX0_init 0 = .ok (.aload_n 0, 1) := by decide +kernel
theorem dX0_init_1 : decode cX0_init 1 = .ok (.invokespecial 3, 3) := by decide +kernel
theorem dX0_init_4 : decode cX0_init 4 = .ok (.aload_n 0, 1) := by decide +kernel
theorem dX0_init_5 : decode cX0_init 5 = .ok (.bipush 60, 2) := by decide +kernel
theorem dX0_init_7 : decode cX0_init 7 = .ok (.newarray .int, 2) := by decide +kernel
theorem dX0_init_9 : decode cX0_init 9 = .ok (.putfield 9, 3) := by decide +kernel
theorem dX0_init_12 : decode cX0_init 12 = .ok (.aload_n 0, 1) := by decide +kernel
theorem dX0_init_13 : decode cX0_init 13 = .ok (.bipush 60, 2) := by decide +kernel
theorem dX0_init_15 : decode cX0_init 15 = .ok (.newarray .int, 2) := by decide +kernel
theorem dX0_init_17 : decode cX0_init 17 = .ok (.putfield 15, 3) := by decide +kernel
theorem dX0_init_20 : decode cX0_init 20 = .ok (.aload_n 0, 1) := by decide +kernel
theorem dX0_init_21 : decode cX0_init 21 = .ok (.bipush 60, 2) := by decide +kernel
theorem dX0_init_23 : decode cX0_init 23 = .ok (.newarray .int, 2) := by decide +kernel
theorem dX0_init_25 : decode cX0_init 25 = .ok (.putfield 18, 3) := by decide +kernel
theorem dX0_init_28 : decode cX0_init 28 = .ok (.aload_n 0, 1) := by decide +kernel
theorem dX0_init_29 : decode cX0_init 29 = .ok (.bipush 60, 2) := by decide +kernel
theorem dX0_init_31 : decode cX0_init 31 = .ok (.newarray .int, 2) := by decide +kernel
theorem dX0_init_33 : decode cX0_init 33 = .ok (.putfield 21, 3) := by decide +kernel
theorem dX0_init_36 : decode cX0_init 36 = .ok (.aload_n 0, 1) := by decide +kernel
theorem dX0_init_37 : decode cX0_init 37 = .ok (.bipush 60, 2) := by decide +kernel
theorem dX0_init_39 : decode cX0_init 39 = .ok (.newarray .int, 2) := by decide +kernel
theorem dX0_init_41 : decode cX0_init 41 = .ok (.putfield 24, 3) := by decide +kernel
theorem dX0_init_44 : decode cX0_init 44 = .ok (.aload_n 0, 1) := by decide +kernel
theorem dX0_init_45 : decode cX0_init 45 = .ok (.bipush 60, 2) := by decide +kernel
theorem dX0_init_47 : decode cX0_init 47 = .ok (.newarray .int, 2) := by decide +kernel
theorem dX0_init_49 : decode cX0_init 49 = .ok (.putfield 27, 3) := by decide +kernel
theorem dX0_init_52 : decode cX0_init 52 = .ok (.aload_n 0, 1) := by decide +kernel
theorem dX0_init_53 : decode cX0_init 53 = .ok (.bipush 60, 2) := by decide +kernel
theorem dX0_init_55 : decode cX0_init 55 = .ok (.newarray .int, 2) := by decide +kernel
theorem dX0_init_57 : decode cX0_init 57 = .ok (.putfield 30, 3) := by decide +kernel
theorem dX0_init_60 : decode cX0_init 60 = .ok (.aload_n 0, 1) := by decide +kernel
theorem dX0_init_61 : decode cX0_init 61 = .ok (.bipush 8, 2) := by decide +kernel
theorem dX0_init_63 : decode cX0_init 63 = .ok (.newarray .long, 2) := by decide +kernel
theorem dX0_init_65 : decode cX0_init 65 = .ok (.putfield 33, 3) := by decide +kernel
theorem dX0_init_68 : decode cX0_init 68 = .ok (.aload_n 0, 1) := by decide +kernel
theorem dX0_init_69 : decode cX0_init 69 = .ok (.lconst 0, 1) := by decide +kernel
theorem dX0_init_70 : decode cX0_init 70 = .ok (.putfield 37, 3) := by decide +kernel
theorem dX0_init_73 : decode cX0_init 73 = .ok (.aload_n 0, 1) := by decide +kernel
theorem dX0_init_74 : decode cX0_init 74 = .ok (.iconst 0, 1) := by decide +kernel
theorem dX0_init_75 : decode cX0_init 75 = .ok (.putfield 41, 3) := by decide +kernel
theorem dX0_init_78 : decode cX0_init 78 = .ok (.return_, 1) := by decide +kernel
theorem dX0_has_0 : decode cX0_has 0 = .ok (.iload_n 1, 1) := by decide +kernel
theorem dX0_has_1 : decode cX0_has 1 = .ok (.ifCond .lt 15, 3) := by decide +kernel
theorem dX0_has_4 : decode cX0_has 4 = .ok (.iload_n 1, 1) := by decide +kernel
theorem dX0_has_5 : decode cX0_has 5 = .ok (.aload_n 0, 1) := by decide +kernel
theorem dX0_has_6 : decode cX0_has 6 = .ok (.getfield 41, 3) := by decide +kernel
theorem dX0_has_9 : decode cX0_has 9 = .ok (.if_icmp .ge 7, 3) := by decide +kernel
theorem dX0_has_12 : decode cX0_has 12 = .ok (.iconst 1, 1) := by decide +kernel
theorem dX0_has_13 : decode cX0_has 13 = .ok (.goto 4, 3) := by decide +kernel
theorem dX0_has_16 : decode cX0_has 16 = .ok (.iconst 0, 1) := by decide +kernel
theorem dX0_has_17 : decode cX0_has 17 = .ok (.ireturn, 1) := by decide +kernel
theorem dX0_open_0 : decode cX0_open 0 = .ok (.aload_n 0, 1) := by decide +kernel
theorem dX0_open_1 : decode cX0_open 1 = .ok (.getfield 9, 3) := by decide +kernel
theorem dX0_open_4 : decode cX0_open 4 = .ok (.aload_n 0, 1) := by decide +kernel
theorem dX0_open_5 : decode cX0_open 5 = .ok (.getfield 41, 3) := by decide +kernel
theorem dX0_open_8 : decode cX0_open 8 = .ok (.iload_n 1, 1) := by decide +kernel
theorem dX0_open_9 : decode cX0_open 9 = .ok (.iastore, 1) := by decide +kernel
theorem dX0_open_10 : decode cX0_open 10 = .ok (.aload_n 0, 1) := by decide +kernel
theorem dX0_open_11 : decode cX0_open 11 = .ok (.getfield 15, 3) := by decide +kernel
theorem dX0_open_14 : decode cX0_open 14 = .ok (.aload_n 0, 1) := by decide +kernel
theorem dX0_open_15 : decode cX0_open 15 = .ok (.getfield 41, 3) := by decide +kernel
theorem dX0_open_18 : decode cX0_open 18 = .ok (.iload_n 2, 1) := by decide +kernel
theorem dX0_open_19 : decode cX0_open 19 = .ok (.iastore, 1) := by decide +kernel
theorem dX0_open_20 : decode cX0_open 20 = .ok (.aload_n 0, 1) := by decide +kernel
theorem dX0_open_21 : decode cX0_open 21 = .ok (.getfield 18, 3) := by decide +kernel
theorem dX0_open_24 : decode cX0_open 24 = .ok (.aload_n 0, 1) := by decide +kernel
theorem dX0_open_25 : decode cX0_open 25 = .ok (.getfield 41, 3) := by decide +kernel
theorem dX0_open_28 : decode cX0_open 28 = .ok (.iload_n 3, 1) := by decide +kernel
theorem dX0_open_29 : decode cX0_open 29 = .ok (.iastore, 1) := by decide +kernel
theorem dX0_open_30 : decode cX0_open 30 = .ok (.aload_n 0, 1) := by decide +kernel
theorem dX0_open_31 : decode cX0_open 31 = .ok (.getfield 33, 3) := by decide +kernel
theorem dX0_open_34 : decode cX0_open 34 = .ok (.iload_n 2, 1) := by decide +kernel
theorem dX0_open_35 : decode cX0_open 35 = .ok (.dup2, 1) := by decide +kernel
theorem dX0_open_36 : decode cX0_open 36 = .ok (.laload, 1) := by decide +kernel
theorem dX0_open_37 : decode cX0_open 37 = .ok (.lconst 1, 1) := by decide +kernel
theorem dX0_open_38 : decode cX0_open 38 = .ok (.aload_n 0, 1) := by decide +kernel
theorem dX0_open_39 : decode cX0_open 39 = .ok (.getfield 41, 3) := by decide +kernel
theorem dX0_open_42 : decode cX0_open 42 = .ok (.lshl, 1) := by decide +kernel
theorem dX0_open_43 : decode cX0_open 43 = .ok (.lor, 1) := by decide +kernel
theorem dX0_open_44 : decode cX0_open 44 = .ok (.lastore, 1) := by decide +kernel
theorem dX0_open_45 : decode cX0_open 45 = .ok (.aload_n 0, 1) := by decide +kernel
theorem dX0_open_46 : decode cX0_open 46 = .ok (.dup, 1) := by decide +kernel
theorem dX0_open_47 : decode cX0_open 47 = .ok (.getfield 41, 3) := by decide +kernel
theorem dX0_open_50 : decode cX0_open 50 = .ok (.dup_x1, 1) := by decide +kernel
theorem dX0_open_51 : decode cX0_open 51 = .ok (.iconst 1, 1) := by decide +kernel
theorem dX0_open_52 : decode cX0_open 52 = .ok (.iadd, 1) := by decide +kernel
theorem dX0_open_53 : decode cX0_open 53 = .ok (.putfield 41, 3) := by decide +kernel
theorem dX0_open_56 : decode cX0_open 56 = .ok (.ireturn, 1) := by decide +kernel
theorem dX1_init_0 : decode cX1_init 0 = .ok (.aload_n 0, 1) := by decide +kernel
theorem dX1_init_1 : decode cX1_init 1 = .ok (.invokespecial 3, 3) := by decide +kernel
theorem dX1_init_4 : decode cX1_init 4 = .ok (.aload_n 0, 1) := by decide +kernel
theorem dX1_init_5 : decode cX1_init 5 = .ok (.sipush 128, 3) := by decide +kernel
theorem dX1_init_8 : decode cX1_init 8 = .ok (.newarray .int, 2) := by decide +kernel
theorem dX1_init_10 : decode cX1_init 10 = .ok (.putfield 9, 3) := by decide +kernel
theorem dX1_init_13 : decode cX1_init 13 = .ok (.aload_n 0, 1) := by decide +kernel
theorem dX1_init_14 : decode cX1_init 14 = .ok (.sipush 128, 3) := by decide +kernel
theorem dX1_init_17 : decode cX1_init 17 = .ok (.newarray .int, 2) := by decide +kernel
theorem dX1_init_19 : decode cX1_init 19 = .ok (.putfield 15, 3) := by decide +kernel
theorem dX1_init_22 : decode cX1_init 22 = .ok (.aload_n 0, 1) := by decide +kernel
theorem dX1_init_23 : decode cX1_init 23 = .ok (.bipush 8, 2) := by decide +kernel
theorem dX1_init_25 : decode cX1_init 25 = .ok (.newarray .int, 2) := by decide +kernel
theorem dX1_init_27 : decode cX1_init 27 = .ok (.putfield 18, 3) := by decide +kernel
theorem dX1_init_30 : decode cX1_init 30 = .ok (.aload_n 0, 1) := by decide +kernel
theorem dX1_init_31 : decode cX1_init 31 = .ok (.lconst 0, 1) := by decide +kernel
theorem dX1_init_32 : decode cX1_init 32 = .ok (.putfield 21, 3) := by decide +kernel
theorem dX1_init_35 : decode cX1_init 35 = .ok (.aload_n 0, 1) := by decide +kernel
theorem dX1_init_36 : decode cX1_init 36 = .ok (.lconst 0, 1) := by decide +kernel
theorem dX1_init_37 : decode cX1_init 37 = .ok (.putfield 25, 3) := by decide +kernel
theorem dX1_init_40 : decode cX1_init 40 = .ok (.aload_n 0, 1) := by decide +kernel
theorem dX1_init_41 : decode cX1_init 41 = .ok (.iconst 0, 1) := by decide +kernel
theorem dX1_init_42 : decode cX1_init 42 = .ok (.putfield 28, 3) := by decide +kernel
theorem dX1_init_45 : decode cX1_init 45 = .ok (.return_, 1) := by decide +kernel
theorem dX1_addUp_0 : decode cX1_addUp 0 = .ok (.aload_n 0, 1) := by decide +kernel
theorem dX1_addUp_1 : decode cX1_addUp 1 = .ok (.invokevirtual 32, 3) := by decide +kernel
theorem dX1_addUp_4 : decode cX1_addUp 4 = .ok (.iconst 0, 1) := by decide +kernel
theorem dX1_addUp_5 : decode cX1_addUp 5 = .ok (.istore 4, 2) := by decide +kernel
theorem dX1_addUp_7 : decode cX1_addUp 7 = .ok (.iload 4, 2) := by decide +kernel
theorem dX1_addUp_9 : decode cX1_addUp 9 = .ok (.aload_n 1, 1) := by decide +kernel
theorem dX1_addUp_10 : decode cX1_addUp 10 = .ok (.getfield 35, 3) := by decide +kernel
theorem dX1_addUp_13 : decode cX1_addUp 13 = .ok (.if_icmp .ge 48, 3) := by decide +kernel
theorem dX1_addUp_16 : decode cX1_addUp 16 = .ok (.lload_n 2, 1) := by decide +kernel
theorem dX1_addUp_17 : decode cX1_addUp 17 = .ok (.iload 4, 2) := by decide +kernel
theorem dX1_addUp_19 : decode cX1_addUp 19 = .ok (.invokestatic 40, 3) := by decide +kernel
theorem dX1_addUp_22 : decode cX1_addUp 22 = .ok (.ifCond .eq 33, 3) := by decide +kernel
theorem dX1_addUp_25 : decode cX1_addUp 25 = .ok (.aload_n 0, 1) := by decide +kernel
theorem dX1_addUp_26 : decode cX1_addUp 26 = .ok (.aload_n 1, 1) := by decide +kernel
theorem dX1_addUp_27 : decode cX1_addUp 27 = .ok (.iload 4, 2) := by decide +kernel
theorem dX1_addUp_29 : decode cX1_addUp 29 = .ok (.invokevirtual 44, 3) := by decide +kernel
theorem dX1_addUp_32 : decode cX1_addUp 32 = .ok (.ifCond .eq 23, 3) := by decide +kernel
theorem dX1_addUp_35 : decode cX1_addUp 35 = .ok (.aload_n 0, 1) := by decide +kernel
theorem dX1_addUp_36 : decode cX1_addUp 36 = .ok (.dup, 1) := by decide +kernel
theorem dX1_addUp_37 : decode cX1_addUp 37 = .ok (.getfield 21, 3) := by decide +kernel
theorem dX1_addUp_40 : decode cX1_addUp 40 = .ok (.lconst 1, 1) := by decide +kernel
theorem dX1_addUp_41 : decode cX1_addUp 41 = .ok (.iload 4, 2) := by decide +kernel
theorem dX1_addUp_43 : decode cX1_addUp 43 = .ok (.lshl, 1) := by decide +kernel
theorem dX1_addUp_44 : decode cX1_addUp 44 = .ok (.lor, 1) := by decide +kernel
theorem dX1_addUp_45 : decode cX1_addUp 45 = .ok (.putfield 21, 3) := by decide +kernel
theorem dX1_addUp_48 : decode cX1_addUp 48 = .ok (.aload_n 0, 1) := by decide +kernel
theorem dX1_addUp_49 : decode cX1_addUp 49 = .ok (.aload_n 1, 1) := by decide +kernel
theorem dX1_addUp_50 : decode cX1_addUp 50 = .ok (.iload 4, 2) := by decide +kernel
theorem dX1_addUp_52 : decode cX1_addUp 52 = .ok (.invokevirtual 48, 3) := by decide +kernel
theorem dX1_addUp_55 : decode cX1_addUp 55 = .ok (.iinc 4 1, 3) := by decide +kernel
theorem dX1_addUp_58 : decode cX1_addUp 58 = .ok (.goto (-51), 3) := by decide +kernel
theorem dX1_addUp_61 : decode cX1_addUp 61 = .ok (.return_, 1) := by decide +kernel
theorem dX1_forget_0 : decode cX1_forget 0 = .ok (.iconst 0, 1) := by decide +kernel
theorem dX1_forget_1 : decode cX1_forget 1 = .ok (.istore_n 1, 1) := by decide +kernel
theorem dX1_forget_2 : decode cX1_forget 2 = .ok (.iload_n 1, 1) := by decide +kernel
theorem dX1_forget_3 : decode cX1_forget 3 = .ok (.aload_n 0, 1) := by decide +kernel
theorem dX1_forget_4 : decode cX1_forget 4 = .ok (.getfield 9, 3) := by decide +kernel
theorem dX1_forget_7 : decode cX1_forget 7 = .ok (.arraylength, 1) := by decide +kernel
theorem dX1_forget_8 : decode cX1_forget 8 = .ok (.if_icmp .ge 23, 3) := by decide +kernel
theorem dX1_forget_11 : decode cX1_forget 11 = .ok (.aload_n 0, 1) := by decide +kernel
theorem dX1_forget_12 : decode cX1_forget 12 = .ok (.getfield 9, 3) := by decide +kernel
theorem dX1_forget_15 : decode cX1_forget 15 = .ok (.iload_n 1, 1) := by decide +kernel
theorem dX1_forget_16 : decode cX1_forget 16 = .ok (.iconst 0, 1) := by decide +kernel
theorem dX1_forget_17 : decode cX1_forget 17 = .ok (.iastore, 1) := by decide +kernel
theorem dX1_forget_18 : decode cX1_forget 18 = .ok (.aload_n 0, 1) := by decide +kernel
theorem dX1_forget_19 : decode cX1_forget 19 = .ok (.getfield 15, 3) := by decide +kernel
theorem dX1_forget_22 : decode cX1_forget 22 = .ok (.iload_n 1, 1) := by decide +kernel
theorem dX1_forget_23 : decode cX1_forget 23 = .ok (.iconst 0, 1) := by decide +kernel
theorem dX1_forget_24 : decode cX1_forget 24 = .ok (.iastore, 1) := by decide +kernel
theorem dX1_forget_25 : decode cX1_forget 25 = .ok (.iinc 1 1, 3) := by decide +kernel
theorem dX1_forget_28 : decode cX1_forget 28 = .ok (.goto (-26), 3) := by decide +kernel
theorem dX1_forget_31 : decode cX1_forget 31 = .ok (.iconst 0, 1) := by decide +kernel
theorem dX1_forget_32 : decode cX1_forget 32 = .ok (.istore_n 1, 1) := by decide +kernel
theorem dX1_forget_33 : decode cX1_forget 33 = .ok (.iload_n 1, 1) := by decide +kernel
theorem dX1_forget_34 : decode cX1_forget 34 = .ok (.aload_n 0, 1) := by decide +kernel
theorem dX1_forget_35 : decode cX1_forget 35 = .ok (.getfield 18, 3) := by decide +kernel
theorem dX1_forget_38 : decode cX1_forget 38 = .ok (.arraylength, 1) := by decide +kernel
theorem dX1_forget_39 : decode cX1_forget 39 = .ok (.if_icmp .ge 16, 3) := by decide +kernel
theorem dX1_forget_42 : decode cX1_forget 42 = .ok (.aload_n 0, 1) := by decide +kernel
theorem dX1_forget_43 : decode cX1_forget 43 = .ok (.getfield 18, 3) := by decide +kernel
theorem dX1_forget_46 : decode cX1_forget 46 = .ok (.iload_n 1, 1) := by decide +kernel
theorem dX1_forget_47 : decode cX1_forget 47 = .ok (.iconst 0, 1) := by decide +kernel
theorem dX1_forget_48 : decode cX1_forget 48 = .ok (.iastore, 1) := by decide +kernel
theorem dX1_forget_49 : decode cX1_forget 49 = .ok (.iinc 1 1, 3) := by decide +kernel
theorem dX1_forget_52 : decode cX1_forget 52 = .ok (.goto (-19), 3) := by decide +kernel
theorem dX1_forget_55 : decode cX1_forget 55 = .ok (.aload_n 0, 1) := by decide +kernel
theorem dX1_forget_56 : decode cX1_forget 56 = .ok (.lconst 0, 1) := by decide +kernel
theorem dX1_forget_57 : decode cX1_forget 57 = .ok (.putfield 21, 3) := by decide +kernel
theorem dX1_forget_60 : decode cX1_forget 60 = .ok (.aload_n 0, 1) := by decide +kernel
theorem dX1_forget_61 : decode cX1_forget 61 = .ok (.lconst 0, 1) := by decide +kernel
theorem dX1_forget_62 : decode cX1_forget 62 = .ok (.putfield 25, 3) := by decide +kernel
theorem dX1_forget_65 : decode cX1_forget 65 = .ok (.aload_n 0, 1) := by decide +kernel
theorem dX1_forget_66 : decode cX1_forget 66 = .ok (.iconst 0, 1) := by decide +kernel
theorem dX1_forget_67 : decode cX1_forget 67 = .ok (.putfield 28, 3) := by decide +kernel
theorem dX1_forget_70 : decode cX1_forget 70 = .ok (.return_, 1) := by decide +kernel
theorem dX1_agrees_0 : decode cX1_agrees 0 = .ok (.aload_n 1, 1) := by decide +kernel
theorem dX1_agrees_1 : decode cX1_agrees 1 = .ok (.getfield 52, 3) := by decide +kernel
theorem dX1_agrees_4 : decode cX1_agrees 4 = .ok (.iload_n 2, 1) := by decide +kernel
theorem dX1_agrees_5 : decode cX1_agrees 5 = .ok (.iaload, 1) := by decide +kernel
theorem dX1_agrees_6 : decode cX1_agrees 6 = .ok (.istore_n 3, 1) := by decide +kernel
theorem dX1_agrees_7 : decode cX1_agrees 7 = .ok (.iload_n 3, 1) := by decide +kernel
theorem dX1_agrees_8 : decode cX1_agrees 8 = .ok (.aload_n 1, 1) := by decide +kernel
theorem dX1_agrees_9 : decode cX1_agrees 9 = .ok (.getfield 55, 3) := by decide +kernel
theorem dX1_agrees_12 : decode cX1_agrees 12 = .ok (.iload_n 2, 1) := by decide +kernel
theorem dX1_agrees_13 : decode cX1_agrees 13 = .ok (.iaload, 1) := by decide +kernel
theorem dX1_agrees_14 : decode cX1_agrees 14 = .ok (.invokestatic 58, 3) := by decide +kernel
theorem dX1_agrees_17 : decode cX1_agrees 17 = .ok (.istore 4, 2) := by decide +kernel
theorem dX1_agrees_19 : decode cX1_agrees 19 = .ok (.aload_n 1, 1) := by decide +kernel
theorem dX1_agrees_20 : decode cX1_agrees 20 = .ok (.getfield 62, 3) := by decide +kernel
theorem dX1_agrees_23 : decode cX1_agrees 23 = .ok (.iload_n 2, 1) := by decide +kernel
theorem dX1_agrees_24 : decode cX1_agrees 24 = .ok (.iaload, 1) := by decide +kernel
theorem dX1_agrees_25 : decode cX1_agrees 25 = .ok (.tableswitch 111 0 5 #[39, 56, 56, 56, 86, 109], 39) := by decide +kernel
theorem dX1_agrees_64 : decode cX1_agrees 64 = .ok (.aload_n 0, 1) := by decide +kernel
theorem dX1_agrees_65 : decode cX1_agrees 65 = .ok (.getfield 28, 3) := by decide +kernel
theorem dX1_agrees_68 : decode cX1_agrees 68 = .ok (.iconst 1, 1) := by decide +kernel
theorem dX1_agrees_69 : decode cX1_agrees 69 = .ok (.iload_n 3, 1) := by decide +kernel
theorem dX1_agrees_70 : decode cX1_agrees 70 = .ok (.ishl, 1) := by decide +kernel
theorem dX1_agrees_71 : decode cX1_agrees 71 = .ok (.iand, 1) := by decide +kernel
theorem dX1_agrees_72 : decode cX1_agrees 72 = .ok (.ifCond .ne 7, 3) := by decide +kernel
theorem dX1_agrees_75 : decode cX1_agrees 75 = .ok (.iconst 1, 1) := by decide +kernel
theorem dX1_agrees_76 : decode cX1_agrees 76 = .ok (.goto 4, 3) := by decide +kernel
theorem dX1_agrees_79 : decode cX1_agrees 79 = .ok (.iconst 0, 1) := by decide +kernel
theorem dX1_agrees_80 : decode cX1_agrees 80 = .ok (.ireturn, 1) := by decide +kernel
theorem dX1_agrees_81 : decode cX1_agrees 81 = .ok (.aload_n 0, 1) := by decide +kernel
theorem dX1_agrees_82 : decode cX1_agrees 82 = .ok (.getfield 9, 3) := by decide +kernel
theorem dX1_agrees_85 : decode cX1_agrees 85 = .ok (.iload 4, 2) := by decide +kernel
theorem dX1_agrees_87 : decode cX1_agrees 87 = .ok (.iaload, 1) := by decide +kernel
theorem dX1_agrees_88 : decode cX1_agrees 88 = .ok (.aload_n 0, 1) := by decide +kernel
theorem dX1_agrees_89 : decode cX1_agrees 89 = .ok (.getfield 15, 3) := by decide +kernel
theorem dX1_agrees_92 : decode cX1_agrees 92 = .ok (.iload 4, 2) := by decide +kernel
theorem dX1_agrees_94 : decode cX1_agrees 94 = .ok (.iaload, 1) := by decide +kernel
theorem dX1_agrees_95 : decode cX1_agrees 95 = .ok (.isub, 1) := by decide +kernel
theorem dX1_agrees_96 : decode cX1_agrees 96 = .ok (.aload_n 1, 1) := by decide +kernel
theorem dX1_agrees_97 : decode cX1_agrees 97 = .ok (.getfield 65, 3) := by decide +kernel
theorem dX1_agrees_100 : decode cX1_agrees 100 = .ok (.iload_n 2, 1) := by decide +kernel
theorem dX1_agrees_101 : decode cX1_agrees 101 = .ok (.iaload, 1) := by decide +kernel
theorem dX1_agrees_102 : decode cX1_agrees 102 = .ok (.if_icmp .lt 7, 3) := by decide +kernel
theorem dX1_agrees_105 : decode cX1_agrees 105 = .ok (.iconst 1, 1) := by decide +kernel
theorem dX1_agrees_106 : decode cX1_agrees 106 = .ok (.goto 4, 3) := by decide +kernel
theorem dX1_agrees_109 : decode cX1_agrees 109 = .ok (.iconst 0, 1) := by decide +kernel
theorem dX1_agrees_110 : decode cX1_agrees 110 = .ok (.ireturn, 1) := by decide +kernel
theorem dX1_agrees_111 : decode cX1_agrees 111 = .ok (.aload_n 0, 1) := by decide +kernel
theorem dX1_agrees_112 : decode cX1_agrees 112 = .ok (.getfield 21, 3) := by decide +kernel
theorem dX1_agrees_115 : decode cX1_agrees 115 = .ok (.aload_n 0, 1) := by decide +kernel
theorem dX1_agrees_116 : decode cX1_agrees 116 = .ok (.getfield 25, 3) := by decide +kernel
theorem dX1_agrees_119 : decode cX1_agrees 119 = .ok (.ldc2_w 68, 3) := by decide +kernel
theorem dX1_agrees_122 : decode cX1_agrees 122 = .ok (.lxor, 1) := by decide +kernel
theorem dX1_agrees_123 : decode cX1_agrees 123 = .ok (.land, 1) := by decide +kernel
theorem dX1_agrees_124 : decode cX1_agrees 124 = .ok (.aload_n 1, 1) := by decide +kernel
theorem dX1_agrees_125 : decode cX1_agrees 125 = .ok (.getfield 70, 3) := by decide +kernel
theorem dX1_agrees_128 : decode cX1_agrees 128 = .ok (.iload_n 2, 1) := by decide +kernel
theorem dX1_agrees_129 : decode cX1_agrees 129 = .ok (.iaload, 1) := by decide +kernel
theorem dX1_agrees_130 : decode cX1_agrees 130 = .ok (.invokestatic 40, 3) := by decide +kernel
theorem dX1_agrees_133 : decode cX1_agrees 133 = .ok (.ireturn, 1) := by decide +kernel
theorem dX1_agrees_134 : decode cX1_agrees 134 = .ok (.iconst 1, 1) := by decide +kernel
theorem dX1_agrees_135 : decode cX1_agrees 135 = .ok (.ireturn, 1) := by decide +kernel
theorem dX1_agrees_136 : decode cX1_agrees 136 = .ok (.iconst 0, 1) := by decide +kernel
theorem dX1_agrees_137 : decode cX1_agrees 137 = .ok (.ireturn, 1) := by decide +kernel
theorem dX1_take_0 : decode cX1_take 0 = .ok (.aload_n 1, 1) := by decide +kernel
theorem dX1_take_1 : decode cX1_take 1 = .ok (.getfield 52, 3) := by decide +kernel
theorem dX1_take_4 : decode cX1_take 4 = .ok (.iload_n 2, 1) := by decide +kernel
theorem dX1_take_5 : decode cX1_take 5 = .ok (.iaload, 1) := by decide +kernel
theorem dX1_take_6 : decode cX1_take 6 = .ok (.istore_n 3, 1) := by decide +kernel
theorem dX1_take_7 : decode cX1_take 7 = .ok (.aload_n 1, 1) := by decide +kernel
theorem dX1_take_8 : decode cX1_take 8 = .ok (.getfield 65, 3) := by decide +kernel
theorem dX1_take_11 : decode cX1_take 11 = .ok (.iload_n 2, 1) := by decide +kernel
theorem dX1_take_12 : decode cX1_take 12 = .ok (.iaload, 1) := by decide +kernel
theorem dX1_take_13 : decode cX1_take 13 = .ok (.istore 4, 2) := by decide +kernel
theorem dX1_take_15 : decode cX1_take 15 = .ok (.iload_n 3, 1) := by decide +kernel
theorem dX1_take_16 : decode cX1_take 16 = .ok (.aload_n 1, 1) := by decide +kernel
theorem dX1_take_17 : decode cX1_take 17 = .ok (.getfield 55, 3) := by decide +kernel
theorem dX1_take_20 : decode cX1_take 20 = .ok (.iload_n 2, 1) := by decide +kernel
theorem dX1_take_21 : decode cX1_take 21 = .ok (.iaload, 1) := by decide +kernel
theorem dX1_take_22 : decode cX1_take 22 = .ok (.invokestatic 58, 3) := by decide +kernel
theorem dX1_take_25 : decode cX1_take 25 = .ok (.istore 5, 2) := by decide +kernel
theorem dX1_take_27 : decode cX1_take 27 = .ok (.aload_n 1, 1) := by decide +kernel
theorem dX1_take_28 : decode cX1_take 28 = .ok (.getfield 62, 3) := by decide +kernel
theorem dX1_take_31 : decode cX1_take 31 = .ok (.iload_n 2, 1) := by decide +kernel
theorem dX1_take_32 : decode cX1_take 32 = .ok (.iaload, 1) := by decide +kernel
theorem dX1_take_33 : decode cX1_take 33 = .ok (.tableswitch 185 0 5 #[39, 63, 84, 115, 130, 171], 39) := by decide +kernel
theorem dX1_take_72 : decode cX1_take 72 = .ok (.aload_n 0, 1) := by decide +kernel
theorem dX1_take_73 : decode cX1_take 73 = .ok (.dup, 1) := by decide +kernel
theorem dX1_take_74 : decode cX1_take 74 = .ok (.getfield 28, 3) := by decide +kernel
theorem dX1_take_77 : decode cX1_take 77 = .ok (.iconst 1, 1) := by decide +kernel
theorem dX1_take_78 : decode cX1_take 78 = .ok (.iload_n 3, 1) := by decide +kernel
theorem dX1_take_79 : decode cX1_take 79 = .ok (.ishl, 1) := by decide +kernel
theorem dX1_take_80 : decode cX1_take 80 = .ok (.ior, 1) := by decide +kernel
theorem dX1_take_81 : decode cX1_take 81 = .ok (.putfield 28, 3) := by decide +kernel
theorem dX1_take_84 : decode cX1_take 84 = .ok (.aload_n 0, 1) := by decide +kernel
theorem dX1_take_85 : decode cX1_take 85 = .ok (.getfield 9, 3) := by decide +kernel
theorem dX1_take_88 : decode cX1_take 88 = .ok (.iload 5, 2) := by decide +kernel
theorem dX1_take_90 : decode cX1_take 90 = .ok (.bipush 12, 2) := by decide +kernel
theorem dX1_take_92 : decode cX1_take 92 = .ok (.iastore, 1) := by decide +kernel
theorem dX1_take_93 : decode cX1_take 93 = .ok (.goto 125, 3) := by decide +kernel
theorem dX1_take_96 : decode cX1_take 96 = .ok (.aload_n 0, 1) := by decide +kernel
theorem dX1_take_97 : decode cX1_take 97 = .ok (.iload 5, 2) := by decide +kernel
theorem dX1_take_99 : decode cX1_take 99 = .ok (.iload_n 3, 1) := by decide +kernel
theorem dX1_take_100 : decode cX1_take 100 = .ok (.aload_n 1, 1) := by decide +kernel
theorem dX1_take_101 : decode cX1_take 101 = .ok (.getfield 70, 3) := by decide +kernel
theorem dX1_take_104 : decode cX1_take 104 = .ok (.iload_n 2, 1) := by decide +kernel
theorem dX1_take_105 : decode cX1_take 105 = .ok (.iaload, 1) := by decide +kernel
theorem dX1_take_106 : decode cX1_take 106 = .ok (.invokestatic 58, 3) := by decide +kernel
theorem dX1_take_109 : decode cX1_take 109 = .ok (.iload 4, 2) := by decide +kernel
theorem dX1_take_111 : decode cX1_take 111 = .ok (.invokevirtual 73, 3) := by decide +kernel
theorem dX1_take_114 : decode cX1_take 114 = .ok (.goto 104, 3) := by decide +kernel
theorem dX1_take_117 : decode cX1_take 117 = .ok (.aload_n 0, 1) := by decide +kernel
theorem dX1_take_118 : decode cX1_take 118 = .ok (.iload 5, 2) := by decide +kernel
theorem dX1_take_120 : decode cX1_take 120 = .ok (.iload_n 3, 1) := by decide +kernel
theorem dX1_take_121 : decode cX1_take 121 = .ok (.aload_n 1, 1) := by decide +kernel
theorem dX1_take_122 : decode cX1_take 122 = .ok (.getfield 70, 3) := by decide +kernel
theorem dX1_take_125 : decode cX1_take 125 = .ok (.iload_n 2, 1) := by decide +kernel
theorem dX1_take_126 : decode cX1_take 126 = .ok (.iaload, 1) := by decide +kernel
theorem dX1_take_127 : decode cX1_take 127 = .ok (.invokestatic 58, 3) := by decide +kernel
theorem dX1_take_130 : decode cX1_take 130 = .ok (.iload 4, 2) := by decide +kernel
theorem dX1_take_132 : decode cX1_take 132 = .ok (.invokevirtual 73, 3) := by decide +kernel
theorem dX1_take_135 : decode cX1_take 135 = .ok (.aload_n 0, 1) := by decide +kernel
theorem dX1_take_136 : decode cX1_take 136 = .ok (.getfield 18, 3) := by decide +kernel
theorem dX1_take_139 : decode cX1_take 139 = .ok (.iload_n 3, 1) := by decide +kernel
theorem dX1_take_140 : decode cX1_take 140 = .ok (.dup2, 1) := by decide +kernel
theorem dX1_take_141 : decode cX1_take 141 = .ok (.iaload, 1) := by decide +kernel
theorem dX1_take_142 : decode cX1_take 142 = .ok (.iconst 5, 1) := by decide +kernel
theorem dX1_take_143 : decode cX1_take 143 = .ok (.iadd, 1) := by decide +kernel
theorem dX1_take_144 : decode cX1_take 144 = .ok (.iastore, 1) := by decide +kernel
theorem dX1_take_145 : decode cX1_take 145 = .ok (.goto 73, 3) := by decide +kernel
theorem dX1_take_148 : decode cX1_take 148 = .ok (.aload_n 0, 1) := by decide +kernel
theorem dX1_take_149 : decode cX1_take 149 = .ok (.getfield 15, 3) := by decide +kernel
theorem dX1_take_152 : decode cX1_take 152 = .ok (.iload 5, 2) := by decide +kernel
theorem dX1_take_154 : decode cX1_take 154 = .ok (.dup2, 1) := by decide +kernel
theorem dX1_take_155 : decode cX1_take 155 = .ok (.iaload, 1) := by decide +kernel
theorem dX1_take_156 : decode cX1_take 156 = .ok (.iload 4, 2) := by decide +kernel
theorem dX1_take_158 : decode cX1_take 158 = .ok (.iadd, 1) := by decide +kernel
theorem dX1_take_159 : decode cX1_take 159 = .ok (.iastore, 1) := by decide +kernel
theorem dX1_take_160 : decode cX1_take 160 = .ok (.goto 58, 3) := by decide +kernel
theorem dX1_take_163 : decode cX1_take 163 = .ok (.aload_n 0, 1) := by decide +kernel
theorem dX1_take_164 : decode cX1_take 164 = .ok (.dup, 1) := by decide +kernel
theorem dX1_take_165 : decode cX1_take 165 = .ok (.getfield 25, 3) := by decide +kernel
theorem dX1_take_168 : decode cX1_take 168 = .ok (.lconst 1, 1) := by decide +kernel
theorem dX1_take_169 : decode cX1_take 169 = .ok (.aload_n 1, 1) := by decide +kernel
theorem dX1_take_170 : decode cX1_take 170 = .ok (.getfield 70, 3) := by decide +kernel
theorem dX1_take_173 : decode cX1_take 173 = .ok (.iload_n 2, 1) := by decide +kernel
theorem dX1_take_174 : decode cX1_take 174 = .ok (.iaload, 1) := by decide +kernel
theorem dX1_take_175 : decode cX1_take 175 = .ok (.lshl, 1) := by decide +kernel
theorem dX1_take_176 : decode cX1_take 176 = .ok (.lor, 1) := by decide +kernel
theorem dX1_take_177 : decode cX1_take 177 = .ok (.putfield 25, 3) := by decide +kernel
theorem dX1_take_180 : decode cX1_take 180 = .ok (.aload_n 0, 1) := by decide +kernel
theorem dX1_take_181 : decode cX1_take 181 = .ok (.getfield 15, 3) := by decide +kernel
theorem dX1_take_184 : decode cX1_take 184 = .ok (.iload 5, 2) := by decide +kernel
theorem dX1_take_186 : decode cX1_take 186 = .ok (.dup2, 1) := by decide +kernel
theorem dX1_take_187 : decode cX1_take 187 = .ok (.iaload, 1) := by decide +kernel
theorem dX1_take_188 : decode cX1_take 188 = .ok (.aload_n 1, 1) := by decide +kernel
theorem dX1_take_189 : decode cX1_take 189 = .ok (.getfield 65, 3) := by decide +kernel
theorem dX1_take_192 : decode cX1_take 192 = .ok (.aload_n 1, 1) := by decide +kernel
theorem dX1_take_193 : decode cX1_take 193 = .ok (.getfield 70, 3) := by decide +kernel
theorem dX1_take_196 : decode cX1_take 196 = .ok (.iload_n 2, 1) := by decide +kernel
theorem dX1_take_197 : decode cX1_take 197 = .ok (.iaload, 1) := by decide +kernel
theorem dX1_take_198 : decode cX1_take 198 = .ok (.iaload, 1) := by decide +kernel
theorem dX1_take_199 : decode cX1_take 199 = .ok (.isub, 1) := by decide +kernel
theorem dX1_take_200 : decode cX1_take 200 = .ok (.iastore, 1) := by decide +kernel
theorem dX1_take_201 : decode cX1_take 201 = .ok (.goto 17, 3) := by decide +kernel
theorem dX1_take_204 : decode cX1_take 204 = .ok (.aload_n 0, 1) := by decide +kernel
theorem dX1_take_205 : decode cX1_take 205 = .ok (.getfield 18, 3) := by decide +kernel
theorem dX1_take_208 : decode cX1_take 208 = .ok (.iload_n 3, 1) := by decide +kernel
theorem dX1_take_209 : decode cX1_take 209 = .ok (.dup2, 1) := by decide +kernel
theorem dX1_take_210 : decode cX1_take 210 = .ok (.iaload, 1) := by decide +kernel
theorem dX1_take_211 : decode cX1_take 211 = .ok (.iload 4, 2) := by decide +kernel
theorem dX1_take_213 : decode cX1_take 213 = .ok (.iadd, 1) := by decide +kernel
theorem dX1_take_214 : decode cX1_take 214 = .ok (.iastore, 1) := by decide +kernel
theorem dX1_take_215 : decode cX1_take 215 = .ok (.goto 3, 3) := by decide +kernel
theorem dX1_take_218 : decode cX1_take 218 = .ok (.return_, 1) := by decide +kernel
theorem dX1_move_0 : decode cX1_move 0 = .ok (.aload_n 0, 1) := by decide +kernel
theorem dX1_move_1 : decode cX1_move 1 = .ok (.getfield 9, 3) := by decide +kernel
theorem dX1_move_4 : decode cX1_move 4 = .ok (.iload_n 1, 1) := by decide +kernel
theorem dX1_move_5 : decode cX1_move 5 = .ok (.dup2, 1) := by decide +kernel
theorem dX1_move_6 : decode cX1_move 6 = .ok (.iaload, 1) := by decide +kernel
theorem dX1_move_7 : decode cX1_move 7 = .ok (.iload_n 3, 1) := by decide +kernel
theorem dX1_move_8 : decode cX1_move 8 = .ok (.isub, 1) := by decide +kernel
theorem dX1_move_9 : decode cX1_move 9 = .ok (.iastore, 1) := by decide +kernel
theorem dX1_move_10 : decode cX1_move 10 = .ok (.aload_n 0, 1) := by decide +kernel
theorem dX1_move_11 : decode cX1_move 11 = .ok (.getfield 9, 3) := by decide +kernel
theorem dX1_move_14 : decode cX1_move 14 = .ok (.iload_n 2, 1) := by decide +kernel
theorem dX1_move_15 : decode cX1_move 15 = .ok (.dup2, 1) := by decide +kernel
theorem dX1_move_16 : decode cX1_move 16 = .ok (.iaload, 1) := by decide +kernel
theorem dX1_move_17 : decode cX1_move 17 = .ok (.iload_n 3, 1) := by decide +kernel
theorem dX1_move_18 : decode cX1_move 18 = .ok (.iadd, 1) := by decide +kernel
theorem dX1_move_19 : decode cX1_move 19 = .ok (.iastore, 1) := by decide +kernel
theorem dX1_move_20 : decode cX1_move 20 = .ok (.return_, 1) := by decide +kernel
theorem dX2_init_0 : decode cX2_init 0 = .ok (.aload_n 0, 1) := by decide +kernel
theorem dX2_init_1 : decode cX2_init 1 = .ok (.invokespecial 3, 3) := by decide +kernel
theorem dX2_init_4 : decode cX2_init 4 = .ok (.aload_n 0, 1) := by decide +kernel
theorem dX2_init_5 : decode cX2_init 5 = .ok (.bipush 16, 2) := by decide +kernel
theorem dX2_init_7 : decode cX2_init 7 = .ok (.newarray .int, 2) := by decide +kernel
theorem dX2_init_9 : decode cX2_init 9 = .ok (.putfield 9, 3) := by decide +kernel
theorem dX2_init_12 : decode cX2_init 12 = .ok (.aload_n 0, 1) := by decide +kernel
theorem dX2_init_13 : decode cX2_init 13 = .ok (.bipush 16, 2) := by decide +kernel
theorem dX2_init_15 : decode cX2_init 15 = .ok (.newarray .int, 2) := by decide +kernel
theorem dX2_init_17 : decode cX2_init 17 = .ok (.putfield 15, 3) := by decide +kernel
theorem dX2_init_20 : decode cX2_init 20 = .ok (.aload_n 0, 1) := by decide +kernel
theorem dX2_init_21 : decode cX2_init 21 = .ok (.bipush 16, 2) := by decide +kernel
theorem dX2_init_23 : decode cX2_init 23 = .ok (.newarray .long, 2) := by decide +kernel
theorem dX2_init_25 : decode cX2_init 25 = .ok (.putfield 18, 3) := by decide +kernel
theorem dX2_init_28 : decode cX2_init 28 = .ok (.aload_n 0, 1) := by decide +kernel
theorem dX2_init_29 : decode cX2_init 29 = .ok (.sipush 960, 3) := by decide +kernel
theorem dX2_init_32 : decode cX2_init 32 = .ok (.newarray .byte, 2) := by decide +kernel
theorem dX2_init_34 : decode cX2_init 34 = .ok (.putfield 22, 3) := by decide +kernel
theorem dX2_init_37 : decode cX2_init 37 = .ok (.aload_n 0, 1) := by decide +kernel
theorem dX2_init_38 : decode cX2_init 38 = .ok (.iconst 0, 1) := by decide +kernel
theorem dX2_init_39 : decode cX2_init 39 = .ok (.putfield 26, 3) := by decide +kernel
theorem dX2_init_42 : decode cX2_init 42 = .ok (.aload_n 0, 1) := by decide +kernel
theorem dX2_init_43 : decode cX2_init 43 = .ok (.iconst 0, 1) := by decide +kernel
theorem dX2_init_44 : decode cX2_init 44 = .ok (.putfield 30, 3) := by decide +kernel
theorem dX2_init_47 : decode cX2_init 47 = .ok (.aload_n 0, 1) := by decide +kernel
theorem dX2_init_48 : decode cX2_init 48 = .ok (.iconst 0, 1) := by decide +kernel
theorem dX2_init_49 : decode cX2_init 49 = .ok (.putfield 33, 3) := by decide +kernel
theorem dX2_init_52 : decode cX2_init 52 = .ok (.return_, 1) := by decide +kernel
theorem dX2_has_0 : decode cX2_has 0 = .ok (.iload_n 1, 1) := by decide +kernel
theorem dX2_has_1 : decode cX2_has 1 = .ok (.ifCond .lt 15, 3) := by decide +kernel
theorem dX2_has_4 : decode cX2_has 4 = .ok (.iload_n 1, 1) := by decide +kernel
theorem dX2_has_5 : decode cX2_has 5 = .ok (.aload_n 0, 1) := by decide +kernel
theorem dX2_has_6 : decode cX2_has 6 = .ok (.getfield 26, 3) := by decide +kernel
theorem dX2_has_9 : decode cX2_has 9 = .ok (.if_icmp .ge 7, 3) := by decide +kernel
theorem dX2_has_12 : decode cX2_has 12 = .ok (.iconst 1, 1) := by decide +kernel
theorem dX2_has_13 : decode cX2_has 13 = .ok (.goto 4, 3) := by decide +kernel
theorem dX2_has_16 : decode cX2_has 16 = .ok (.iconst 0, 1) := by decide +kernel
theorem dX2_has_17 : decode cX2_has 17 = .ok (.ireturn, 1) := by decide +kernel
theorem dX2_alive_0 : decode cX2_alive 0 = .ok (.iload_n 1, 1) := by decide +kernel
theorem dX2_alive_1 : decode cX2_alive 1 = .ok (.ifCond .lt 26, 3) := by decide +kernel
theorem dX2_alive_4 : decode cX2_alive 4 = .ok (.iload_n 1, 1) := by decide +kernel
theorem dX2_alive_5 : decode cX2_alive 5 = .ok (.aload_n 0, 1) := by decide +kernel
theorem dX2_alive_6 : decode cX2_alive 6 = .ok (.getfield 26, 3) := by decide +kernel
theorem dX2_alive_9 : decode cX2_alive 9 = .ok (.if_icmp .ge 18, 3) := by decide +kernel
theorem dX2_alive_12 : decode cX2_alive 12 = .ok (.aload_n 0, 1) := by decide +kernel
theorem dX2_alive_13 : decode cX2_alive 13 = .ok (.getfield 30, 3) := by decide +kernel
theorem dX2_alive_16 : decode cX2_alive 16 = .ok (.iconst 1, 1) := by decide +kernel
theorem dX2_alive_17 : decode cX2_alive 17 = .ok (.iload_n 1, 1) := by decide +kernel
theorem dX2_alive_18 : decode cX2_alive 18 = .ok (.ishl, 1) := by decide +kernel
theorem dX2_alive_19 : decode cX2_alive 19 = .ok (.iand, 1) := by decide +kernel
theorem dX2_alive_20 : decode cX2_alive 20 = .ok (.ifCond .eq 7, 3) := by decide +kernel
theorem dX2_alive_23 : decode cX2_alive 23 = .ok (.iconst 1, 1) := by decide +kernel
theorem dX2_alive_24 : decode cX2_alive 24 = .ok (.goto 4, 3) := by decide +kernel
theorem dX2_alive_27 : decode cX2_alive 27 = .ok (.iconst 0, 1) := by decide +kernel
theorem dX2_alive_28 : decode cX2_alive 28 = .ok (.ireturn, 1) := by decide +kernel
theorem dX2_allAlive_0 : decode cX2_allAlive 0 = .ok (.iload_n 1, 1) := by decide +kernel
theorem dX2_allAlive_1 : decode cX2_allAlive 1 = .ok (.aload_n 0, 1) := by decide +kernel
theorem dX2_allAlive_2 : decode cX2_allAlive 2 = .ok (.getfield 30, 3) := by decide +kernel
theorem dX2_allAlive_5 : decode cX2_allAlive 5 = .ok (.iconst (-1), 1) := by decide +kernel
theorem dX2_allAlive_6 : decode cX2_allAlive 6 = .ok (.ixor, 1) := by decide +kernel
theorem dX2_allAlive_7 : decode cX2_allAlive 7 = .ok (.iand, 1) := by decide +kernel
theorem dX2_allAlive_8 : decode cX2_allAlive 8 = .ok (.ifCond .ne 7, 3) := by decide +kernel
theorem dX2_allAlive_11 : decode cX2_allAlive 11 = .ok (.iconst 1, 1) := by decide +kernel
theorem dX2_allAlive_12 : decode cX2_allAlive 12 = .ok (.goto 4, 3) := by decide +kernel
theorem dX2_allAlive_15 : decode cX2_allAlive 15 = .ok (.iconst 0, 1) := by decide +kernel
theorem dX2_allAlive_16 : decode cX2_allAlive 16 = .ok (.ireturn, 1) := by decide +kernel
theorem dX2_old_0 : decode cX2_old 0 = .ok (.iload_n 1, 1) := by decide +kernel
theorem dX2_old_1 : decode cX2_old 1 = .ok (.ifCond .lt 26, 3) := by decide +kernel
theorem dX2_old_4 : decode cX2_old 4 = .ok (.iload_n 1, 1) := by decide +kernel
theorem dX2_old_5 : decode cX2_old 5 = .ok (.aload_n 0, 1) := by decide +kernel
theorem dX2_old_6 : decode cX2_old 6 = .ok (.getfield 26, 3) := by decide +kernel
theorem dX2_old_9 : decode cX2_old 9 = .ok (.if_icmp .ge 18, 3) := by decide +kernel
theorem dX2_old_12 : decode cX2_old 12 = .ok (.aload_n 0, 1) := by decide +kernel
theorem dX2_old_13 : decode cX2_old 13 = .ok (.getfield 33, 3) := by decide +kernel
theorem dX2_old_16 : decode cX2_old 16 = .ok (.iconst 1, 1) := by decide +kernel
theorem dX2_old_17 : decode cX2_old 17 = .ok (.iload_n 1, 1) := by decide +kernel
theorem dX2_old_18 : decode cX2_old 18 = .ok (.ishl, 1) := by decide +kernel
theorem dX2_old_19 : decode cX2_old 19 = .ok (.iand, 1) := by decide +kernel
theorem dX2_old_20 : decode cX2_old 20 = .ok (.ifCond .eq 7, 3) := by decide +kernel
theorem dX2_old_23 : decode cX2_old 23 = .ok (.iconst 1, 1) := by decide +kernel
theorem dX2_old_24 : decode cX2_old 24 = .ok (.goto 4, 3) := by decide +kernel
theorem dX2_old_27 : decode cX2_old 27 = .ok (.iconst 0, 1) := by decide +kernel
theorem dX2_old_28 : decode cX2_old 28 = .ok (.ireturn, 1) := by decide +kernel
theorem dX2_join_0 : decode cX2_join 0 = .ok (.aload_n 0, 1) := by decide +kernel
theorem dX2_join_1 : decode cX2_join 1 = .ok (.getfield 9, 3) := by decide +kernel
theorem dX2_join_4 : decode cX2_join 4 = .ok (.aload_n 0, 1) := by decide +kernel
theorem dX2_join_5 : decode cX2_join 5 = .ok (.getfield 26, 3) := by decide +kernel
theorem dX2_join_8 : decode cX2_join 8 = .ok (.iload_n 1, 1) := by decide +kernel
theorem dX2_join_9 : decode cX2_join 9 = .ok (.iastore, 1) := by decide +kernel
theorem dX2_join_10 : decode cX2_join 10 = .ok (.aload_n 0, 1) := by decide +kernel
theorem dX2_join_11 : decode cX2_join 11 = .ok (.dup, 1) := by decide +kernel
theorem dX2_join_12 : decode cX2_join 12 = .ok (.getfield 30, 3) := by decide +kernel
theorem dX2_join_15 : decode cX2_join 15 = .ok (.iconst 1, 1) := by decide +kernel
theorem dX2_join_16 : decode cX2_join 16 = .ok (.aload_n 0, 1) := by decide +kernel
theorem dX2_join_17 : decode cX2_join 17 = .ok (.getfield 26, 3) := by decide +kernel
theorem dX2_join_20 : decode cX2_join 20 = .ok (.ishl, 1) := by decide +kernel
theorem dX2_join_21 : decode cX2_join 21 = .ok (.ior, 1) := by decide +kernel
theorem dX2_join_22 : decode cX2_join 22 = .ok (.putfield 30, 3) := by decide +kernel
theorem dX2_join_25 : decode cX2_join 25 = .ok (.iload_n 1, 1) := by decide +kernel
theorem dX2_join_26 : decode cX2_join 26 = .ok (.bipush 40, 2) := by decide +kernel
theorem dX2_join_28 : decode cX2_join 28 = .ok (.if_icmp .lt 18, 3) := by decide +kernel
theorem dX2_join_31 : decode cX2_join 31 = .ok (.aload_n 0, 1) := by decide +kernel
theorem dX2_join_32 : decode cX2_join 32 = .ok (.dup, 1) := by decide +kernel
theorem dX2_join_33 : decode cX2_join 33 = .ok (.getfield 33, 3) := by decide +kernel
theorem dX2_join_36 : decode cX2_join 36 = .ok (.iconst 1, 1) := by decide +kernel
theorem dX2_join_37 : decode cX2_join 37 = .ok (.aload_n 0, 1) := by decide +kernel
theorem dX2_join_38 : decode cX2_join 38 = .ok (.getfield 26, 3) := by decide +kernel
theorem dX2_join_41 : decode cX2_join 41 = .ok (.ishl, 1) := by decide +kernel
theorem dX2_join_42 : decode cX2_join 42 = .ok (.ior, 1) := by decide +kernel
theorem dX2_join_43 : decode cX2_join 43 = .ok (.putfield 33, 3) := by decide +kernel
theorem dX2_join_46 : decode cX2_join 46 = .ok (.aload_n 0, 1) := by decide +kernel
theorem dX2_join_47 : decode cX2_join 47 = .ok (.dup, 1) := by decide +kernel
theorem dX2_join_48 : decode cX2_join 48 = .ok (.getfield 26, 3) := by decide +kernel
theorem dX2_join_51 : decode cX2_join 51 = .ok (.dup_x1, 1) := by decide +kernel
theorem dX2_join_52 : decode cX2_join 52 = .ok (.iconst 1, 1) := by decide +kernel
theorem dX2_join_53 : decode cX2_join 53 = .ok (.iadd, 1) := by decide +kernel
theorem dX2_join_54 : decode cX2_join 54 = .ok (.putfield 26, 3) := by decide +kernel
theorem dX2_join_57 : decode cX2_join 57 = .ok (.ireturn, 1) := by decide +kernel
theorem dX2_grow_0 : decode cX2_grow 0 = .ok (.iconst 0, 1) := by decide +kernel
theorem dX2_grow_1 : decode cX2_grow 1 = .ok (.istore_n 2, 1) := by decide +kernel
theorem dX2_grow_2 : decode cX2_grow 2 = .ok (.iload_n 2, 1) := by decide +kernel
theorem dX2_grow_3 : decode cX2_grow 3 = .ok (.aload_n 0, 1) := by decide +kernel
theorem dX2_grow_4 : decode cX2_grow 4 = .ok (.getfield 26, 3) := by decide +kernel
theorem dX2_grow_7 : decode cX2_grow 7 = .ok (.if_icmp .ge 53, 3) := by decide +kernel
theorem dX2_grow_10 : decode cX2_grow 10 = .ok (.aload_n 0, 1) := by decide +kernel
theorem dX2_grow_11 : decode cX2_grow 11 = .ok (.iload_n 2, 1) := by decide +kernel
theorem dX2_grow_12 : decode cX2_grow 12 = .ok (.invokevirtual 36, 3) := by decide +kernel
theorem dX2_grow_15 : decode cX2_grow 15 = .ok (.ifCond .ne 6, 3) := by decide +kernel
theorem dX2_grow_18 : decode cX2_grow 18 = .ok (.goto 36, 3) := by decide +kernel
theorem dX2_grow_21 : decode cX2_grow 21 = .ok (.aload_n 0, 1) := by decide +kernel
theorem dX2_grow_22 : decode cX2_grow 22 = .ok (.getfield 9, 3) := by decide +kernel
theorem dX2_grow_25 : decode cX2_grow 25 = .ok (.iload_n 2, 1) := by decide +kernel
theorem dX2_grow_26 : decode cX2_grow 26 = .ok (.dup2, 1) := by decide +kernel
theorem dX2_grow_27 : decode cX2_grow 27 = .ok (.iaload, 1) := by decide +kernel
theorem dX2_grow_28 : decode cX2_grow 28 = .ok (.iload_n 1, 1) := by decide +kernel
theorem dX2_grow_29 : decode cX2_grow 29 = .ok (.iadd, 1) := by decide +kernel
theorem dX2_grow_30 : decode cX2_grow 30 = .ok (.iastore, 1) := by decide +kernel
theorem dX2_grow_31 : decode cX2_grow 31 = .ok (.aload_n 0, 1) := by decide +kernel
theorem dX2_grow_32 : decode cX2_grow 32 = .ok (.getfield 9, 3) := by decide +kernel
theorem dX2_grow_35 : decode cX2_grow 35 = .ok (.iload_n 2, 1) := by decide +kernel
theorem dX2_grow_36 : decode cX2_grow 36 = .ok (.iaload, 1) := by decide +kernel
theorem dX2_grow_37 : decode cX2_grow 37 = .ok (.bipush 40, 2) := by decide +kernel
theorem dX2_grow_39 : decode cX2_grow 39 = .ok (.if_icmp .lt 15, 3) := by decide +kernel
theorem dX2_grow_42 : decode cX2_grow 42 = .ok (.aload_n 0, 1) := by decide +kernel
theorem dX2_grow_43 : decode cX2_grow 43 = .ok (.dup, 1) := by decide +kernel
theorem dX2_grow_44 : decode cX2_grow 44 = .ok (.getfield 33, 3) := by decide +kernel
theorem dX2_grow_47 : decode cX2_grow 47 = .ok (.iconst 1, 1) := by decide +kernel
theorem dX2_grow_48 : decode cX2_grow 48 = .ok (.iload_n 2, 1) := by decide +kernel
theorem dX2_grow_49 : decode cX2_grow 49 = .ok (.ishl, 1) := by decide +kernel
theorem dX2_grow_50 : decode cX2_grow 50 = .ok (.ior, 1) := by decide +kernel
theorem dX2_grow_51 : decode cX2_grow 51 = .ok (.putfield 33, 3) := by decide +kernel
theorem dX2_grow_54 : decode cX2_grow 54 = .ok (.iinc 2 1, 3) := by decide +kernel
theorem dX2_grow_57 : decode cX2_grow 57 = .ok (.goto (-55), 3) := by decide +kernel
theorem dX2_grow_60 : decode cX2_grow 60 = .ok (.return_, 1) := by decide +kernel
theorem dX2_bury_0 : decode cX2_bury 0 = .ok (.aload_n 0, 1) := by decide +kernel
theorem dX2_bury_1 : decode cX2_bury 1 = .ok (.dup, 1) := by decide +kernel
theorem dX2_bury_2 : decode cX2_bury 2 = .ok (.getfield 30, 3) := by decide +kernel
theorem dX2_bury_5 : decode cX2_bury 5 = .ok (.iconst 1, 1) := by decide +kernel
theorem dX2_bury_6 : decode cX2_bury 6 = .ok (.iload_n 1, 1) := by decide +kernel
theorem dX2_bury_7 : decode cX2_bury 7 = .ok (.ishl, 1) := by decide +kernel
theorem dX2_bury_8 : decode cX2_bury 8 = .ok (.iconst (-1), 1) := by decide +kernel
theorem dX2_bury_9 : decode cX2_bury 9 = .ok (.ixor, 1) := by decide +kernel
theorem dX2_bury_10 : decode cX2_bury 10 = .ok (.iand, 1) := by decide +kernel
theorem dX2_bury_11 : decode cX2_bury 11 = .ok (.putfield 30, 3) := by decide +kernel
theorem dX2_bury_14 : decode cX2_bury 14 = .ok (.aload_n 0, 1) := by decide +kernel
theorem dX2_bury_15 : decode cX2_bury 15 = .ok (.dup, 1) := by decide +kernel
theorem dX2_bury_16 : decode cX2_bury 16 = .ok (.getfield 33, 3) := by decide +kernel
theorem dX2_bury_19 : decode cX2_bury 19 = .ok (.iconst 1, 1) := by decide +kernel
theorem dX2_bury_20 : decode cX2_bury 20 = .ok (.iload_n 1, 1) := by decide +kernel
theorem dX2_bury_21 : decode cX2_bury 21 = .ok (.ishl, 1) := by decide +kernel
theorem dX2_bury_22 : decode cX2_bury 22 = .ok (.iconst (-1), 1) := by decide +kernel
theorem dX2_bury_23 : decode cX2_bury 23 = .ok (.ixor, 1) := by decide +kernel
theorem dX2_bury_24 : decode cX2_bury 24 = .ok (.iand, 1) := by decide +kernel
theorem dX2_bury_25 : decode cX2_bury 25 = .ok (.putfield 33, 3) := by decide +kernel
theorem dX2_bury_28 : decode cX2_bury 28 = .ok (.aload_n 0, 1) := by decide +kernel
theorem dX2_bury_29 : decode cX2_bury 29 = .ok (.getfield 18, 3) := by decide +kernel
theorem dX2_bury_32 : decode cX2_bury 32 = .ok (.iload_n 1, 1) := by decide +kernel
theorem dX2_bury_33 : decode cX2_bury 33 = .ok (.lconst 0, 1) := by decide +kernel
theorem dX2_bury_34 : decode cX2_bury 34 = .ok (.lastore, 1) := by decide +kernel
theorem dX2_bury_35 : decode cX2_bury 35 = .ok (.return_, 1) := by decide +kernel
theorem dX2_oldOnes_0 : decode cX2_oldOnes 0 = .ok (.aload_n 0, 1) := by decide +kernel
theorem dX2_oldOnes_1 : decode cX2_oldOnes 1 = .ok (.getfield 33, 3) := by decide +kernel
theorem dX2_oldOnes_4 : decode cX2_oldOnes 4 = .ok (.invokestatic 40, 3) := by decide +kernel
theorem dX2_oldOnes_7 : decode cX2_oldOnes 7 = .ok (.ireturn, 1) := by decide +kernel
theorem dX2_heard_0 : decode cX2_heard 0 = .ok (.iload_n 1, 1) := by decide +kernel
theorem dX2_heard_1 : decode cX2_heard 1 = .ok (.ifCond .lt 28, 3) := by decide +kernel
theorem dX2_heard_4 : decode cX2_heard 4 = .ok (.iload_n 1, 1) := by decide +kernel
theorem dX2_heard_5 : decode cX2_heard 5 = .ok (.aload_n 0, 1) := by decide +kernel
theorem dX2_heard_6 : decode cX2_heard 6 = .ok (.getfield 26, 3) := by decide +kernel
theorem dX2_heard_9 : decode cX2_heard 9 = .ok (.if_icmp .ge 20, 3) := by decide +kernel
theorem dX2_heard_12 : decode cX2_heard 12 = .ok (.aload_n 0, 1) := by decide +kernel
theorem dX2_heard_13 : decode cX2_heard 13 = .ok (.getfield 18, 3) := by decide +kernel
theorem dX2_heard_16 : decode cX2_heard 16 = .ok (.iload_n 1, 1) := by decide +kernel
theorem dX2_heard_17 : decode cX2_heard 17 = .ok (.laload, 1) := by decide +kernel
theorem dX2_heard_18 : decode cX2_heard 18 = .ok (.iload_n 2, 1) := by decide +kernel
theorem dX2_heard_19 : decode cX2_heard 19 = .ok (.invokestatic 46, 3) := by decide +kernel
theorem dX2_heard_22 : decode cX2_heard 22 = .ok (.ifCond .eq 7, 3) := by decide +kernel
theorem dX2_heard_25 : decode cX2_heard 25 = .ok (.iconst 1, 1) := by decide +kernel
theorem dX2_heard_26 : decode cX2_heard 26 = .ok (.goto 4, 3) := by decide +kernel
theorem dX2_heard_29 : decode cX2_heard 29 = .ok (.iconst 0, 1) := by decide +kernel
theorem dX2_heard_30 : decode cX2_heard 30 = .ok (.ireturn, 1) := by decide +kernel
theorem dX2_depthOf_0 : decode cX2_depthOf 0 = .ok (.aload_n 0, 1) := by decide +kernel
theorem dX2_depthOf_1 : decode cX2_depthOf 1 = .ok (.getfield 22, 3) := by decide +kernel
theorem dX2_depthOf_4 : decode cX2_depthOf 4 = .ok (.iload_n 1, 1) := by decide +kernel
theorem dX2_depthOf_5 : decode cX2_depthOf 5 = .ok (.bipush 60, 2) := by decide +kernel
theorem dX2_depthOf_7 : decode cX2_depthOf 7 = .ok (.imul, 1) := by decide +kernel
theorem dX2_depthOf_8 : decode cX2_depthOf 8 = .ok (.iload_n 2, 1) := by decide +kernel
theorem dX2_depthOf_9 : decode cX2_depthOf 9 = .ok (.iadd, 1) := by decide +kernel
theorem dX2_depthOf_10 : decode cX2_depthOf 10 = .ok (.baload, 1) := by decide +kernel
theorem dX2_depthOf_11 : decode cX2_depthOf 11 = .ok (.ireturn, 1) := by decide +kernel
theorem dX2_hear_0 : decode cX2_hear 0 = .ok (.aload_n 0, 1) := by decide +kernel
theorem dX2_hear_1 : decode cX2_hear 1 = .ok (.iload_n 1, 1) := by decide +kernel
theorem dX2_hear_2 : decode cX2_hear 2 = .ok (.iload_n 2, 1) := by decide +kernel
theorem dX2_hear_3 : decode cX2_hear 3 = .ok (.invokevirtual 50, 3) := by decide +kernel
theorem dX2_hear_6 : decode cX2_hear 6 = .ok (.ifCond .eq 14, 3) := by decide +kernel
theorem dX2_hear_9 : decode cX2_hear 9 = .ok (.aload_n 0, 1) := by decide +kernel
theorem dX2_hear_10 : decode cX2_hear 10 = .ok (.iload_n 1, 1) := by decide +kernel
theorem dX2_hear_11 : decode cX2_hear 11 = .ok (.iload_n 2, 1) := by decide +kernel
theorem dX2_hear_12 : decode cX2_hear 12 = .ok (.invokevirtual 54, 3) := by decide +kernel
theorem dX2_hear_15 : decode cX2_hear 15 = .ok (.iload_n 3, 1) := by decide +kernel
theorem dX2_hear_16 : decode cX2_hear 16 = .ok (.if_icmp .gt 4, 3) := by decide +kernel
theorem dX2_hear_19 : decode cX2_hear 19 = .ok (.return_, 1) := by decide +kernel
theorem dX2_hear_20 : decode cX2_hear 20 = .ok (.aload_n 0, 1) := by decide +kernel
theorem dX2_hear_21 : decode cX2_hear 21 = .ok (.getfield 18, 3) := by decide +kernel
theorem dX2_hear_24 : decode cX2_hear 24 = .ok (.iload_n 1, 1) := by decide +kernel
theorem dX2_hear_25 : decode cX2_hear 25 = .ok (.dup2, 1) := by decide +kernel
theorem dX2_hear_26 : decode cX2_hear 26 = .ok (.laload, 1) := by decide +kernel
theorem dX2_hear_27 : decode cX2_hear 27 = .ok (.lconst 1, 1) := by decide +kernel
theorem dX2_hear_28 : decode cX2_hear 28 = .ok (.iload_n 2, 1) := by decide +kernel
theorem dX2_hear_29 : decode cX2_hear 29 = .ok (.lshl, 1) := by decide +kernel
theorem dX2_hear_30 : decode cX2_hear 30 = .ok (.lor, 1) := by decide +kernel
theorem dX2_hear_31 : decode cX2_hear 31 = .ok (.lastore, 1) := by decide +kernel
theorem dX2_hear_32 : decode cX2_hear 32 = .ok (.aload_n 0, 1) := by decide +kernel
theorem dX2_hear_33 : decode cX2_hear 33 = .ok (.getfield 22, 3) := by decide +kernel
theorem dX2_hear_36 : decode cX2_hear 36 = .ok (.iload_n 1, 1) := by decide +kernel
theorem dX2_hear_37 : decode cX2_hear 37 = .ok (.bipush 60, 2) := by decide +kernel
theorem dX2_hear_39 : decode cX2_hear 39 = .ok (.imul, 1) := by decide +kernel
theorem dX2_hear_40 : decode cX2_hear 40 = .ok (.iload_n 2, 1) := by decide +kernel
theorem dX2_hear_41 : decode cX2_hear 41 = .ok (.iadd, 1) := by decide +kernel
theorem dX2_hear_42 : decode cX2_hear 42 = .ok (.iload_n 3, 1) := by decide +kernel
theorem dX2_hear_43 : decode cX2_hear 43 = .ok (.i2b, 1) := by decide +kernel
theorem dX2_hear_44 : decode cX2_hear 44 = .ok (.bastore, 1) := by decide +kernel
theorem dX2_hear_45 : decode cX2_hear 45 = .ok (.return_, 1) := by decide +kernel
theorem dX2_knownToAny_0 : decode cX2_knownToAny 0 = .ok (.lconst 0, 1) := by decide +kernel
theorem dX2_knownToAny_1 : decode cX2_knownToAny 1 = .ok (.lstore_n 1, 1) := by decide +kernel
theorem dX2_knownToAny_2 : decode cX2_knownToAny 2 = .ok (.iconst 0, 1) := by decide +kernel
theorem dX2_knownToAny_3 : decode cX2_knownToAny 3 = .ok (.istore_n 3, 1) := by decide +kernel
theorem dX2_knownToAny_4 : decode cX2_knownToAny 4 = .ok (.iload_n 3, 1) := by decide +kernel
theorem dX2_knownToAny_5 : decode cX2_knownToAny 5 = .ok (.aload_n 0, 1) := by decide +kernel
theorem dX2_knownToAny_6 : decode cX2_knownToAny 6 = .ok (.getfield 26, 3) := by decide +kernel
theorem dX2_knownToAny_9 : decode cX2_knownToAny 9 = .ok (.if_icmp .ge 18, 3) := by decide +kernel
theorem dX2_knownToAny_12 : decode cX2_knownToAny 12 = .ok (.lload_n 1, 1) := by decide +kernel
theorem dX2_knownToAny_13 : decode cX2_knownToAny 13 = .ok (.aload_n 0, 1) := by decide +kernel
theorem dX2_knownToAny_14 : decode cX2_knownToAny 14 = .ok (.getfield 18, 3) := by decide +kernel
theorem dX2_knownToAny_17 : decode cX2_knownToAny 17 = .ok (.iload_n 3, 1) := by decide +kernel
theorem dX2_knownToAny_18 : decode cX2_knownToAny 18 = .ok (.laload, 1) := by decide +kernel
theorem dX2_knownToAny_19 : decode cX2_knownToAny 19 = .ok (.lor, 1) := by decide +kernel
theorem dX2_knownToAny_20 : decode cX2_knownToAny 20 = .ok (.lstore_n 1, 1) := by decide +kernel
theorem dX2_knownToAny_21 : decode cX2_knownToAny 21 = .ok (.iinc 3 1, 3) := by decide +kernel
theorem dX2_knownToAny_24 : decode cX2_knownToAny 24 = .ok (.goto (-20), 3) := by decide +kernel
theorem dX2_knownToAny_27 : decode cX2_knownToAny 27 = .ok (.lload_n 1, 1) := by decide +kernel
theorem dX2_knownToAny_28 : decode cX2_knownToAny 28 = .ok (.lreturn, 1) := by decide +kernel
theorem dX2_knownToAllLiving_0 : decode cX2_knownToAllLiving 0 = .ok (.ldc2_w 58, 3) := by decide +kernel
theorem dX2_knownToAllLiving_3 : decode cX2_knownToAllLiving 3 = .ok (.lstore_n 1, 1) := by decide +kernel
theorem dX2_knownToAllLiving_4 : decode cX2_knownToAllLiving 4 = .ok (.iconst 0, 1) := by decide +kernel
theorem dX2_knownToAllLiving_5 : decode cX2_knownToAllLiving 5 = .ok (.istore_n 3, 1) := by decide +kernel
theorem dX2_knownToAllLiving_6 : decode cX2_knownToAllLiving 6 = .ok (.iload_n 3, 1) := by decide +kernel
theorem dX2_knownToAllLiving_7 : decode cX2_knownToAllLiving 7 = .ok (.aload_n 0, 1) := by decide +kernel
theorem dX2_knownToAllLiving_8 : decode cX2_knownToAllLiving 8 = .ok (.getfield 26, 3) := by decide +kernel
theorem dX2_knownToAllLiving_11 : decode cX2_knownToAllLiving 11 = .ok (.if_icmp .ge 26, 3) := by decide +kernel
theorem dX2_knownToAllLiving_14 : decode cX2_knownToAllLiving 14 = .ok (.aload_n 0, 1) := by decide +kernel
theorem dX2_knownToAllLiving_15 : decode cX2_knownToAllLiving 15 = .ok (.iload_n 3, 1) := by decide +kernel
theorem dX2_knownToAllLiving_16 : decode cX2_knownToAllLiving 16 = .ok (.invokevirtual 36, 3) := by decide +kernel
theorem dX2_knownToAllLiving_19 : decode cX2_knownToAllLiving 19 = .ok (.ifCond .eq 12, 3) := by decide +kernel
theorem dX2_knownToAllLiving_22 : decode cX2_knownToAllLiving 22 = .ok (.lload_n 1, 1) := by decide +kernel
theorem dX2_knownToAllLiving_23 : decode cX2_knownToAllLiving 23 = .ok (.aload_n 0, 1) := by decide +kernel
theorem dX2_knownToAllLiving_24 : decode cX2_knownToAllLiving 24 = .ok (.getfield 18, 3) := by decide +kernel
theorem dX2_knownToAllLiving_27 : decode cX2_knownToAllLiving 27 = .ok (.iload_n 3, 1) := by decide +kernel
theorem dX2_knownToAllLiving_28 : decode cX2_knownToAllLiving 28 = .ok (.laload, 1) := by decide +kernel
theorem dX2_knownToAllLiving_29 : decode cX2_knownToAllLiving 29 = .ok (.land, 1) := by decide +kernel
theorem dX2_knownToAllLiving_30 : decode cX2_knownToAllLiving 30 = .ok (.lstore_n 1, 1) := by decide +kernel
theorem dX2_knownToAllLiving_31 : decode cX2_knownToAllLiving 31 = .ok (.iinc 3 1, 3) := by decide +kernel
theorem dX2_knownToAllLiving_34 : decode cX2_knownToAllLiving 34 = .ok (.goto (-28), 3) := by decide +kernel
theorem dX2_knownToAllLiving_37 : decode cX2_knownToAllLiving 37 = .ok (.lload_n 1, 1) := by decide +kernel
theorem dX2_knownToAllLiving_38 : decode cX2_knownToAllLiving 38 = .ok (.lreturn, 1) := by decide +kernel
theorem dX2_knownToAllOld_0 : decode cX2_knownToAllOld 0 = .ok (.aload_n 0, 1) := by decide +kernel
theorem dX2_knownToAllOld_1 : decode cX2_knownToAllOld 1 = .ok (.getfield 33, 3) := by decide +kernel
theorem dX2_knownToAllOld_4 : decode cX2_knownToAllOld 4 = .ok (.ifCond .ne 5, 3) := by decide +kernel
theorem dX2_knownToAllOld_7 : decode cX2_knownToAllOld 7 = .ok (.lconst 0, 1) := by decide +kernel
theorem dX2_knownToAllOld_8 : decode cX2_knownToAllOld 8 = .ok (.lreturn, 1) := by decide +kernel
theorem dX2_knownToAllOld_9 : decode cX2_knownToAllOld 9 = .ok (.ldc2_w 58, 3) := by decide +kernel
theorem dX2_knownToAllOld_12 : decode cX2_knownToAllOld 12 = .ok (.lstore_n 1, 1) := by decide +kernel
theorem dX2_knownToAllOld_13 : decode cX2_knownToAllOld 13 = .ok (.iconst 0, 1) := by decide +kernel
theorem dX2_knownToAllOld_14 : decode cX2_knownToAllOld 14 = .ok (.istore_n 3, 1) := by decide +kernel
theorem dX2_knownToAllOld_15 : decode cX2_knownToAllOld 15 = .ok (.iload_n 3, 1) := by decide +kernel
theorem dX2_knownToAllOld_16 : decode cX2_knownToAllOld 16 = .ok (.aload_n 0, 1) := by decide +kernel
theorem dX2_knownToAllOld_17 : decode cX2_knownToAllOld 17 = .ok (.getfield 26, 3) := by decide +kernel
theorem dX2_knownToAllOld_20 : decode cX2_knownToAllOld 20 = .ok (.if_icmp .ge 26, 3) := by decide +kernel
theorem dX2_knownToAllOld_23 : decode cX2_knownToAllOld 23 = .ok (.aload_n 0, 1) := by decide +kernel
theorem dX2_knownToAllOld_24 : decode cX2_knownToAllOld 24 = .ok (.iload_n 3, 1) := by decide +kernel
theorem dX2_knownToAllOld_25 : decode cX2_knownToAllOld 25 = .ok (.invokevirtual 60, 3) := by decide +kernel
theorem dX2_knownToAllOld_28 : decode cX2_knownToAllOld 28 = .ok (.ifCond .eq 12, 3) := by decide +kernel
theorem dX2_knownToAllOld_31 : decode cX2_knownToAllOld 31 = .ok (.lload_n 1, 1) := by decide +kernel
theorem dX2_knownToAllOld_32 : decode cX2_knownToAllOld 32 = .ok (.aload_n 0, 1) := by decide +kernel
theorem dX2_knownToAllOld_33 : decode cX2_knownToAllOld 33 = .ok (.getfield 18, 3) := by decide +kernel
theorem dX2_knownToAllOld_36 : decode cX2_knownToAllOld 36 = .ok (.iload_n 3, 1) := by decide +kernel
theorem dX2_knownToAllOld_37 : decode cX2_knownToAllOld 37 = .ok (.laload, 1) := by decide +kernel
theorem dX2_knownToAllOld_38 : decode cX2_knownToAllOld 38 = .ok (.land, 1) := by decide +kernel
theorem dX2_knownToAllOld_39 : decode cX2_knownToAllOld 39 = .ok (.lstore_n 1, 1) := by decide +kernel
theorem dX2_knownToAllOld_40 : decode cX2_knownToAllOld 40 = .ok (.iinc 3 1, 3) := by decide +kernel
theorem dX2_knownToAllOld_43 : decode cX2_knownToAllOld 43 = .ok (.goto (-28), 3) := by decide +kernel
theorem dX2_knownToAllOld_46 : decode cX2_knownToAllOld 46 = .ok (.lload_n 1, 1) := by decide +kernel
theorem dX2_knownToAllOld_47 : decode cX2_knownToAllOld 47 = .ok (.lreturn, 1) := by decide +kernel
theorem dX2_knowersOf_0 : decode cX2_knowersOf 0 = .ok (.iconst 0, 1) := by decide +kernel
theorem dX2_knowersOf_1 : decode cX2_knowersOf 1 = .ok (.istore_n 3, 1) := by decide +kernel
theorem dX2_knowersOf_2 : decode cX2_knowersOf 2 = .ok (.iconst 0, 1) := by decide +kernel
theorem dX2_knowersOf_3 : decode cX2_knowersOf 3 = .ok (.istore 4, 2) := by decide +kernel
theorem dX2_knowersOf_5 : decode cX2_knowersOf 5 = .ok (.iload 4, 2) := by decide +kernel
theorem dX2_knowersOf_7 : decode cX2_knowersOf 7 = .ok (.aload_n 0, 1) := by decide +kernel
theorem dX2_knowersOf_8 : decode cX2_knowersOf 8 = .ok (.getfield 26, 3) := by decide +kernel
theorem dX2_knowersOf_11 : decode cX2_knowersOf 11 = .ok (.if_icmp .ge 39, 3) := by decide +kernel
theorem dX2_knowersOf_14 : decode cX2_knowersOf 14 = .ok (.aload_n 0, 1) := by decide +kernel
theorem dX2_knowersOf_15 : decode cX2_knowersOf 15 = .ok (.iload 4, 2) := by decide +kernel
theorem dX2_knowersOf_17 : decode cX2_knowersOf 17 = .ok (.invokevirtual 36, 3) := by decide +kernel
theorem dX2_knowersOf_20 : decode cX2_knowersOf 20 = .ok (.ifCond .eq 24, 3) := by decide +kernel
theorem dX2_knowersOf_23 : decode cX2_knowersOf 23 = .ok (.lload_n 1, 1) := by decide +kernel
theorem dX2_knowersOf_24 : decode cX2_knowersOf 24 = .ok (.aload_n 0, 1) := by decide +kernel
theorem dX2_knowersOf_25 : decode cX2_knowersOf 25 = .ok (.getfield 18, 3) := by decide +kernel
theorem dX2_knowersOf_28 : decode cX2_knowersOf 28 = .ok (.iload 4, 2) := by decide +kernel
theorem dX2_knowersOf_30 : decode cX2_knowersOf 30 = .ok (.laload, 1) := by decide +kernel
theorem dX2_knowersOf_31 : decode cX2_knowersOf 31 = .ok (.ldc2_w 58, 3) := by decide +kernel
theorem dX2_knowersOf_34 : decode cX2_knowersOf 34 = .ok (.lxor, 1) := by decide +kernel
theorem dX2_knowersOf_35 : decode cX2_knowersOf 35 = .ok (.land, 1) := by decide +kernel
theorem dX2_knowersOf_36 : decode cX2_knowersOf 36 = .ok (.lconst 0, 1) := by decide +kernel
theorem dX2_knowersOf_37 : decode cX2_knowersOf 37 = .ok (.lcmp, 1) := by decide +kernel
theorem dX2_knowersOf_38 : decode cX2_knowersOf 38 = .ok (.ifCond .ne 6, 3) := by decide +kernel
theorem dX2_knowersOf_41 : decode cX2_knowersOf 41 = .ok (.iinc 3 1, 3) := by decide +kernel
theorem dX2_knowersOf_44 : decode cX2_knowersOf 44 = .ok (.iinc 4 1, 3) := by decide +kernel
theorem dX2_knowersOf_47 : decode cX2_knowersOf 47 = .ok (.goto (-42), 3) := by decide +kernel
theorem dX2_knowersOf_50 : decode cX2_knowersOf 50 = .ok (.iload_n 3, 1) := by decide +kernel
theorem dX2_knowersOf_51 : decode cX2_knowersOf 51 = .ok (.ireturn, 1) := by decide +kernel
theorem dX3_init_0 : decode cX3_init 0 = .ok (.aload_n 0, 1) := by decide +kernel
theorem dX3_init_1 : decode cX3_init 1 = .ok (.invokespecial 3, 3) := by decide +kernel
theorem dX3_init_4 : decode cX3_init 4 = .ok (.aload_n 0, 1) := by decide +kernel
theorem dX3_init_5 : decode cX3_init 5 = .ok (.iconst 4, 1) := by decide +kernel
theorem dX3_init_6 : decode cX3_init 6 = .ok (.newarray .boolean, 2) := by decide +kernel
theorem dX3_init_8 : decode cX3_init 8 = .ok (.putfield 9, 3) := by decide +kernel
theorem dX3_init_11 : decode cX3_init 11 = .ok (.aload_n 0, 1) := by decide +kernel
theorem dX3_init_12 : decode cX3_init 12 = .ok (.iconst 4, 1) := by decide +kernel
theorem dX3_init_13 : decode cX3_init 13 = .ok (.newarray .int, 2) := by decide +kernel
theorem dX3_init_15 : decode cX3_init 15 = .ok (.putfield 15, 3) := by decide +kernel
theorem dX3_init_18 : decode cX3_init 18 = .ok (.aload_n 0, 1) := by decide +kernel
theorem dX3_init_19 : decode cX3_init 19 = .ok (.iconst 4, 1) := by decide +kernel
theorem dX3_init_20 : decode cX3_init 20 = .ok (.newarray .int, 2) := by decide +kernel
theorem dX3_init_22 : decode cX3_init 22 = .ok (.putfield 19, 3) := by decide +kernel
theorem dX3_init_25 : decode cX3_init 25 = .ok (.aload_n 0, 1) := by decide +kernel
theorem dX3_init_26 : decode cX3_init 26 = .ok (.sipush 144, 3) := by decide +kernel
theorem dX3_init_29 : decode cX3_init 29 = .ok (.newarray .int, 2) := by decide +kernel
theorem dX3_init_31 : decode cX3_init 31 = .ok (.putfield 22, 3) := by decide +kernel
theorem dX3_init_34 : decode cX3_init 34 = .ok (.return_, 1) := by decide +kernel
theorem dX3_renew_0 : decode cX3_renew 0 = .ok (.aload_n 0, 1) := by decide +kernel
theorem dX3_renew_1 : decode cX3_renew 1 = .ok (.getfield 9, 3) := by decide +kernel
theorem dX3_renew_4 : decode cX3_renew 4 = .ok (.iload_n 1, 1) := by decide +kernel
theorem dX3_renew_5 : decode cX3_renew 5 = .ok (.iconst 1, 1) := by decide +kernel
theorem dX3_renew_6 : decode cX3_renew 6 = .ok (.bastore, 1) := by decide +kernel
theorem dX3_renew_7 : decode cX3_renew 7 = .ok (.aload_n 0, 1) := by decide +kernel
theorem dX3_renew_8 : decode cX3_renew 8 = .ok (.getfield 15, 3) := by decide +kernel
theorem dX3_renew_11 : decode cX3_renew 11 = .ok (.iload_n 1, 1) := by decide +kernel
theorem dX3_renew_12 : decode cX3_renew 12 = .ok (.iload_n 2, 1) := by decide +kernel
theorem dX3_renew_13 : decode cX3_renew 13 = .ok (.iastore, 1) := by decide +kernel
theorem dX3_renew_14 : decode cX3_renew 14 = .ok (.aload_n 0, 1) := by decide +kernel
theorem dX3_renew_15 : decode cX3_renew 15 = .ok (.getfield 19, 3) := by decide +kernel
theorem dX3_renew_18 : decode cX3_renew 18 = .ok (.iload_n 1, 1) := by decide +kernel
theorem dX3_renew_19 : decode cX3_renew 19 = .ok (.iload_n 3, 1) := by decide +kernel
theorem dX3_renew_20 : decode cX3_renew 20 = .ok (.iastore, 1) := by decide +kernel
theorem dX3_renew_21 : decode cX3_renew 21 = .ok (.iconst 0, 1) := by decide +kernel
theorem dX3_renew_22 : decode cX3_renew 22 = .ok (.istore 4, 2) := by decide +kernel
theorem dX3_renew_24 : decode cX3_renew 24 = .ok (.iload 4, 2) := by decide +kernel
theorem dX3_renew_26 : decode cX3_renew 26 = .ok (.bipush 36, 2) := by decide +kernel
theorem dX3_renew_28 : decode cX3_renew 28 = .ok (.if_icmp .ge 22, 3) := by decide +kernel
theorem dX3_renew_31 : decode cX3_renew 31 = .ok (.aload_n 0, 1) := by decide +kernel
theorem dX3_renew_32 : decode cX3_renew 32 = .ok (.getfield 22, 3) := by decide +kernel
theorem dX3_renew_35 : decode cX3_renew 35 = .ok (.iload_n 1, 1) := by decide +kernel
theorem dX3_renew_36 : decode cX3_renew 36 = .ok (.bipush 36, 2) := by decide +kernel
theorem dX3_renew_38 : decode cX3_renew 38 = .ok (.imul, 1) := by decide +kernel
theorem dX3_renew_39 : decode cX3_renew 39 = .ok (.iload 4, 2) := by decide +kernel
theorem dX3_renew_41 : decode cX3_renew 41 = .ok (.iadd, 1) := by decide +kernel
theorem dX3_renew_42 : decode cX3_renew 42 = .ok (.iconst 0, 1) := by decide +kernel
theorem dX3_renew_43 : decode cX3_renew 43 = .ok (.iastore, 1) := by decide +kernel
theorem dX3_renew_44 : decode cX3_renew 44 = .ok (.iinc 4 1, 3) := by decide +kernel
theorem dX3_renew_47 : decode cX3_renew 47 = .ok (.goto (-23), 3) := by decide +kernel
theorem dX3_renew_50 : decode cX3_renew 50 = .ok (.return_, 1) := by decide +kernel
theorem dX3_write_0 : decode cX3_write 0 = .ok (.aload_n 0, 1) := by decide +kernel
theorem dX3_write_1 : decode cX3_write 1 = .ok (.getfield 15, 3) := by decide +kernel
theorem dX3_write_4 : decode cX3_write 4 = .ok (.iload_n 1, 1) := by decide +kernel
theorem dX3_write_5 : decode cX3_write 5 = .ok (.iaload, 1) := by decide +kernel
theorem dX3_write_6 : decode cX3_write 6 = .ok (.ifCond .ne 8, 3) := by decide +kernel
theorem dX3_write_9 : decode cX3_write 9 = .ok (.iload_n 3, 1) := by decide +kernel
theorem dX3_write_10 : decode cX3_write 10 = .ok (.i2b, 1) := by decide +kernel
theorem dX3_write_11 : decode cX3_write 11 = .ok (.goto 19, 3) := by decide +kernel
theorem dX3_write_14 : decode cX3_write 14 = .ok (.aload_n 0, 1) := by decide +kernel
theorem dX3_write_15 : decode cX3_write 15 = .ok (.getfield 15, 3) := by decide +kernel
theorem dX3_write_18 : decode cX3_write 18 = .ok (.iload_n 1, 1) := by decide +kernel
theorem dX3_write_19 : decode cX3_write 19 = .ok (.iaload, 1) := by decide +kernel
theorem dX3_write_20 : decode cX3_write 20 = .ok (.iconst 1, 1) := by decide +kernel
theorem dX3_write_21 : decode cX3_write 21 = .ok (.if_icmp .ne 8, 3) := by decide +kernel
theorem dX3_write_24 : decode cX3_write 24 = .ok (.iload_n 3, 1) := by decide +kernel
theorem dX3_write_25 : decode cX3_write 25 = .ok (.i2s, 1) := by decide +kernel
theorem dX3_write_26 : decode cX3_write 26 = .ok (.goto 4, 3) := by decide +kernel
theorem dX3_write_29 : decode cX3_write 29 = .ok (.iload_n 3, 1) := by decide +kernel
theorem dX3_write_30 : decode cX3_write 30 = .ok (.istore 4, 2) := by decide +kernel
theorem dX3_write_32 : decode cX3_write 32 = .ok (.aload_n 0, 1) := by decide +kernel
theorem dX3_write_33 : decode cX3_write 33 = .ok (.getfield 22, 3) := by decide +kernel
theorem dX3_write_36 : decode cX3_write 36 = .ok (.iload_n 1, 1) := by decide +kernel
theorem dX3_write_37 : decode cX3_write 37 = .ok (.bipush 36, 2) := by decide +kernel
theorem dX3_write_39 : decode cX3_write 39 = .ok (.imul, 1) := by decide +kernel
theorem dX3_write_40 : decode cX3_write 40 = .ok (.iload_n 2, 1) := by decide +kernel
theorem dX3_write_41 : decode cX3_write 41 = .ok (.iadd, 1) := by decide +kernel
theorem dX3_write_42 : decode cX3_write 42 = .ok (.iload 4, 2) := by decide +kernel
theorem dX3_write_44 : decode cX3_write 44 = .ok (.iastore, 1) := by decide +kernel
theorem dX3_write_45 : decode cX3_write 45 = .ok (.return_, 1) := by decide +kernel
theorem dX4_init_0 : decode cX4_init 0 = .ok (.aload_n 0, 1) := by decide +kernel
theorem dX4_init_1 : decode cX4_init 1 = .ok (.invokespecial 3, 3) := by decide +kernel
theorem dX4_init_4 : decode cX4_init 4 = .ok (.aload_n 0, 1) := by decide +kernel
theorem dX4_init_5 : decode cX4_init 5 = .ok (.bipush 8, 2) := by decide +kernel
theorem dX4_init_7 : decode cX4_init 7 = .ok (.newarray .int, 2) := by decide +kernel
theorem dX4_init_9 : decode cX4_init 9 = .ok (.putfield 9, 3) := by decide +kernel
theorem dX4_init_12 : decode cX4_init 12 = .ok (.aload_n 0, 1) := by decide +kernel
theorem dX4_init_13 : decode cX4_init 13 = .ok (.bipush 8, 2) := by decide +kernel
theorem dX4_init_15 : decode cX4_init 15 = .ok (.newarray .int, 2) := by decide +kernel
theorem dX4_init_17 : decode cX4_init 17 = .ok (.putfield 15, 3) := by decide +kernel
theorem dX4_init_20 : decode cX4_init 20 = .ok (.aload_n 0, 1) := by decide +kernel
theorem dX4_init_21 : decode cX4_init 21 = .ok (.bipush 8, 2) := by decide +kernel
theorem dX4_init_23 : decode cX4_init 23 = .ok (.newarray .int, 2) := by decide +kernel
theorem dX4_init_25 : decode cX4_init 25 = .ok (.putfield 18, 3) := by decide +kernel
theorem dX4_init_28 : decode cX4_init 28 = .ok (.aload_n 0, 1) := by decide +kernel
theorem dX4_init_29 : decode cX4_init 29 = .ok (.iconst 0, 1) := by decide +kernel
theorem dX4_init_30 : decode cX4_init 30 = .ok (.putfield 21, 3) := by decide +kernel
theorem dX4_init_33 : decode cX4_init 33 = .ok (.return_, 1) := by decide +kernel
theorem dX4_has_0 : decode cX4_has 0 = .ok (.iload_n 1, 1) := by decide +kernel
theorem dX4_has_1 : decode cX4_has 1 = .ok (.ifCond .lt 15, 3) := by decide +kernel
theorem dX4_has_4 : decode cX4_has 4 = .ok (.iload_n 1, 1) := by decide +kernel
theorem dX4_has_5 : decode cX4_has 5 = .ok (.aload_n 0, 1) := by decide +kernel
theorem dX4_has_6 : decode cX4_has 6 = .ok (.getfield 21, 3) := by decide +kernel
theorem dX4_has_9 : decode cX4_has 9 = .ok (.if_icmp .ge 7, 3) := by decide +kernel
theorem dX4_has_12 : decode cX4_has 12 = .ok (.iconst 1, 1) := by decide +kernel
theorem dX4_has_13 : decode cX4_has 13 = .ok (.goto 4, 3) := by decide +kernel
theorem dX4_has_16 : decode cX4_has 16 = .ok (.iconst 0, 1) := by decide +kernel
theorem dX4_has_17 : decode cX4_has 17 = .ok (.ireturn, 1) := by decide +kernel
theorem dX4_lay_0 : decode cX4_lay 0 = .ok (.aload_n 0, 1) := by decide +kernel
theorem dX4_lay_1 : decode cX4_lay 1 = .ok (.getfield 9, 3) := by decide +kernel
theorem dX4_lay_4 : decode cX4_lay 4 = .ok (.aload_n 0, 1) := by decide +kernel
theorem dX4_lay_5 : decode cX4_lay 5 = .ok (.getfield 21, 3) := by decide +kernel
theorem dX4_lay_8 : decode cX4_lay 8 = .ok (.iload_n 1, 1) := by decide +kernel
theorem dX4_lay_9 : decode cX4_lay 9 = .ok (.iastore, 1) := by decide +kernel
theorem dX4_lay_10 : decode cX4_lay 10 = .ok (.aload_n 0, 1) := by decide +kernel
theorem dX4_lay_11 : decode cX4_lay 11 = .ok (.getfield 15, 3) := by decide +kernel
theorem dX4_lay_14 : decode cX4_lay 14 = .ok (.aload_n 0, 1) := by decide +kernel
theorem dX4_lay_15 : decode cX4_lay 15 = .ok (.getfield 21, 3) := by decide +kernel
theorem dX4_lay_18 : decode cX4_lay 18 = .ok (.iload_n 2, 1) := by decide +kernel
theorem dX4_lay_19 : decode cX4_lay 19 = .ok (.iastore, 1) := by decide +kernel
theorem dX4_lay_20 : decode cX4_lay 20 = .ok (.aload_n 0, 1) := by decide +kernel
theorem dX4_lay_21 : decode cX4_lay 21 = .ok (.dup, 1) := by decide +kernel
theorem dX4_lay_22 : decode cX4_lay 22 = .ok (.getfield 21, 3) := by decide +kernel
theorem dX4_lay_25 : decode cX4_lay 25 = .ok (.dup_x1, 1) := by decide +kernel
theorem dX4_lay_26 : decode cX4_lay 26 = .ok (.iconst 1, 1) := by decide +kernel
theorem dX4_lay_27 : decode cX4_lay 27 = .ok (.iadd, 1) := by decide +kernel
theorem dX4_lay_28 : decode cX4_lay 28 = .ok (.putfield 21, 3) := by decide +kernel
theorem dX4_lay_31 : decode cX4_lay 31 = .ok (.ireturn, 1) := by decide +kernel
theorem dX4_sunken_0 : decode cX4_sunken 0 = .ok (.iconst 0, 1) := by decide +kernel
theorem dX4_sunken_1 : decode cX4_sunken 1 = .ok (.istore_n 1, 1) := by decide +kernel
theorem dX4_sunken_2 : decode cX4_sunken 2 = .ok (.iconst 0, 1) := by decide +kernel
theorem dX4_sunken_3 : decode cX4_sunken 3 = .ok (.istore_n 2, 1) := by decide +kernel
theorem dX4_sunken_4 : decode cX4_sunken 4 = .ok (.iload_n 2, 1) := by decide +kernel
theorem dX4_sunken_5 : decode cX4_sunken 5 = .ok (.aload_n 0, 1) := by decide +kernel
theorem dX4_sunken_6 : decode cX4_sunken 6 = .ok (.getfield 21, 3) := by decide +kernel
theorem dX4_sunken_9 : decode cX4_sunken 9 = .ok (.if_icmp .ge 22, 3) := by decide +kernel
theorem dX4_sunken_12 : decode cX4_sunken 12 = .ok (.aload_n 0, 1) := by decide +kernel
theorem dX4_sunken_13 : decode cX4_sunken 13 = .ok (.getfield 15, 3) := by decide +kernel
theorem dX4_sunken_16 : decode cX4_sunken 16 = .ok (.iload_n 2, 1) := by decide +kernel
theorem dX4_sunken_17 : decode cX4_sunken 17 = .ok (.iaload, 1) := by decide +kernel
theorem dX4_sunken_18 : decode cX4_sunken 18 = .ok (.iconst (-1), 1) := by decide +kernel
theorem dX4_sunken_19 : decode cX4_sunken 19 = .ok (.if_icmp .ne 6, 3) := by decide +kernel
theorem dX4_sunken_22 : decode cX4_sunken 22 = .ok (.iinc 1 1, 3) := by decide +kernel
theorem dX4_sunken_25 : decode cX4_sunken 25 = .ok (.iinc 2 1, 3) := by decide +kernel
theorem dX4_sunken_28 : decode cX4_sunken 28 = .ok (.goto (-24), 3) := by decide +kernel
theorem dX4_sunken_31 : decode cX4_sunken 31 = .ok (.iload_n 1, 1) := by decide +kernel
theorem dX4_sunken_32 : decode cX4_sunken 32 = .ok (.ireturn, 1) := by decide +kernel
theorem dX4_crossed_0 : decode cX4_crossed 0 = .ok (.iconst 0, 1) := by decide +kernel
theorem dX4_crossed_1 : decode cX4_crossed 1 = .ok (.istore_n 1, 1) := by decide +kernel
theorem dX4_crossed_2 : decode cX4_crossed 2 = .ok (.iconst 0, 1) := by decide +kernel
theorem dX4_crossed_3 : decode cX4_crossed 3 = .ok (.istore_n 2, 1) := by decide +kernel
theorem dX4_crossed_4 : decode cX4_crossed 4 = .ok (.iload_n 2, 1) := by decide +kernel
theorem dX4_crossed_5 : decode cX4_crossed 5 = .ok (.aload_n 0, 1) := by decide +kernel
theorem dX4_crossed_6 : decode cX4_crossed 6 = .ok (.getfield 21, 3) := by decide +kernel
theorem dX4_crossed_9 : decode cX4_crossed 9 = .ok (.if_icmp .ge 21, 3) := by decide +kernel
theorem dX4_crossed_12 : decode cX4_crossed 12 = .ok (.aload_n 0, 1) := by decide +kernel
theorem dX4_crossed_13 : decode cX4_crossed 13 = .ok (.getfield 18, 3) := by decide +kernel
theorem dX4_crossed_16 : decode cX4_crossed 16 = .ok (.iload_n 2, 1) := by decide +kernel
theorem dX4_crossed_17 : decode cX4_crossed 17 = .ok (.iaload, 1) := by decide +kernel
theorem dX4_crossed_18 : decode cX4_crossed 18 = .ok (.ifCond .le 6, 3) := by decide +kernel
theorem dX4_crossed_21 : decode cX4_crossed 21 = .ok (.iinc 1 1, 3) := by decide +kernel
theorem dX4_crossed_24 : decode cX4_crossed 24 = .ok (.iinc 2 1, 3) := by decide +kernel
theorem dX4_crossed_27 : decode cX4_crossed 27 = .ok (.goto (-23), 3) := by decide +kernel
theorem dX4_crossed_30 : decode cX4_crossed 30 = .ok (.iload_n 1, 1) := by decide +kernel
theorem dX4_crossed_31 : decode cX4_crossed 31 = .ok (.ireturn, 1) := by decide +kernel
theorem dX5_init_0 : decode cX5_init 0 = .ok (.aload_n 0, 1) := by decide +kernel
theorem dX5_init_1 : decode cX5_init 1 = .ok (.invokespecial 1, 3) := by decide +kernel
theorem dX5_init_4 : decode cX5_init 4 = .ok (.aload_n 0, 1) := by decide +kernel
theorem dX5_init_5 : decode cX5_init 5 = .ok (.new 7, 3) := by decide +kernel
theorem dX5_init_8 : decode cX5_init 8 = .ok (.dup, 1) := by decide +kernel
theorem dX5_init_9 : decode cX5_init 9 = .ok (.invokespecial 9, 3) := by decide +kernel
theorem dX5_init_12 : decode cX5_init 12 = .ok (.putfield 10, 3) := by decide +kernel
theorem dX5_init_15 : decode cX5_init 15 = .ok (.aload_n 0, 1) := by decide +kernel
theorem dX5_init_16 : decode cX5_init 16 = .ok (.new 16, 3) := by decide +kernel
theorem dX5_init_19 : decode cX5_init 19 = .ok (.dup, 1) := by decide +kernel
theorem dX5_init_20 : decode cX5_init 20 = .ok (.invokespecial 18, 3) := by decide +kernel
theorem dX5_init_23 : decode cX5_init 23 = .ok (.putfield 19, 3) := by decide +kernel
theorem dX5_init_26 : decode cX5_init 26 = .ok (.aload_n 0, 1) := by decide +kernel
theorem dX5_init_27 : decode cX5_init 27 = .ok (.new 23, 3) := by decide +kernel
theorem dX5_init_30 : decode cX5_init 30 = .ok (.dup, 1) := by decide +kernel
theorem dX5_init_31 : decode cX5_init 31 = .ok (.invokespecial 25, 3) := by decide +kernel
theorem dX5_init_34 : decode cX5_init 34 = .ok (.putfield 26, 3) := by decide +kernel
theorem dX5_init_37 : decode cX5_init 37 = .ok (.aload_n 0, 1) := by decide +kernel
theorem dX5_init_38 : decode cX5_init 38 = .ok (.new 30, 3) := by decide +kernel
theorem dX5_init_41 : decode cX5_init 41 = .ok (.dup, 1) := by decide +kernel
theorem dX5_init_42 : decode cX5_init 42 = .ok (.invokespecial 32, 3) := by decide +kernel
theorem dX5_init_45 : decode cX5_init 45 = .ok (.putfield 33, 3) := by decide +kernel
theorem dX5_init_48 : decode cX5_init 48 = .ok (.aload_n 0, 1) := by decide +kernel
theorem dX5_init_49 : decode cX5_init 49 = .ok (.new 37, 3) := by decide +kernel
theorem dX5_init_52 : decode cX5_init 52 = .ok (.dup, 1) := by decide +kernel
theorem dX5_init_53 : decode cX5_init 53 = .ok (.invokespecial 39, 3) := by decide +kernel
theorem dX5_init_56 : decode cX5_init 56 = .ok (.putfield 40, 3) := by decide +kernel
theorem dX5_init_59 : decode cX5_init 59 = .ok (.aload_n 0, 1) := by decide +kernel
theorem dX5_init_60 : decode cX5_init 60 = .ok (.sipush 128, 3) := by decide +kernel
theorem dX5_init_63 : decode cX5_init 63 = .ok (.newarray .int, 2) := by decide +kernel
theorem dX5_init_65 : decode cX5_init 65 = .ok (.putfield 44, 3) := by decide +kernel
theorem dX5_init_68 : decode cX5_init 68 = .ok (.aload_n 0, 1) := by decide +kernel
theorem dX5_init_69 : decode cX5_init 69 = .ok (.bipush 16, 2) := by decide +kernel
theorem dX5_init_71 : decode cX5_init 71 = .ok (.newarray .long, 2) := by decide +kernel
theorem dX5_init_73 : decode cX5_init 73 = .ok (.putfield 48, 3) := by decide +kernel
theorem dX5_init_76 : decode cX5_init 76 = .ok (.aload_n 0, 1) := by decide +kernel
theorem dX5_init_77 : decode cX5_init 77 = .ok (.iconst 4, 1) := by decide +kernel
theorem dX5_init_78 : decode cX5_init 78 = .ok (.newarray .int, 2) := by decide +kernel
theorem dX5_init_80 : decode cX5_init 80 = .ok (.putfield 52, 3) := by decide +kernel
theorem dX5_init_83 : decode cX5_init 83 = .ok (.aload_n 0, 1) := by decide +kernel
theorem dX5_init_84 : decode cX5_init 84 = .ok (.iconst 0, 1) := by decide +kernel
theorem dX5_init_85 : decode cX5_init 85 = .ok (.putfield 55, 3) := by decide +kernel
theorem dX5_init_88 : decode cX5_init 88 = .ok (.aload_n 0, 1) := by decide +kernel
theorem dX5_init_89 : decode cX5_init 89 = .ok (.iconst 0, 1) := by decide +kernel
theorem dX5_init_90 : decode cX5_init 90 = .ok (.putfield 59, 3) := by decide +kernel
theorem dX5_init_93 : decode cX5_init 93 = .ok (.return_, 1) := by decide +kernel
theorem dX5_person_0 : decode cX5_person 0 = .ok (.iload_n 1, 1) := by decide +kernel
theorem dX5_person_1 : decode cX5_person 1 = .ok (.ifCond .lt 9, 3) := by decide +kernel
theorem dX5_person_4 : decode cX5_person 4 = .ok (.iload_n 1, 1) := by decide +kernel
theorem dX5_person_5 : decode cX5_person 5 = .ok (.bipush 60, 2) := by decide +kernel
theorem dX5_person_7 : decode cX5_person 7 = .ok (.if_icmp .le 5, 3) := by decide +kernel
theorem dX5_person_10 : decode cX5_person 10 = .ok (.iconst (-1), 1) := by decide +kernel
theorem dX5_person_11 : decode cX5_person 11 = .ok (.ireturn, 1) := by decide +kernel
theorem dX5_person_12 : decode cX5_person 12 = .ok (.aload_n 0, 1) := by decide +kernel
theorem dX5_person_13 : decode cX5_person 13 = .ok (.getfield 10, 3) := by decide +kernel
theorem dX5_person_16 : decode cX5_person 16 = .ok (.getfield 62, 3) := by decide +kernel
theorem dX5_person_19 : decode cX5_person 19 = .ok (.bipush 16, 2) := by decide +kernel
theorem dX5_person_21 : decode cX5_person 21 = .ok (.if_icmp .lt 6, 3) := by decide +kernel
theorem dX5_person_24 : decode cX5_person 24 = .ok (.bipush (-3), 2) := by decide +kernel
theorem dX5_person_26 : decode cX5_person 26 = .ok (.ireturn, 1) := by decide +kernel
theorem dX5_person_27 : decode cX5_person 27 = .ok (.aload_n 0, 1) := by decide +kernel
theorem dX5_person_28 : decode cX5_person 28 = .ok (.getfield 10, 3) := by decide +kernel
theorem dX5_person_31 : decode cX5_person 31 = .ok (.iload_n 1, 1) := by decide +kernel
theorem dX5_person_32 : decode cX5_person 32 = .ok (.invokevirtual 65, 3) := by decide +kernel
theorem dX5_person_35 : decode cX5_person 35 = .ok (.ireturn, 1) := by decide +kernel
theorem dX5_years_0 : decode cX5_years 0 = .ok (.iload_n 1, 1) := by decide +kernel
theorem dX5_years_1 : decode cX5_years 1 = .ok (.iconst 1, 1) := by decide +kernel
theorem dX5_years_2 : decode cX5_years 2 = .ok (.if_icmp .lt 9, 3) := by decide +kernel
theorem dX5_years_5 : decode cX5_years 5 = .ok (.iload_n 1, 1) := by decide +kernel
theorem dX5_years_6 : decode cX5_years 6 = .ok (.bipush 50, 2) := by decide +kernel
theorem dX5_years_8 : decode cX5_years 8 = .ok (.if_icmp .le 5, 3) := by decide +kernel
theorem dX5_years_11 : decode cX5_years 11 = .ok (.iconst (-1), 1) := by decide +kernel
theorem dX5_years_12 : decode cX5_years 12 = .ok (.ireturn, 1) := by decide +kernel
theorem dX5_years_13 : decode cX5_years 13 = .ok (.aload_n 0, 1) := by decide +kernel
theorem dX5_years_14 : decode cX5_years 14 = .ok (.getfield 55, 3) := by decide +kernel
theorem dX5_years_17 : decode cX5_years 17 = .ok (.iload_n 1, 1) := by decide +kernel
theorem dX5_years_18 : decode cX5_years 18 = .ok (.iadd, 1) := by decide +kernel
theorem dX5_years_19 : decode cX5_years 19 = .ok (.sipush 1000, 3) := by decide +kernel
theorem dX5_years_22 : decode cX5_years 22 = .ok (.if_icmp .le 6, 3) := by decide +kernel
theorem dX5_years_25 : decode cX5_years 25 = .ok (.bipush (-3), 2) := by decide +kernel
theorem dX5_years_27 : decode cX5_years 27 = .ok (.ireturn, 1) := by decide +kernel
theorem dX5_years_28 : decode cX5_years 28 = .ok (.aload_n 0, 1) := by decide +kernel
theorem dX5_years_29 : decode cX5_years 29 = .ok (.dup, 1) := by decide +kernel
theorem dX5_years_30 : decode cX5_years 30 = .ok (.getfield 55, 3) := by decide +kernel
theorem dX5_years_33 : decode cX5_years 33 = .ok (.iload_n 1, 1) := by decide +kernel
theorem dX5_years_34 : decode cX5_years 34 = .ok (.iadd, 1) := by decide +kernel
theorem dX5_years_35 : decode cX5_years 35 = .ok (.putfield 55, 3) := by decide +kernel
theorem dX5_years_38 : decode cX5_years 38 = .ok (.aload_n 0, 1) := by decide +kernel
theorem dX5_years_39 : decode cX5_years 39 = .ok (.getfield 10, 3) := by decide +kernel
theorem dX5_years_42 : decode cX5_years 42 = .ok (.iload_n 1, 1) := by decide +kernel
theorem dX5_years_43 : decode cX5_years 43 = .ok (.invokevirtual 69, 3) := by decide +kernel
theorem dX5_years_46 : decode cX5_years 46 = .ok (.aload_n 0, 1) := by decide +kernel
theorem dX5_years_47 : decode cX5_years 47 = .ok (.getfield 55, 3) := by decide +kernel
theorem dX5_years_50 : decode cX5_years 50 = .ok (.ireturn, 1) := by decide +kernel
theorem dX5_dies_0 : decode cX5_dies 0 = .ok (.aload_n 0, 1) := by decide +kernel
theorem dX5_dies_1 : decode cX5_dies 1 = .ok (.getfield 10, 3) := by decide +kernel
theorem dX5_dies_4 : decode cX5_dies 4 = .ok (.iload_n 1, 1) := by decide +kernel
theorem dX5_dies_5 : decode cX5_dies 5 = .ok (.invokevirtual 73, 3) := by decide +kernel
theorem dX5_dies_8 : decode cX5_dies 8 = .ok (.ifCond .ne 5, 3) := by decide +kernel
theorem dX5_dies_11 : decode cX5_dies 11 = .ok (.iconst (-1), 1) := by decide +kernel
theorem dX5_dies_12 : decode cX5_dies 12 = .ok (.ireturn, 1) := by decide +kernel
theorem dX5_dies_13 : decode cX5_dies 13 = .ok (.aload_n 0, 1) := by decide +kernel
theorem dX5_dies_14 : decode cX5_dies 14 = .ok (.getfield 10, 3) := by decide +kernel
theorem dX5_dies_17 : decode cX5_dies 17 = .ok (.iload_n 1, 1) := by decide +kernel
theorem dX5_dies_18 : decode cX5_dies 18 = .ok (.invokevirtual 77, 3) := by decide +kernel
theorem dX5_dies_21 : decode cX5_dies 21 = .ok (.ifCond .ne 6, 3) := by decide +kernel
theorem dX5_dies_24 : decode cX5_dies 24 = .ok (.bipush (-2), 2) := by decide +kernel
theorem dX5_dies_26 : decode cX5_dies 26 = .ok (.ireturn, 1) := by decide +kernel
theorem dX5_dies_27 : decode cX5_dies 27 = .ok (.aload_n 0, 1) := by decide +kernel
theorem dX5_dies_28 : decode cX5_dies 28 = .ok (.getfield 10, 3) := by decide +kernel
theorem dX5_dies_31 : decode cX5_dies 31 = .ok (.invokevirtual 80, 3) := by decide +kernel
theorem dX5_dies_34 : decode cX5_dies 34 = .ok (.lstore_n 2, 1) := by decide +kernel
theorem dX5_dies_35 : decode cX5_dies 35 = .ok (.aload_n 0, 1) := by decide +kernel
theorem dX5_dies_36 : decode cX5_dies 36 = .ok (.getfield 10, 3) := by decide +kernel
theorem dX5_dies_39 : decode cX5_dies 39 = .ok (.iload_n 1, 1) := by decide +kernel
theorem dX5_dies_40 : decode cX5_dies 40 = .ok (.invokevirtual 84, 3) := by decide +kernel
theorem dX5_dies_43 : decode cX5_dies 43 = .ok (.lload_n 2, 1) := by decide +kernel
theorem dX5_dies_44 : decode cX5_dies 44 = .ok (.aload_n 0, 1) := by decide +kernel
theorem dX5_dies_45 : decode cX5_dies 45 = .ok (.getfield 10, 3) := by decide +kernel
theorem dX5_dies_48 : decode cX5_dies 48 = .ok (.invokevirtual 80, 3) := by decide +kernel
theorem dX5_dies_51 : decode cX5_dies 51 = .ok (.ldc2_w 87, 3) := by decide +kernel
theorem dX5_dies_54 : decode cX5_dies 54 = .ok (.lxor, 1) := by decide +kernel
theorem dX5_dies_55 : decode cX5_dies 55 = .ok (.land, 1) := by decide +kernel
theorem dX5_dies_56 : decode cX5_dies 56 = .ok (.invokestatic 89, 3) := by decide +kernel
theorem dX5_dies_59 : decode cX5_dies 59 = .ok (.ireturn, 1) := by decide +kernel
theorem dX5_told_0 : decode cX5_told 0 = .ok (.aload_n 0, 1) := by decide +kernel
theorem dX5_told_1 : decode cX5_told 1 = .ok (.getfield 10, 3) := by decide +kernel
theorem dX5_told_4 : decode cX5_told 4 = .ok (.iload_n 1, 1) := by decide +kernel
theorem dX5_told_5 : decode cX5_told 5 = .ok (.invokevirtual 73, 3) := by decide +kernel
theorem dX5_told_8 : decode cX5_told 8 = .ok (.ifCond .ne 5, 3) := by decide +kernel
theorem dX5_told_11 : decode cX5_told 11 = .ok (.iconst (-1), 1) := by decide +kernel
theorem dX5_told_12 : decode cX5_told 12 = .ok (.ireturn, 1) := by decide +kernel
theorem dX5_told_13 : decode cX5_told 13 = .ok (.iload_n 2, 1) := by decide +kernel
theorem dX5_told_14 : decode cX5_told 14 = .ok (.tableswitch 87 0 3 #[30, 40, 57, 74], 30) := by decide +kernel
theorem dX5_told_44 : decode cX5_told 44 = .ok (.aload_n 0, 1) := by decide +kernel
theorem dX5_told_45 : decode cX5_told 45 = .ok (.getfield 10, 3) := by decide +kernel
theorem dX5_told_48 : decode cX5_told 48 = .ok (.getfield 95, 3) := by decide +kernel
theorem dX5_told_51 : decode cX5_told 51 = .ok (.iload_n 1, 1) := by decide +kernel
theorem dX5_told_52 : decode cX5_told 52 = .ok (.iaload, 1) := by decide +kernel
theorem dX5_told_53 : decode cX5_told 53 = .ok (.ireturn, 1) := by decide +kernel
theorem dX5_told_54 : decode cX5_told 54 = .ok (.aload_n 0, 1) := by decide +kernel
theorem dX5_told_55 : decode cX5_told 55 = .ok (.getfield 10, 3) := by decide +kernel
theorem dX5_told_58 : decode cX5_told 58 = .ok (.iload_n 1, 1) := by decide +kernel
theorem dX5_told_59 : decode cX5_told 59 = .ok (.invokevirtual 77, 3) := by decide +kernel
theorem dX5_told_62 : decode cX5_told 62 = .ok (.ifCond .eq 7, 3) := by decide +kernel
theorem dX5_told_65 : decode cX5_told 65 = .ok (.iconst 1, 1) := by decide +kernel
theorem dX5_told_66 : decode cX5_told 66 = .ok (.goto 4, 3) := by decide +kernel
theorem dX5_told_69 : decode cX5_told 69 = .ok (.iconst 0, 1) := by decide +kernel
theorem dX5_told_70 : decode cX5_told 70 = .ok (.ireturn, 1) := by decide +kernel
theorem dX5_told_71 : decode cX5_told 71 = .ok (.aload_n 0, 1) := by decide +kernel
theorem dX5_told_72 : decode cX5_told 72 = .ok (.getfield 10, 3) := by decide +kernel
theorem dX5_told_75 : decode cX5_told 75 = .ok (.iload_n 1, 1) := by decide +kernel
theorem dX5_told_76 : decode cX5_told 76 = .ok (.invokevirtual 98, 3) := by decide +kernel
theorem dX5_told_79 : decode cX5_told 79 = .ok (.ifCond .eq 7, 3) := by decide +kernel
theorem dX5_told_82 : decode cX5_told 82 = .ok (.iconst 1, 1) := by decide +kernel
theorem dX5_told_83 : decode cX5_told 83 = .ok (.goto 4, 3) := by decide +kernel
theorem dX5_told_86 : decode cX5_told 86 = .ok (.iconst 0, 1) := by decide +kernel
theorem dX5_told_87 : decode cX5_told 87 = .ok (.ireturn, 1) := by decide +kernel
theorem dX5_told_88 : decode cX5_told 88 = .ok (.aload_n 0, 1) := by decide +kernel
theorem dX5_told_89 : decode cX5_told 89 = .ok (.getfield 10, 3) := by decide +kernel
theorem dX5_told_92 : decode cX5_told 92 = .ok (.getfield 101, 3) := by decide +kernel
theorem dX5_told_95 : decode cX5_told 95 = .ok (.iload_n 1, 1) := by decide +kernel
theorem dX5_told_96 : decode cX5_told 96 = .ok (.laload, 1) := by decide +kernel
theorem dX5_told_97 : decode cX5_told 97 = .ok (.invokestatic 89, 3) := by decide +kernel
theorem dX5_told_100 : decode cX5_told 100 = .ok (.ireturn, 1) := by decide +kernel
theorem dX5_told_101 : decode cX5_told 101 = .ok (.iconst (-1), 1) := by decide +kernel
theorem dX5_told_102 : decode cX5_told 102 = .ok (.ireturn, 1) := by decide +kernel
theorem dX5_stone_0 : decode cX5_stone 0 = .ok (.iload_n 1, 1) := by decide +kernel
theorem dX5_stone_1 : decode cX5_stone 1 = .ok (.iconst 1, 1) := by decide +kernel
theorem dX5_stone_2 : decode cX5_stone 2 = .ok (.if_icmp .lt 16, 3) := by decide +kernel
theorem dX5_stone_5 : decode cX5_stone 5 = .ok (.iload_n 1, 1) := by decide +kernel
theorem dX5_stone_6 : decode cX5_stone 6 = .ok (.bipush 40, 2) := by decide +kernel
theorem dX5_stone_8 : decode cX5_stone 8 = .ok (.if_icmp .gt 10, 3) := by decide +kernel
theorem dX5_stone_11 : decode cX5_stone 11 = .ok (.iload_n 2, 1) := by decide +kernel
theorem dX5_stone_12 : decode cX5_stone 12 = .ok (.invokestatic 104, 3) := by decide +kernel
theorem dX5_stone_15 : decode cX5_stone 15 = .ok (.ifCond .ne 5, 3) := by decide +kernel
theorem dX5_stone_18 : decode cX5_stone 18 = .ok (.iconst (-1), 1) := by decide +kernel
theorem dX5_stone_19 : decode cX5_stone 19 = .ok (.ireturn, 1) := by decide +kernel
theorem dX5_stone_20 : decode cX5_stone 20 = .ok (.aload_n 0, 1) := by decide +kernel
theorem dX5_stone_21 : decode cX5_stone 21 = .ok (.getfield 19, 3) := by decide +kernel
theorem dX5_stone_24 : decode cX5_stone 24 = .ok (.getfield 107, 3) := by decide +kernel
theorem dX5_stone_27 : decode cX5_stone 27 = .ok (.bipush 8, 2) := by decide +kernel
theorem dX5_stone_29 : decode cX5_stone 29 = .ok (.if_icmp .lt 6, 3) := by decide +kernel
theorem dX5_stone_32 : decode cX5_stone 32 = .ok (.bipush (-3), 2) := by decide +kernel
theorem dX5_stone_34 : decode cX5_stone 34 = .ok (.ireturn, 1) := by decide +kernel
theorem dX5_stone_35 : decode cX5_stone 35 = .ok (.aload_n 0, 1) := by decide +kernel
theorem dX5_stone_36 : decode cX5_stone 36 = .ok (.getfield 19, 3) := by decide +kernel
theorem dX5_stone_39 : decode cX5_stone 39 = .ok (.iload_n 1, 1) := by decide +kernel
theorem dX5_stone_40 : decode cX5_stone 40 = .ok (.iload_n 2, 1) := by decide +kernel
theorem dX5_stone_41 : decode cX5_stone 41 = .ok (.invokevirtual 108, 3) := by decide +kernel
theorem dX5_stone_44 : decode cX5_stone 44 = .ok (.ireturn, 1) := by decide +kernel
theorem dX5_moves_0 : decode cX5_moves 0 = .ok (.aload_n 0, 1) := by decide +kernel
theorem dX5_moves_1 : decode cX5_moves 1 = .ok (.getfield 19, 3) := by decide +kernel
theorem dX5_moves_4 : decode cX5_moves 4 = .ok (.iload_n 1, 1) := by decide +kernel
theorem dX5_moves_5 : decode cX5_moves 5 = .ok (.invokevirtual 112, 3) := by decide +kernel
theorem dX5_moves_8 : decode cX5_moves 8 = .ok (.ifCond .eq 10, 3) := by decide +kernel
theorem dX5_moves_11 : decode cX5_moves 11 = .ok (.iload_n 2, 1) := by decide +kernel
theorem dX5_moves_12 : decode cX5_moves 12 = .ok (.invokestatic 104, 3) := by decide +kernel
theorem dX5_moves_15 : decode cX5_moves 15 = .ok (.ifCond .ne 6, 3) := by decide +kernel
theorem dX5_moves_18 : decode cX5_moves 18 = .ok (.bipush (-11), 2) := by decide +kernel
theorem dX5_moves_20 : decode cX5_moves 20 = .ok (.ireturn, 1) := by decide +kernel
theorem dX5_moves_21 : decode cX5_moves 21 = .ok (.aload_n 0, 1) := by decide +kernel
theorem dX5_moves_22 : decode cX5_moves 22 = .ok (.getfield 19, 3) := by decide +kernel
theorem dX5_moves_25 : decode cX5_moves 25 = .ok (.getfield 113, 3) := by decide +kernel
theorem dX5_moves_28 : decode cX5_moves 28 = .ok (.iload_n 1, 1) := by decide +kernel
theorem dX5_moves_29 : decode cX5_moves 29 = .ok (.iaload, 1) := by decide +kernel
theorem dX5_moves_30 : decode cX5_moves 30 = .ok (.istore_n 3, 1) := by decide +kernel
theorem dX5_moves_31 : decode cX5_moves 31 = .ok (.iload_n 3, 1) := by decide +kernel
theorem dX5_moves_32 : decode cX5_moves 32 = .ok (.iconst (-1), 1) := by decide +kernel
theorem dX5_moves_33 : decode cX5_moves 33 = .ok (.if_icmp .ne 6, 3) := by decide +kernel
theorem dX5_moves_36 : decode cX5_moves 36 = .ok (.bipush (-12), 2) := by decide +kernel
theorem dX5_moves_38 : decode cX5_moves 38 = .ok (.ireturn, 1) := by decide +kernel
theorem dX5_moves_39 : decode cX5_moves 39 = .ok (.aload_n 0, 1) := by decide +kernel
theorem dX5_moves_40 : decode cX5_moves 40 = .ok (.getfield 19, 3) := by decide +kernel
theorem dX5_moves_43 : decode cX5_moves 43 = .ok (.getfield 113, 3) := by decide +kernel
theorem dX5_moves_46 : decode cX5_moves 46 = .ok (.iload_n 1, 1) := by decide +kernel
theorem dX5_moves_47 : decode cX5_moves 47 = .ok (.iload_n 2, 1) := by decide +kernel
theorem dX5_moves_48 : decode cX5_moves 48 = .ok (.iastore, 1) := by decide +kernel
theorem dX5_moves_49 : decode cX5_moves 49 = .ok (.iload_n 3, 1) := by decide +kernel
theorem dX5_moves_50 : decode cX5_moves 50 = .ok (.ireturn, 1) := by decide +kernel
theorem dX5_act_0 : decode cX5_act 0 = .ok (.aload_n 0, 1) := by decide +kernel
theorem dX5_act_1 : decode cX5_act 1 = .ok (.getfield 19, 3) := by decide +kernel
theorem dX5_act_4 : decode cX5_act 4 = .ok (.iload_n 2, 1) := by decide +kernel
theorem dX5_act_5 : decode cX5_act 5 = .ok (.invokevirtual 112, 3) := by decide +kernel
theorem dX5_act_8 : decode cX5_act 8 = .ok (.ifCond .eq 26, 3) := by decide +kernel
theorem dX5_act_11 : decode cX5_act 11 = .ok (.aload_n 0, 1) := by decide +kernel
theorem dX5_act_12 : decode cX5_act 12 = .ok (.getfield 10, 3) := by decide +kernel
theorem dX5_act_15 : decode cX5_act 15 = .ok (.iload_n 3, 1) := by decide +kernel
theorem dX5_act_16 : decode cX5_act 16 = .ok (.invokevirtual 77, 3) := by decide +kernel
theorem dX5_act_19 : decode cX5_act 19 = .ok (.ifCond .eq 15, 3) := by decide +kernel
theorem dX5_act_22 : decode cX5_act 22 = .ok (.aload_n 0, 1) := by decide +kernel
theorem dX5_act_23 : decode cX5_act 23 = .ok (.getfield 10, 3) := by decide +kernel
theorem dX5_act_26 : decode cX5_act 26 = .ok (.iload 6, 2) := by decide +kernel
theorem dX5_act_28 : decode cX5_act 28 = .ok (.invokevirtual 116, 3) := by decide +kernel
theorem dX5_act_31 : decode cX5_act 31 = .ok (.ifCond .ne 5, 3) := by decide +kernel
theorem dX5_act_34 : decode cX5_act 34 = .ok (.iconst (-1), 1) := by decide +kernel
theorem dX5_act_35 : decode cX5_act 35 = .ok (.ireturn, 1) := by decide +kernel
theorem dX5_act_36 : decode cX5_act 36 = .ok (.aload_n 0, 1) := by decide +kernel
theorem dX5_act_37 : decode cX5_act 37 = .ok (.iload_n 1, 1) := by decide +kernel
theorem dX5_act_38 : decode cX5_act 38 = .ok (.iload_n 2, 1) := by decide +kernel
theorem dX5_act_39 : decode cX5_act 39 = .ok (.iload_n 3, 1) := by decide +kernel
theorem dX5_act_40 : decode cX5_act 40 = .ok (.iload 4, 2) := by decide +kernel
theorem dX5_act_42 : decode cX5_act 42 = .ok (.iload 5, 2) := by decide +kernel
theorem dX5_act_44 : decode cX5_act 44 = .ok (.invokevirtual 119, 3) := by decide +kernel
theorem dX5_act_47 : decode cX5_act 47 = .ok (.ifCond .ne 5, 3) := by decide +kernel
theorem dX5_act_50 : decode cX5_act 50 = .ok (.iconst (-1), 1) := by decide +kernel
theorem dX5_act_51 : decode cX5_act 51 = .ok (.ireturn, 1) := by decide +kernel
theorem dX5_act_52 : decode cX5_act 52 = .ok (.aload_n 0, 1) := by decide +kernel
theorem dX5_act_53 : decode cX5_act 53 = .ok (.getfield 26, 3) := by decide +kernel
theorem dX5_act_56 : decode cX5_act 56 = .ok (.getfield 123, 3) := by decide +kernel
theorem dX5_act_59 : decode cX5_act 59 = .ok (.bipush 60, 2) := by decide +kernel
theorem dX5_act_61 : decode cX5_act 61 = .ok (.if_icmp .lt 6, 3) := by decide +kernel
theorem dX5_act_64 : decode cX5_act 64 = .ok (.bipush (-3), 2) := by decide +kernel
theorem dX5_act_66 : decode cX5_act 66 = .ok (.ireturn, 1) := by decide +kernel
theorem dX5_act_67 : decode cX5_act 67 = .ok (.aload_n 0, 1) := by decide +kernel
theorem dX5_act_68 : decode cX5_act 68 = .ok (.getfield 26, 3) := by decide +kernel
theorem dX5_act_71 : decode cX5_act 71 = .ok (.iload_n 1, 1) := by decide +kernel
theorem dX5_act_72 : decode cX5_act 72 = .ok (.iload_n 2, 1) := by decide +kernel
theorem dX5_act_73 : decode cX5_act 73 = .ok (.iload_n 3, 1) := by decide +kernel
theorem dX5_act_74 : decode cX5_act 74 = .ok (.invokevirtual 124, 3) := by decide +kernel
theorem dX5_act_77 : decode cX5_act 77 = .ok (.istore 7, 2) := by decide +kernel
theorem dX5_act_79 : decode cX5_act 79 = .ok (.iload_n 1, 1) := by decide +kernel
theorem dX5_act_80 : decode cX5_act 80 = .ok (.invokestatic 128, 3) := by decide +kernel
theorem dX5_act_83 : decode cX5_act 83 = .ok (.ifCond .ne 8, 3) := by decide +kernel
theorem dX5_act_86 : decode cX5_act 86 = .ok (.iload_n 1, 1) := by decide +kernel
theorem dX5_act_87 : decode cX5_act 87 = .ok (.iconst 4, 1) := by decide +kernel
theorem dX5_act_88 : decode cX5_act 88 = .ok (.if_icmp .ne 15, 3) := by decide +kernel
theorem dX5_act_91 : decode cX5_act 91 = .ok (.aload_n 0, 1) := by decide +kernel
theorem dX5_act_92 : decode cX5_act 92 = .ok (.getfield 26, 3) := by decide +kernel
theorem dX5_act_95 : decode cX5_act 95 = .ok (.getfield 131, 3) := by decide +kernel
theorem dX5_act_98 : decode cX5_act 98 = .ok (.iload 7, 2) := by decide +kernel
theorem dX5_act_100 : decode cX5_act 100 = .ok (.iload 4, 2) := by decide +kernel
theorem dX5_act_102 : decode cX5_act 102 = .ok (.iastore, 1) := by decide +kernel
theorem dX5_act_103 : decode cX5_act 103 = .ok (.iload_n 1, 1) := by decide +kernel
theorem dX5_act_104 : decode cX5_act 104 = .ok (.invokestatic 128, 3) := by decide +kernel
theorem dX5_act_107 : decode cX5_act 107 = .ok (.ifCond .ne 8, 3) := by decide +kernel
theorem dX5_act_110 : decode cX5_act 110 = .ok (.iload_n 1, 1) := by decide +kernel
theorem dX5_act_111 : decode cX5_act 111 = .ok (.iconst 5, 1) := by decide +kernel
theorem dX5_act_112 : decode cX5_act 112 = .ok (.if_icmp .ne 15, 3) := by decide +kernel
theorem dX5_act_115 : decode cX5_act 115 = .ok (.aload_n 0, 1) := by decide +kernel
theorem dX5_act_116 : decode cX5_act 116 = .ok (.getfield 26, 3) := by decide +kernel
theorem dX5_act_119 : decode cX5_act 119 = .ok (.getfield 134, 3) := by decide +kernel
theorem dX5_act_122 : decode cX5_act 122 = .ok (.iload 7, 2) := by decide +kernel
theorem dX5_act_124 : decode cX5_act 124 = .ok (.iload 5, 2) := by decide +kernel
theorem dX5_act_126 : decode cX5_act 126 = .ok (.iastore, 1) := by decide +kernel
theorem dX5_act_127 : decode cX5_act 127 = .ok (.aload_n 0, 1) := by decide +kernel
theorem dX5_act_128 : decode cX5_act 128 = .ok (.getfield 26, 3) := by decide +kernel
theorem dX5_act_131 : decode cX5_act 131 = .ok (.getfield 137, 3) := by decide +kernel
theorem dX5_act_134 : decode cX5_act 134 = .ok (.iload 7, 2) := by decide +kernel
theorem dX5_act_136 : decode cX5_act 136 = .ok (.aload_n 0, 1) := by decide +kernel
theorem dX5_act_137 : decode cX5_act 137 = .ok (.getfield 55, 3) := by decide +kernel
theorem dX5_act_140 : decode cX5_act 140 = .ok (.iastore, 1) := by decide +kernel
theorem dX5_act_141 : decode cX5_act 141 = .ok (.aload_n 0, 1) := by decide +kernel
theorem dX5_act_142 : decode cX5_act 142 = .ok (.getfield 26, 3) := by decide +kernel
theorem dX5_act_145 : decode cX5_act 145 = .ok (.getfield 140, 3) := by decide +kernel
theorem dX5_act_148 : decode cX5_act 148 = .ok (.iload 7, 2) := by decide +kernel
theorem dX5_act_150 : decode cX5_act 150 = .ok (.iload 6, 2) := by decide +kernel
theorem dX5_act_152 : decode cX5_act 152 = .ok (.iconst 1, 1) := by decide +kernel
theorem dX5_act_153 : decode cX5_act 153 = .ok (.iload_n 3, 1) := by decide +kernel
theorem dX5_act_154 : decode cX5_act 154 = .ok (.ishl, 1) := by decide +kernel
theorem dX5_act_155 : decode cX5_act 155 = .ok (.ior, 1) := by decide +kernel
theorem dX5_act_156 : decode cX5_act 156 = .ok (.iastore, 1) := by decide +kernel
theorem dX5_act_157 : decode cX5_act 157 = .ok (.aload_n 0, 1) := by decide +kernel
theorem dX5_act_158 : decode cX5_act 158 = .ok (.iload 7, 2) := by decide +kernel
theorem dX5_act_160 : decode cX5_act 160 = .ok (.invokevirtual 143, 3) := by decide +kernel
theorem dX5_act_163 : decode cX5_act 163 = .ok (.aload_n 0, 1) := by decide +kernel
theorem dX5_act_164 : decode cX5_act 164 = .ok (.iload 7, 2) := by decide +kernel
theorem dX5_act_166 : decode cX5_act 166 = .ok (.invokevirtual 146, 3) := by decide +kernel
theorem dX5_act_169 : decode cX5_act 169 = .ok (.ifCond .eq 19, 3) := by decide +kernel
theorem dX5_act_172 : decode cX5_act 172 = .ok (.aload_n 0, 1) := by decide +kernel
theorem dX5_act_173 : decode cX5_act 173 = .ok (.getfield 26, 3) := by decide +kernel
theorem dX5_act_176 : decode cX5_act 176 = .ok (.dup, 1) := by decide +kernel
theorem dX5_act_177 : decode cX5_act 177 = .ok (.getfield 149, 3) := by decide +kernel
theorem dX5_act_180 : decode cX5_act 180 = .ok (.lconst 1, 1) := by decide +kernel
theorem dX5_act_181 : decode cX5_act 181 = .ok (.iload 7, 2) := by decide +kernel
theorem dX5_act_183 : decode cX5_act 183 = .ok (.lshl, 1) := by decide +kernel
theorem dX5_act_184 : decode cX5_act 184 = .ok (.lor, 1) := by decide +kernel
theorem dX5_act_185 : decode cX5_act 185 = .ok (.putfield 149, 3) := by decide +kernel
theorem dX5_act_188 : decode cX5_act 188 = .ok (.iload 7, 2) := by decide +kernel
theorem dX5_act_190 : decode cX5_act 190 = .ok (.ireturn, 1) := by decide +kernel
theorem dX5_about_0 : decode cX5_about 0 = .ok (.aload_n 0, 1) := by decide +kernel
theorem dX5_about_1 : decode cX5_about 1 = .ok (.getfield 26, 3) := by decide +kernel
theorem dX5_about_4 : decode cX5_about 4 = .ok (.iload_n 1, 1) := by decide +kernel
theorem dX5_about_5 : decode cX5_about 5 = .ok (.invokevirtual 153, 3) := by decide +kernel
theorem dX5_about_8 : decode cX5_about 8 = .ok (.ifCond .ne 5, 3) := by decide +kernel
theorem dX5_about_11 : decode cX5_about 11 = .ok (.iconst (-1), 1) := by decide +kernel
theorem dX5_about_12 : decode cX5_about 12 = .ok (.ireturn, 1) := by decide +kernel
theorem dX5_about_13 : decode cX5_about 13 = .ok (.iload_n 2, 1) := by decide +kernel
theorem dX5_about_14 : decode cX5_about 14 = .ok (.tableswitch 151 0 8 #[50, 60, 70, 80, 90, 100, 110, 130, 140], 50) := by decide +kernel
theorem dX5_about_64 : decode cX5_about 64 = .ok (.aload_n 0, 1) := by decide +kernel
theorem dX5_about_65 : decode cX5_about 65 = .ok (.getfield 26, 3) := by decide +kernel
theorem dX5_about_68 : decode cX5_about 68 = .ok (.getfield 154, 3) := by decide +kernel
theorem dX5_about_71 : decode cX5_about 71 = .ok (.iload_n 1, 1) := by decide +kernel
theorem dX5_about_72 : decode cX5_about 72 = .ok (.iaload, 1) := by decide +kernel
theorem dX5_about_73 : decode cX5_about 73 = .ok (.ireturn, 1) := by decide +kernel
theorem dX5_about_74 : decode cX5_about 74 = .ok (.aload_n 0, 1) := by decide +kernel
theorem dX5_about_75 : decode cX5_about 75 = .ok (.getfield 26, 3) := by decide +kernel
theorem dX5_about_78 : decode cX5_about 78 = .ok (.getfield 157, 3) := by decide +kernel
theorem dX5_about_81 : decode cX5_about 81 = .ok (.iload_n 1, 1) := by decide +kernel
theorem dX5_about_82 : decode cX5_about 82 = .ok (.iaload, 1) := by decide +kernel
theorem dX5_about_83 : decode cX5_about 83 = .ok (.ireturn, 1) := by decide +kernel
theorem dX5_about_84 : decode cX5_about 84 = .ok (.aload_n 0, 1) := by decide +kernel
theorem dX5_about_85 : decode cX5_about 85 = .ok (.getfield 26, 3) := by decide +kernel
theorem dX5_about_88 : decode cX5_about 88 = .ok (.getfield 160, 3) := by decide +kernel
theorem dX5_about_91 : decode cX5_about 91 = .ok (.iload_n 1, 1) := by decide +kernel
theorem dX5_about_92 : decode cX5_about 92 = .ok (.iaload, 1) := by decide +kernel
theorem dX5_about_93 : decode cX5_about 93 = .ok (.ireturn, 1) := by decide +kernel
theorem dX5_about_94 : decode cX5_about 94 = .ok (.aload_n 0, 1) := by decide +kernel
theorem dX5_about_95 : decode cX5_about 95 = .ok (.getfield 26, 3) := by decide +kernel
theorem dX5_about_98 : decode cX5_about 98 = .ok (.getfield 131, 3) := by decide +kernel
theorem dX5_about_101 : decode cX5_about 101 = .ok (.iload_n 1, 1) := by decide +kernel
theorem dX5_about_102 : decode cX5_about 102 = .ok (.iaload, 1) := by decide +kernel
theorem dX5_about_103 : decode cX5_about 103 = .ok (.ireturn, 1) := by decide +kernel
theorem dX5_about_104 : decode cX5_about 104 = .ok (.aload_n 0, 1) := by decide +kernel
theorem dX5_about_105 : decode cX5_about 105 = .ok (.getfield 26, 3) := by decide +kernel
theorem dX5_about_108 : decode cX5_about 108 = .ok (.getfield 134, 3) := by decide +kernel
theorem dX5_about_111 : decode cX5_about 111 = .ok (.iload_n 1, 1) := by decide +kernel
theorem dX5_about_112 : decode cX5_about 112 = .ok (.iaload, 1) := by decide +kernel
theorem dX5_about_113 : decode cX5_about 113 = .ok (.ireturn, 1) := by decide +kernel
theorem dX5_about_114 : decode cX5_about 114 = .ok (.aload_n 0, 1) := by decide +kernel
theorem dX5_about_115 : decode cX5_about 115 = .ok (.getfield 26, 3) := by decide +kernel
theorem dX5_about_118 : decode cX5_about 118 = .ok (.getfield 137, 3) := by decide +kernel
theorem dX5_about_121 : decode cX5_about 121 = .ok (.iload_n 1, 1) := by decide +kernel
theorem dX5_about_122 : decode cX5_about 122 = .ok (.iaload, 1) := by decide +kernel
theorem dX5_about_123 : decode cX5_about 123 = .ok (.ireturn, 1) := by decide +kernel
theorem dX5_about_124 : decode cX5_about 124 = .ok (.aload_n 0, 1) := by decide +kernel
theorem dX5_about_125 : decode cX5_about 125 = .ok (.getfield 26, 3) := by decide +kernel
theorem dX5_about_128 : decode cX5_about 128 = .ok (.getfield 149, 3) := by decide +kernel
theorem dX5_about_131 : decode cX5_about 131 = .ok (.iload_n 1, 1) := by decide +kernel
theorem dX5_about_132 : decode cX5_about 132 = .ok (.invokestatic 163, 3) := by decide +kernel
theorem dX5_about_135 : decode cX5_about 135 = .ok (.ifCond .eq 7, 3) := by decide +kernel
theorem dX5_about_138 : decode cX5_about 138 = .ok (.iconst 1, 1) := by decide +kernel
theorem dX5_about_139 : decode cX5_about 139 = .ok (.goto 4, 3) := by decide +kernel
theorem dX5_about_142 : decode cX5_about 142 = .ok (.iconst 0, 1) := by decide +kernel
theorem dX5_about_143 : decode cX5_about 143 = .ok (.ireturn, 1) := by decide +kernel
theorem dX5_about_144 : decode cX5_about 144 = .ok (.aload_n 0, 1) := by decide +kernel
theorem dX5_about_145 : decode cX5_about 145 = .ok (.getfield 26, 3) := by decide +kernel
theorem dX5_about_148 : decode cX5_about 148 = .ok (.getfield 140, 3) := by decide +kernel
theorem dX5_about_151 : decode cX5_about 151 = .ok (.iload_n 1, 1) := by decide +kernel
theorem dX5_about_152 : decode cX5_about 152 = .ok (.iaload, 1) := by decide +kernel
theorem dX5_about_153 : decode cX5_about 153 = .ok (.ireturn, 1) := by decide +kernel
theorem dX5_about_154 : decode cX5_about 154 = .ok (.aload_n 0, 1) := by decide +kernel
theorem dX5_about_155 : decode cX5_about 155 = .ok (.getfield 10, 3) := by decide +kernel
theorem dX5_about_158 : decode cX5_about 158 = .ok (.lconst 1, 1) := by decide +kernel
theorem dX5_about_159 : decode cX5_about 159 = .ok (.iload_n 1, 1) := by decide +kernel
theorem dX5_about_160 : decode cX5_about 160 = .ok (.lshl, 1) := by decide +kernel
theorem dX5_about_161 : decode cX5_about 161 = .ok (.invokevirtual 167, 3) := by decide +kernel
theorem dX5_about_164 : decode cX5_about 164 = .ok (.ireturn, 1) := by decide +kernel
theorem dX5_about_165 : decode cX5_about 165 = .ok (.iconst (-1), 1) := by decide +kernel
theorem dX5_about_166 : decode cX5_about 166 = .ok (.ireturn, 1) := by decide +kernel
theorem dX5_knows_0 : decode cX5_knows 0 = .ok (.aload_n 0, 1) := by decide +kernel
theorem dX5_knows_1 : decode cX5_knows 1 = .ok (.getfield 10, 3) := by decide +kernel
theorem dX5_knows_4 : decode cX5_knows 4 = .ok (.iload_n 1, 1) := by decide +kernel
theorem dX5_knows_5 : decode cX5_knows 5 = .ok (.invokevirtual 73, 3) := by decide +kernel
theorem dX5_knows_8 : decode cX5_knows 8 = .ok (.ifCond .eq 14, 3) := by decide +kernel
theorem dX5_knows_11 : decode cX5_knows 11 = .ok (.aload_n 0, 1) := by decide +kernel
theorem dX5_knows_12 : decode cX5_knows 12 = .ok (.getfield 26, 3) := by decide +kernel
theorem dX5_knows_15 : decode cX5_knows 15 = .ok (.iload_n 2, 1) := by decide +kernel
theorem dX5_knows_16 : decode cX5_knows 16 = .ok (.invokevirtual 153, 3) := by decide +kernel
theorem dX5_knows_19 : decode cX5_knows 19 = .ok (.ifCond .ne 5, 3) := by decide +kernel
theorem dX5_knows_22 : decode cX5_knows 22 = .ok (.iconst (-1), 1) := by decide +kernel
theorem dX5_knows_23 : decode cX5_knows 23 = .ok (.ireturn, 1) := by decide +kernel
theorem dX5_knows_24 : decode cX5_knows 24 = .ok (.aload_n 0, 1) := by decide +kernel
theorem dX5_knows_25 : decode cX5_knows 25 = .ok (.getfield 10, 3) := by decide +kernel
theorem dX5_knows_28 : decode cX5_knows 28 = .ok (.iload_n 1, 1) := by decide +kernel
theorem dX5_knows_29 : decode cX5_knows 29 = .ok (.iload_n 2, 1) := by decide +kernel
theorem dX5_knows_30 : decode cX5_knows 30 = .ok (.invokevirtual 170, 3) := by decide +kernel
theorem dX5_knows_33 : decode cX5_knows 33 = .ok (.ifCond .eq 15, 3) := by decide +kernel
theorem dX5_knows_36 : decode cX5_knows 36 = .ok (.aload_n 0, 1) := by decide +kernel
theorem dX5_knows_37 : decode cX5_knows 37 = .ok (.getfield 10, 3) := by decide +kernel
theorem dX5_knows_40 : decode cX5_knows 40 = .ok (.iload_n 1, 1) := by decide +kernel
theorem dX5_knows_41 : decode cX5_knows 41 = .ok (.iload_n 2, 1) := by decide +kernel
theorem dX5_knows_42 : decode cX5_knows 42 = .ok (.invokevirtual 174, 3) := by decide +kernel
theorem dX5_knows_45 : decode cX5_knows 45 = .ok (.goto 5, 3) := by decide +kernel
theorem dX5_knows_48 : decode cX5_knows 48 = .ok (.bipush (-4), 2) := by decide +kernel
theorem dX5_knows_50 : decode cX5_knows 50 = .ok (.ireturn, 1) := by decide +kernel
theorem dX5_tell_0 : decode cX5_tell 0 = .ok (.aload_n 0, 1) := by decide +kernel
theorem dX5_tell_1 : decode cX5_tell 1 = .ok (.getfield 10, 3) := by decide +kernel
theorem dX5_tell_4 : decode cX5_tell 4 = .ok (.iload_n 1, 1) := by decide +kernel
theorem dX5_tell_5 : decode cX5_tell 5 = .ok (.invokevirtual 73, 3) := by decide +kernel
theorem dX5_tell_8 : decode cX5_tell 8 = .ok (.ifCond .eq 30, 3) := by decide +kernel
theorem dX5_tell_11 : decode cX5_tell 11 = .ok (.aload_n 0, 1) := by decide +kernel
theorem dX5_tell_12 : decode cX5_tell 12 = .ok (.getfield 10, 3) := by decide +kernel
theorem dX5_tell_15 : decode cX5_tell 15 = .ok (.iload_n 2, 1) := by decide +kernel
theorem dX5_tell_16 : decode cX5_tell 16 = .ok (.invokevirtual 73, 3) := by decide +kernel
theorem dX5_tell_19 : decode cX5_tell 19 = .ok (.ifCond .eq 19, 3) := by decide +kernel
theorem dX5_tell_22 : decode cX5_tell 22 = .ok (.aload_n 0, 1) := by decide +kernel
theorem dX5_tell_23 : decode cX5_tell 23 = .ok (.getfield 26, 3) := by decide +kernel
theorem dX5_tell_26 : decode cX5_tell 26 = .ok (.iload_n 3, 1) := by decide +kernel
theorem dX5_tell_27 : decode cX5_tell 27 = .ok (.invokevirtual 153, 3) := by decide +kernel
theorem dX5_tell_30 : decode cX5_tell 30 = .ok (.ifCond .eq 8, 3) := by decide +kernel
theorem dX5_tell_33 : decode cX5_tell 33 = .ok (.iload_n 1, 1) := by decide +kernel
theorem dX5_tell_34 : decode cX5_tell 34 = .ok (.iload_n 2, 1) := by decide +kernel
theorem dX5_tell_35 : decode cX5_tell 35 = .ok (.if_icmp .ne 5, 3) := by decide +kernel
theorem dX5_tell_38 : decode cX5_tell 38 = .ok (.iconst (-1), 1) := by decide +kernel
theorem dX5_tell_39 : decode cX5_tell 39 = .ok (.ireturn, 1) := by decide +kernel
theorem dX5_tell_40 : decode cX5_tell 40 = .ok (.aload_n 0, 1) := by decide +kernel
theorem dX5_tell_41 : decode cX5_tell 41 = .ok (.getfield 10, 3) := by decide +kernel
theorem dX5_tell_44 : decode cX5_tell 44 = .ok (.iload_n 1, 1) := by decide +kernel
theorem dX5_tell_45 : decode cX5_tell 45 = .ok (.iload_n 3, 1) := by decide +kernel
theorem dX5_tell_46 : decode cX5_tell 46 = .ok (.invokevirtual 170, 3) := by decide +kernel
theorem dX5_tell_49 : decode cX5_tell 49 = .ok (.ifCond .eq 22, 3) := by decide +kernel
theorem dX5_tell_52 : decode cX5_tell 52 = .ok (.aload_n 0, 1) := by decide +kernel
theorem dX5_tell_53 : decode cX5_tell 53 = .ok (.getfield 10, 3) := by decide +kernel
theorem dX5_tell_56 : decode cX5_tell 56 = .ok (.iload_n 2, 1) := by decide +kernel
theorem dX5_tell_57 : decode cX5_tell 57 = .ok (.invokevirtual 77, 3) := by decide +kernel
theorem dX5_tell_60 : decode cX5_tell 60 = .ok (.ifCond .eq 11, 3) := by decide +kernel
theorem dX5_tell_63 : decode cX5_tell 63 = .ok (.aload_n 0, 1) := by decide +kernel
theorem dX5_tell_64 : decode cX5_tell 64 = .ok (.iload_n 3, 1) := by decide +kernel
theorem dX5_tell_65 : decode cX5_tell 65 = .ok (.invokevirtual 177, 3) := by decide +kernel
theorem dX5_tell_68 : decode cX5_tell 68 = .ok (.ifCond .eq 6, 3) := by decide +kernel
theorem dX5_tell_71 : decode cX5_tell 71 = .ok (.bipush (-2), 2) := by decide +kernel
theorem dX5_tell_73 : decode cX5_tell 73 = .ok (.ireturn, 1) := by decide +kernel
theorem dX5_tell_74 : decode cX5_tell 74 = .ok (.aload_n 0, 1) := by decide +kernel
theorem dX5_tell_75 : decode cX5_tell 75 = .ok (.getfield 10, 3) := by decide +kernel
theorem dX5_tell_78 : decode cX5_tell 78 = .ok (.iload_n 2, 1) := by decide +kernel
theorem dX5_tell_79 : decode cX5_tell 79 = .ok (.iload_n 3, 1) := by decide +kernel
theorem dX5_tell_80 : decode cX5_tell 80 = .ok (.aload_n 0, 1) := by decide +kernel
theorem dX5_tell_81 : decode cX5_tell 81 = .ok (.getfield 10, 3) := by decide +kernel
theorem dX5_tell_84 : decode cX5_tell 84 = .ok (.iload_n 1, 1) := by decide +kernel
theorem dX5_tell_85 : decode cX5_tell 85 = .ok (.iload_n 3, 1) := by decide +kernel
theorem dX5_tell_86 : decode cX5_tell 86 = .ok (.invokevirtual 174, 3) := by decide +kernel
theorem dX5_tell_89 : decode cX5_tell 89 = .ok (.iconst 1, 1) := by decide +kernel
theorem dX5_tell_90 : decode cX5_tell 90 = .ok (.iadd, 1) := by decide +kernel
theorem dX5_tell_91 : decode cX5_tell 91 = .ok (.invokevirtual 180, 3) := by decide +kernel
theorem dX5_tell_94 : decode cX5_tell 94 = .ok (.aload_n 0, 1) := by decide +kernel
theorem dX5_tell_95 : decode cX5_tell 95 = .ok (.getfield 10, 3) := by decide +kernel
theorem dX5_tell_98 : decode cX5_tell 98 = .ok (.iload_n 2, 1) := by decide +kernel
theorem dX5_tell_99 : decode cX5_tell 99 = .ok (.iload_n 3, 1) := by decide +kernel
theorem dX5_tell_100 : decode cX5_tell 100 = .ok (.invokevirtual 174, 3) := by decide +kernel
theorem dX5_tell_103 : decode cX5_tell 103 = .ok (.ireturn, 1) := by decide +kernel
theorem dX5_parts_0 : decode cX5_parts 0 = .ok (.aload_n 0, 1) := by decide +kernel
theorem dX5_parts_1 : decode cX5_parts 1 = .ok (.getfield 19, 3) := by decide +kernel
theorem dX5_parts_4 : decode cX5_parts 4 = .ok (.iload_n 2, 1) := by decide +kernel
theorem dX5_parts_5 : decode cX5_parts 5 = .ok (.invokevirtual 112, 3) := by decide +kernel
theorem dX5_parts_8 : decode cX5_parts 8 = .ok (.ifCond .eq 14, 3) := by decide +kernel
theorem dX5_parts_11 : decode cX5_parts 11 = .ok (.aload_n 0, 1) := by decide +kernel
theorem dX5_parts_12 : decode cX5_parts 12 = .ok (.getfield 10, 3) := by decide +kernel
theorem dX5_parts_15 : decode cX5_parts 15 = .ok (.iload_n 3, 1) := by decide +kernel
theorem dX5_parts_16 : decode cX5_parts 16 = .ok (.invokevirtual 73, 3) := by decide +kernel
theorem dX5_parts_19 : decode cX5_parts 19 = .ok (.ifCond .ne 5, 3) := by decide +kernel
theorem dX5_parts_22 : decode cX5_parts 22 = .ok (.iconst (-1), 1) := by decide +kernel
theorem dX5_parts_23 : decode cX5_parts 23 = .ok (.ireturn, 1) := by decide +kernel
theorem dX5_parts_24 : decode cX5_parts 24 = .ok (.aload_n 0, 1) := by decide +kernel
theorem dX5_parts_25 : decode cX5_parts 25 = .ok (.iload_n 1, 1) := by decide +kernel
theorem dX5_parts_26 : decode cX5_parts 26 = .ok (.invokevirtual 184, 3) := by decide +kernel
theorem dX5_parts_29 : decode cX5_parts 29 = .ok (.istore 4, 2) := by decide +kernel
theorem dX5_parts_31 : decode cX5_parts 31 = .ok (.iload 4, 2) := by decide +kernel
theorem dX5_parts_33 : decode cX5_parts 33 = .ok (.ifCond .ne 19, 3) := by decide +kernel
theorem dX5_parts_36 : decode cX5_parts 36 = .ok (.aload_n 0, 1) := by decide +kernel
theorem dX5_parts_37 : decode cX5_parts 37 = .ok (.getfield 33, 3) := by decide +kernel
theorem dX5_parts_40 : decode cX5_parts 40 = .ok (.getfield 187, 3) := by decide +kernel
theorem dX5_parts_43 : decode cX5_parts 43 = .ok (.iload_n 2, 1) := by decide +kernel
theorem dX5_parts_44 : decode cX5_parts 44 = .ok (.iload_n 3, 1) := by decide +kernel
theorem dX5_parts_45 : decode cX5_parts 45 = .ok (.invokestatic 190, 3) := by decide +kernel
theorem dX5_parts_48 : decode cX5_parts 48 = .ok (.iaload, 1) := by decide +kernel
theorem dX5_parts_49 : decode cX5_parts 49 = .ok (.goto 5, 3) := by decide +kernel
theorem dX5_parts_52 : decode cX5_parts 52 = .ok (.iload 4, 2) := by decide +kernel
theorem dX5_parts_54 : decode cX5_parts 54 = .ok (.ireturn, 1) := by decide +kernel
theorem dX5_bound_0 : decode cX5_bound 0 = .ok (.aload_n 0, 1) := by decide +kernel
theorem dX5_bound_1 : decode cX5_bound 1 = .ok (.getfield 19, 3) := by decide +kernel
theorem dX5_bound_4 : decode cX5_bound 4 = .ok (.iload_n 2, 1) := by decide +kernel
theorem dX5_bound_5 : decode cX5_bound 5 = .ok (.invokevirtual 112, 3) := by decide +kernel
theorem dX5_bound_8 : decode cX5_bound 8 = .ok (.ifCond .eq 14, 3) := by decide +kernel
theorem dX5_bound_11 : decode cX5_bound 11 = .ok (.aload_n 0, 1) := by decide +kernel
theorem dX5_bound_12 : decode cX5_bound 12 = .ok (.getfield 10, 3) := by decide +kernel
theorem dX5_bound_15 : decode cX5_bound 15 = .ok (.iload_n 3, 1) := by decide +kernel
theorem dX5_bound_16 : decode cX5_bound 16 = .ok (.invokevirtual 73, 3) := by decide +kernel
theorem dX5_bound_19 : decode cX5_bound 19 = .ok (.ifCond .ne 5, 3) := by decide +kernel
theorem dX5_bound_22 : decode cX5_bound 22 = .ok (.iconst (-1), 1) := by decide +kernel
theorem dX5_bound_23 : decode cX5_bound 23 = .ok (.ireturn, 1) := by decide +kernel
theorem dX5_bound_24 : decode cX5_bound 24 = .ok (.aload_n 0, 1) := by decide +kernel
theorem dX5_bound_25 : decode cX5_bound 25 = .ok (.iload_n 1, 1) := by decide +kernel
theorem dX5_bound_26 : decode cX5_bound 26 = .ok (.invokevirtual 184, 3) := by decide +kernel
theorem dX5_bound_29 : decode cX5_bound 29 = .ok (.istore 4, 2) := by decide +kernel
theorem dX5_bound_31 : decode cX5_bound 31 = .ok (.iload 4, 2) := by decide +kernel
theorem dX5_bound_33 : decode cX5_bound 33 = .ok (.ifCond .ne 19, 3) := by decide +kernel
theorem dX5_bound_36 : decode cX5_bound 36 = .ok (.aload_n 0, 1) := by decide +kernel
theorem dX5_bound_37 : decode cX5_bound 37 = .ok (.getfield 33, 3) := by decide +kernel
theorem dX5_bound_40 : decode cX5_bound 40 = .ok (.getfield 193, 3) := by decide +kernel
theorem dX5_bound_43 : decode cX5_bound 43 = .ok (.iload_n 2, 1) := by decide +kernel
theorem dX5_bound_44 : decode cX5_bound 44 = .ok (.iload_n 3, 1) := by decide +kernel
theorem dX5_bound_45 : decode cX5_bound 45 = .ok (.invokestatic 190, 3) := by decide +kernel
theorem dX5_bound_48 : decode cX5_bound 48 = .ok (.iaload, 1) := by decide +kernel
theorem dX5_bound_49 : decode cX5_bound 49 = .ok (.goto 5, 3) := by decide +kernel
theorem dX5_bound_52 : decode cX5_bound 52 = .ok (.iload 4, 2) := by decide +kernel
theorem dX5_bound_54 : decode cX5_bound 54 = .ok (.ireturn, 1) := by decide +kernel
theorem dX5_holds_0 : decode cX5_holds 0 = .ok (.aload_n 0, 1) := by decide +kernel
theorem dX5_holds_1 : decode cX5_holds 1 = .ok (.getfield 26, 3) := by decide +kernel
theorem dX5_holds_4 : decode cX5_holds 4 = .ok (.iload_n 2, 1) := by decide +kernel
theorem dX5_holds_5 : decode cX5_holds 5 = .ok (.invokevirtual 153, 3) := by decide +kernel
theorem dX5_holds_8 : decode cX5_holds 8 = .ok (.ifCond .ne 5, 3) := by decide +kernel
theorem dX5_holds_11 : decode cX5_holds 11 = .ok (.iconst (-1), 1) := by decide +kernel
theorem dX5_holds_12 : decode cX5_holds 12 = .ok (.ireturn, 1) := by decide +kernel
theorem dX5_holds_13 : decode cX5_holds 13 = .ok (.aload_n 0, 1) := by decide +kernel
theorem dX5_holds_14 : decode cX5_holds 14 = .ok (.iload_n 1, 1) := by decide +kernel
theorem dX5_holds_15 : decode cX5_holds 15 = .ok (.invokevirtual 184, 3) := by decide +kernel
theorem dX5_holds_18 : decode cX5_holds 18 = .ok (.istore_n 3, 1) := by decide +kernel
theorem dX5_holds_19 : decode cX5_holds 19 = .ok (.iload_n 3, 1) := by decide +kernel
theorem dX5_holds_20 : decode cX5_holds 20 = .ok (.ifCond .eq 5, 3) := by decide +kernel
theorem dX5_holds_23 : decode cX5_holds 23 = .ok (.iload_n 3, 1) := by decide +kernel
theorem dX5_holds_24 : decode cX5_holds 24 = .ok (.ireturn, 1) := by decide +kernel
theorem dX5_holds_25 : decode cX5_holds 25 = .ok (.aload_n 0, 1) := by decide +kernel
theorem dX5_holds_26 : decode cX5_holds 26 = .ok (.iload_n 1, 1) := by decide +kernel
theorem dX5_holds_27 : decode cX5_holds 27 = .ok (.invokevirtual 196, 3) := by decide +kernel
theorem dX5_holds_30 : decode cX5_holds 30 = .ok (.iload_n 2, 1) := by decide +kernel
theorem dX5_holds_31 : decode cX5_holds 31 = .ok (.invokestatic 163, 3) := by decide +kernel
theorem dX5_holds_34 : decode cX5_holds 34 = .ok (.ifCond .ne 6, 3) := by decide +kernel
theorem dX5_holds_37 : decode cX5_holds 37 = .ok (.bipush (-4), 2) := by decide +kernel
theorem dX5_holds_39 : decode cX5_holds 39 = .ok (.ireturn, 1) := by decide +kernel
theorem dX5_holds_40 : decode cX5_holds 40 = .ok (.aload_n 0, 1) := by decide +kernel
theorem dX5_holds_41 : decode cX5_holds 41 = .ok (.getfield 33, 3) := by decide +kernel
theorem dX5_holds_44 : decode cX5_holds 44 = .ok (.getfield 200, 3) := by decide +kernel
theorem dX5_holds_47 : decode cX5_holds 47 = .ok (.iload_n 2, 1) := by decide +kernel
theorem dX5_holds_48 : decode cX5_holds 48 = .ok (.invokestatic 163, 3) := by decide +kernel
theorem dX5_holds_51 : decode cX5_holds 51 = .ok (.ifCond .eq 7, 3) := by decide +kernel
theorem dX5_holds_54 : decode cX5_holds 54 = .ok (.iconst 1, 1) := by decide +kernel
theorem dX5_holds_55 : decode cX5_holds 55 = .ok (.goto 4, 3) := by decide +kernel
theorem dX5_holds_58 : decode cX5_holds 58 = .ok (.iconst 0, 1) := by decide +kernel
theorem dX5_holds_59 : decode cX5_holds 59 = .ok (.ireturn, 1) := by decide +kernel
theorem dX5_owner_0 : decode cX5_owner 0 = .ok (.aload_n 0, 1) := by decide +kernel
theorem dX5_owner_1 : decode cX5_owner 1 = .ok (.getfield 19, 3) := by decide +kernel
theorem dX5_owner_4 : decode cX5_owner 4 = .ok (.iload_n 2, 1) := by decide +kernel
theorem dX5_owner_5 : decode cX5_owner 5 = .ok (.invokevirtual 112, 3) := by decide +kernel
theorem dX5_owner_8 : decode cX5_owner 8 = .ok (.ifCond .ne 5, 3) := by decide +kernel
theorem dX5_owner_11 : decode cX5_owner 11 = .ok (.iconst (-1), 1) := by decide +kernel
theorem dX5_owner_12 : decode cX5_owner 12 = .ok (.ireturn, 1) := by decide +kernel
theorem dX5_owner_13 : decode cX5_owner 13 = .ok (.aload_n 0, 1) := by decide +kernel
theorem dX5_owner_14 : decode cX5_owner 14 = .ok (.iload_n 1, 1) := by decide +kernel
theorem dX5_owner_15 : decode cX5_owner 15 = .ok (.invokevirtual 184, 3) := by decide +kernel
theorem dX5_owner_18 : decode cX5_owner 18 = .ok (.istore_n 3, 1) := by decide +kernel
theorem dX5_owner_19 : decode cX5_owner 19 = .ok (.iload_n 3, 1) := by decide +kernel
theorem dX5_owner_20 : decode cX5_owner 20 = .ok (.ifCond .eq 5, 3) := by decide +kernel
theorem dX5_owner_23 : decode cX5_owner 23 = .ok (.iload_n 3, 1) := by decide +kernel
theorem dX5_owner_24 : decode cX5_owner 24 = .ok (.ireturn, 1) := by decide +kernel
theorem dX5_owner_25 : decode cX5_owner 25 = .ok (.iconst 0, 1) := by decide +kernel
theorem dX5_owner_26 : decode cX5_owner 26 = .ok (.istore 4, 2) := by decide +kernel
theorem dX5_owner_28 : decode cX5_owner 28 = .ok (.bipush (-4), 2) := by decide +kernel
theorem dX5_owner_30 : decode cX5_owner 30 = .ok (.istore 5, 2) := by decide +kernel
theorem dX5_owner_32 : decode cX5_owner 32 = .ok (.iconst 0, 1) := by decide +kernel
theorem dX5_owner_33 : decode cX5_owner 33 = .ok (.istore 6, 2) := by decide +kernel
theorem dX5_owner_35 : decode cX5_owner 35 = .ok (.iload 6, 2) := by decide +kernel
theorem dX5_owner_37 : decode cX5_owner 37 = .ok (.aload_n 0, 1) := by decide +kernel
theorem dX5_owner_38 : decode cX5_owner 38 = .ok (.getfield 10, 3) := by decide +kernel
theorem dX5_owner_41 : decode cX5_owner 41 = .ok (.getfield 62, 3) := by decide +kernel
theorem dX5_owner_44 : decode cX5_owner 44 = .ok (.if_icmp .ge 40, 3) := by decide +kernel
theorem dX5_owner_47 : decode cX5_owner 47 = .ok (.aload_n 0, 1) := by decide +kernel
theorem dX5_owner_48 : decode cX5_owner 48 = .ok (.getfield 33, 3) := by decide +kernel
theorem dX5_owner_51 : decode cX5_owner 51 = .ok (.getfield 187, 3) := by decide +kernel
theorem dX5_owner_54 : decode cX5_owner 54 = .ok (.iload_n 2, 1) := by decide +kernel
theorem dX5_owner_55 : decode cX5_owner 55 = .ok (.iload 6, 2) := by decide +kernel
theorem dX5_owner_57 : decode cX5_owner 57 = .ok (.invokestatic 190, 3) := by decide +kernel
theorem dX5_owner_60 : decode cX5_owner 60 = .ok (.iaload, 1) := by decide +kernel
theorem dX5_owner_61 : decode cX5_owner 61 = .ok (.istore 7, 2) := by decide +kernel
theorem dX5_owner_63 : decode cX5_owner 63 = .ok (.iload 7, 2) := by decide +kernel
theorem dX5_owner_65 : decode cX5_owner 65 = .ok (.iload 4, 2) := by decide +kernel
theorem dX5_owner_67 : decode cX5_owner 67 = .ok (.if_icmp .le 11, 3) := by decide +kernel
theorem dX5_owner_70 : decode cX5_owner 70 = .ok (.iload 7, 2) := by decide +kernel
theorem dX5_owner_72 : decode cX5_owner 72 = .ok (.istore 4, 2) := by decide +kernel
theorem dX5_owner_74 : decode cX5_owner 74 = .ok (.iload 6, 2) := by decide +kernel
theorem dX5_owner_76 : decode cX5_owner 76 = .ok (.istore 5, 2) := by decide +kernel
theorem dX5_owner_78 : decode cX5_owner 78 = .ok (.iinc 6 1, 3) := by decide +kernel
theorem dX5_owner_81 : decode cX5_owner 81 = .ok (.goto (-46), 3) := by decide +kernel
theorem dX5_owner_84 : decode cX5_owner 84 = .ok (.iload 5, 2) := by decide +kernel
theorem dX5_owner_86 : decode cX5_owner 86 = .ok (.ireturn, 1) := by decide +kernel
theorem dX5_worth_0 : decode cX5_worth 0 = .ok (.aload_n 0, 1) := by decide +kernel
theorem dX5_worth_1 : decode cX5_worth 1 = .ok (.getfield 19, 3) := by decide +kernel
theorem dX5_worth_4 : decode cX5_worth 4 = .ok (.iload_n 2, 1) := by decide +kernel
theorem dX5_worth_5 : decode cX5_worth 5 = .ok (.invokevirtual 112, 3) := by decide +kernel
theorem dX5_worth_8 : decode cX5_worth 8 = .ok (.ifCond .ne 5, 3) := by decide +kernel
theorem dX5_worth_11 : decode cX5_worth 11 = .ok (.iconst (-1), 1) := by decide +kernel
theorem dX5_worth_12 : decode cX5_worth 12 = .ok (.ireturn, 1) := by decide +kernel
theorem dX5_worth_13 : decode cX5_worth 13 = .ok (.aload_n 0, 1) := by decide +kernel
theorem dX5_worth_14 : decode cX5_worth 14 = .ok (.iload_n 1, 1) := by decide +kernel
theorem dX5_worth_15 : decode cX5_worth 15 = .ok (.invokevirtual 184, 3) := by decide +kernel
theorem dX5_worth_18 : decode cX5_worth 18 = .ok (.istore_n 3, 1) := by decide +kernel
theorem dX5_worth_19 : decode cX5_worth 19 = .ok (.iload_n 3, 1) := by decide +kernel
theorem dX5_worth_20 : decode cX5_worth 20 = .ok (.ifCond .ne 11, 3) := by decide +kernel
theorem dX5_worth_23 : decode cX5_worth 23 = .ok (.aload_n 0, 1) := by decide +kernel
theorem dX5_worth_24 : decode cX5_worth 24 = .ok (.iload_n 2, 1) := by decide +kernel
theorem dX5_worth_25 : decode cX5_worth 25 = .ok (.invokevirtual 203, 3) := by decide +kernel
theorem dX5_worth_28 : decode cX5_worth 28 = .ok (.goto 4, 3) := by decide +kernel
theorem dX5_worth_31 : decode cX5_worth 31 = .ok (.iload_n 3, 1) := by decide +kernel
theorem dX5_worth_32 : decode cX5_worth 32 = .ok (.ireturn, 1) := by decide +kernel
theorem dX5_wealth_0 : decode cX5_wealth 0 = .ok (.aload_n 0, 1) := by decide +kernel
theorem dX5_wealth_1 : decode cX5_wealth 1 = .ok (.getfield 10, 3) := by decide +kernel
theorem dX5_wealth_4 : decode cX5_wealth 4 = .ok (.iload_n 2, 1) := by decide +kernel
theorem dX5_wealth_5 : decode cX5_wealth 5 = .ok (.invokevirtual 73, 3) := by decide +kernel
theorem dX5_wealth_8 : decode cX5_wealth 8 = .ok (.ifCond .ne 5, 3) := by decide +kernel
theorem dX5_wealth_11 : decode cX5_wealth 11 = .ok (.iconst (-1), 1) := by decide +kernel
theorem dX5_wealth_12 : decode cX5_wealth 12 = .ok (.ireturn, 1) := by decide +kernel
theorem dX5_wealth_13 : decode cX5_wealth 13 = .ok (.aload_n 0, 1) := by decide +kernel
theorem dX5_wealth_14 : decode cX5_wealth 14 = .ok (.iload_n 1, 1) := by decide +kernel
theorem dX5_wealth_15 : decode cX5_wealth 15 = .ok (.invokevirtual 184, 3) := by decide +kernel
theorem dX5_wealth_18 : decode cX5_wealth 18 = .ok (.istore_n 3, 1) := by decide +kernel
theorem dX5_wealth_19 : decode cX5_wealth 19 = .ok (.iload_n 3, 1) := by decide +kernel
theorem dX5_wealth_20 : decode cX5_wealth 20 = .ok (.ifCond .eq 5, 3) := by decide +kernel
theorem dX5_wealth_23 : decode cX5_wealth 23 = .ok (.iload_n 3, 1) := by decide +kernel
theorem dX5_wealth_24 : decode cX5_wealth 24 = .ok (.ireturn, 1) := by decide +kernel
theorem dX5_wealth_25 : decode cX5_wealth 25 = .ok (.iconst 0, 1) := by decide +kernel
theorem dX5_wealth_26 : decode cX5_wealth 26 = .ok (.istore 4, 2) := by decide +kernel
theorem dX5_wealth_28 : decode cX5_wealth 28 = .ok (.iconst 0, 1) := by decide +kernel
theorem dX5_wealth_29 : decode cX5_wealth 29 = .ok (.istore 5, 2) := by decide +kernel
theorem dX5_wealth_31 : decode cX5_wealth 31 = .ok (.iload 5, 2) := by decide +kernel
theorem dX5_wealth_33 : decode cX5_wealth 33 = .ok (.aload_n 0, 1) := by decide +kernel
theorem dX5_wealth_34 : decode cX5_wealth 34 = .ok (.getfield 19, 3) := by decide +kernel
theorem dX5_wealth_37 : decode cX5_wealth 37 = .ok (.getfield 107, 3) := by decide +kernel
theorem dX5_wealth_40 : decode cX5_wealth 40 = .ok (.if_icmp .ge 38, 3) := by decide +kernel
theorem dX5_wealth_43 : decode cX5_wealth 43 = .ok (.iload 4, 2) := by decide +kernel
theorem dX5_wealth_45 : decode cX5_wealth 45 = .ok (.aload_n 0, 1) := by decide +kernel
theorem dX5_wealth_46 : decode cX5_wealth 46 = .ok (.iload 5, 2) := by decide +kernel
theorem dX5_wealth_48 : decode cX5_wealth 48 = .ok (.invokevirtual 203, 3) := by decide +kernel
theorem dX5_wealth_51 : decode cX5_wealth 51 = .ok (.aload_n 0, 1) := by decide +kernel
theorem dX5_wealth_52 : decode cX5_wealth 52 = .ok (.getfield 33, 3) := by decide +kernel
theorem dX5_wealth_55 : decode cX5_wealth 55 = .ok (.getfield 187, 3) := by decide +kernel
theorem dX5_wealth_58 : decode cX5_wealth 58 = .ok (.iload 5, 2) := by decide +kernel
theorem dX5_wealth_60 : decode cX5_wealth 60 = .ok (.iload_n 2, 1) := by decide +kernel
theorem dX5_wealth_61 : decode cX5_wealth 61 = .ok (.invokestatic 190, 3) := by decide +kernel
theorem dX5_wealth_64 : decode cX5_wealth 64 = .ok (.iaload, 1) := by decide +kernel
theorem dX5_wealth_65 : decode cX5_wealth 65 = .ok (.imul, 1) := by decide +kernel
theorem dX5_wealth_66 : decode cX5_wealth 66 = .ok (.bipush 12, 2) := by decide +kernel
theorem dX5_wealth_68 : decode cX5_wealth 68 = .ok (.idiv, 1) := by decide +kernel
theorem dX5_wealth_69 : decode cX5_wealth 69 = .ok (.iadd, 1) := by decide +kernel
theorem dX5_wealth_70 : decode cX5_wealth 70 = .ok (.istore 4, 2) := by decide +kernel
theorem dX5_wealth_72 : decode cX5_wealth 72 = .ok (.iinc 5 1, 3) := by decide +kernel
theorem dX5_wealth_75 : decode cX5_wealth 75 = .ok (.goto (-44), 3) := by decide +kernel
theorem dX5_wealth_78 : decode cX5_wealth 78 = .ok (.iload 4, 2) := by decide +kernel
theorem dX5_wealth_80 : decode cX5_wealth 80 = .ok (.ireturn, 1) := by decide +kernel
theorem dX5_quarrel_0 : decode cX5_quarrel 0 = .ok (.aload_n 0, 1) := by decide +kernel
theorem dX5_quarrel_1 : decode cX5_quarrel 1 = .ok (.getfield 19, 3) := by decide +kernel
theorem dX5_quarrel_4 : decode cX5_quarrel 4 = .ok (.iload_n 1, 1) := by decide +kernel
theorem dX5_quarrel_5 : decode cX5_quarrel 5 = .ok (.invokevirtual 112, 3) := by decide +kernel
theorem dX5_quarrel_8 : decode cX5_quarrel 8 = .ok (.ifCond .eq 30, 3) := by decide +kernel
theorem dX5_quarrel_11 : decode cX5_quarrel 11 = .ok (.aload_n 0, 1) := by decide +kernel
theorem dX5_quarrel_12 : decode cX5_quarrel 12 = .ok (.getfield 10, 3) := by decide +kernel
theorem dX5_quarrel_15 : decode cX5_quarrel 15 = .ok (.iload_n 2, 1) := by decide +kernel
theorem dX5_quarrel_16 : decode cX5_quarrel 16 = .ok (.invokevirtual 73, 3) := by decide +kernel
theorem dX5_quarrel_19 : decode cX5_quarrel 19 = .ok (.ifCond .eq 19, 3) := by decide +kernel
theorem dX5_quarrel_22 : decode cX5_quarrel 22 = .ok (.aload_n 0, 1) := by decide +kernel
theorem dX5_quarrel_23 : decode cX5_quarrel 23 = .ok (.getfield 10, 3) := by decide +kernel
theorem dX5_quarrel_26 : decode cX5_quarrel 26 = .ok (.iload_n 3, 1) := by decide +kernel
theorem dX5_quarrel_27 : decode cX5_quarrel 27 = .ok (.invokevirtual 73, 3) := by decide +kernel
theorem dX5_quarrel_30 : decode cX5_quarrel 30 = .ok (.ifCond .eq 8, 3) := by decide +kernel
theorem dX5_quarrel_33 : decode cX5_quarrel 33 = .ok (.iload_n 2, 1) := by decide +kernel
theorem dX5_quarrel_34 : decode cX5_quarrel 34 = .ok (.iload_n 3, 1) := by decide +kernel
theorem dX5_quarrel_35 : decode cX5_quarrel 35 = .ok (.if_icmp .ne 5, 3) := by decide +kernel
theorem dX5_quarrel_38 : decode cX5_quarrel 38 = .ok (.iconst (-1), 1) := by decide +kernel
theorem dX5_quarrel_39 : decode cX5_quarrel 39 = .ok (.ireturn, 1) := by decide +kernel
theorem dX5_quarrel_40 : decode cX5_quarrel 40 = .ok (.iconst 0, 1) := by decide +kernel
theorem dX5_quarrel_41 : decode cX5_quarrel 41 = .ok (.istore 4, 2) := by decide +kernel
theorem dX5_quarrel_43 : decode cX5_quarrel 43 = .ok (.sipush 1000, 3) := by decide +kernel
theorem dX5_quarrel_46 : decode cX5_quarrel 46 = .ok (.istore 5, 2) := by decide +kernel
theorem dX5_quarrel_48 : decode cX5_quarrel 48 = .ok (.sipush 1000, 3) := by decide +kernel
theorem dX5_quarrel_51 : decode cX5_quarrel 51 = .ok (.istore 6, 2) := by decide +kernel
theorem dX5_quarrel_53 : decode cX5_quarrel 53 = .ok (.iconst 0, 1) := by decide +kernel
theorem dX5_quarrel_54 : decode cX5_quarrel 54 = .ok (.istore 7, 2) := by decide +kernel
theorem dX5_quarrel_56 : decode cX5_quarrel 56 = .ok (.iload 7, 2) := by decide +kernel
theorem dX5_quarrel_58 : decode cX5_quarrel 58 = .ok (.aload_n 0, 1) := by decide +kernel
theorem dX5_quarrel_59 : decode cX5_quarrel 59 = .ok (.getfield 10, 3) := by decide +kernel
theorem dX5_quarrel_62 : decode cX5_quarrel 62 = .ok (.getfield 62, 3) := by decide +kernel
theorem dX5_quarrel_65 : decode cX5_quarrel 65 = .ok (.if_icmp .ge 85, 3) := by decide +kernel
theorem dX5_quarrel_68 : decode cX5_quarrel 68 = .ok (.aload_n 0, 1) := by decide +kernel
theorem dX5_quarrel_69 : decode cX5_quarrel 69 = .ok (.getfield 10, 3) := by decide +kernel
theorem dX5_quarrel_72 : decode cX5_quarrel 72 = .ok (.iload 7, 2) := by decide +kernel
theorem dX5_quarrel_74 : decode cX5_quarrel 74 = .ok (.invokevirtual 98, 3) := by decide +kernel
theorem dX5_quarrel_77 : decode cX5_quarrel 77 = .ok (.ifCond .eq 15, 3) := by decide +kernel
theorem dX5_quarrel_80 : decode cX5_quarrel 80 = .ok (.aload_n 0, 1) := by decide +kernel
theorem dX5_quarrel_81 : decode cX5_quarrel 81 = .ok (.iload 7, 2) := by decide +kernel
theorem dX5_quarrel_83 : decode cX5_quarrel 83 = .ok (.iload_n 1, 1) := by decide +kernel
theorem dX5_quarrel_84 : decode cX5_quarrel 84 = .ok (.iload_n 2, 1) := by decide +kernel
theorem dX5_quarrel_85 : decode cX5_quarrel 85 = .ok (.iload_n 3, 1) := by decide +kernel
theorem dX5_quarrel_86 : decode cX5_quarrel 86 = .ok (.invokevirtual 206, 3) := by decide +kernel
theorem dX5_quarrel_89 : decode cX5_quarrel 89 = .ok (.goto 4, 3) := by decide +kernel
theorem dX5_quarrel_92 : decode cX5_quarrel 92 = .ok (.iconst 0, 1) := by decide +kernel
theorem dX5_quarrel_93 : decode cX5_quarrel 93 = .ok (.istore 8, 2) := by decide +kernel
theorem dX5_quarrel_95 : decode cX5_quarrel 95 = .ok (.iload 8, 2) := by decide +kernel
theorem dX5_quarrel_97 : decode cX5_quarrel 97 = .ok (.ifCond .le 24, 3) := by decide +kernel
theorem dX5_quarrel_100 : decode cX5_quarrel 100 = .ok (.iinc 4 1, 3) := by decide +kernel
theorem dX5_quarrel_103 : decode cX5_quarrel 103 = .ok (.iload 5, 2) := by decide +kernel
theorem dX5_quarrel_105 : decode cX5_quarrel 105 = .ok (.aload_n 0, 1) := by decide +kernel
theorem dX5_quarrel_106 : decode cX5_quarrel 106 = .ok (.iload 7, 2) := by decide +kernel
theorem dX5_quarrel_108 : decode cX5_quarrel 108 = .ok (.iload_n 1, 1) := by decide +kernel
theorem dX5_quarrel_109 : decode cX5_quarrel 109 = .ok (.iload_n 2, 1) := by decide +kernel
theorem dX5_quarrel_110 : decode cX5_quarrel 110 = .ok (.invokevirtual 210, 3) := by decide +kernel
theorem dX5_quarrel_113 : decode cX5_quarrel 113 = .ok (.invokestatic 213, 3) := by decide +kernel
theorem dX5_quarrel_116 : decode cX5_quarrel 116 = .ok (.istore 5, 2) := by decide +kernel
theorem dX5_quarrel_118 : decode cX5_quarrel 118 = .ok (.goto 26, 3) := by decide +kernel
theorem dX5_quarrel_121 : decode cX5_quarrel 121 = .ok (.iload 8, 2) := by decide +kernel
theorem dX5_quarrel_123 : decode cX5_quarrel 123 = .ok (.ifCond .ge 21, 3) := by decide +kernel
theorem dX5_quarrel_126 : decode cX5_quarrel 126 = .ok (.iinc 4 (-1), 3) := by decide +kernel
theorem dX5_quarrel_129 : decode cX5_quarrel 129 = .ok (.iload 6, 2) := by decide +kernel
theorem dX5_quarrel_131 : decode cX5_quarrel 131 = .ok (.aload_n 0, 1) := by decide +kernel
theorem dX5_quarrel_132 : decode cX5_quarrel 132 = .ok (.iload 7, 2) := by decide +kernel
theorem dX5_quarrel_134 : decode cX5_quarrel 134 = .ok (.iload_n 1, 1) := by decide +kernel
theorem dX5_quarrel_135 : decode cX5_quarrel 135 = .ok (.iload_n 3, 1) := by decide +kernel
theorem dX5_quarrel_136 : decode cX5_quarrel 136 = .ok (.invokevirtual 210, 3) := by decide +kernel
theorem dX5_quarrel_139 : decode cX5_quarrel 139 = .ok (.invokestatic 213, 3) := by decide +kernel
theorem dX5_quarrel_142 : decode cX5_quarrel 142 = .ok (.istore 6, 2) := by decide +kernel
theorem dX5_quarrel_144 : decode cX5_quarrel 144 = .ok (.iinc 7 1, 3) := by decide +kernel
theorem dX5_quarrel_147 : decode cX5_quarrel 147 = .ok (.goto (-91), 3) := by decide +kernel
theorem dX5_quarrel_150 : decode cX5_quarrel 150 = .ok (.iload 4, 2) := by decide +kernel
theorem dX5_quarrel_152 : decode cX5_quarrel 152 = .ok (.ifCond .eq 14, 3) := by decide +kernel
theorem dX5_quarrel_155 : decode cX5_quarrel 155 = .ok (.iload 4, 2) := by decide +kernel
theorem dX5_quarrel_157 : decode cX5_quarrel 157 = .ok (.ifCond .le 7, 3) := by decide +kernel
theorem dX5_quarrel_160 : decode cX5_quarrel 160 = .ok (.iload_n 2, 1) := by decide +kernel
theorem dX5_quarrel_161 : decode cX5_quarrel 161 = .ok (.goto 4, 3) := by decide +kernel
theorem dX5_quarrel_164 : decode cX5_quarrel 164 = .ok (.iload_n 3, 1) := by decide +kernel
theorem dX5_quarrel_165 : decode cX5_quarrel 165 = .ok (.ireturn, 1) := by decide +kernel
theorem dX5_quarrel_166 : decode cX5_quarrel 166 = .ok (.iload 5, 2) := by decide +kernel
theorem dX5_quarrel_168 : decode cX5_quarrel 168 = .ok (.iload 6, 2) := by decide +kernel
theorem dX5_quarrel_170 : decode cX5_quarrel 170 = .ok (.if_icmp .ne 6, 3) := by decide +kernel
theorem dX5_quarrel_173 : decode cX5_quarrel 173 = .ok (.bipush (-4), 2) := by decide +kernel
theorem dX5_quarrel_175 : decode cX5_quarrel 175 = .ok (.ireturn, 1) := by decide +kernel
theorem dX5_quarrel_176 : decode cX5_quarrel 176 = .ok (.iload 5, 2) := by decide +kernel
theorem dX5_quarrel_178 : decode cX5_quarrel 178 = .ok (.iload 6, 2) := by decide +kernel
theorem dX5_quarrel_180 : decode cX5_quarrel 180 = .ok (.if_icmp .ge 7, 3) := by decide +kernel
theorem dX5_quarrel_183 : decode cX5_quarrel 183 = .ok (.iload_n 2, 1) := by decide +kernel
theorem dX5_quarrel_184 : decode cX5_quarrel 184 = .ok (.goto 4, 3) := by decide +kernel
theorem dX5_quarrel_187 : decode cX5_quarrel 187 = .ok (.iload_n 3, 1) := by decide +kernel
theorem dX5_quarrel_188 : decode cX5_quarrel 188 = .ok (.ireturn, 1) := by decide +kernel
theorem dX5_weight_0 : decode cX5_weight 0 = .ok (.aload_n 0, 1) := by decide +kernel
theorem dX5_weight_1 : decode cX5_weight 1 = .ok (.getfield 19, 3) := by decide +kernel
theorem dX5_weight_4 : decode cX5_weight 4 = .ok (.iload_n 1, 1) := by decide +kernel
theorem dX5_weight_5 : decode cX5_weight 5 = .ok (.invokevirtual 112, 3) := by decide +kernel
theorem dX5_weight_8 : decode cX5_weight 8 = .ok (.ifCond .eq 30, 3) := by decide +kernel
theorem dX5_weight_11 : decode cX5_weight 11 = .ok (.aload_n 0, 1) := by decide +kernel
theorem dX5_weight_12 : decode cX5_weight 12 = .ok (.getfield 10, 3) := by decide +kernel
theorem dX5_weight_15 : decode cX5_weight 15 = .ok (.iload_n 2, 1) := by decide +kernel
theorem dX5_weight_16 : decode cX5_weight 16 = .ok (.invokevirtual 73, 3) := by decide +kernel
theorem dX5_weight_19 : decode cX5_weight 19 = .ok (.ifCond .eq 19, 3) := by decide +kernel
theorem dX5_weight_22 : decode cX5_weight 22 = .ok (.aload_n 0, 1) := by decide +kernel
theorem dX5_weight_23 : decode cX5_weight 23 = .ok (.getfield 10, 3) := by decide +kernel
theorem dX5_weight_26 : decode cX5_weight 26 = .ok (.iload_n 3, 1) := by decide +kernel
theorem dX5_weight_27 : decode cX5_weight 27 = .ok (.invokevirtual 73, 3) := by decide +kernel
theorem dX5_weight_30 : decode cX5_weight 30 = .ok (.ifCond .eq 8, 3) := by decide +kernel
theorem dX5_weight_33 : decode cX5_weight 33 = .ok (.iload_n 2, 1) := by decide +kernel
theorem dX5_weight_34 : decode cX5_weight 34 = .ok (.iload_n 3, 1) := by decide +kernel
theorem dX5_weight_35 : decode cX5_weight 35 = .ok (.if_icmp .ne 5, 3) := by decide +kernel
theorem dX5_weight_38 : decode cX5_weight 38 = .ok (.iconst (-1), 1) := by decide +kernel
theorem dX5_weight_39 : decode cX5_weight 39 = .ok (.ireturn, 1) := by decide +kernel
theorem dX5_weight_40 : decode cX5_weight 40 = .ok (.iconst 0, 1) := by decide +kernel
theorem dX5_weight_41 : decode cX5_weight 41 = .ok (.istore 4, 2) := by decide +kernel
theorem dX5_weight_43 : decode cX5_weight 43 = .ok (.iconst 0, 1) := by decide +kernel
theorem dX5_weight_44 : decode cX5_weight 44 = .ok (.istore 5, 2) := by decide +kernel
theorem dX5_weight_46 : decode cX5_weight 46 = .ok (.iload 5, 2) := by decide +kernel
theorem dX5_weight_48 : decode cX5_weight 48 = .ok (.aload_n 0, 1) := by decide +kernel
theorem dX5_weight_49 : decode cX5_weight 49 = .ok (.getfield 10, 3) := by decide +kernel
theorem dX5_weight_52 : decode cX5_weight 52 = .ok (.getfield 62, 3) := by decide +kernel
theorem dX5_weight_55 : decode cX5_weight 55 = .ok (.if_icmp .ge 36, 3) := by decide +kernel
theorem dX5_weight_58 : decode cX5_weight 58 = .ok (.aload_n 0, 1) := by decide +kernel
theorem dX5_weight_59 : decode cX5_weight 59 = .ok (.getfield 10, 3) := by decide +kernel
theorem dX5_weight_62 : decode cX5_weight 62 = .ok (.iload 5, 2) := by decide +kernel
theorem dX5_weight_64 : decode cX5_weight 64 = .ok (.invokevirtual 98, 3) := by decide +kernel
theorem dX5_weight_67 : decode cX5_weight 67 = .ok (.ifCond .eq 18, 3) := by decide +kernel
theorem dX5_weight_70 : decode cX5_weight 70 = .ok (.aload_n 0, 1) := by decide +kernel
theorem dX5_weight_71 : decode cX5_weight 71 = .ok (.iload 5, 2) := by decide +kernel
theorem dX5_weight_73 : decode cX5_weight 73 = .ok (.iload_n 1, 1) := by decide +kernel
theorem dX5_weight_74 : decode cX5_weight 74 = .ok (.iload_n 2, 1) := by decide +kernel
theorem dX5_weight_75 : decode cX5_weight 75 = .ok (.iload_n 3, 1) := by decide +kernel
theorem dX5_weight_76 : decode cX5_weight 76 = .ok (.invokevirtual 206, 3) := by decide +kernel
theorem dX5_weight_79 : decode cX5_weight 79 = .ok (.ifCond .le 6, 3) := by decide +kernel
theorem dX5_weight_82 : decode cX5_weight 82 = .ok (.iinc 4 1, 3) := by decide +kernel
theorem dX5_weight_85 : decode cX5_weight 85 = .ok (.iinc 5 1, 3) := by decide +kernel
theorem dX5_weight_88 : decode cX5_weight 88 = .ok (.goto (-42), 3) := by decide +kernel
theorem dX5_weight_91 : decode cX5_weight 91 = .ok (.iload 4, 2) := by decide +kernel
theorem dX5_weight_93 : decode cX5_weight 93 = .ok (.ireturn, 1) := by decide +kernel
theorem dX5_split_0 : decode cX5_split 0 = .ok (.iconst 0, 1) := by decide +kernel
theorem dX5_split_1 : decode cX5_split 1 = .ok (.istore_n 1, 1) := by decide +kernel
theorem dX5_split_2 : decode cX5_split 2 = .ok (.iconst 1, 1) := by decide +kernel
theorem dX5_split_3 : decode cX5_split 3 = .ok (.istore_n 2, 1) := by decide +kernel
theorem dX5_split_4 : decode cX5_split 4 = .ok (.iconst 0, 1) := by decide +kernel
theorem dX5_split_5 : decode cX5_split 5 = .ok (.istore_n 3, 1) := by decide +kernel
theorem dX5_split_6 : decode cX5_split 6 = .ok (.iload_n 3, 1) := by decide +kernel
theorem dX5_split_7 : decode cX5_split 7 = .ok (.aload_n 0, 1) := by decide +kernel
theorem dX5_split_8 : decode cX5_split 8 = .ok (.getfield 10, 3) := by decide +kernel
theorem dX5_split_11 : decode cX5_split 11 = .ok (.getfield 62, 3) := by decide +kernel
theorem dX5_split_14 : decode cX5_split 14 = .ok (.if_icmp .ge 80, 3) := by decide +kernel
theorem dX5_split_17 : decode cX5_split 17 = .ok (.aload_n 0, 1) := by decide +kernel
theorem dX5_split_18 : decode cX5_split 18 = .ok (.getfield 10, 3) := by decide +kernel
theorem dX5_split_21 : decode cX5_split 21 = .ok (.iload_n 3, 1) := by decide +kernel
theorem dX5_split_22 : decode cX5_split 22 = .ok (.invokevirtual 98, 3) := by decide +kernel
theorem dX5_split_25 : decode cX5_split 25 = .ok (.ifCond .ne 6, 3) := by decide +kernel
theorem dX5_split_28 : decode cX5_split 28 = .ok (.goto 60, 3) := by decide +kernel
theorem dX5_split_31 : decode cX5_split 31 = .ok (.aload_n 0, 1) := by decide +kernel
theorem dX5_split_32 : decode cX5_split 32 = .ok (.getfield 33, 3) := by decide +kernel
theorem dX5_split_35 : decode cX5_split 35 = .ok (.aload_n 0, 1) := by decide +kernel
theorem dX5_split_36 : decode cX5_split 36 = .ok (.getfield 26, 3) := by decide +kernel
theorem dX5_split_39 : decode cX5_split 39 = .ok (.aload_n 0, 1) := by decide +kernel
theorem dX5_split_40 : decode cX5_split 40 = .ok (.getfield 10, 3) := by decide +kernel
theorem dX5_split_43 : decode cX5_split 43 = .ok (.getfield 101, 3) := by decide +kernel
theorem dX5_split_46 : decode cX5_split 46 = .ok (.iload_n 3, 1) := by decide +kernel
theorem dX5_split_47 : decode cX5_split 47 = .ok (.laload, 1) := by decide +kernel
theorem dX5_split_48 : decode cX5_split 48 = .ok (.invokevirtual 218, 3) := by decide +kernel
theorem dX5_split_51 : decode cX5_split 51 = .ok (.iload_n 2, 1) := by decide +kernel
theorem dX5_split_52 : decode cX5_split 52 = .ok (.ifCond .eq 27, 3) := by decide +kernel
theorem dX5_split_55 : decode cX5_split 55 = .ok (.aload_n 0, 1) := by decide +kernel
theorem dX5_split_56 : decode cX5_split 56 = .ok (.getfield 33, 3) := by decide +kernel
theorem dX5_split_59 : decode cX5_split 59 = .ok (.getfield 187, 3) := by decide +kernel
theorem dX5_split_62 : decode cX5_split 62 = .ok (.iconst 0, 1) := by decide +kernel
theorem dX5_split_63 : decode cX5_split 63 = .ok (.aload_n 0, 1) := by decide +kernel
theorem dX5_split_64 : decode cX5_split 64 = .ok (.getfield 44, 3) := by decide +kernel
theorem dX5_split_67 : decode cX5_split 67 = .ok (.iconst 0, 1) := by decide +kernel
theorem dX5_split_68 : decode cX5_split 68 = .ok (.aload_n 0, 1) := by decide +kernel
theorem dX5_split_69 : decode cX5_split 69 = .ok (.getfield 44, 3) := by decide +kernel
theorem dX5_split_72 : decode cX5_split 72 = .ok (.arraylength, 1) := by decide +kernel
theorem dX5_split_73 : decode cX5_split 73 = .ok (.invokestatic 222, 3) := by decide +kernel
theorem dX5_split_76 : decode cX5_split 76 = .ok (.goto 10, 3) := by decide +kernel
theorem dX5_split_79 : decode cX5_split 79 = .ok (.iload_n 1, 1) := by decide +kernel
theorem dX5_split_80 : decode cX5_split 80 = .ok (.aload_n 0, 1) := by decide +kernel
theorem dX5_split_81 : decode cX5_split 81 = .ok (.invokevirtual 228, 3) := by decide +kernel
theorem dX5_split_84 : decode cX5_split 84 = .ok (.ior, 1) := by decide +kernel
theorem dX5_split_85 : decode cX5_split 85 = .ok (.istore_n 1, 1) := by decide +kernel
theorem dX5_split_86 : decode cX5_split 86 = .ok (.iconst 0, 1) := by decide +kernel
theorem dX5_split_87 : decode cX5_split 87 = .ok (.istore_n 2, 1) := by decide +kernel
theorem dX5_split_88 : decode cX5_split 88 = .ok (.iinc 3 1, 3) := by decide +kernel
theorem dX5_split_91 : decode cX5_split 91 = .ok (.goto (-85), 3) := by decide +kernel
theorem dX5_split_94 : decode cX5_split 94 = .ok (.iload_n 1, 1) := by decide +kernel
theorem dX5_split_95 : decode cX5_split 95 = .ok (.ireturn, 1) := by decide +kernel
theorem dX5_ban_0 : decode cX5_ban 0 = .ok (.iload_n 1, 1) := by decide +kernel
theorem dX5_ban_1 : decode cX5_ban 1 = .ok (.ifCond .lt 9, 3) := by decide +kernel
theorem dX5_ban_4 : decode cX5_ban 4 = .ok (.iload_n 1, 1) := by decide +kernel
theorem dX5_ban_5 : decode cX5_ban 5 = .ok (.bipush 127, 2) := by decide +kernel
theorem dX5_ban_7 : decode cX5_ban 7 = .ok (.if_icmp .le 5, 3) := by decide +kernel
theorem dX5_ban_10 : decode cX5_ban 10 = .ok (.iconst (-1), 1) := by decide +kernel
theorem dX5_ban_11 : decode cX5_ban 11 = .ok (.ireturn, 1) := by decide +kernel
theorem dX5_ban_12 : decode cX5_ban 12 = .ok (.aload_n 0, 1) := by decide +kernel
theorem dX5_ban_13 : decode cX5_ban 13 = .ok (.getfield 59, 3) := by decide +kernel
theorem dX5_ban_16 : decode cX5_ban 16 = .ok (.istore_n 2, 1) := by decide +kernel
theorem dX5_ban_17 : decode cX5_ban 17 = .ok (.aload_n 0, 1) := by decide +kernel
theorem dX5_ban_18 : decode cX5_ban 18 = .ok (.iload_n 1, 1) := by decide +kernel
theorem dX5_ban_19 : decode cX5_ban 19 = .ok (.putfield 59, 3) := by decide +kernel
theorem dX5_ban_22 : decode cX5_ban 22 = .ok (.iload_n 2, 1) := by decide +kernel
theorem dX5_ban_23 : decode cX5_ban 23 = .ok (.ireturn, 1) := by decide +kernel
theorem dX5_feast_0 : decode cX5_feast 0 = .ok (.iload_n 1, 1) := by decide +kernel
theorem dX5_feast_1 : decode cX5_feast 1 = .ok (.ifCond .eq 36, 3) := by decide +kernel
theorem dX5_feast_4 : decode cX5_feast 4 = .ok (.aload_n 0, 1) := by decide +kernel
theorem dX5_feast_5 : decode cX5_feast 5 = .ok (.getfield 10, 3) := by decide +kernel
theorem dX5_feast_8 : decode cX5_feast 8 = .ok (.iload_n 1, 1) := by decide +kernel
theorem dX5_feast_9 : decode cX5_feast 9 = .ok (.invokevirtual 116, 3) := by decide +kernel
theorem dX5_feast_12 : decode cX5_feast 12 = .ok (.ifCond .eq 25, 3) := by decide +kernel
theorem dX5_feast_15 : decode cX5_feast 15 = .ok (.aload_n 0, 1) := by decide +kernel
theorem dX5_feast_16 : decode cX5_feast 16 = .ok (.getfield 10, 3) := by decide +kernel
theorem dX5_feast_19 : decode cX5_feast 19 = .ok (.iload_n 2, 1) := by decide +kernel
theorem dX5_feast_20 : decode cX5_feast 20 = .ok (.invokevirtual 73, 3) := by decide +kernel
theorem dX5_feast_23 : decode cX5_feast 23 = .ok (.ifCond .eq 14, 3) := by decide +kernel
theorem dX5_feast_26 : decode cX5_feast 26 = .ok (.aload_n 0, 1) := by decide +kernel
theorem dX5_feast_27 : decode cX5_feast 27 = .ok (.getfield 19, 3) := by decide +kernel
theorem dX5_feast_30 : decode cX5_feast 30 = .ok (.iload_n 3, 1) := by decide +kernel
theorem dX5_feast_31 : decode cX5_feast 31 = .ok (.invokevirtual 112, 3) := by decide +kernel
theorem dX5_feast_34 : decode cX5_feast 34 = .ok (.ifCond .ne 5, 3) := by decide +kernel
theorem dX5_feast_37 : decode cX5_feast 37 = .ok (.iconst (-1), 1) := by decide +kernel
theorem dX5_feast_38 : decode cX5_feast 38 = .ok (.ireturn, 1) := by decide +kernel
theorem dX5_feast_39 : decode cX5_feast 39 = .ok (.iload_n 1, 1) := by decide +kernel
theorem dX5_feast_40 : decode cX5_feast 40 = .ok (.iconst 1, 1) := by decide +kernel
theorem dX5_feast_41 : decode cX5_feast 41 = .ok (.iload_n 2, 1) := by decide +kernel
theorem dX5_feast_42 : decode cX5_feast 42 = .ok (.ishl, 1) := by decide +kernel
theorem dX5_feast_43 : decode cX5_feast 43 = .ok (.iand, 1) := by decide +kernel
theorem dX5_feast_44 : decode cX5_feast 44 = .ok (.ifCond .ne 6, 3) := by decide +kernel
theorem dX5_feast_47 : decode cX5_feast 47 = .ok (.bipush (-2), 2) := by decide +kernel
theorem dX5_feast_49 : decode cX5_feast 49 = .ok (.ireturn, 1) := by decide +kernel
theorem dX5_feast_50 : decode cX5_feast 50 = .ok (.aload_n 0, 1) := by decide +kernel
theorem dX5_feast_51 : decode cX5_feast 51 = .ok (.iload_n 2, 1) := by decide +kernel
theorem dX5_feast_52 : decode cX5_feast 52 = .ok (.iload_n 3, 1) := by decide +kernel
theorem dX5_feast_53 : decode cX5_feast 53 = .ok (.invokevirtual 232, 3) := by decide +kernel
theorem dX5_feast_56 : decode cX5_feast 56 = .ok (.lstore 4, 2) := by decide +kernel
theorem dX5_feast_58 : decode cX5_feast 58 = .ok (.iconst 0, 1) := by decide +kernel
theorem dX5_feast_59 : decode cX5_feast 59 = .ok (.istore 6, 2) := by decide +kernel
theorem dX5_feast_61 : decode cX5_feast 61 = .ok (.iconst 0, 1) := by decide +kernel
theorem dX5_feast_62 : decode cX5_feast 62 = .ok (.istore 7, 2) := by decide +kernel
theorem dX5_feast_64 : decode cX5_feast 64 = .ok (.iload 7, 2) := by decide +kernel
theorem dX5_feast_66 : decode cX5_feast 66 = .ok (.aload_n 0, 1) := by decide +kernel
theorem dX5_feast_67 : decode cX5_feast 67 = .ok (.getfield 26, 3) := by decide +kernel
theorem dX5_feast_70 : decode cX5_feast 70 = .ok (.getfield 123, 3) := by decide +kernel
theorem dX5_feast_73 : decode cX5_feast 73 = .ok (.if_icmp .ge 32, 3) := by decide +kernel
theorem dX5_feast_76 : decode cX5_feast 76 = .ok (.lload 4, 2) := by decide +kernel
theorem dX5_feast_78 : decode cX5_feast 78 = .ok (.iload 7, 2) := by decide +kernel
theorem dX5_feast_80 : decode cX5_feast 80 = .ok (.invokestatic 163, 3) := by decide +kernel
theorem dX5_feast_83 : decode cX5_feast 83 = .ok (.ifCond .eq 16, 3) := by decide +kernel
theorem dX5_feast_86 : decode cX5_feast 86 = .ok (.iload 6, 2) := by decide +kernel
theorem dX5_feast_88 : decode cX5_feast 88 = .ok (.aload_n 0, 1) := by decide +kernel
theorem dX5_feast_89 : decode cX5_feast 89 = .ok (.iload 7, 2) := by decide +kernel
theorem dX5_feast_91 : decode cX5_feast 91 = .ok (.iload_n 2, 1) := by decide +kernel
theorem dX5_feast_92 : decode cX5_feast 92 = .ok (.iload_n 1, 1) := by decide +kernel
theorem dX5_feast_93 : decode cX5_feast 93 = .ok (.invokevirtual 236, 3) := by decide +kernel
theorem dX5_feast_96 : decode cX5_feast 96 = .ok (.iadd, 1) := by decide +kernel
theorem dX5_feast_97 : decode cX5_feast 97 = .ok (.istore 6, 2) := by decide +kernel
theorem dX5_feast_99 : decode cX5_feast 99 = .ok (.iinc 7 1, 3) := by decide +kernel
theorem dX5_feast_102 : decode cX5_feast 102 = .ok (.goto (-38), 3) := by decide +kernel
theorem dX5_feast_105 : decode cX5_feast 105 = .ok (.iload 6, 2) := by decide +kernel
theorem dX5_feast_107 : decode cX5_feast 107 = .ok (.ireturn, 1) := by decide +kernel
theorem dX5_kept_0 : decode cX5_kept 0 = .ok (.aload_n 0, 1) := by decide +kernel
theorem dX5_kept_1 : decode cX5_kept 1 = .ok (.getfield 19, 3) := by decide +kernel
theorem dX5_kept_4 : decode cX5_kept 4 = .ok (.iload_n 1, 1) := by decide +kernel
theorem dX5_kept_5 : decode cX5_kept 5 = .ok (.invokevirtual 112, 3) := by decide +kernel
theorem dX5_kept_8 : decode cX5_kept 8 = .ok (.ifCond .ne 5, 3) := by decide +kernel
theorem dX5_kept_11 : decode cX5_kept 11 = .ok (.iconst (-1), 1) := by decide +kernel
theorem dX5_kept_12 : decode cX5_kept 12 = .ok (.ireturn, 1) := by decide +kernel
theorem dX5_kept_13 : decode cX5_kept 13 = .ok (.aload_n 0, 1) := by decide +kernel
theorem dX5_kept_14 : decode cX5_kept 14 = .ok (.getfield 10, 3) := by decide +kernel
theorem dX5_kept_17 : decode cX5_kept 17 = .ok (.aload_n 0, 1) := by decide +kernel
theorem dX5_kept_18 : decode cX5_kept 18 = .ok (.getfield 26, 3) := by decide +kernel
theorem dX5_kept_21 : decode cX5_kept 21 = .ok (.getfield 239, 3) := by decide +kernel
theorem dX5_kept_24 : decode cX5_kept 24 = .ok (.iload_n 1, 1) := by decide +kernel
theorem dX5_kept_25 : decode cX5_kept 25 = .ok (.laload, 1) := by decide +kernel
theorem dX5_kept_26 : decode cX5_kept 26 = .ok (.aload_n 0, 1) := by decide +kernel
theorem dX5_kept_27 : decode cX5_kept 27 = .ok (.getfield 10, 3) := by decide +kernel
theorem dX5_kept_30 : decode cX5_kept 30 = .ok (.invokevirtual 80, 3) := by decide +kernel
theorem dX5_kept_33 : decode cX5_kept 33 = .ok (.land, 1) := by decide +kernel
theorem dX5_kept_34 : decode cX5_kept 34 = .ok (.invokevirtual 167, 3) := by decide +kernel
theorem dX5_kept_37 : decode cX5_kept 37 = .ok (.ireturn, 1) := by decide +kernel
theorem dX5_fewest_0 : decode cX5_fewest 0 = .ok (.aload_n 0, 1) := by decide +kernel
theorem dX5_fewest_1 : decode cX5_fewest 1 = .ok (.getfield 19, 3) := by decide +kernel
theorem dX5_fewest_4 : decode cX5_fewest 4 = .ok (.iload_n 1, 1) := by decide +kernel
theorem dX5_fewest_5 : decode cX5_fewest 5 = .ok (.invokevirtual 112, 3) := by decide +kernel
theorem dX5_fewest_8 : decode cX5_fewest 8 = .ok (.ifCond .ne 5, 3) := by decide +kernel
theorem dX5_fewest_11 : decode cX5_fewest 11 = .ok (.iconst (-1), 1) := by decide +kernel
theorem dX5_fewest_12 : decode cX5_fewest 12 = .ok (.ireturn, 1) := by decide +kernel
theorem dX5_fewest_13 : decode cX5_fewest 13 = .ok (.aload_n 0, 1) := by decide +kernel
theorem dX5_fewest_14 : decode cX5_fewest 14 = .ok (.iload_n 1, 1) := by decide +kernel
theorem dX5_fewest_15 : decode cX5_fewest 15 = .ok (.invokevirtual 242, 3) := by decide +kernel
theorem dX5_fewest_18 : decode cX5_fewest 18 = .ok (.ireturn, 1) := by decide +kernel
theorem dX5_teller_0 : decode cX5_teller 0 = .ok (.aload_n 0, 1) := by decide +kernel
theorem dX5_teller_1 : decode cX5_teller 1 = .ok (.getfield 19, 3) := by decide +kernel
theorem dX5_teller_4 : decode cX5_teller 4 = .ok (.iload_n 1, 1) := by decide +kernel
theorem dX5_teller_5 : decode cX5_teller 5 = .ok (.invokevirtual 112, 3) := by decide +kernel
theorem dX5_teller_8 : decode cX5_teller 8 = .ok (.ifCond .eq 7, 3) := by decide +kernel
theorem dX5_teller_11 : decode cX5_teller 11 = .ok (.iload_n 2, 1) := by decide +kernel
theorem dX5_teller_12 : decode cX5_teller 12 = .ok (.ifCond .ge 5, 3) := by decide +kernel
theorem dX5_teller_15 : decode cX5_teller 15 = .ok (.iconst (-1), 1) := by decide +kernel
theorem dX5_teller_16 : decode cX5_teller 16 = .ok (.ireturn, 1) := by decide +kernel
theorem dX5_teller_17 : decode cX5_teller 17 = .ok (.aload_n 0, 1) := by decide +kernel
theorem dX5_teller_18 : decode cX5_teller 18 = .ok (.iload_n 1, 1) := by decide +kernel
theorem dX5_teller_19 : decode cX5_teller 19 = .ok (.invokevirtual 242, 3) := by decide +kernel
theorem dX5_teller_22 : decode cX5_teller 22 = .ok (.istore_n 3, 1) := by decide +kernel
theorem dX5_teller_23 : decode cX5_teller 23 = .ok (.iload_n 3, 1) := by decide +kernel
theorem dX5_teller_24 : decode cX5_teller 24 = .ok (.bipush (-4), 2) := by decide +kernel
theorem dX5_teller_26 : decode cX5_teller 26 = .ok (.if_icmp .ne 6, 3) := by decide +kernel
theorem dX5_teller_29 : decode cX5_teller 29 = .ok (.bipush (-4), 2) := by decide +kernel
theorem dX5_teller_31 : decode cX5_teller 31 = .ok (.ireturn, 1) := by decide +kernel
theorem dX5_teller_32 : decode cX5_teller 32 = .ok (.iload_n 2, 1) := by decide +kernel
theorem dX5_teller_33 : decode cX5_teller 33 = .ok (.iload_n 3, 1) := by decide +kernel
theorem dX5_teller_34 : decode cX5_teller 34 = .ok (.if_icmp .ge 21, 3) := by decide +kernel
theorem dX5_teller_37 : decode cX5_teller 37 = .ok (.iload_n 2, 1) := by decide +kernel
theorem dX5_teller_38 : decode cX5_teller 38 = .ok (.aload_n 0, 1) := by decide +kernel
theorem dX5_teller_39 : decode cX5_teller 39 = .ok (.getfield 52, 3) := by decide +kernel
theorem dX5_teller_42 : decode cX5_teller 42 = .ok (.arraylength, 1) := by decide +kernel
theorem dX5_teller_43 : decode cX5_teller 43 = .ok (.if_icmp .ge 12, 3) := by decide +kernel
theorem dX5_teller_46 : decode cX5_teller 46 = .ok (.aload_n 0, 1) := by decide +kernel
theorem dX5_teller_47 : decode cX5_teller 47 = .ok (.getfield 52, 3) := by decide +kernel
theorem dX5_teller_50 : decode cX5_teller 50 = .ok (.iload_n 2, 1) := by decide +kernel
theorem dX5_teller_51 : decode cX5_teller 51 = .ok (.iaload, 1) := by decide +kernel
theorem dX5_teller_52 : decode cX5_teller 52 = .ok (.goto 4, 3) := by decide +kernel
theorem dX5_teller_55 : decode cX5_teller 55 = .ok (.iconst (-1), 1) := by decide +kernel
theorem dX5_teller_56 : decode cX5_teller 56 = .ok (.ireturn, 1) := by decide +kernel
theorem dX5_count_0 : decode cX5_count 0 = .ok (.iload_n 1, 1) := by decide +kernel
theorem dX5_count_1 : decode cX5_count 1 = .ok (.tableswitch 149 0 9 #[55, 63, 74, 82, 90, 98, 117, 128, 136, 144], 55) := by decide +kernel
theorem dX5_count_56 : decode cX5_count 56 = .ok (.aload_n 0, 1) := by decide +kernel
theorem dX5_count_57 : decode cX5_count 57 = .ok (.getfield 10, 3) := by decide +kernel
theorem dX5_count_60 : decode cX5_count 60 = .ok (.getfield 62, 3) := by decide +kernel
theorem dX5_count_63 : decode cX5_count 63 = .ok (.ireturn, 1) := by decide +kernel
theorem dX5_count_64 : decode cX5_count 64 = .ok (.aload_n 0, 1) := by decide +kernel
theorem dX5_count_65 : decode cX5_count 65 = .ok (.getfield 10, 3) := by decide +kernel
theorem dX5_count_68 : decode cX5_count 68 = .ok (.getfield 245, 3) := by decide +kernel
theorem dX5_count_71 : decode cX5_count 71 = .ok (.invokestatic 248, 3) := by decide +kernel
theorem dX5_count_74 : decode cX5_count 74 = .ok (.ireturn, 1) := by decide +kernel
theorem dX5_count_75 : decode cX5_count 75 = .ok (.aload_n 0, 1) := by decide +kernel
theorem dX5_count_76 : decode cX5_count 76 = .ok (.getfield 10, 3) := by decide +kernel
theorem dX5_count_79 : decode cX5_count 79 = .ok (.invokevirtual 252, 3) := by decide +kernel
theorem dX5_count_82 : decode cX5_count 82 = .ok (.ireturn, 1) := by decide +kernel
theorem dX5_count_83 : decode cX5_count 83 = .ok (.aload_n 0, 1) := by decide +kernel
theorem dX5_count_84 : decode cX5_count 84 = .ok (.getfield 19, 3) := by decide +kernel
theorem dX5_count_87 : decode cX5_count 87 = .ok (.getfield 107, 3) := by decide +kernel
theorem dX5_count_90 : decode cX5_count 90 = .ok (.ireturn, 1) := by decide +kernel
theorem dX5_count_91 : decode cX5_count 91 = .ok (.aload_n 0, 1) := by decide +kernel
theorem dX5_count_92 : decode cX5_count 92 = .ok (.getfield 26, 3) := by decide +kernel
theorem dX5_count_95 : decode cX5_count 95 = .ok (.getfield 123, 3) := by decide +kernel
theorem dX5_count_98 : decode cX5_count 98 = .ok (.ireturn, 1) := by decide +kernel
theorem dX5_count_99 : decode cX5_count 99 = .ok (.aload_n 0, 1) := by decide +kernel
theorem dX5_count_100 : decode cX5_count 100 = .ok (.getfield 26, 3) := by decide +kernel
theorem dX5_count_103 : decode cX5_count 103 = .ok (.getfield 123, 3) := by decide +kernel
theorem dX5_count_106 : decode cX5_count 106 = .ok (.aload_n 0, 1) := by decide +kernel
theorem dX5_count_107 : decode cX5_count 107 = .ok (.getfield 10, 3) := by decide +kernel
theorem dX5_count_110 : decode cX5_count 110 = .ok (.invokevirtual 80, 3) := by decide +kernel
theorem dX5_count_113 : decode cX5_count 113 = .ok (.invokestatic 89, 3) := by decide +kernel
theorem dX5_count_116 : decode cX5_count 116 = .ok (.isub, 1) := by decide +kernel
theorem dX5_count_117 : decode cX5_count 117 = .ok (.ireturn, 1) := by decide +kernel
theorem dX5_count_118 : decode cX5_count 118 = .ok (.aload_n 0, 1) := by decide +kernel
theorem dX5_count_119 : decode cX5_count 119 = .ok (.getfield 26, 3) := by decide +kernel
theorem dX5_count_122 : decode cX5_count 122 = .ok (.getfield 149, 3) := by decide +kernel
theorem dX5_count_125 : decode cX5_count 125 = .ok (.invokestatic 89, 3) := by decide +kernel
theorem dX5_count_128 : decode cX5_count 128 = .ok (.ireturn, 1) := by decide +kernel
theorem dX5_count_129 : decode cX5_count 129 = .ok (.aload_n 0, 1) := by decide +kernel
theorem dX5_count_130 : decode cX5_count 130 = .ok (.getfield 19, 3) := by decide +kernel
theorem dX5_count_133 : decode cX5_count 133 = .ok (.invokevirtual 255, 3) := by decide +kernel
theorem dX5_count_136 : decode cX5_count 136 = .ok (.ireturn, 1) := by decide +kernel
theorem dX5_count_137 : decode cX5_count 137 = .ok (.aload_n 0, 1) := by decide +kernel
theorem dX5_count_138 : decode cX5_count 138 = .ok (.getfield 19, 3) := by decide +kernel
theorem dX5_count_141 : decode cX5_count 141 = .ok (.invokevirtual 258, 3) := by decide +kernel
theorem dX5_count_144 : decode cX5_count 144 = .ok (.ireturn, 1) := by decide +kernel
theorem dX5_count_145 : decode cX5_count 145 = .ok (.aload_n 0, 1) := by decide +kernel
theorem dX5_count_146 : decode cX5_count 146 = .ok (.getfield 55, 3) := by decide +kernel
theorem dX5_count_149 : decode cX5_count 149 = .ok (.ireturn, 1) := by decide +kernel
theorem dX5_count_150 : decode cX5_count 150 = .ok (.iconst (-1), 1) := by decide +kernel
theorem dX5_count_151 : decode cX5_count 151 = .ok (.ireturn, 1) := by decide +kernel
theorem dX5_cross_0 : decode cX5_cross 0 = .ok (.aload_n 0, 1) := by decide +kernel
theorem dX5_cross_1 : decode cX5_cross 1 = .ok (.getfield 19, 3) := by decide +kernel
theorem dX5_cross_4 : decode cX5_cross 4 = .ok (.iload_n 1, 1) := by decide +kernel
theorem dX5_cross_5 : decode cX5_cross 5 = .ok (.invokevirtual 112, 3) := by decide +kernel
theorem dX5_cross_8 : decode cX5_cross 8 = .ok (.ifCond .ne 5, 3) := by decide +kernel
theorem dX5_cross_11 : decode cX5_cross 11 = .ok (.iconst (-1), 1) := by decide +kernel
theorem dX5_cross_12 : decode cX5_cross 12 = .ok (.ireturn, 1) := by decide +kernel
theorem dX5_cross_13 : decode cX5_cross 13 = .ok (.aload_n 0, 1) := by decide +kernel
theorem dX5_cross_14 : decode cX5_cross 14 = .ok (.getfield 19, 3) := by decide +kernel
theorem dX5_cross_17 : decode cX5_cross 17 = .ok (.getfield 261, 3) := by decide +kernel
theorem dX5_cross_20 : decode cX5_cross 20 = .ok (.iload_n 1, 1) := by decide +kernel
theorem dX5_cross_21 : decode cX5_cross 21 = .ok (.iaload, 1) := by decide +kernel
theorem dX5_cross_22 : decode cX5_cross 22 = .ok (.ifCond .le 6, 3) := by decide +kernel
theorem dX5_cross_25 : decode cX5_cross 25 = .ok (.bipush (-2), 2) := by decide +kernel
theorem dX5_cross_27 : decode cX5_cross 27 = .ok (.ireturn, 1) := by decide +kernel
theorem dX5_cross_28 : decode cX5_cross 28 = .ok (.aload_n 0, 1) := by decide +kernel
theorem dX5_cross_29 : decode cX5_cross 29 = .ok (.getfield 19, 3) := by decide +kernel
theorem dX5_cross_32 : decode cX5_cross 32 = .ok (.getfield 261, 3) := by decide +kernel
theorem dX5_cross_35 : decode cX5_cross 35 = .ok (.iload_n 1, 1) := by decide +kernel
theorem dX5_cross_36 : decode cX5_cross 36 = .ok (.aload_n 0, 1) := by decide +kernel
theorem dX5_cross_37 : decode cX5_cross 37 = .ok (.getfield 19, 3) := by decide +kernel
theorem dX5_cross_40 : decode cX5_cross 40 = .ok (.getfield 264, 3) := by decide +kernel
theorem dX5_cross_43 : decode cX5_cross 43 = .ok (.iload_n 1, 1) := by decide +kernel
theorem dX5_cross_44 : decode cX5_cross 44 = .ok (.iaload, 1) := by decide +kernel
theorem dX5_cross_45 : decode cX5_cross 45 = .ok (.iastore, 1) := by decide +kernel
theorem dX5_cross_46 : decode cX5_cross 46 = .ok (.aload_n 0, 1) := by decide +kernel
theorem dX5_cross_47 : decode cX5_cross 47 = .ok (.getfield 19, 3) := by decide +kernel
theorem dX5_cross_50 : decode cX5_cross 50 = .ok (.getfield 261, 3) := by decide +kernel
theorem dX5_cross_53 : decode cX5_cross 53 = .ok (.iload_n 1, 1) := by decide +kernel
theorem dX5_cross_54 : decode cX5_cross 54 = .ok (.iaload, 1) := by decide +kernel
theorem dX5_cross_55 : decode cX5_cross 55 = .ok (.ireturn, 1) := by decide +kernel
theorem dX5_works_0 : decode cX5_works 0 = .ok (.aload_n 0, 1) := by decide +kernel
theorem dX5_works_1 : decode cX5_works 1 = .ok (.getfield 10, 3) := by decide +kernel
theorem dX5_works_4 : decode cX5_works 4 = .ok (.iload_n 1, 1) := by decide +kernel
theorem dX5_works_5 : decode cX5_works 5 = .ok (.invokevirtual 73, 3) := by decide +kernel
theorem dX5_works_8 : decode cX5_works 8 = .ok (.ifCond .eq 25, 3) := by decide +kernel
theorem dX5_works_11 : decode cX5_works 11 = .ok (.aload_n 0, 1) := by decide +kernel
theorem dX5_works_12 : decode cX5_works 12 = .ok (.getfield 19, 3) := by decide +kernel
theorem dX5_works_15 : decode cX5_works 15 = .ok (.iload_n 2, 1) := by decide +kernel
theorem dX5_works_16 : decode cX5_works 16 = .ok (.invokevirtual 112, 3) := by decide +kernel
theorem dX5_works_19 : decode cX5_works 19 = .ok (.ifCond .eq 14, 3) := by decide +kernel
theorem dX5_works_22 : decode cX5_works 22 = .ok (.iload_n 3, 1) := by decide +kernel
theorem dX5_works_23 : decode cX5_works 23 = .ok (.iconst 1, 1) := by decide +kernel
theorem dX5_works_24 : decode cX5_works 24 = .ok (.if_icmp .lt 9, 3) := by decide +kernel
theorem dX5_works_27 : decode cX5_works 27 = .ok (.iload_n 3, 1) := by decide +kernel
theorem dX5_works_28 : decode cX5_works 28 = .ok (.bipush 100, 2) := by decide +kernel
theorem dX5_works_30 : decode cX5_works 30 = .ok (.if_icmp .le 5, 3) := by decide +kernel
theorem dX5_works_33 : decode cX5_works 33 = .ok (.iconst (-1), 1) := by decide +kernel
theorem dX5_works_34 : decode cX5_works 34 = .ok (.ireturn, 1) := by decide +kernel
theorem dX5_works_35 : decode cX5_works 35 = .ok (.aload_n 0, 1) := by decide +kernel
theorem dX5_works_36 : decode cX5_works 36 = .ok (.getfield 10, 3) := by decide +kernel
theorem dX5_works_39 : decode cX5_works 39 = .ok (.iload_n 1, 1) := by decide +kernel
theorem dX5_works_40 : decode cX5_works 40 = .ok (.invokevirtual 77, 3) := by decide +kernel
theorem dX5_works_43 : decode cX5_works 43 = .ok (.ifCond .eq 15, 3) := by decide +kernel
theorem dX5_works_46 : decode cX5_works 46 = .ok (.aload_n 0, 1) := by decide +kernel
theorem dX5_works_47 : decode cX5_works 47 = .ok (.getfield 19, 3) := by decide +kernel
theorem dX5_works_50 : decode cX5_works 50 = .ok (.getfield 261, 3) := by decide +kernel
theorem dX5_works_53 : decode cX5_works 53 = .ok (.iload_n 2, 1) := by decide +kernel
theorem dX5_works_54 : decode cX5_works 54 = .ok (.iaload, 1) := by decide +kernel
theorem dX5_works_55 : decode cX5_works 55 = .ok (.ifCond .ne 6, 3) := by decide +kernel
theorem dX5_works_58 : decode cX5_works 58 = .ok (.bipush (-2), 2) := by decide +kernel
theorem dX5_works_60 : decode cX5_works 60 = .ok (.ireturn, 1) := by decide +kernel
theorem dX5_works_61 : decode cX5_works 61 = .ok (.iload_n 3, 1) := by decide +kernel
theorem dX5_works_62 : decode cX5_works 62 = .ok (.aload_n 0, 1) := by decide +kernel
theorem dX5_works_63 : decode cX5_works 63 = .ok (.getfield 19, 3) := by decide +kernel
theorem dX5_works_66 : decode cX5_works 66 = .ok (.getfield 261, 3) := by decide +kernel
theorem dX5_works_69 : decode cX5_works 69 = .ok (.iload_n 2, 1) := by decide +kernel
theorem dX5_works_70 : decode cX5_works 70 = .ok (.iaload, 1) := by decide +kernel
theorem dX5_works_71 : decode cX5_works 71 = .ok (.invokestatic 213, 3) := by decide +kernel
theorem dX5_works_74 : decode cX5_works 74 = .ok (.istore 4, 2) := by decide +kernel
theorem dX5_works_76 : decode cX5_works 76 = .ok (.aload_n 0, 1) := by decide +kernel
theorem dX5_works_77 : decode cX5_works 77 = .ok (.getfield 19, 3) := by decide +kernel
theorem dX5_works_80 : decode cX5_works 80 = .ok (.getfield 261, 3) := by decide +kernel
theorem dX5_works_83 : decode cX5_works 83 = .ok (.iload_n 2, 1) := by decide +kernel
theorem dX5_works_84 : decode cX5_works 84 = .ok (.dup2, 1) := by decide +kernel
theorem dX5_works_85 : decode cX5_works 85 = .ok (.iaload, 1) := by decide +kernel
theorem dX5_works_86 : decode cX5_works 86 = .ok (.iload 4, 2) := by decide +kernel
theorem dX5_works_88 : decode cX5_works 88 = .ok (.isub, 1) := by decide +kernel
theorem dX5_works_89 : decode cX5_works 89 = .ok (.iastore, 1) := by decide +kernel
theorem dX5_works_90 : decode cX5_works 90 = .ok (.aload_n 0, 1) := by decide +kernel
theorem dX5_works_91 : decode cX5_works 91 = .ok (.getfield 10, 3) := by decide +kernel
theorem dX5_works_94 : decode cX5_works 94 = .ok (.getfield 267, 3) := by decide +kernel
theorem dX5_works_97 : decode cX5_works 97 = .ok (.iload_n 1, 1) := by decide +kernel
theorem dX5_works_98 : decode cX5_works 98 = .ok (.dup2, 1) := by decide +kernel
theorem dX5_works_99 : decode cX5_works 99 = .ok (.iaload, 1) := by decide +kernel
theorem dX5_works_100 : decode cX5_works 100 = .ok (.iload 4, 2) := by decide +kernel
theorem dX5_works_102 : decode cX5_works 102 = .ok (.iadd, 1) := by decide +kernel
theorem dX5_works_103 : decode cX5_works 103 = .ok (.iastore, 1) := by decide +kernel
theorem dX5_works_104 : decode cX5_works 104 = .ok (.aload_n 0, 1) := by decide +kernel
theorem dX5_works_105 : decode cX5_works 105 = .ok (.getfield 19, 3) := by decide +kernel
theorem dX5_works_108 : decode cX5_works 108 = .ok (.getfield 261, 3) := by decide +kernel
theorem dX5_works_111 : decode cX5_works 111 = .ok (.iload_n 2, 1) := by decide +kernel
theorem dX5_works_112 : decode cX5_works 112 = .ok (.iaload, 1) := by decide +kernel
theorem dX5_works_113 : decode cX5_works 113 = .ok (.ireturn, 1) := by decide +kernel
theorem dX5_worked_0 : decode cX5_worked 0 = .ok (.aload_n 0, 1) := by decide +kernel
theorem dX5_worked_1 : decode cX5_worked 1 = .ok (.getfield 10, 3) := by decide +kernel
theorem dX5_worked_4 : decode cX5_worked 4 = .ok (.iload_n 1, 1) := by decide +kernel
theorem dX5_worked_5 : decode cX5_worked 5 = .ok (.invokevirtual 73, 3) := by decide +kernel
theorem dX5_worked_8 : decode cX5_worked 8 = .ok (.ifCond .eq 15, 3) := by decide +kernel
theorem dX5_worked_11 : decode cX5_worked 11 = .ok (.aload_n 0, 1) := by decide +kernel
theorem dX5_worked_12 : decode cX5_worked 12 = .ok (.getfield 10, 3) := by decide +kernel
theorem dX5_worked_15 : decode cX5_worked 15 = .ok (.getfield 267, 3) := by decide +kernel
theorem dX5_worked_18 : decode cX5_worked 18 = .ok (.iload_n 1, 1) := by decide +kernel
theorem dX5_worked_19 : decode cX5_worked 19 = .ok (.iaload, 1) := by decide +kernel
theorem dX5_worked_20 : decode cX5_worked 20 = .ok (.goto 4, 3) := by decide +kernel
theorem dX5_worked_23 : decode cX5_worked 23 = .ok (.iconst (-1), 1) := by decide +kernel
theorem dX5_worked_24 : decode cX5_worked 24 = .ok (.ireturn, 1) := by decide +kernel
theorem dX5_sheet_0 : decode cX5_sheet 0 = .ok (.iload_n 1, 1) := by decide +kernel
theorem dX5_sheet_1 : decode cX5_sheet 1 = .ok (.invokestatic 270, 3) := by decide +kernel
theorem dX5_sheet_4 : decode cX5_sheet 4 = .ok (.ifCond .eq 16, 3) := by decide +kernel
theorem dX5_sheet_7 : decode cX5_sheet 7 = .ok (.iload_n 2, 1) := by decide +kernel
theorem dX5_sheet_8 : decode cX5_sheet 8 = .ok (.invokestatic 273, 3) := by decide +kernel
theorem dX5_sheet_11 : decode cX5_sheet 11 = .ok (.ifCond .eq 9, 3) := by decide +kernel
theorem dX5_sheet_14 : decode cX5_sheet 14 = .ok (.iload_n 3, 1) := by decide +kernel
theorem dX5_sheet_15 : decode cX5_sheet 15 = .ok (.bipush 36, 2) := by decide +kernel
theorem dX5_sheet_17 : decode cX5_sheet 17 = .ok (.if_icmp .le 5, 3) := by decide +kernel
theorem dX5_sheet_20 : decode cX5_sheet 20 = .ok (.iconst (-1), 1) := by decide +kernel
theorem dX5_sheet_21 : decode cX5_sheet 21 = .ok (.ireturn, 1) := by decide +kernel
theorem dX5_sheet_22 : decode cX5_sheet 22 = .ok (.iload_n 3, 1) := by decide +kernel
theorem dX5_sheet_23 : decode cX5_sheet 23 = .ok (.ifCond .ge 6, 3) := by decide +kernel
theorem dX5_sheet_26 : decode cX5_sheet 26 = .ok (.bipush (-14), 2) := by decide +kernel
theorem dX5_sheet_28 : decode cX5_sheet 28 = .ok (.ireturn, 1) := by decide +kernel
theorem dX5_sheet_29 : decode cX5_sheet 29 = .ok (.aload_n 0, 1) := by decide +kernel
theorem dX5_sheet_30 : decode cX5_sheet 30 = .ok (.getfield 40, 3) := by decide +kernel
theorem dX5_sheet_33 : decode cX5_sheet 33 = .ok (.iload_n 1, 1) := by decide +kernel
theorem dX5_sheet_34 : decode cX5_sheet 34 = .ok (.iload_n 2, 1) := by decide +kernel
theorem dX5_sheet_35 : decode cX5_sheet 35 = .ok (.iload_n 3, 1) := by decide +kernel
theorem dX5_sheet_36 : decode cX5_sheet 36 = .ok (.invokevirtual 276, 3) := by decide +kernel
theorem dX5_sheet_39 : decode cX5_sheet 39 = .ok (.iload_n 3, 1) := by decide +kernel
theorem dX5_sheet_40 : decode cX5_sheet 40 = .ok (.ireturn, 1) := by decide +kernel
theorem dX5_drop_0 : decode cX5_drop 0 = .ok (.iload_n 1, 1) := by decide +kernel
theorem dX5_drop_1 : decode cX5_drop 1 = .ok (.invokestatic 270, 3) := by decide +kernel
theorem dX5_drop_4 : decode cX5_drop 4 = .ok (.ifCond .ne 5, 3) := by decide +kernel
theorem dX5_drop_7 : decode cX5_drop 7 = .ok (.iconst (-1), 1) := by decide +kernel
theorem dX5_drop_8 : decode cX5_drop 8 = .ok (.ireturn, 1) := by decide +kernel
theorem dX5_drop_9 : decode cX5_drop 9 = .ok (.aload_n 0, 1) := by decide +kernel
theorem dX5_drop_10 : decode cX5_drop 10 = .ok (.getfield 40, 3) := by decide +kernel
theorem dX5_drop_13 : decode cX5_drop 13 = .ok (.getfield 279, 3) := by decide +kernel
theorem dX5_drop_16 : decode cX5_drop 16 = .ok (.iload_n 1, 1) := by decide +kernel
theorem dX5_drop_17 : decode cX5_drop 17 = .ok (.baload, 1) := by decide +kernel
theorem dX5_drop_18 : decode cX5_drop 18 = .ok (.ifCond .ne 6, 3) := by decide +kernel
theorem dX5_drop_21 : decode cX5_drop 21 = .ok (.bipush (-11), 2) := by decide +kernel
theorem dX5_drop_23 : decode cX5_drop 23 = .ok (.ireturn, 1) := by decide +kernel
theorem dX5_drop_24 : decode cX5_drop 24 = .ok (.aload_n 0, 1) := by decide +kernel
theorem dX5_drop_25 : decode cX5_drop 25 = .ok (.getfield 40, 3) := by decide +kernel
theorem dX5_drop_28 : decode cX5_drop 28 = .ok (.getfield 279, 3) := by decide +kernel
theorem dX5_drop_31 : decode cX5_drop 31 = .ok (.iload_n 1, 1) := by decide +kernel
theorem dX5_drop_32 : decode cX5_drop 32 = .ok (.iconst 0, 1) := by decide +kernel
theorem dX5_drop_33 : decode cX5_drop 33 = .ok (.bastore, 1) := by decide +kernel
theorem dX5_drop_34 : decode cX5_drop 34 = .ok (.aload_n 0, 1) := by decide +kernel
theorem dX5_drop_35 : decode cX5_drop 35 = .ok (.getfield 40, 3) := by decide +kernel
theorem dX5_drop_38 : decode cX5_drop 38 = .ok (.getfield 283, 3) := by decide +kernel
theorem dX5_drop_41 : decode cX5_drop 41 = .ok (.iload_n 1, 1) := by decide +kernel
theorem dX5_drop_42 : decode cX5_drop 42 = .ok (.iaload, 1) := by decide +kernel
theorem dX5_drop_43 : decode cX5_drop 43 = .ok (.ireturn, 1) := by decide +kernel
theorem dX5_item_0 : decode cX5_item 0 = .ok (.aload_n 0, 1) := by decide +kernel
theorem dX5_item_1 : decode cX5_item 1 = .ok (.iload_n 1, 1) := by decide +kernel
theorem dX5_item_2 : decode cX5_item 2 = .ok (.iload_n 2, 1) := by decide +kernel
theorem dX5_item_3 : decode cX5_item 3 = .ok (.invokevirtual 286, 3) := by decide +kernel
theorem dX5_item_6 : decode cX5_item 6 = .ok (.istore 5, 2) := by decide +kernel
theorem dX5_item_8 : decode cX5_item 8 = .ok (.iload 5, 2) := by decide +kernel
theorem dX5_item_10 : decode cX5_item 10 = .ok (.ifCond .eq 6, 3) := by decide +kernel
theorem dX5_item_13 : decode cX5_item 13 = .ok (.iload 5, 2) := by decide +kernel
theorem dX5_item_15 : decode cX5_item 15 = .ok (.ireturn, 1) := by decide +kernel
theorem dX5_item_16 : decode cX5_item 16 = .ok (.iload_n 3, 1) := by decide +kernel
theorem dX5_item_17 : decode cX5_item 17 = .ok (.ifCond .lt 16, 3) := by decide +kernel
theorem dX5_item_20 : decode cX5_item 20 = .ok (.iload_n 3, 1) := by decide +kernel
theorem dX5_item_21 : decode cX5_item 21 = .ok (.aload_n 0, 1) := by decide +kernel
theorem dX5_item_22 : decode cX5_item 22 = .ok (.getfield 40, 3) := by decide +kernel
theorem dX5_item_25 : decode cX5_item 25 = .ok (.getfield 283, 3) := by decide +kernel
theorem dX5_item_28 : decode cX5_item 28 = .ok (.iload_n 1, 1) := by decide +kernel
theorem dX5_item_29 : decode cX5_item 29 = .ok (.iaload, 1) := by decide +kernel
theorem dX5_item_30 : decode cX5_item 30 = .ok (.if_icmp .lt 6, 3) := by decide +kernel
theorem dX5_item_33 : decode cX5_item 33 = .ok (.bipush (-13), 2) := by decide +kernel
theorem dX5_item_35 : decode cX5_item 35 = .ok (.ireturn, 1) := by decide +kernel
theorem dX5_item_36 : decode cX5_item 36 = .ok (.aload_n 0, 1) := by decide +kernel
theorem dX5_item_37 : decode cX5_item 37 = .ok (.getfield 40, 3) := by decide +kernel
theorem dX5_item_40 : decode cX5_item 40 = .ok (.iload_n 1, 1) := by decide +kernel
theorem dX5_item_41 : decode cX5_item 41 = .ok (.iload_n 3, 1) := by decide +kernel
theorem dX5_item_42 : decode cX5_item 42 = .ok (.iload 4, 2) := by decide +kernel
theorem dX5_item_44 : decode cX5_item 44 = .ok (.invokevirtual 289, 3) := by decide +kernel
theorem dX5_item_47 : decode cX5_item 47 = .ok (.iconst 1, 1) := by decide +kernel
theorem dX5_item_48 : decode cX5_item 48 = .ok (.ireturn, 1) := by decide +kernel
theorem dX5_acts_0 : decode cX5_acts 0 = .ok (.iload 4, 2) := by decide +kernel
theorem dX5_acts_2 : decode cX5_acts 2 = .ok (.ifCond .lt 10, 3) := by decide +kernel
theorem dX5_acts_5 : decode cX5_acts 5 = .ok (.iload 4, 2) := by decide +kernel
theorem dX5_acts_7 : decode cX5_acts 7 = .ok (.bipush 6, 2) := by decide +kernel
theorem dX5_acts_9 : decode cX5_acts 9 = .ok (.if_icmp .le 5, 3) := by decide +kernel
theorem dX5_acts_12 : decode cX5_acts 12 = .ok (.iconst (-1), 1) := by decide +kernel
theorem dX5_acts_13 : decode cX5_acts 13 = .ok (.ireturn, 1) := by decide +kernel
theorem dX5_acts_14 : decode cX5_acts 14 = .ok (.aload_n 0, 1) := by decide +kernel
theorem dX5_acts_15 : decode cX5_acts 15 = .ok (.iload_n 1, 1) := by decide +kernel
theorem dX5_acts_16 : decode cX5_acts 16 = .ok (.iload_n 2, 1) := by decide +kernel
theorem dX5_acts_17 : decode cX5_acts 17 = .ok (.invokevirtual 286, 3) := by decide +kernel
theorem dX5_acts_20 : decode cX5_acts 20 = .ok (.istore 5, 2) := by decide +kernel
theorem dX5_acts_22 : decode cX5_acts 22 = .ok (.iload 5, 2) := by decide +kernel
theorem dX5_acts_24 : decode cX5_acts 24 = .ok (.ifCond .eq 6, 3) := by decide +kernel
theorem dX5_acts_27 : decode cX5_acts 27 = .ok (.iload 5, 2) := by decide +kernel
theorem dX5_acts_29 : decode cX5_acts 29 = .ok (.ireturn, 1) := by decide +kernel
theorem dX5_acts_30 : decode cX5_acts 30 = .ok (.iload_n 3, 1) := by decide +kernel
theorem dX5_acts_31 : decode cX5_acts 31 = .ok (.ifCond .lt 22, 3) := by decide +kernel
theorem dX5_acts_34 : decode cX5_acts 34 = .ok (.iload_n 3, 1) := by decide +kernel
theorem dX5_acts_35 : decode cX5_acts 35 = .ok (.aload_n 0, 1) := by decide +kernel
theorem dX5_acts_36 : decode cX5_acts 36 = .ok (.getfield 40, 3) := by decide +kernel
theorem dX5_acts_39 : decode cX5_acts 39 = .ok (.getfield 283, 3) := by decide +kernel
theorem dX5_acts_42 : decode cX5_acts 42 = .ok (.iload_n 1, 1) := by decide +kernel
theorem dX5_acts_43 : decode cX5_acts 43 = .ok (.iaload, 1) := by decide +kernel
theorem dX5_acts_44 : decode cX5_acts 44 = .ok (.iload 4, 2) := by decide +kernel
theorem dX5_acts_46 : decode cX5_acts 46 = .ok (.bipush 6, 2) := by decide +kernel
theorem dX5_acts_48 : decode cX5_acts 48 = .ok (.imul, 1) := by decide +kernel
theorem dX5_acts_49 : decode cX5_acts 49 = .ok (.isub, 1) := by decide +kernel
theorem dX5_acts_50 : decode cX5_acts 50 = .ok (.if_icmp .le 6, 3) := by decide +kernel
theorem dX5_acts_53 : decode cX5_acts 53 = .ok (.bipush (-13), 2) := by decide +kernel
theorem dX5_acts_55 : decode cX5_acts 55 = .ok (.ireturn, 1) := by decide +kernel
theorem dX5_acts_56 : decode cX5_acts 56 = .ok (.iconst 0, 1) := by decide +kernel
theorem dX5_acts_57 : decode cX5_acts 57 = .ok (.istore 6, 2) := by decide +kernel
theorem dX5_acts_59 : decode cX5_acts 59 = .ok (.iload 6, 2) := by decide +kernel
theorem dX5_acts_61 : decode cX5_acts 61 = .ok (.iload 4, 2) := by decide +kernel
theorem dX5_acts_63 : decode cX5_acts 63 = .ok (.if_icmp .ge 24, 3) := by decide +kernel
theorem dX5_acts_66 : decode cX5_acts 66 = .ok (.aload_n 0, 1) := by decide +kernel
theorem dX5_acts_67 : decode cX5_acts 67 = .ok (.iload_n 1, 1) := by decide +kernel
theorem dX5_acts_68 : decode cX5_acts 68 = .ok (.iload_n 3, 1) := by decide +kernel
theorem dX5_acts_69 : decode cX5_acts 69 = .ok (.iload 6, 2) := by decide +kernel
theorem dX5_acts_71 : decode cX5_acts 71 = .ok (.bipush 6, 2) := by decide +kernel
theorem dX5_acts_73 : decode cX5_acts 73 = .ok (.imul, 1) := by decide +kernel
theorem dX5_acts_74 : decode cX5_acts 74 = .ok (.iadd, 1) := by decide +kernel
theorem dX5_acts_75 : decode cX5_acts 75 = .ok (.invokevirtual 292, 3) := by decide +kernel
theorem dX5_acts_78 : decode cX5_acts 78 = .ok (.ifCond .lt 9, 3) := by decide +kernel
theorem dX5_acts_81 : decode cX5_acts 81 = .ok (.iinc 6 1, 3) := by decide +kernel
theorem dX5_acts_84 : decode cX5_acts 84 = .ok (.goto (-25), 3) := by decide +kernel
theorem dX5_acts_87 : decode cX5_acts 87 = .ok (.iload 6, 2) := by decide +kernel
theorem dX5_acts_89 : decode cX5_acts 89 = .ok (.ireturn, 1) := by decide +kernel
theorem dX5_isPlace_0 : decode cX5_isPlace 0 = .ok (.iload_n 0, 1) := by decide +kernel
theorem dX5_isPlace_1 : decode cX5_isPlace 1 = .ok (.iconst (-1), 1) := by decide +kernel
theorem dX5_isPlace_2 : decode cX5_isPlace 2 = .ok (.if_icmp .lt 13, 3) := by decide +kernel
theorem dX5_isPlace_5 : decode cX5_isPlace 5 = .ok (.iload_n 0, 1) := by decide +kernel
theorem dX5_isPlace_6 : decode cX5_isPlace 6 = .ok (.bipush 99, 2) := by decide +kernel
theorem dX5_isPlace_8 : decode cX5_isPlace 8 = .ok (.if_icmp .gt 7, 3) := by decide +kernel
theorem dX5_isPlace_11 : decode cX5_isPlace 11 = .ok (.iconst 1, 1) := by decide +kernel
theorem dX5_isPlace_12 : decode cX5_isPlace 12 = .ok (.goto 4, 3) := by decide +kernel
theorem dX5_isPlace_15 : decode cX5_isPlace 15 = .ok (.iconst 0, 1) := by decide +kernel
theorem dX5_isPlace_16 : decode cX5_isPlace 16 = .ok (.ireturn, 1) := by decide +kernel
theorem dX5_isHandOver_0 : decode cX5_isHandOver 0 = .ok (.iload_n 0, 1) := by decide +kernel
theorem dX5_isHandOver_1 : decode cX5_isHandOver 1 = .ok (.iconst 1, 1) := by decide +kernel
theorem dX5_isHandOver_2 : decode cX5_isHandOver 2 = .ok (.if_icmp .eq 13, 3) := by decide +kernel
theorem dX5_isHandOver_5 : decode cX5_isHandOver 5 = .ok (.iload_n 0, 1) := by decide +kernel
theorem dX5_isHandOver_6 : decode cX5_isHandOver 6 = .ok (.iconst 2, 1) := by decide +kernel
theorem dX5_isHandOver_7 : decode cX5_isHandOver 7 = .ok (.if_icmp .eq 8, 3) := by decide +kernel
theorem dX5_isHandOver_10 : decode cX5_isHandOver 10 = .ok (.iload_n 0, 1) := by decide +kernel
theorem dX5_isHandOver_11 : decode cX5_isHandOver 11 = .ok (.iconst 3, 1) := by decide +kernel
theorem dX5_isHandOver_12 : decode cX5_isHandOver 12 = .ok (.if_icmp .ne 7, 3) := by decide +kernel
theorem dX5_isHandOver_15 : decode cX5_isHandOver 15 = .ok (.iconst 1, 1) := by decide +kernel
theorem dX5_isHandOver_16 : decode cX5_isHandOver 16 = .ok (.goto 4, 3) := by decide +kernel
theorem dX5_isHandOver_19 : decode cX5_isHandOver 19 = .ok (.iconst 0, 1) := by decide +kernel
theorem dX5_isHandOver_20 : decode cX5_isHandOver 20 = .ok (.ireturn, 1) := by decide +kernel
theorem dX5_isDoable_0 : decode cX5_isDoable 0 = .ok (.iload_n 1, 1) := by decide +kernel
theorem dX5_isDoable_1 : decode cX5_isDoable 1 = .ok (.tableswitch 110 0 6 #[43, 45, 45, 45, 82, 91, 43], 43) := by decide +kernel
theorem dX5_isDoable_44 : decode cX5_isDoable 44 = .ok (.iconst 1, 1) := by decide +kernel
theorem dX5_isDoable_45 : decode cX5_isDoable 45 = .ok (.ireturn, 1) := by decide +kernel
theorem dX5_isDoable_46 : decode cX5_isDoable 46 = .ok (.aload_n 0, 1) := by decide +kernel
theorem dX5_isDoable_47 : decode cX5_isDoable 47 = .ok (.getfield 10, 3) := by decide +kernel
theorem dX5_isDoable_50 : decode cX5_isDoable 50 = .ok (.iload 4, 2) := by decide +kernel
theorem dX5_isDoable_52 : decode cX5_isDoable 52 = .ok (.invokevirtual 77, 3) := by decide +kernel
theorem dX5_isDoable_55 : decode cX5_isDoable 55 = .ok (.ifCond .eq 26, 3) := by decide +kernel
theorem dX5_isDoable_58 : decode cX5_isDoable 58 = .ok (.iload 4, 2) := by decide +kernel
theorem dX5_isDoable_60 : decode cX5_isDoable 60 = .ok (.iload_n 3, 1) := by decide +kernel
theorem dX5_isDoable_61 : decode cX5_isDoable 61 = .ok (.if_icmp .eq 20, 3) := by decide +kernel
theorem dX5_isDoable_64 : decode cX5_isDoable 64 = .ok (.iload 5, 2) := by decide +kernel
theorem dX5_isDoable_66 : decode cX5_isDoable 66 = .ok (.iconst 1, 1) := by decide +kernel
theorem dX5_isDoable_67 : decode cX5_isDoable 67 = .ok (.if_icmp .lt 14, 3) := by decide +kernel
theorem dX5_isDoable_70 : decode cX5_isDoable 70 = .ok (.iload 5, 2) := by decide +kernel
theorem dX5_isDoable_72 : decode cX5_isDoable 72 = .ok (.bipush 12, 2) := by decide +kernel
theorem dX5_isDoable_74 : decode cX5_isDoable 74 = .ok (.if_icmp .gt 7, 3) := by decide +kernel
theorem dX5_isDoable_77 : decode cX5_isDoable 77 = .ok (.iconst 1, 1) := by decide +kernel
theorem dX5_isDoable_78 : decode cX5_isDoable 78 = .ok (.goto 4, 3) := by decide +kernel
theorem dX5_isDoable_81 : decode cX5_isDoable 81 = .ok (.iconst 0, 1) := by decide +kernel
theorem dX5_isDoable_82 : decode cX5_isDoable 82 = .ok (.ireturn, 1) := by decide +kernel
theorem dX5_isDoable_83 : decode cX5_isDoable 83 = .ok (.aload_n 0, 1) := by decide +kernel
theorem dX5_isDoable_84 : decode cX5_isDoable 84 = .ok (.iload 4, 2) := by decide +kernel
theorem dX5_isDoable_86 : decode cX5_isDoable 86 = .ok (.iload_n 2, 1) := by decide +kernel
theorem dX5_isDoable_87 : decode cX5_isDoable 87 = .ok (.iload_n 3, 1) := by decide +kernel
theorem dX5_isDoable_88 : decode cX5_isDoable 88 = .ok (.invokevirtual 295, 3) := by decide +kernel
theorem dX5_isDoable_91 : decode cX5_isDoable 91 = .ok (.ireturn, 1) := by decide +kernel
theorem dX5_isDoable_92 : decode cX5_isDoable 92 = .ok (.iload 5, 2) := by decide +kernel
theorem dX5_isDoable_94 : decode cX5_isDoable 94 = .ok (.iconst 1, 1) := by decide +kernel
theorem dX5_isDoable_95 : decode cX5_isDoable 95 = .ok (.if_icmp .lt 14, 3) := by decide +kernel
theorem dX5_isDoable_98 : decode cX5_isDoable 98 = .ok (.iload 5, 2) := by decide +kernel
theorem dX5_isDoable_100 : decode cX5_isDoable 100 = .ok (.bipush 20, 2) := by decide +kernel
theorem dX5_isDoable_102 : decode cX5_isDoable 102 = .ok (.if_icmp .gt 7, 3) := by decide +kernel
theorem dX5_isDoable_105 : decode cX5_isDoable 105 = .ok (.iconst 1, 1) := by decide +kernel
theorem dX5_isDoable_106 : decode cX5_isDoable 106 = .ok (.goto 4, 3) := by decide +kernel
theorem dX5_isDoable_109 : decode cX5_isDoable 109 = .ok (.iconst 0, 1) := by decide +kernel
theorem dX5_isDoable_110 : decode cX5_isDoable 110 = .ok (.ireturn, 1) := by decide +kernel
theorem dX5_isDoable_111 : decode cX5_isDoable 111 = .ok (.iconst 0, 1) := by decide +kernel
theorem dX5_isDoable_112 : decode cX5_isDoable 112 = .ok (.ireturn, 1) := by decide +kernel
theorem dX5_isPledgeOf_0 : decode cX5_isPledgeOf 0 = .ok (.aload_n 0, 1) := by decide +kernel
theorem dX5_isPledgeOf_1 : decode cX5_isPledgeOf 1 = .ok (.getfield 26, 3) := by decide +kernel
theorem dX5_isPledgeOf_4 : decode cX5_isPledgeOf 4 = .ok (.iload_n 1, 1) := by decide +kernel
theorem dX5_isPledgeOf_5 : decode cX5_isPledgeOf 5 = .ok (.invokevirtual 153, 3) := by decide +kernel
theorem dX5_isPledgeOf_8 : decode cX5_isPledgeOf 8 = .ok (.ifCond .eq 46, 3) := by decide +kernel
theorem dX5_isPledgeOf_11 : decode cX5_isPledgeOf 11 = .ok (.aload_n 0, 1) := by decide +kernel
theorem dX5_isPledgeOf_12 : decode cX5_isPledgeOf 12 = .ok (.getfield 26, 3) := by decide +kernel
theorem dX5_isPledgeOf_15 : decode cX5_isPledgeOf 15 = .ok (.getfield 154, 3) := by decide +kernel
theorem dX5_isPledgeOf_18 : decode cX5_isPledgeOf 18 = .ok (.iload_n 1, 1) := by decide +kernel
theorem dX5_isPledgeOf_19 : decode cX5_isPledgeOf 19 = .ok (.iaload, 1) := by decide +kernel
theorem dX5_isPledgeOf_20 : decode cX5_isPledgeOf 20 = .ok (.iconst 3, 1) := by decide +kernel
theorem dX5_isPledgeOf_21 : decode cX5_isPledgeOf 21 = .ok (.if_icmp .ne 33, 3) := by decide +kernel
theorem dX5_isPledgeOf_24 : decode cX5_isPledgeOf 24 = .ok (.aload_n 0, 1) := by decide +kernel
theorem dX5_isPledgeOf_25 : decode cX5_isPledgeOf 25 = .ok (.getfield 26, 3) := by decide +kernel
theorem dX5_isPledgeOf_28 : decode cX5_isPledgeOf 28 = .ok (.getfield 157, 3) := by decide +kernel
theorem dX5_isPledgeOf_31 : decode cX5_isPledgeOf 31 = .ok (.iload_n 1, 1) := by decide +kernel
theorem dX5_isPledgeOf_32 : decode cX5_isPledgeOf 32 = .ok (.iaload, 1) := by decide +kernel
theorem dX5_isPledgeOf_33 : decode cX5_isPledgeOf 33 = .ok (.iload_n 2, 1) := by decide +kernel
theorem dX5_isPledgeOf_34 : decode cX5_isPledgeOf 34 = .ok (.if_icmp .ne 20, 3) := by decide +kernel
theorem dX5_isPledgeOf_37 : decode cX5_isPledgeOf 37 = .ok (.aload_n 0, 1) := by decide +kernel
theorem dX5_isPledgeOf_38 : decode cX5_isPledgeOf 38 = .ok (.getfield 26, 3) := by decide +kernel
theorem dX5_isPledgeOf_41 : decode cX5_isPledgeOf 41 = .ok (.getfield 160, 3) := by decide +kernel
theorem dX5_isPledgeOf_44 : decode cX5_isPledgeOf 44 = .ok (.iload_n 1, 1) := by decide +kernel
theorem dX5_isPledgeOf_45 : decode cX5_isPledgeOf 45 = .ok (.iaload, 1) := by decide +kernel
theorem dX5_isPledgeOf_46 : decode cX5_isPledgeOf 46 = .ok (.iload_n 3, 1) := by decide +kernel
theorem dX5_isPledgeOf_47 : decode cX5_isPledgeOf 47 = .ok (.if_icmp .ne 7, 3) := by decide +kernel
theorem dX5_isPledgeOf_50 : decode cX5_isPledgeOf 50 = .ok (.iconst 1, 1) := by decide +kernel
theorem dX5_isPledgeOf_51 : decode cX5_isPledgeOf 51 = .ok (.goto 4, 3) := by decide +kernel
theorem dX5_isPledgeOf_54 : decode cX5_isPledgeOf 54 = .ok (.iconst 0, 1) := by decide +kernel
theorem dX5_isPledgeOf_55 : decode cX5_isPledgeOf 55 = .ok (.ireturn, 1) := by decide +kernel
theorem dX5_isBanned_0 : decode cX5_isBanned 0 = .ok (.aload_n 0, 1) := by decide +kernel
theorem dX5_isBanned_1 : decode cX5_isBanned 1 = .ok (.getfield 59, 3) := by decide +kernel
theorem dX5_isBanned_4 : decode cX5_isBanned 4 = .ok (.iconst 1, 1) := by decide +kernel
theorem dX5_isBanned_5 : decode cX5_isBanned 5 = .ok (.aload_n 0, 1) := by decide +kernel
theorem dX5_isBanned_6 : decode cX5_isBanned 6 = .ok (.getfield 26, 3) := by decide +kernel
theorem dX5_isBanned_9 : decode cX5_isBanned 9 = .ok (.getfield 154, 3) := by decide +kernel
theorem dX5_isBanned_12 : decode cX5_isBanned 12 = .ok (.iload_n 1, 1) := by decide +kernel
theorem dX5_isBanned_13 : decode cX5_isBanned 13 = .ok (.iaload, 1) := by decide +kernel
theorem dX5_isBanned_14 : decode cX5_isBanned 14 = .ok (.ishl, 1) := by decide +kernel
theorem dX5_isBanned_15 : decode cX5_isBanned 15 = .ok (.iand, 1) := by decide +kernel
theorem dX5_isBanned_16 : decode cX5_isBanned 16 = .ok (.ifCond .eq 7, 3) := by decide +kernel
theorem dX5_isBanned_19 : decode cX5_isBanned 19 = .ok (.iconst 1, 1) := by decide +kernel
theorem dX5_isBanned_20 : decode cX5_isBanned 20 = .ok (.goto 4, 3) := by decide +kernel
theorem dX5_isBanned_23 : decode cX5_isBanned 23 = .ok (.iconst 0, 1) := by decide +kernel
theorem dX5_isBanned_24 : decode cX5_isBanned 24 = .ok (.ireturn, 1) := by decide +kernel
theorem dX5_letWitnessesKnow_0 : decode cX5_letWitnessesKnow 0 = .ok (.iconst 0, 1) := by decide +kernel
theorem dX5_letWitnessesKnow_1 : decode cX5_letWitnessesKnow 1 = .ok (.istore_n 2, 1) := by decide +kernel
theorem dX5_letWitnessesKnow_2 : decode cX5_letWitnessesKnow 2 = .ok (.iload_n 2, 1) := by decide +kernel
theorem dX5_letWitnessesKnow_3 : decode cX5_letWitnessesKnow 3 = .ok (.aload_n 0, 1) := by decide +kernel
theorem dX5_letWitnessesKnow_4 : decode cX5_letWitnessesKnow 4 = .ok (.getfield 10, 3) := by decide +kernel
theorem dX5_letWitnessesKnow_7 : decode cX5_letWitnessesKnow 7 = .ok (.getfield 62, 3) := by decide +kernel
theorem dX5_letWitnessesKnow_10 : decode cX5_letWitnessesKnow 10 = .ok (.if_icmp .ge 35, 3) := by decide +kernel
theorem dX5_letWitnessesKnow_13 : decode cX5_letWitnessesKnow 13 = .ok (.aload_n 0, 1) := by decide +kernel
theorem dX5_letWitnessesKnow_14 : decode cX5_letWitnessesKnow 14 = .ok (.getfield 26, 3) := by decide +kernel
theorem dX5_letWitnessesKnow_17 : decode cX5_letWitnessesKnow 17 = .ok (.getfield 140, 3) := by decide +kernel
theorem dX5_letWitnessesKnow_20 : decode cX5_letWitnessesKnow 20 = .ok (.iload_n 1, 1) := by decide +kernel
theorem dX5_letWitnessesKnow_21 : decode cX5_letWitnessesKnow 21 = .ok (.iaload, 1) := by decide +kernel
theorem dX5_letWitnessesKnow_22 : decode cX5_letWitnessesKnow 22 = .ok (.iconst 1, 1) := by decide +kernel
theorem dX5_letWitnessesKnow_23 : decode cX5_letWitnessesKnow 23 = .ok (.iload_n 2, 1) := by decide +kernel
theorem dX5_letWitnessesKnow_24 : decode cX5_letWitnessesKnow 24 = .ok (.ishl, 1) := by decide +kernel
theorem dX5_letWitnessesKnow_25 : decode cX5_letWitnessesKnow 25 = .ok (.iand, 1) := by decide +kernel
theorem dX5_letWitnessesKnow_26 : decode cX5_letWitnessesKnow 26 = .ok (.ifCond .eq 13, 3) := by decide +kernel
theorem dX5_letWitnessesKnow_29 : decode cX5_letWitnessesKnow 29 = .ok (.aload_n 0, 1) := by decide +kernel
theorem dX5_letWitnessesKnow_30 : decode cX5_letWitnessesKnow 30 = .ok (.getfield 10, 3) := by decide +kernel
theorem dX5_letWitnessesKnow_33 : decode cX5_letWitnessesKnow 33 = .ok (.iload_n 2, 1) := by decide +kernel
theorem dX5_letWitnessesKnow_34 : decode cX5_letWitnessesKnow 34 = .ok (.iload_n 1, 1) := by decide +kernel
theorem dX5_letWitnessesKnow_35 : decode cX5_letWitnessesKnow 35 = .ok (.iconst 0, 1) := by decide +kernel
theorem dX5_letWitnessesKnow_36 : decode cX5_letWitnessesKnow 36 = .ok (.invokevirtual 180, 3) := by decide +kernel
theorem dX5_letWitnessesKnow_39 : decode cX5_letWitnessesKnow 39 = .ok (.iinc 2 1, 3) := by decide +kernel
theorem dX5_letWitnessesKnow_42 : decode cX5_letWitnessesKnow 42 = .ok (.goto (-40), 3) := by decide +kernel
theorem dX5_letWitnessesKnow_45 : decode cX5_letWitnessesKnow 45 = .ok (.return_, 1) := by decide +kernel
theorem dX5_convinces_0 : decode cX5_convinces 0 = .ok (.aload_n 0, 1) := by decide +kernel
theorem dX5_convinces_1 : decode cX5_convinces 1 = .ok (.getfield 26, 3) := by decide +kernel
theorem dX5_convinces_4 : decode cX5_convinces 4 = .ok (.getfield 154, 3) := by decide +kernel
theorem dX5_convinces_7 : decode cX5_convinces 7 = .ok (.iload_n 1, 1) := by decide +kernel
theorem dX5_convinces_8 : decode cX5_convinces 8 = .ok (.iaload, 1) := by decide +kernel
theorem dX5_convinces_9 : decode cX5_convinces 9 = .ok (.bipush 6, 2) := by decide +kernel
theorem dX5_convinces_11 : decode cX5_convinces 11 = .ok (.if_icmp .ne 5, 3) := by decide +kernel
theorem dX5_convinces_14 : decode cX5_convinces 14 = .ok (.iconst 0, 1) := by decide +kernel
theorem dX5_convinces_15 : decode cX5_convinces 15 = .ok (.ireturn, 1) := by decide +kernel
theorem dX5_convinces_16 : decode cX5_convinces 16 = .ok (.iconst 0, 1) := by decide +kernel
theorem dX5_convinces_17 : decode cX5_convinces 17 = .ok (.istore_n 2, 1) := by decide +kernel
theorem dX5_convinces_18 : decode cX5_convinces 18 = .ok (.iconst 0, 1) := by decide +kernel
theorem dX5_convinces_19 : decode cX5_convinces 19 = .ok (.istore_n 3, 1) := by decide +kernel
theorem dX5_convinces_20 : decode cX5_convinces 20 = .ok (.iload_n 3, 1) := by decide +kernel
theorem dX5_convinces_21 : decode cX5_convinces 21 = .ok (.aload_n 0, 1) := by decide +kernel
theorem dX5_convinces_22 : decode cX5_convinces 22 = .ok (.getfield 10, 3) := by decide +kernel
theorem dX5_convinces_25 : decode cX5_convinces 25 = .ok (.getfield 62, 3) := by decide +kernel
theorem dX5_convinces_28 : decode cX5_convinces 28 = .ok (.if_icmp .ge 72, 3) := by decide +kernel
theorem dX5_convinces_31 : decode cX5_convinces 31 = .ok (.aload_n 0, 1) := by decide +kernel
theorem dX5_convinces_32 : decode cX5_convinces 32 = .ok (.getfield 10, 3) := by decide +kernel
theorem dX5_convinces_35 : decode cX5_convinces 35 = .ok (.iload_n 3, 1) := by decide +kernel
theorem dX5_convinces_36 : decode cX5_convinces 36 = .ok (.invokevirtual 98, 3) := by decide +kernel
theorem dX5_convinces_39 : decode cX5_convinces 39 = .ok (.ifCond .eq 55, 3) := by decide +kernel
theorem dX5_convinces_42 : decode cX5_convinces 42 = .ok (.aload_n 0, 1) := by decide +kernel
theorem dX5_convinces_43 : decode cX5_convinces 43 = .ok (.getfield 10, 3) := by decide +kernel
theorem dX5_convinces_46 : decode cX5_convinces 46 = .ok (.iload_n 3, 1) := by decide +kernel
theorem dX5_convinces_47 : decode cX5_convinces 47 = .ok (.iload_n 1, 1) := by decide +kernel
theorem dX5_convinces_48 : decode cX5_convinces 48 = .ok (.invokevirtual 170, 3) := by decide +kernel
theorem dX5_convinces_51 : decode cX5_convinces 51 = .ok (.ifCond .ne 6, 3) := by decide +kernel
theorem dX5_convinces_54 : decode cX5_convinces 54 = .ok (.goto 40, 3) := by decide +kernel
theorem dX5_convinces_57 : decode cX5_convinces 57 = .ok (.aload_n 0, 1) := by decide +kernel
theorem dX5_convinces_58 : decode cX5_convinces 58 = .ok (.getfield 33, 3) := by decide +kernel
theorem dX5_convinces_61 : decode cX5_convinces 61 = .ok (.aload_n 0, 1) := by decide +kernel
theorem dX5_convinces_62 : decode cX5_convinces 62 = .ok (.getfield 26, 3) := by decide +kernel
theorem dX5_convinces_65 : decode cX5_convinces 65 = .ok (.aload_n 0, 1) := by decide +kernel
theorem dX5_convinces_66 : decode cX5_convinces 66 = .ok (.getfield 10, 3) := by decide +kernel
theorem dX5_convinces_69 : decode cX5_convinces 69 = .ok (.getfield 101, 3) := by decide +kernel
theorem dX5_convinces_72 : decode cX5_convinces 72 = .ok (.iload_n 3, 1) := by decide +kernel
theorem dX5_convinces_73 : decode cX5_convinces 73 = .ok (.laload, 1) := by decide +kernel
theorem dX5_convinces_74 : decode cX5_convinces 74 = .ok (.invokevirtual 218, 3) := by decide +kernel
theorem dX5_convinces_77 : decode cX5_convinces 77 = .ok (.aload_n 0, 1) := by decide +kernel
theorem dX5_convinces_78 : decode cX5_convinces 78 = .ok (.getfield 33, 3) := by decide +kernel
theorem dX5_convinces_81 : decode cX5_convinces 81 = .ok (.getfield 200, 3) := by decide +kernel
theorem dX5_convinces_84 : decode cX5_convinces 84 = .ok (.iload_n 1, 1) := by decide +kernel
theorem dX5_convinces_85 : decode cX5_convinces 85 = .ok (.invokestatic 163, 3) := by decide +kernel
theorem dX5_convinces_88 : decode cX5_convinces 88 = .ok (.ifCond .eq 6, 3) := by decide +kernel
theorem dX5_convinces_91 : decode cX5_convinces 91 = .ok (.iinc 2 1, 3) := by decide +kernel
theorem dX5_convinces_94 : decode cX5_convinces 94 = .ok (.iinc 3 1, 3) := by decide +kernel
theorem dX5_convinces_97 : decode cX5_convinces 97 = .ok (.goto (-77), 3) := by decide +kernel
theorem dX5_convinces_100 : decode cX5_convinces 100 = .ok (.iload_n 2, 1) := by decide +kernel
theorem dX5_convinces_101 : decode cX5_convinces 101 = .ok (.iconst 2, 1) := by decide +kernel
theorem dX5_convinces_102 : decode cX5_convinces 102 = .ok (.aload_n 0, 1) := by decide +kernel
theorem dX5_convinces_103 : decode cX5_convinces 103 = .ok (.getfield 10, 3) := by decide +kernel
theorem dX5_convinces_106 : decode cX5_convinces 106 = .ok (.invokevirtual 252, 3) := by decide +kernel
theorem dX5_convinces_109 : decode cX5_convinces 109 = .ok (.invokestatic 213, 3) := by decide +kernel
theorem dX5_convinces_112 : decode cX5_convinces 112 = .ok (.if_icmp .lt 7, 3) := by decide +kernel
theorem dX5_convinces_115 : decode cX5_convinces 115 = .ok (.iconst 1, 1) := by decide +kernel
theorem dX5_convinces_116 : decode cX5_convinces 116 = .ok (.goto 4, 3) := by decide +kernel
theorem dX5_convinces_119 : decode cX5_convinces 119 = .ok (.iconst 0, 1) := by decide +kernel
theorem dX5_convinces_120 : decode cX5_convinces 120 = .ok (.ireturn, 1) := by decide +kernel
theorem dX5_lookInto_0 : decode cX5_lookInto 0 = .ok (.iload_n 1, 1) := by decide +kernel
theorem dX5_lookInto_1 : decode cX5_lookInto 1 = .ok (.iconst (-1), 1) := by decide +kernel
theorem dX5_lookInto_2 : decode cX5_lookInto 2 = .ok (.if_icmp .eq 16, 3) := by decide +kernel
theorem dX5_lookInto_5 : decode cX5_lookInto 5 = .ok (.aload_n 0, 1) := by decide +kernel
theorem dX5_lookInto_6 : decode cX5_lookInto 6 = .ok (.getfield 10, 3) := by decide +kernel
theorem dX5_lookInto_9 : decode cX5_lookInto 9 = .ok (.iload_n 1, 1) := by decide +kernel
theorem dX5_lookInto_10 : decode cX5_lookInto 10 = .ok (.invokevirtual 73, 3) := by decide +kernel
theorem dX5_lookInto_13 : decode cX5_lookInto 13 = .ok (.ifCond .ne 5, 3) := by decide +kernel
theorem dX5_lookInto_16 : decode cX5_lookInto 16 = .ok (.iconst (-1), 1) := by decide +kernel
theorem dX5_lookInto_17 : decode cX5_lookInto 17 = .ok (.ireturn, 1) := by decide +kernel
theorem dX5_lookInto_18 : decode cX5_lookInto 18 = .ok (.iload_n 1, 1) := by decide +kernel
theorem dX5_lookInto_19 : decode cX5_lookInto 19 = .ok (.iconst (-1), 1) := by decide +kernel
theorem dX5_lookInto_20 : decode cX5_lookInto 20 = .ok (.if_icmp .eq 17, 3) := by decide +kernel
theorem dX5_lookInto_23 : decode cX5_lookInto 23 = .ok (.aload_n 0, 1) := by decide +kernel
theorem dX5_lookInto_24 : decode cX5_lookInto 24 = .ok (.getfield 10, 3) := by decide +kernel
theorem dX5_lookInto_27 : decode cX5_lookInto 27 = .ok (.iload_n 1, 1) := by decide +kernel
theorem dX5_lookInto_28 : decode cX5_lookInto 28 = .ok (.invokevirtual 77, 3) := by decide +kernel
theorem dX5_lookInto_31 : decode cX5_lookInto 31 = .ok (.ifCond .ne 6, 3) := by decide +kernel
theorem dX5_lookInto_34 : decode cX5_lookInto 34 = .ok (.bipush (-2), 2) := by decide +kernel
theorem dX5_lookInto_36 : decode cX5_lookInto 36 = .ok (.ireturn, 1) := by decide +kernel
theorem dX5_lookInto_37 : decode cX5_lookInto 37 = .ok (.aload_n 0, 1) := by decide +kernel
theorem dX5_lookInto_38 : decode cX5_lookInto 38 = .ok (.getfield 33, 3) := by decide +kernel
theorem dX5_lookInto_41 : decode cX5_lookInto 41 = .ok (.aload_n 0, 1) := by decide +kernel
theorem dX5_lookInto_42 : decode cX5_lookInto 42 = .ok (.getfield 26, 3) := by decide +kernel
theorem dX5_lookInto_45 : decode cX5_lookInto 45 = .ok (.aload_n 0, 1) := by decide +kernel
theorem dX5_lookInto_46 : decode cX5_lookInto 46 = .ok (.iload_n 1, 1) := by decide +kernel
theorem dX5_lookInto_47 : decode cX5_lookInto 47 = .ok (.invokevirtual 196, 3) := by decide +kernel
theorem dX5_lookInto_50 : decode cX5_lookInto 50 = .ok (.invokevirtual 218, 3) := by decide +kernel
theorem dX5_lookInto_53 : decode cX5_lookInto 53 = .ok (.iconst 0, 1) := by decide +kernel
theorem dX5_lookInto_54 : decode cX5_lookInto 54 = .ok (.ireturn, 1) := by decide +kernel
theorem dX5_knownTo_0 : decode cX5_knownTo 0 = .ok (.iload_n 1, 1) := by decide +kernel
theorem dX5_knownTo_1 : decode cX5_knownTo 1 = .ok (.iconst (-1), 1) := by decide +kernel
theorem dX5_knownTo_2 : decode cX5_knownTo 2 = .ok (.if_icmp .ne 19, 3) := by decide +kernel
theorem dX5_knownTo_5 : decode cX5_knownTo 5 = .ok (.aload_n 0, 1) := by decide +kernel
theorem dX5_knownTo_6 : decode cX5_knownTo 6 = .ok (.getfield 26, 3) := by decide +kernel
theorem dX5_knownTo_9 : decode cX5_knownTo 9 = .ok (.getfield 149, 3) := by decide +kernel
theorem dX5_knownTo_12 : decode cX5_knownTo 12 = .ok (.aload_n 0, 1) := by decide +kernel
theorem dX5_knownTo_13 : decode cX5_knownTo 13 = .ok (.getfield 10, 3) := by decide +kernel
theorem dX5_knownTo_16 : decode cX5_knownTo 16 = .ok (.invokevirtual 299, 3) := by decide +kernel
theorem dX5_knownTo_19 : decode cX5_knownTo 19 = .ok (.land, 1) := by decide +kernel
theorem dX5_knownTo_20 : decode cX5_knownTo 20 = .ok (.lreturn, 1) := by decide +kernel
theorem dX5_knownTo_21 : decode cX5_knownTo 21 = .ok (.aload_n 0, 1) := by decide +kernel
theorem dX5_knownTo_22 : decode cX5_knownTo 22 = .ok (.getfield 10, 3) := by decide +kernel
theorem dX5_knownTo_25 : decode cX5_knownTo 25 = .ok (.iload_n 1, 1) := by decide +kernel
theorem dX5_knownTo_26 : decode cX5_knownTo 26 = .ok (.invokevirtual 73, 3) := by decide +kernel
theorem dX5_knownTo_29 : decode cX5_knownTo 29 = .ok (.ifCond .eq 15, 3) := by decide +kernel
theorem dX5_knownTo_32 : decode cX5_knownTo 32 = .ok (.aload_n 0, 1) := by decide +kernel
theorem dX5_knownTo_33 : decode cX5_knownTo 33 = .ok (.getfield 10, 3) := by decide +kernel
theorem dX5_knownTo_36 : decode cX5_knownTo 36 = .ok (.getfield 101, 3) := by decide +kernel
theorem dX5_knownTo_39 : decode cX5_knownTo 39 = .ok (.iload_n 1, 1) := by decide +kernel
theorem dX5_knownTo_40 : decode cX5_knownTo 40 = .ok (.laload, 1) := by decide +kernel
theorem dX5_knownTo_41 : decode cX5_knownTo 41 = .ok (.goto 4, 3) := by decide +kernel
theorem dX5_knownTo_44 : decode cX5_knownTo 44 = .ok (.lconst 0, 1) := by decide +kernel
theorem dX5_knownTo_45 : decode cX5_knownTo 45 = .ok (.lreturn, 1) := by decide +kernel
theorem dX5_worthInView_0 : decode cX5_worthInView 0 = .ok (.aload_n 0, 1) := by decide +kernel
theorem dX5_worthInView_1 : decode cX5_worthInView 1 = .ok (.getfield 19, 3) := by decide +kernel
theorem dX5_worthInView_4 : decode cX5_worthInView 4 = .ok (.getfield 264, 3) := by decide +kernel
theorem dX5_worthInView_7 : decode cX5_worthInView 7 = .ok (.iload_n 1, 1) := by decide +kernel
theorem dX5_worthInView_8 : decode cX5_worthInView 8 = .ok (.iaload, 1) := by decide +kernel
theorem dX5_worthInView_9 : decode cX5_worthInView 9 = .ok (.istore_n 2, 1) := by decide +kernel
theorem dX5_worthInView_10 : decode cX5_worthInView 10 = .ok (.iload_n 2, 1) := by decide +kernel
theorem dX5_worthInView_11 : decode cX5_worthInView 11 = .ok (.iload_n 2, 1) := by decide +kernel
theorem dX5_worthInView_12 : decode cX5_worthInView 12 = .ok (.imul, 1) := by decide +kernel
theorem dX5_worthInView_13 : decode cX5_worthInView 13 = .ok (.bipush 10, 2) := by decide +kernel
theorem dX5_worthInView_15 : decode cX5_worthInView 15 = .ok (.aload_n 0, 1) := by decide +kernel
theorem dX5_worthInView_16 : decode cX5_worthInView 16 = .ok (.getfield 33, 3) := by decide +kernel
theorem dX5_worthInView_19 : decode cX5_worthInView 19 = .ok (.getfield 302, 3) := by decide +kernel
theorem dX5_worthInView_22 : decode cX5_worthInView 22 = .ok (.iload_n 1, 1) := by decide +kernel
theorem dX5_worthInView_23 : decode cX5_worthInView 23 = .ok (.iaload, 1) := by decide +kernel
theorem dX5_worthInView_24 : decode cX5_worthInView 24 = .ok (.iadd, 1) := by decide +kernel
theorem dX5_worthInView_25 : decode cX5_worthInView 25 = .ok (.imul, 1) := by decide +kernel
theorem dX5_worthInView_26 : decode cX5_worthInView 26 = .ok (.bipush 10, 2) := by decide +kernel
theorem dX5_worthInView_28 : decode cX5_worthInView 28 = .ok (.idiv, 1) := by decide +kernel
theorem dX5_worthInView_29 : decode cX5_worthInView 29 = .ok (.ireturn, 1) := by decide +kernel
theorem dX5_advantage_0 : decode cX5_advantage 0 = .ok (.aload_n 0, 1) := by decide +kernel
theorem dX5_advantage_1 : decode cX5_advantage 1 = .ok (.getfield 33, 3) := by decide +kernel
theorem dX5_advantage_4 : decode cX5_advantage 4 = .ok (.aload_n 0, 1) := by decide +kernel
theorem dX5_advantage_5 : decode cX5_advantage 5 = .ok (.getfield 26, 3) := by decide +kernel
theorem dX5_advantage_8 : decode cX5_advantage 8 = .ok (.aload_n 0, 1) := by decide +kernel
theorem dX5_advantage_9 : decode cX5_advantage 9 = .ok (.getfield 10, 3) := by decide +kernel
theorem dX5_advantage_12 : decode cX5_advantage 12 = .ok (.getfield 101, 3) := by decide +kernel
theorem dX5_advantage_15 : decode cX5_advantage 15 = .ok (.iload_n 1, 1) := by decide +kernel
theorem dX5_advantage_16 : decode cX5_advantage 16 = .ok (.laload, 1) := by decide +kernel
theorem dX5_advantage_17 : decode cX5_advantage 17 = .ok (.invokevirtual 218, 3) := by decide +kernel
theorem dX5_advantage_20 : decode cX5_advantage 20 = .ok (.aload_n 0, 1) := by decide +kernel
theorem dX5_advantage_21 : decode cX5_advantage 21 = .ok (.getfield 33, 3) := by decide +kernel
theorem dX5_advantage_24 : decode cX5_advantage 24 = .ok (.getfield 187, 3) := by decide +kernel
theorem dX5_advantage_27 : decode cX5_advantage 27 = .ok (.iload_n 2, 1) := by decide +kernel
theorem dX5_advantage_28 : decode cX5_advantage 28 = .ok (.iload_n 3, 1) := by decide +kernel
theorem dX5_advantage_29 : decode cX5_advantage 29 = .ok (.invokestatic 190, 3) := by decide +kernel
theorem dX5_advantage_32 : decode cX5_advantage 32 = .ok (.iaload, 1) := by decide +kernel
theorem dX5_advantage_33 : decode cX5_advantage 33 = .ok (.aload_n 0, 1) := by decide +kernel
theorem dX5_advantage_34 : decode cX5_advantage 34 = .ok (.getfield 33, 3) := by decide +kernel
theorem dX5_advantage_37 : decode cX5_advantage 37 = .ok (.getfield 187, 3) := by decide +kernel
theorem dX5_advantage_40 : decode cX5_advantage 40 = .ok (.iload_n 2, 1) := by decide +kernel
theorem dX5_advantage_41 : decode cX5_advantage 41 = .ok (.iload 4, 2) := by decide +kernel
theorem dX5_advantage_43 : decode cX5_advantage 43 = .ok (.invokestatic 190, 3) := by decide +kernel
theorem dX5_advantage_46 : decode cX5_advantage 46 = .ok (.iaload, 1) := by decide +kernel
theorem dX5_advantage_47 : decode cX5_advantage 47 = .ok (.isub, 1) := by decide +kernel
theorem dX5_advantage_48 : decode cX5_advantage 48 = .ok (.ireturn, 1) := by decide +kernel
theorem dX5_hearingOf_0 : decode cX5_hearingOf 0 = .ok (.sipush 1000, 3) := by decide +kernel
theorem dX5_hearingOf_3 : decode cX5_hearingOf 3 = .ok (.istore 4, 2) := by decide +kernel
theorem dX5_hearingOf_5 : decode cX5_hearingOf 5 = .ok (.iconst 0, 1) := by decide +kernel
theorem dX5_hearingOf_6 : decode cX5_hearingOf 6 = .ok (.istore 5, 2) := by decide +kernel
theorem dX5_hearingOf_8 : decode cX5_hearingOf 8 = .ok (.iload 5, 2) := by decide +kernel
theorem dX5_hearingOf_10 : decode cX5_hearingOf 10 = .ok (.aload_n 0, 1) := by decide +kernel
theorem dX5_hearingOf_11 : decode cX5_hearingOf 11 = .ok (.getfield 26, 3) := by decide +kernel
theorem dX5_hearingOf_14 : decode cX5_hearingOf 14 = .ok (.getfield 123, 3) := by decide +kernel
theorem dX5_hearingOf_17 : decode cX5_hearingOf 17 = .ok (.if_icmp .ge 109, 3) := by decide +kernel
theorem dX5_hearingOf_20 : decode cX5_hearingOf 20 = .ok (.aload_n 0, 1) := by decide +kernel
theorem dX5_hearingOf_21 : decode cX5_hearingOf 21 = .ok (.getfield 26, 3) := by decide +kernel
theorem dX5_hearingOf_24 : decode cX5_hearingOf 24 = .ok (.getfield 160, 3) := by decide +kernel
theorem dX5_hearingOf_27 : decode cX5_hearingOf 27 = .ok (.iload 5, 2) := by decide +kernel
theorem dX5_hearingOf_29 : decode cX5_hearingOf 29 = .ok (.iaload, 1) := by decide +kernel
theorem dX5_hearingOf_30 : decode cX5_hearingOf 30 = .ok (.iload_n 3, 1) := by decide +kernel
theorem dX5_hearingOf_31 : decode cX5_hearingOf 31 = .ok (.if_icmp .eq 33, 3) := by decide +kernel
theorem dX5_hearingOf_34 : decode cX5_hearingOf 34 = .ok (.aload_n 0, 1) := by decide +kernel
theorem dX5_hearingOf_35 : decode cX5_hearingOf 35 = .ok (.getfield 26, 3) := by decide +kernel
theorem dX5_hearingOf_38 : decode cX5_hearingOf 38 = .ok (.getfield 154, 3) := by decide +kernel
theorem dX5_hearingOf_41 : decode cX5_hearingOf 41 = .ok (.iload 5, 2) := by decide +kernel
theorem dX5_hearingOf_43 : decode cX5_hearingOf 43 = .ok (.iaload, 1) := by decide +kernel
theorem dX5_hearingOf_44 : decode cX5_hearingOf 44 = .ok (.invokestatic 128, 3) := by decide +kernel
theorem dX5_hearingOf_47 : decode cX5_hearingOf 47 = .ok (.ifCond .eq 21, 3) := by decide +kernel
theorem dX5_hearingOf_50 : decode cX5_hearingOf 50 = .ok (.aload_n 0, 1) := by decide +kernel
theorem dX5_hearingOf_51 : decode cX5_hearingOf 51 = .ok (.getfield 26, 3) := by decide +kernel
theorem dX5_hearingOf_54 : decode cX5_hearingOf 54 = .ok (.getfield 131, 3) := by decide +kernel
theorem dX5_hearingOf_57 : decode cX5_hearingOf 57 = .ok (.iload 5, 2) := by decide +kernel
theorem dX5_hearingOf_59 : decode cX5_hearingOf 59 = .ok (.iaload, 1) := by decide +kernel
theorem dX5_hearingOf_60 : decode cX5_hearingOf 60 = .ok (.iload_n 3, 1) := by decide +kernel
theorem dX5_hearingOf_61 : decode cX5_hearingOf 61 = .ok (.if_icmp .ne 7, 3) := by decide +kernel
theorem dX5_hearingOf_64 : decode cX5_hearingOf 64 = .ok (.iconst 1, 1) := by decide +kernel
theorem dX5_hearingOf_65 : decode cX5_hearingOf 65 = .ok (.goto 4, 3) := by decide +kernel
theorem dX5_hearingOf_68 : decode cX5_hearingOf 68 = .ok (.iconst 0, 1) := by decide +kernel
theorem dX5_hearingOf_69 : decode cX5_hearingOf 69 = .ok (.istore 6, 2) := by decide +kernel
theorem dX5_hearingOf_71 : decode cX5_hearingOf 71 = .ok (.iload 6, 2) := by decide +kernel
theorem dX5_hearingOf_73 : decode cX5_hearingOf 73 = .ok (.ifCond .eq 47, 3) := by decide +kernel
theorem dX5_hearingOf_76 : decode cX5_hearingOf 76 = .ok (.aload_n 0, 1) := by decide +kernel
theorem dX5_hearingOf_77 : decode cX5_hearingOf 77 = .ok (.getfield 26, 3) := by decide +kernel
theorem dX5_hearingOf_80 : decode cX5_hearingOf 80 = .ok (.getfield 157, 3) := by decide +kernel
theorem dX5_hearingOf_83 : decode cX5_hearingOf 83 = .ok (.iload 5, 2) := by decide +kernel
theorem dX5_hearingOf_85 : decode cX5_hearingOf 85 = .ok (.iaload, 1) := by decide +kernel
theorem dX5_hearingOf_86 : decode cX5_hearingOf 86 = .ok (.iload_n 2, 1) := by decide +kernel
theorem dX5_hearingOf_87 : decode cX5_hearingOf 87 = .ok (.if_icmp .ne 33, 3) := by decide +kernel
theorem dX5_hearingOf_90 : decode cX5_hearingOf 90 = .ok (.aload_n 0, 1) := by decide +kernel
theorem dX5_hearingOf_91 : decode cX5_hearingOf 91 = .ok (.getfield 10, 3) := by decide +kernel
theorem dX5_hearingOf_94 : decode cX5_hearingOf 94 = .ok (.iload_n 1, 1) := by decide +kernel
theorem dX5_hearingOf_95 : decode cX5_hearingOf 95 = .ok (.iload 5, 2) := by decide +kernel
theorem dX5_hearingOf_97 : decode cX5_hearingOf 97 = .ok (.invokevirtual 170, 3) := by decide +kernel
theorem dX5_hearingOf_100 : decode cX5_hearingOf 100 = .ok (.ifCond .eq 20, 3) := by decide +kernel
theorem dX5_hearingOf_103 : decode cX5_hearingOf 103 = .ok (.iload 4, 2) := by decide +kernel
theorem dX5_hearingOf_105 : decode cX5_hearingOf 105 = .ok (.aload_n 0, 1) := by decide +kernel
theorem dX5_hearingOf_106 : decode cX5_hearingOf 106 = .ok (.getfield 10, 3) := by decide +kernel
theorem dX5_hearingOf_109 : decode cX5_hearingOf 109 = .ok (.iload_n 1, 1) := by decide +kernel
theorem dX5_hearingOf_110 : decode cX5_hearingOf 110 = .ok (.iload 5, 2) := by decide +kernel
theorem dX5_hearingOf_112 : decode cX5_hearingOf 112 = .ok (.invokevirtual 174, 3) := by decide +kernel
theorem dX5_hearingOf_115 : decode cX5_hearingOf 115 = .ok (.invokestatic 213, 3) := by decide +kernel
theorem dX5_hearingOf_118 : decode cX5_hearingOf 118 = .ok (.istore 4, 2) := by decide +kernel
theorem dX5_hearingOf_120 : decode cX5_hearingOf 120 = .ok (.iinc 5 1, 3) := by decide +kernel
theorem dX5_hearingOf_123 : decode cX5_hearingOf 123 = .ok (.goto (-115), 3) := by decide +kernel
theorem dX5_hearingOf_126 : decode cX5_hearingOf 126 = .ok (.iload 4, 2) := by decide +kernel
theorem dX5_hearingOf_128 : decode cX5_hearingOf 128 = .ok (.ireturn, 1) := by decide +kernel
theorem dX5_unlikeFirstView_0 : decode cX5_unlikeFirstView 0 = .ok (.iconst 0, 1) := by decide +kernel
theorem dX5_unlikeFirstView_1 : decode cX5_unlikeFirstView 1 = .ok (.istore_n 1, 1) := by decide +kernel
theorem dX5_unlikeFirstView_2 : decode cX5_unlikeFirstView 2 = .ok (.iconst 0, 1) := by decide +kernel
theorem dX5_unlikeFirstView_3 : decode cX5_unlikeFirstView 3 = .ok (.istore_n 2, 1) := by decide +kernel
theorem dX5_unlikeFirstView_4 : decode cX5_unlikeFirstView 4 = .ok (.iload_n 2, 1) := by decide +kernel
theorem dX5_unlikeFirstView_5 : decode cX5_unlikeFirstView 5 = .ok (.aload_n 0, 1) := by decide +kernel
theorem dX5_unlikeFirstView_6 : decode cX5_unlikeFirstView 6 = .ok (.getfield 44, 3) := by decide +kernel
theorem dX5_unlikeFirstView_9 : decode cX5_unlikeFirstView 9 = .ok (.arraylength, 1) := by decide +kernel
theorem dX5_unlikeFirstView_10 : decode cX5_unlikeFirstView 10 = .ok (.if_icmp .ge 36, 3) := by decide +kernel
theorem dX5_unlikeFirstView_13 : decode cX5_unlikeFirstView 13 = .ok (.aload_n 0, 1) := by decide +kernel
theorem dX5_unlikeFirstView_14 : decode cX5_unlikeFirstView 14 = .ok (.getfield 44, 3) := by decide +kernel
theorem dX5_unlikeFirstView_17 : decode cX5_unlikeFirstView 17 = .ok (.iload_n 2, 1) := by decide +kernel
theorem dX5_unlikeFirstView_18 : decode cX5_unlikeFirstView 18 = .ok (.iaload, 1) := by decide +kernel
theorem dX5_unlikeFirstView_19 : decode cX5_unlikeFirstView 19 = .ok (.aload_n 0, 1) := by decide +kernel
theorem dX5_unlikeFirstView_20 : decode cX5_unlikeFirstView 20 = .ok (.getfield 33, 3) := by decide +kernel
theorem dX5_unlikeFirstView_23 : decode cX5_unlikeFirstView 23 = .ok (.getfield 187, 3) := by decide +kernel
theorem dX5_unlikeFirstView_26 : decode cX5_unlikeFirstView 26 = .ok (.iload_n 2, 1) := by decide +kernel
theorem dX5_unlikeFirstView_27 : decode cX5_unlikeFirstView 27 = .ok (.iaload, 1) := by decide +kernel
theorem dX5_unlikeFirstView_28 : decode cX5_unlikeFirstView 28 = .ok (.if_icmp .eq 12, 3) := by decide +kernel
theorem dX5_unlikeFirstView_31 : decode cX5_unlikeFirstView 31 = .ok (.iload_n 1, 1) := by decide +kernel
theorem dX5_unlikeFirstView_32 : decode cX5_unlikeFirstView 32 = .ok (.iconst 1, 1) := by decide +kernel
theorem dX5_unlikeFirstView_33 : decode cX5_unlikeFirstView 33 = .ok (.iload_n 2, 1) := by decide +kernel
theorem dX5_unlikeFirstView_34 : decode cX5_unlikeFirstView 34 = .ok (.bipush 16, 2) := by decide +kernel
theorem dX5_unlikeFirstView_36 : decode cX5_unlikeFirstView 36 = .ok (.idiv, 1) := by decide +kernel
theorem dX5_unlikeFirstView_37 : decode cX5_unlikeFirstView 37 = .ok (.ishl, 1) := by decide +kernel
theorem dX5_unlikeFirstView_38 : decode cX5_unlikeFirstView 38 = .ok (.ior, 1) := by decide +kernel
theorem dX5_unlikeFirstView_39 : decode cX5_unlikeFirstView 39 = .ok (.istore_n 1, 1) := by decide +kernel
theorem dX5_unlikeFirstView_40 : decode cX5_unlikeFirstView 40 = .ok (.iinc 2 1, 3) := by decide +kernel
theorem dX5_unlikeFirstView_43 : decode cX5_unlikeFirstView 43 = .ok (.goto (-39), 3) := by decide +kernel
theorem dX5_unlikeFirstView_46 : decode cX5_unlikeFirstView 46 = .ok (.iload_n 1, 1) := by decide +kernel
theorem dX5_unlikeFirstView_47 : decode cX5_unlikeFirstView 47 = .ok (.ireturn, 1) := by decide +kernel
theorem dX5_tellableBy_0 : decode cX5_tellableBy 0 = .ok (.lconst 0, 1) := by decide +kernel
theorem dX5_tellableBy_1 : decode cX5_tellableBy 1 = .ok (.lstore_n 3, 1) := by decide +kernel
theorem dX5_tellableBy_2 : decode cX5_tellableBy 2 = .ok (.iconst 0, 1) := by decide +kernel
theorem dX5_tellableBy_3 : decode cX5_tellableBy 3 = .ok (.istore 5, 2) := by decide +kernel
theorem dX5_tellableBy_5 : decode cX5_tellableBy 5 = .ok (.iload 5, 2) := by decide +kernel
theorem dX5_tellableBy_7 : decode cX5_tellableBy 7 = .ok (.aload_n 0, 1) := by decide +kernel
theorem dX5_tellableBy_8 : decode cX5_tellableBy 8 = .ok (.getfield 26, 3) := by decide +kernel
theorem dX5_tellableBy_11 : decode cX5_tellableBy 11 = .ok (.getfield 123, 3) := by decide +kernel
theorem dX5_tellableBy_14 : decode cX5_tellableBy 14 = .ok (.if_icmp .ge 52, 3) := by decide +kernel
theorem dX5_tellableBy_17 : decode cX5_tellableBy 17 = .ok (.aload_n 0, 1) := by decide +kernel
theorem dX5_tellableBy_18 : decode cX5_tellableBy 18 = .ok (.getfield 26, 3) := by decide +kernel
theorem dX5_tellableBy_21 : decode cX5_tellableBy 21 = .ok (.getfield 157, 3) := by decide +kernel
theorem dX5_tellableBy_24 : decode cX5_tellableBy 24 = .ok (.iload 5, 2) := by decide +kernel
theorem dX5_tellableBy_26 : decode cX5_tellableBy 26 = .ok (.iaload, 1) := by decide +kernel
theorem dX5_tellableBy_27 : decode cX5_tellableBy 27 = .ok (.iload_n 2, 1) := by decide +kernel
theorem dX5_tellableBy_28 : decode cX5_tellableBy 28 = .ok (.if_icmp .ne 32, 3) := by decide +kernel
theorem dX5_tellableBy_31 : decode cX5_tellableBy 31 = .ok (.aload_n 0, 1) := by decide +kernel
theorem dX5_tellableBy_32 : decode cX5_tellableBy 32 = .ok (.getfield 10, 3) := by decide +kernel
theorem dX5_tellableBy_35 : decode cX5_tellableBy 35 = .ok (.iload_n 1, 1) := by decide +kernel
theorem dX5_tellableBy_36 : decode cX5_tellableBy 36 = .ok (.iload 5, 2) := by decide +kernel
theorem dX5_tellableBy_38 : decode cX5_tellableBy 38 = .ok (.invokevirtual 170, 3) := by decide +kernel
theorem dX5_tellableBy_41 : decode cX5_tellableBy 41 = .ok (.ifCond .eq 19, 3) := by decide +kernel
theorem dX5_tellableBy_44 : decode cX5_tellableBy 44 = .ok (.aload_n 0, 1) := by decide +kernel
theorem dX5_tellableBy_45 : decode cX5_tellableBy 45 = .ok (.iload 5, 2) := by decide +kernel
theorem dX5_tellableBy_47 : decode cX5_tellableBy 47 = .ok (.invokevirtual 177, 3) := by decide +kernel
theorem dX5_tellableBy_50 : decode cX5_tellableBy 50 = .ok (.ifCond .ne 10, 3) := by decide +kernel
theorem dX5_tellableBy_53 : decode cX5_tellableBy 53 = .ok (.lload_n 3, 1) := by decide +kernel
theorem dX5_tellableBy_54 : decode cX5_tellableBy 54 = .ok (.lconst 1, 1) := by decide +kernel
theorem dX5_tellableBy_55 : decode cX5_tellableBy 55 = .ok (.iload 5, 2) := by decide +kernel
theorem dX5_tellableBy_57 : decode cX5_tellableBy 57 = .ok (.lshl, 1) := by decide +kernel
theorem dX5_tellableBy_58 : decode cX5_tellableBy 58 = .ok (.lor, 1) := by decide +kernel
theorem dX5_tellableBy_59 : decode cX5_tellableBy 59 = .ok (.lstore_n 3, 1) := by decide +kernel
theorem dX5_tellableBy_60 : decode cX5_tellableBy 60 = .ok (.iinc 5 1, 3) := by decide +kernel
theorem dX5_tellableBy_63 : decode cX5_tellableBy 63 = .ok (.goto (-58), 3) := by decide +kernel
theorem dX5_tellableBy_66 : decode cX5_tellableBy 66 = .ok (.lload_n 3, 1) := by decide +kernel
theorem dX5_tellableBy_67 : decode cX5_tellableBy 67 = .ok (.lreturn, 1) := by decide +kernel
theorem dX5_spread_0 : decode cX5_spread 0 = .ok (.aload_n 0, 1) := by decide +kernel
theorem dX5_spread_1 : decode cX5_spread 1 = .ok (.getfield 10, 3) := by decide +kernel
theorem dX5_spread_4 : decode cX5_spread 4 = .ok (.iload_n 2, 1) := by decide +kernel
theorem dX5_spread_5 : decode cX5_spread 5 = .ok (.iload_n 1, 1) := by decide +kernel
theorem dX5_spread_6 : decode cX5_spread 6 = .ok (.invokevirtual 174, 3) := by decide +kernel
theorem dX5_spread_9 : decode cX5_spread 9 = .ok (.iconst 1, 1) := by decide +kernel
theorem dX5_spread_10 : decode cX5_spread 10 = .ok (.iadd, 1) := by decide +kernel
theorem dX5_spread_11 : decode cX5_spread 11 = .ok (.istore 4, 2) := by decide +kernel
theorem dX5_spread_13 : decode cX5_spread 13 = .ok (.iconst 0, 1) := by decide +kernel
theorem dX5_spread_14 : decode cX5_spread 14 = .ok (.istore 5, 2) := by decide +kernel
theorem dX5_spread_16 : decode cX5_spread 16 = .ok (.iconst 0, 1) := by decide +kernel
theorem dX5_spread_17 : decode cX5_spread 17 = .ok (.istore 6, 2) := by decide +kernel
theorem dX5_spread_19 : decode cX5_spread 19 = .ok (.iload 6, 2) := by decide +kernel
theorem dX5_spread_21 : decode cX5_spread 21 = .ok (.aload_n 0, 1) := by decide +kernel
theorem dX5_spread_22 : decode cX5_spread 22 = .ok (.getfield 10, 3) := by decide +kernel
theorem dX5_spread_25 : decode cX5_spread 25 = .ok (.getfield 62, 3) := by decide +kernel
theorem dX5_spread_28 : decode cX5_spread 28 = .ok (.if_icmp .ge 49, 3) := by decide +kernel
theorem dX5_spread_31 : decode cX5_spread 31 = .ok (.iload_n 3, 1) := by decide +kernel
theorem dX5_spread_32 : decode cX5_spread 32 = .ok (.iconst 1, 1) := by decide +kernel
theorem dX5_spread_33 : decode cX5_spread 33 = .ok (.iload 6, 2) := by decide +kernel
theorem dX5_spread_35 : decode cX5_spread 35 = .ok (.ishl, 1) := by decide +kernel
theorem dX5_spread_36 : decode cX5_spread 36 = .ok (.iand, 1) := by decide +kernel
theorem dX5_spread_37 : decode cX5_spread 37 = .ok (.ifCond .ne 6, 3) := by decide +kernel
theorem dX5_spread_40 : decode cX5_spread 40 = .ok (.goto 31, 3) := by decide +kernel
theorem dX5_spread_43 : decode cX5_spread 43 = .ok (.aload_n 0, 1) := by decide +kernel
theorem dX5_spread_44 : decode cX5_spread 44 = .ok (.getfield 10, 3) := by decide +kernel
theorem dX5_spread_47 : decode cX5_spread 47 = .ok (.iload 6, 2) := by decide +kernel
theorem dX5_spread_49 : decode cX5_spread 49 = .ok (.iload_n 1, 1) := by decide +kernel
theorem dX5_spread_50 : decode cX5_spread 50 = .ok (.invokevirtual 170, 3) := by decide +kernel
theorem dX5_spread_53 : decode cX5_spread 53 = .ok (.ifCond .ne 6, 3) := by decide +kernel
theorem dX5_spread_56 : decode cX5_spread 56 = .ok (.iinc 5 1, 3) := by decide +kernel
theorem dX5_spread_59 : decode cX5_spread 59 = .ok (.aload_n 0, 1) := by decide +kernel
theorem dX5_spread_60 : decode cX5_spread 60 = .ok (.getfield 10, 3) := by decide +kernel
theorem dX5_spread_63 : decode cX5_spread 63 = .ok (.iload 6, 2) := by decide +kernel
theorem dX5_spread_65 : decode cX5_spread 65 = .ok (.iload_n 1, 1) := by decide +kernel
theorem dX5_spread_66 : decode cX5_spread 66 = .ok (.iload 4, 2) := by decide +kernel
theorem dX5_spread_68 : decode cX5_spread 68 = .ok (.invokevirtual 180, 3) := by decide +kernel
theorem dX5_spread_71 : decode cX5_spread 71 = .ok (.iinc 6 1, 3) := by decide +kernel
theorem dX5_spread_74 : decode cX5_spread 74 = .ok (.goto (-55), 3) := by decide +kernel
theorem dX5_spread_77 : decode cX5_spread 77 = .ok (.iload 5, 2) := by decide +kernel
theorem dX5_spread_79 : decode cX5_spread 79 = .ok (.ireturn, 1) := by decide +kernel
theorem dX5_findFewest_0 : decode cX5_findFewest 0 = .ok (.aload_n 0, 1) := by decide +kernel
theorem dX5_findFewest_1 : decode cX5_findFewest 1 = .ok (.getfield 26, 3) := by decide +kernel
theorem dX5_findFewest_4 : decode cX5_findFewest 4 = .ok (.getfield 239, 3) := by decide +kernel
theorem dX5_findFewest_7 : decode cX5_findFewest 7 = .ok (.iload_n 1, 1) := by decide +kernel
theorem dX5_findFewest_8 : decode cX5_findFewest 8 = .ok (.laload, 1) := by decide +kernel
theorem dX5_findFewest_9 : decode cX5_findFewest 9 = .ok (.aload_n 0, 1) := by decide +kernel
theorem dX5_findFewest_10 : decode cX5_findFewest 10 = .ok (.getfield 10, 3) := by decide +kernel
theorem dX5_findFewest_13 : decode cX5_findFewest 13 = .ok (.invokevirtual 80, 3) := by decide +kernel
theorem dX5_findFewest_16 : decode cX5_findFewest 16 = .ok (.land, 1) := by decide +kernel
theorem dX5_findFewest_17 : decode cX5_findFewest 17 = .ok (.aload_n 0, 1) := by decide +kernel
theorem dX5_findFewest_18 : decode cX5_findFewest 18 = .ok (.getfield 10, 3) := by decide +kernel
theorem dX5_findFewest_21 : decode cX5_findFewest 21 = .ok (.invokevirtual 305, 3) := by decide +kernel
theorem dX5_findFewest_24 : decode cX5_findFewest 24 = .ok (.ldc2_w 87, 3) := by decide +kernel
theorem dX5_findFewest_27 : decode cX5_findFewest 27 = .ok (.lxor, 1) := by decide +kernel
theorem dX5_findFewest_28 : decode cX5_findFewest 28 = .ok (.land, 1) := by decide +kernel
theorem dX5_findFewest_29 : decode cX5_findFewest 29 = .ok (.lstore_n 2, 1) := by decide +kernel
theorem dX5_findFewest_30 : decode cX5_findFewest 30 = .ok (.iconst 0, 1) := by decide +kernel
theorem dX5_findFewest_31 : decode cX5_findFewest 31 = .ok (.istore 4, 2) := by decide +kernel
theorem dX5_findFewest_33 : decode cX5_findFewest 33 = .ok (.iload 4, 2) := by decide +kernel
theorem dX5_findFewest_35 : decode cX5_findFewest 35 = .ok (.aload_n 0, 1) := by decide +kernel
theorem dX5_findFewest_36 : decode cX5_findFewest 36 = .ok (.getfield 48, 3) := by decide +kernel
theorem dX5_findFewest_39 : decode cX5_findFewest 39 = .ok (.arraylength, 1) := by decide +kernel
theorem dX5_findFewest_40 : decode cX5_findFewest 40 = .ok (.if_icmp .ge 23, 3) := by decide +kernel
theorem dX5_findFewest_43 : decode cX5_findFewest 43 = .ok (.aload_n 0, 1) := by decide +kernel
theorem dX5_findFewest_44 : decode cX5_findFewest 44 = .ok (.getfield 48, 3) := by decide +kernel
theorem dX5_findFewest_47 : decode cX5_findFewest 47 = .ok (.iload 4, 2) := by decide +kernel
theorem dX5_findFewest_49 : decode cX5_findFewest 49 = .ok (.aload_n 0, 1) := by decide +kernel
theorem dX5_findFewest_50 : decode cX5_findFewest 50 = .ok (.iload 4, 2) := by decide +kernel
theorem dX5_findFewest_52 : decode cX5_findFewest 52 = .ok (.iload_n 1, 1) := by decide +kernel
theorem dX5_findFewest_53 : decode cX5_findFewest 53 = .ok (.invokevirtual 232, 3) := by decide +kernel
theorem dX5_findFewest_56 : decode cX5_findFewest 56 = .ok (.lastore, 1) := by decide +kernel
theorem dX5_findFewest_57 : decode cX5_findFewest 57 = .ok (.iinc 4 1, 3) := by decide +kernel
theorem dX5_findFewest_60 : decode cX5_findFewest 60 = .ok (.goto (-27), 3) := by decide +kernel
theorem dX5_findFewest_63 : decode cX5_findFewest 63 = .ok (.iconst 0, 1) := by decide +kernel
theorem dX5_findFewest_64 : decode cX5_findFewest 64 = .ok (.istore 4, 2) := by decide +kernel
theorem dX5_findFewest_66 : decode cX5_findFewest 66 = .ok (.iload 4, 2) := by decide +kernel
theorem dX5_findFewest_68 : decode cX5_findFewest 68 = .ok (.iconst 4, 1) := by decide +kernel
theorem dX5_findFewest_69 : decode cX5_findFewest 69 = .ok (.if_icmp .gt 31, 3) := by decide +kernel
theorem dX5_findFewest_72 : decode cX5_findFewest 72 = .ok (.lload_n 2, 1) := by decide +kernel
theorem dX5_findFewest_73 : decode cX5_findFewest 73 = .ok (.aload_n 0, 1) := by decide +kernel
theorem dX5_findFewest_74 : decode cX5_findFewest 74 = .ok (.getfield 48, 3) := by decide +kernel
theorem dX5_findFewest_77 : decode cX5_findFewest 77 = .ok (.aload_n 0, 1) := by decide +kernel
theorem dX5_findFewest_78 : decode cX5_findFewest 78 = .ok (.getfield 52, 3) := by decide +kernel
theorem dX5_findFewest_81 : decode cX5_findFewest 81 = .ok (.iconst 0, 1) := by decide +kernel
theorem dX5_findFewest_82 : decode cX5_findFewest 82 = .ok (.iconst 0, 1) := by decide +kernel
theorem dX5_findFewest_83 : decode cX5_findFewest 83 = .ok (.iload 4, 2) := by decide +kernel
theorem dX5_findFewest_85 : decode cX5_findFewest 85 = .ok (.invokestatic 308, 3) := by decide +kernel
theorem dX5_findFewest_88 : decode cX5_findFewest 88 = .ok (.ifCond .eq 6, 3) := by decide +kernel
theorem dX5_findFewest_91 : decode cX5_findFewest 91 = .ok (.iload 4, 2) := by decide +kernel
theorem dX5_findFewest_93 : decode cX5_findFewest 93 = .ok (.ireturn, 1) := by decide +kernel
theorem dX5_findFewest_94 : decode cX5_findFewest 94 = .ok (.iinc 4 1, 3) := by decide +kernel
theorem dX5_findFewest_97 : decode cX5_findFewest 97 = .ok (.goto (-31), 3) := by decide +kernel
theorem dX5_findFewest_100 : decode cX5_findFewest 100 = .ok (.bipush (-4), 2) := by decide +kernel
theorem dX5_findFewest_102 : decode cX5_findFewest 102 = .ok (.ireturn, 1) := by decide +kernel
theorem dX5_findTellers_0 : decode cX5_findTellers 0 = .ok (.iload 5, 2) := by decide +kernel
theorem dX5_findTellers_2 : decode cX5_findTellers 2 = .ok (.iload 6, 2) := by decide +kernel
theorem dX5_findTellers_4 : decode cX5_findTellers 4 = .ok (.if_icmp .ge 10, 3) := by decide +kernel
theorem dX5_findTellers_7 : decode cX5_findTellers 7 = .ok (.iload 5, 2) := by decide +kernel
theorem dX5_findTellers_9 : decode cX5_findTellers 9 = .ok (.aload_n 3, 1) := by decide +kernel
theorem dX5_findTellers_10 : decode cX5_findTellers 10 = .ok (.arraylength, 1) := by decide +kernel
theorem dX5_findTellers_11 : decode cX5_findTellers 11 = .ok (.if_icmp .lt 15, 3) := by decide +kernel
theorem dX5_findTellers_14 : decode cX5_findTellers 14 = .ok (.lload_n 0, 1) := by decide +kernel
theorem dX5_findTellers_15 : decode cX5_findTellers 15 = .ok (.lconst 0, 1) := by decide +kernel
theorem dX5_findTellers_16 : decode cX5_findTellers 16 = .ok (.lcmp, 1) := by decide +kernel
theorem dX5_findTellers_17 : decode cX5_findTellers 17 = .ok (.ifCond .ne 7, 3) := by decide +kernel
theorem dX5_findTellers_20 : decode cX5_findTellers 20 = .ok (.iconst 1, 1) := by decide +kernel
theorem dX5_findTellers_21 : decode cX5_findTellers 21 = .ok (.goto 4, 3) := by decide +kernel
theorem dX5_findTellers_24 : decode cX5_findTellers 24 = .ok (.iconst 0, 1) := by decide +kernel
theorem dX5_findTellers_25 : decode cX5_findTellers 25 = .ok (.ireturn, 1) := by decide +kernel
theorem dX5_findTellers_26 : decode cX5_findTellers 26 = .ok (.iload 4, 2) := by decide +kernel
theorem dX5_findTellers_28 : decode cX5_findTellers 28 = .ok (.istore 7, 2) := by decide +kernel
theorem dX5_findTellers_30 : decode cX5_findTellers 30 = .ok (.iload 7, 2) := by decide +kernel
theorem dX5_findTellers_32 : decode cX5_findTellers 32 = .ok (.aload_n 2, 1) := by decide +kernel
theorem dX5_findTellers_33 : decode cX5_findTellers 33 = .ok (.arraylength, 1) := by decide +kernel
theorem dX5_findTellers_34 : decode cX5_findTellers 34 = .ok (.if_icmp .ge 45, 3) := by decide +kernel
theorem dX5_findTellers_37 : decode cX5_findTellers 37 = .ok (.aload_n 3, 1) := by decide +kernel
theorem dX5_findTellers_38 : decode cX5_findTellers 38 = .ok (.iload 5, 2) := by decide +kernel
theorem dX5_findTellers_40 : decode cX5_findTellers 40 = .ok (.iload 7, 2) := by decide +kernel
theorem dX5_findTellers_42 : decode cX5_findTellers 42 = .ok (.iastore, 1) := by decide +kernel
theorem dX5_findTellers_43 : decode cX5_findTellers 43 = .ok (.lload_n 0, 1) := by decide +kernel
theorem dX5_findTellers_44 : decode cX5_findTellers 44 = .ok (.aload_n 2, 1) := by decide +kernel
theorem dX5_findTellers_45 : decode cX5_findTellers 45 = .ok (.iload 7, 2) := by decide +kernel
theorem dX5_findTellers_47 : decode cX5_findTellers 47 = .ok (.laload, 1) := by decide +kernel
theorem dX5_findTellers_48 : decode cX5_findTellers 48 = .ok (.ldc2_w 87, 3) := by decide +kernel
theorem dX5_findTellers_51 : decode cX5_findTellers 51 = .ok (.lxor, 1) := by decide +kernel
theorem dX5_findTellers_52 : decode cX5_findTellers 52 = .ok (.land, 1) := by decide +kernel
theorem dX5_findTellers_53 : decode cX5_findTellers 53 = .ok (.aload_n 2, 1) := by decide +kernel
theorem dX5_findTellers_54 : decode cX5_findTellers 54 = .ok (.aload_n 3, 1) := by decide +kernel
theorem dX5_findTellers_55 : decode cX5_findTellers 55 = .ok (.iload 7, 2) := by decide +kernel
theorem dX5_findTellers_57 : decode cX5_findTellers 57 = .ok (.iconst 1, 1) := by decide +kernel
theorem dX5_findTellers_58 : decode cX5_findTellers 58 = .ok (.iadd, 1) := by decide +kernel
theorem dX5_findTellers_59 : decode cX5_findTellers 59 = .ok (.iload 5, 2) := by decide +kernel
theorem dX5_findTellers_61 : decode cX5_findTellers 61 = .ok (.iconst 1, 1) := by decide +kernel
theorem dX5_findTellers_62 : decode cX5_findTellers 62 = .ok (.iadd, 1) := by decide +kernel
theorem dX5_findTellers_63 : decode cX5_findTellers 63 = .ok (.iload 6, 2) := by decide +kernel
theorem dX5_findTellers_65 : decode cX5_findTellers 65 = .ok (.invokestatic 308, 3) := by decide +kernel
theorem dX5_findTellers_68 : decode cX5_findTellers 68 = .ok (.ifCond .eq 5, 3) := by decide +kernel
theorem dX5_findTellers_71 : decode cX5_findTellers 71 = .ok (.iconst 1, 1) := by decide +kernel
theorem dX5_findTellers_72 : decode cX5_findTellers 72 = .ok (.ireturn, 1) := by decide +kernel
theorem dX5_findTellers_73 : decode cX5_findTellers 73 = .ok (.iinc 7 1, 3) := by decide +kernel
theorem dX5_findTellers_76 : decode cX5_findTellers 76 = .ok (.goto (-46), 3) := by decide +kernel
theorem dX5_findTellers_79 : decode cX5_findTellers 79 = .ok (.iconst 0, 1) := by decide +kernel
theorem dX5_findTellers_80 : decode cX5_findTellers 80 = .ok (.ireturn, 1) := by decide +kernel
theorem dX5_isSheet_0 : decode cX5_isSheet 0 = .ok (.iload_n 0, 1) := by decide +kernel
theorem dX5_isSheet_1 : decode cX5_isSheet 1 = .ok (.ifCond .lt 12, 3) := by decide +kernel
theorem dX5_isSheet_4 : decode cX5_isSheet 4 = .ok (.iload_n 0, 1) := by decide +kernel
theorem dX5_isSheet_5 : decode cX5_isSheet 5 = .ok (.iconst 4, 1) := by decide +kernel
theorem dX5_isSheet_6 : decode cX5_isSheet 6 = .ok (.if_icmp .ge 7, 3) := by decide +kernel
theorem dX5_isSheet_9 : decode cX5_isSheet 9 = .ok (.iconst 1, 1) := by decide +kernel
theorem dX5_isSheet_10 : decode cX5_isSheet 10 = .ok (.goto 4, 3) := by decide +kernel
theorem dX5_isSheet_13 : decode cX5_isSheet 13 = .ok (.iconst 0, 1) := by decide +kernel
theorem dX5_isSheet_14 : decode cX5_isSheet 14 = .ok (.ireturn, 1) := by decide +kernel
theorem dX5_isLane_0 : decode cX5_isLane 0 = .ok (.iload_n 0, 1) := by decide +kernel
theorem dX5_isLane_1 : decode cX5_isLane 1 = .ok (.ifCond .lt 12, 3) := by decide +kernel
theorem dX5_isLane_4 : decode cX5_isLane 4 = .ok (.iload_n 0, 1) := by decide +kernel
theorem dX5_isLane_5 : decode cX5_isLane 5 = .ok (.iconst 2, 1) := by decide +kernel
theorem dX5_isLane_6 : decode cX5_isLane 6 = .ok (.if_icmp .gt 7, 3) := by decide +kernel
theorem dX5_isLane_9 : decode cX5_isLane 9 = .ok (.iconst 1, 1) := by decide +kernel
theorem dX5_isLane_10 : decode cX5_isLane 10 = .ok (.goto 4, 3) := by decide +kernel
theorem dX5_isLane_13 : decode cX5_isLane 13 = .ok (.iconst 0, 1) := by decide +kernel
theorem dX5_isLane_14 : decode cX5_isLane 14 = .ok (.ireturn, 1) := by decide +kernel
theorem dX5_refusalOfRow_0 : decode cX5_refusalOfRow 0 = .ok (.iload_n 1, 1) := by decide +kernel
theorem dX5_refusalOfRow_1 : decode cX5_refusalOfRow 1 = .ok (.invokestatic 270, 3) := by decide +kernel
theorem dX5_refusalOfRow_4 : decode cX5_refusalOfRow 4 = .ok (.ifCond .eq 10, 3) := by decide +kernel
theorem dX5_refusalOfRow_7 : decode cX5_refusalOfRow 7 = .ok (.iload_n 2, 1) := by decide +kernel
theorem dX5_refusalOfRow_8 : decode cX5_refusalOfRow 8 = .ok (.invokestatic 273, 3) := by decide +kernel
theorem dX5_refusalOfRow_11 : decode cX5_refusalOfRow 11 = .ok (.ifCond .ne 5, 3) := by decide +kernel
theorem dX5_refusalOfRow_14 : decode cX5_refusalOfRow 14 = .ok (.iconst (-1), 1) := by decide +kernel
theorem dX5_refusalOfRow_15 : decode cX5_refusalOfRow 15 = .ok (.ireturn, 1) := by decide +kernel
theorem dX5_refusalOfRow_16 : decode cX5_refusalOfRow 16 = .ok (.aload_n 0, 1) := by decide +kernel
theorem dX5_refusalOfRow_17 : decode cX5_refusalOfRow 17 = .ok (.getfield 40, 3) := by decide +kernel
theorem dX5_refusalOfRow_20 : decode cX5_refusalOfRow 20 = .ok (.getfield 279, 3) := by decide +kernel
theorem dX5_refusalOfRow_23 : decode cX5_refusalOfRow 23 = .ok (.iload_n 1, 1) := by decide +kernel
theorem dX5_refusalOfRow_24 : decode cX5_refusalOfRow 24 = .ok (.baload, 1) := by decide +kernel
theorem dX5_refusalOfRow_25 : decode cX5_refusalOfRow 25 = .ok (.ifCond .ne 6, 3) := by decide +kernel
theorem dX5_refusalOfRow_28 : decode cX5_refusalOfRow 28 = .ok (.bipush (-11), 2) := by decide +kernel
theorem dX5_refusalOfRow_30 : decode cX5_refusalOfRow 30 = .ok (.ireturn, 1) := by decide +kernel
theorem dX5_refusalOfRow_31 : decode cX5_refusalOfRow 31 = .ok (.aload_n 0, 1) := by decide +kernel
theorem dX5_refusalOfRow_32 : decode cX5_refusalOfRow 32 = .ok (.getfield 40, 3) := by decide +kernel
theorem dX5_refusalOfRow_35 : decode cX5_refusalOfRow 35 = .ok (.getfield 312, 3) := by decide +kernel
theorem dX5_refusalOfRow_38 : decode cX5_refusalOfRow 38 = .ok (.iload_n 1, 1) := by decide +kernel
theorem dX5_refusalOfRow_39 : decode cX5_refusalOfRow 39 = .ok (.iaload, 1) := by decide +kernel
theorem dX5_refusalOfRow_40 : decode cX5_refusalOfRow 40 = .ok (.iload_n 2, 1) := by decide +kernel
theorem dX5_refusalOfRow_41 : decode cX5_refusalOfRow 41 = .ok (.if_icmp .ne 7, 3) := by decide +kernel
theorem dX5_refusalOfRow_44 : decode cX5_refusalOfRow 44 = .ok (.iconst 0, 1) := by decide +kernel
theorem dX5_refusalOfRow_45 : decode cX5_refusalOfRow 45 = .ok (.goto 5, 3) := by decide +kernel
theorem dX5_refusalOfRow_48 : decode cX5_refusalOfRow 48 = .ok (.bipush (-12), 2) := by decide +kernel
theorem dX5_refusalOfRow_50 : decode cX5_refusalOfRow 50 = .ok (.ireturn, 1) := by decide +kernel
theorem dX5_actFromSheet_0 : decode cX5_actFromSheet 0 = .ok (.iload_n 2, 1) := by decide +kernel
theorem dX5_actFromSheet_1 : decode cX5_actFromSheet 1 = .ok (.ifCond .lt 9, 3) := by decide +kernel
theorem dX5_actFromSheet_4 : decode cX5_actFromSheet 4 = .ok (.iload_n 2, 1) := by decide +kernel
theorem dX5_actFromSheet_5 : decode cX5_actFromSheet 5 = .ok (.bipush 30, 2) := by decide +kernel
theorem dX5_actFromSheet_7 : decode cX5_actFromSheet 7 = .ok (.if_icmp .le 5, 3) := by decide +kernel
theorem dX5_actFromSheet_10 : decode cX5_actFromSheet 10 = .ok (.iconst (-1), 1) := by decide +kernel
theorem dX5_actFromSheet_11 : decode cX5_actFromSheet 11 = .ok (.ireturn, 1) := by decide +kernel
theorem dX5_actFromSheet_12 : decode cX5_actFromSheet 12 = .ok (.aload_n 0, 1) := by decide +kernel
theorem dX5_actFromSheet_13 : decode cX5_actFromSheet 13 = .ok (.getfield 40, 3) := by decide +kernel
theorem dX5_actFromSheet_16 : decode cX5_actFromSheet 16 = .ok (.getfield 315, 3) := by decide +kernel
theorem dX5_actFromSheet_19 : decode cX5_actFromSheet 19 = .ok (.astore_n 3, 1) := by decide +kernel
theorem dX5_actFromSheet_20 : decode cX5_actFromSheet 20 = .ok (.iload_n 1, 1) := by decide +kernel
theorem dX5_actFromSheet_21 : decode cX5_actFromSheet 21 = .ok (.bipush 36, 2) := by decide +kernel
theorem dX5_actFromSheet_23 : decode cX5_actFromSheet 23 = .ok (.imul, 1) := by decide +kernel
theorem dX5_actFromSheet_24 : decode cX5_actFromSheet 24 = .ok (.iload_n 2, 1) := by decide +kernel
theorem dX5_actFromSheet_25 : decode cX5_actFromSheet 25 = .ok (.iadd, 1) := by decide +kernel
theorem dX5_actFromSheet_26 : decode cX5_actFromSheet 26 = .ok (.istore 4, 2) := by decide +kernel
theorem dX5_actFromSheet_28 : decode cX5_actFromSheet 28 = .ok (.aload_n 0, 1) := by decide +kernel
theorem dX5_actFromSheet_29 : decode cX5_actFromSheet 29 = .ok (.aload_n 3, 1) := by decide +kernel
theorem dX5_actFromSheet_30 : decode cX5_actFromSheet 30 = .ok (.iload 4, 2) := by decide +kernel
theorem dX5_actFromSheet_32 : decode cX5_actFromSheet 32 = .ok (.iaload, 1) := by decide +kernel
theorem dX5_actFromSheet_33 : decode cX5_actFromSheet 33 = .ok (.aload_n 3, 1) := by decide +kernel
theorem dX5_actFromSheet_34 : decode cX5_actFromSheet 34 = .ok (.iload 4, 2) := by decide +kernel
theorem dX5_actFromSheet_36 : decode cX5_actFromSheet 36 = .ok (.iconst 1, 1) := by decide +kernel
theorem dX5_actFromSheet_37 : decode cX5_actFromSheet 37 = .ok (.iadd, 1) := by decide +kernel
theorem dX5_actFromSheet_38 : decode cX5_actFromSheet 38 = .ok (.iaload, 1) := by decide +kernel
theorem dX5_actFromSheet_39 : decode cX5_actFromSheet 39 = .ok (.aload_n 3, 1) := by decide +kernel
theorem dX5_actFromSheet_40 : decode cX5_actFromSheet 40 = .ok (.iload 4, 2) := by decide +kernel
theorem dX5_actFromSheet_42 : decode cX5_actFromSheet 42 = .ok (.iconst 2, 1) := by decide +kernel
theorem dX5_actFromSheet_43 : decode cX5_actFromSheet 43 = .ok (.iadd, 1) := by decide +kernel
theorem dX5_actFromSheet_44 : decode cX5_actFromSheet 44 = .ok (.iaload, 1) := by decide +kernel
theorem dX5_actFromSheet_45 : decode cX5_actFromSheet 45 = .ok (.aload_n 3, 1) := by decide +kernel
theorem dX5_actFromSheet_46 : decode cX5_actFromSheet 46 = .ok (.iload 4, 2) := by decide +kernel
theorem dX5_actFromSheet_48 : decode cX5_actFromSheet 48 = .ok (.iconst 3, 1) := by decide +kernel
theorem dX5_actFromSheet_49 : decode cX5_actFromSheet 49 = .ok (.iadd, 1) := by decide +kernel
theorem dX5_actFromSheet_50 : decode cX5_actFromSheet 50 = .ok (.iaload, 1) := by decide +kernel
theorem dX5_actFromSheet_51 : decode cX5_actFromSheet 51 = .ok (.aload_n 3, 1) := by decide +kernel
theorem dX5_actFromSheet_52 : decode cX5_actFromSheet 52 = .ok (.iload 4, 2) := by decide +kernel
theorem dX5_actFromSheet_54 : decode cX5_actFromSheet 54 = .ok (.iconst 4, 1) := by decide +kernel
theorem dX5_actFromSheet_55 : decode cX5_actFromSheet 55 = .ok (.iadd, 1) := by decide +kernel
theorem dX5_actFromSheet_56 : decode cX5_actFromSheet 56 = .ok (.iaload, 1) := by decide +kernel
theorem dX5_actFromSheet_57 : decode cX5_actFromSheet 57 = .ok (.aload_n 3, 1) := by decide +kernel
theorem dX5_actFromSheet_58 : decode cX5_actFromSheet 58 = .ok (.iload 4, 2) := by decide +kernel
theorem dX5_actFromSheet_60 : decode cX5_actFromSheet 60 = .ok (.iconst 5, 1) := by decide +kernel
theorem dX5_actFromSheet_61 : decode cX5_actFromSheet 61 = .ok (.iadd, 1) := by decide +kernel
theorem dX5_actFromSheet_62 : decode cX5_actFromSheet 62 = .ok (.iaload, 1) := by decide +kernel
theorem dX5_actFromSheet_63 : decode cX5_actFromSheet 63 = .ok (.invokevirtual 318, 3) := by decide +kernel
theorem dX5_actFromSheet_66 : decode cX5_actFromSheet 66 = .ok (.ireturn, 1) := by decide +kernel
theorem dX5_hasBit_0 : decode cX5_hasBit 0 = .ok (.lload_n 0, 1) := by decide +kernel
theorem dX5_hasBit_1 : decode cX5_hasBit 1 = .ok (.iload_n 2, 1) := by decide +kernel
theorem dX5_hasBit_2 : decode cX5_hasBit 2 = .ok (.lushr, 1) := by decide +kernel
theorem dX5_hasBit_3 : decode cX5_hasBit 3 = .ok (.lconst 1, 1) := by decide +kernel
theorem dX5_hasBit_4 : decode cX5_hasBit 4 = .ok (.land, 1) := by decide +kernel
theorem dX5_hasBit_5 : decode cX5_hasBit 5 = .ok (.lconst 0, 1) := by decide +kernel
theorem dX5_hasBit_6 : decode cX5_hasBit 6 = .ok (.lcmp, 1) := by decide +kernel
theorem dX5_hasBit_7 : decode cX5_hasBit 7 = .ok (.ifCond .eq 7, 3) := by decide +kernel
theorem dX5_hasBit_10 : decode cX5_hasBit 10 = .ok (.iconst 1, 1) := by decide +kernel
theorem dX5_hasBit_11 : decode cX5_hasBit 11 = .ok (.goto 4, 3) := by decide +kernel
theorem dX5_hasBit_14 : decode cX5_hasBit 14 = .ok (.iconst 0, 1) := by decide +kernel
theorem dX5_hasBit_15 : decode cX5_hasBit 15 = .ok (.ireturn, 1) := by decide +kernel
theorem dX5_seat_0 : decode cX5_seat 0 = .ok (.iload_n 0, 1) := by decide +kernel
theorem dX5_seat_1 : decode cX5_seat 1 = .ok (.bipush 16, 2) := by decide +kernel
theorem dX5_seat_3 : decode cX5_seat 3 = .ok (.imul, 1) := by decide +kernel
theorem dX5_seat_4 : decode cX5_seat 4 = .ok (.iload_n 1, 1) := by decide +kernel
theorem dX5_seat_5 : decode cX5_seat 5 = .ok (.iadd, 1) := by decide +kernel
theorem dX5_seat_6 : decode cX5_seat 6 = .ok (.ireturn, 1) := by decide +kernel
theorem dJ6_bitCount_0f7a4_0 : decode cJ6_bitCount_0f7a4 0 = .ok (.iload_n 0, 1) := by decide +kernel
theorem dJ6_bitCount_0f7a4_1 : decode cJ6_bitCount_0f7a4 1 = .ok (.iload_n 0, 1) := by decide +kernel
theorem dJ6_bitCount_0f7a4_2 : decode cJ6_bitCount_0f7a4 2 = .ok (.iconst 1, 1) := by decide +kernel
theorem dJ6_bitCount_0f7a4_3 : decode cJ6_bitCount_0f7a4 3 = .ok (.iushr, 1) := by decide +kernel
theorem dJ6_bitCount_0f7a4_4 : decode cJ6_bitCount_0f7a4 4 = .ok (.ldc_w 265, 3) := by decide +kernel
theorem dJ6_bitCount_0f7a4_7 : decode cJ6_bitCount_0f7a4 7 = .ok (.iand, 1) := by decide +kernel
theorem dJ6_bitCount_0f7a4_8 : decode cJ6_bitCount_0f7a4 8 = .ok (.isub, 1) := by decide +kernel
theorem dJ6_bitCount_0f7a4_9 : decode cJ6_bitCount_0f7a4 9 = .ok (.istore_n 0, 1) := by decide +kernel
theorem dJ6_bitCount_0f7a4_10 : decode cJ6_bitCount_0f7a4 10 = .ok (.iload_n 0, 1) := by decide +kernel
theorem dJ6_bitCount_0f7a4_11 : decode cJ6_bitCount_0f7a4 11 = .ok (.ldc_w 266, 3) := by decide +kernel
theorem dJ6_bitCount_0f7a4_14 : decode cJ6_bitCount_0f7a4 14 = .ok (.iand, 1) := by decide +kernel
theorem dJ6_bitCount_0f7a4_15 : decode cJ6_bitCount_0f7a4 15 = .ok (.iload_n 0, 1) := by decide +kernel
theorem dJ6_bitCount_0f7a4_16 : decode cJ6_bitCount_0f7a4 16 = .ok (.iconst 2, 1) := by decide +kernel
theorem dJ6_bitCount_0f7a4_17 : decode cJ6_bitCount_0f7a4 17 = .ok (.iushr, 1) := by decide +kernel
theorem dJ6_bitCount_0f7a4_18 : decode cJ6_bitCount_0f7a4 18 = .ok (.ldc_w 266, 3) := by decide +kernel
theorem dJ6_bitCount_0f7a4_21 : decode cJ6_bitCount_0f7a4 21 = .ok (.iand, 1) := by decide +kernel
theorem dJ6_bitCount_0f7a4_22 : decode cJ6_bitCount_0f7a4 22 = .ok (.iadd, 1) := by decide +kernel
theorem dJ6_bitCount_0f7a4_23 : decode cJ6_bitCount_0f7a4 23 = .ok (.istore_n 0, 1) := by decide +kernel
theorem dJ6_bitCount_0f7a4_24 : decode cJ6_bitCount_0f7a4 24 = .ok (.iload_n 0, 1) := by decide +kernel
theorem dJ6_bitCount_0f7a4_25 : decode cJ6_bitCount_0f7a4 25 = .ok (.iload_n 0, 1) := by decide +kernel
theorem dJ6_bitCount_0f7a4_26 : decode cJ6_bitCount_0f7a4 26 = .ok (.iconst 4, 1) := by decide +kernel
theorem dJ6_bitCount_0f7a4_27 : decode cJ6_bitCount_0f7a4 27 = .ok (.iushr, 1) := by decide +kernel
theorem dJ6_bitCount_0f7a4_28 : decode cJ6_bitCount_0f7a4 28 = .ok (.iadd, 1) := by decide +kernel
theorem dJ6_bitCount_0f7a4_29 : decode cJ6_bitCount_0f7a4 29 = .ok (.ldc_w 267, 3) := by decide +kernel
theorem dJ6_bitCount_0f7a4_32 : decode cJ6_bitCount_0f7a4 32 = .ok (.iand, 1) := by decide +kernel
theorem dJ6_bitCount_0f7a4_33 : decode cJ6_bitCount_0f7a4 33 = .ok (.istore_n 0, 1) := by decide +kernel
theorem dJ6_bitCount_0f7a4_34 : decode cJ6_bitCount_0f7a4 34 = .ok (.iload_n 0, 1) := by decide +kernel
theorem dJ6_bitCount_0f7a4_35 : decode cJ6_bitCount_0f7a4 35 = .ok (.iload_n 0, 1) := by decide +kernel
theorem dJ6_bitCount_0f7a4_36 : decode cJ6_bitCount_0f7a4 36 = .ok (.bipush 8, 2) := by decide +kernel
theorem dJ6_bitCount_0f7a4_38 : decode cJ6_bitCount_0f7a4 38 = .ok (.iushr, 1) := by decide +kernel
theorem dJ6_bitCount_0f7a4_39 : decode cJ6_bitCount_0f7a4 39 = .ok (.iadd, 1) := by decide +kernel
theorem dJ6_bitCount_0f7a4_40 : decode cJ6_bitCount_0f7a4 40 = .ok (.istore_n 0, 1) := by decide +kernel
theorem dJ6_bitCount_0f7a4_41 : decode cJ6_bitCount_0f7a4 41 = .ok (.iload_n 0, 1) := by decide +kernel
theorem dJ6_bitCount_0f7a4_42 : decode cJ6_bitCount_0f7a4 42 = .ok (.iload_n 0, 1) := by decide +kernel
theorem dJ6_bitCount_0f7a4_43 : decode cJ6_bitCount_0f7a4 43 = .ok (.bipush 16, 2) := by decide +kernel
theorem dJ6_bitCount_0f7a4_45 : decode cJ6_bitCount_0f7a4 45 = .ok (.iushr, 1) := by decide +kernel
theorem dJ6_bitCount_0f7a4_46 : decode cJ6_bitCount_0f7a4 46 = .ok (.iadd, 1) := by decide +kernel
theorem dJ6_bitCount_0f7a4_47 : decode cJ6_bitCount_0f7a4 47 = .ok (.istore_n 0, 1) := by decide +kernel
theorem dJ6_bitCount_0f7a4_48 : decode cJ6_bitCount_0f7a4 48 = .ok (.iload_n 0, 1) := by decide +kernel
theorem dJ6_bitCount_0f7a4_49 : decode cJ6_bitCount_0f7a4 49 = .ok (.bipush 63, 2) := by decide +kernel
theorem dJ6_bitCount_0f7a4_51 : decode cJ6_bitCount_0f7a4 51 = .ok (.iand, 1) := by decide +kernel
theorem dJ6_bitCount_0f7a4_52 : decode cJ6_bitCount_0f7a4 52 = .ok (.ireturn, 1) := by decide +kernel
theorem dJ13_bitCount_95d88_0 : decode cJ13_bitCount_95d88 0 = .ok (.lload_n 0, 1) := by decide +kernel
theorem dJ13_bitCount_95d88_1 : decode cJ13_bitCount_95d88 1 = .ok (.lload_n 0, 1) := by decide +kernel
theorem dJ13_bitCount_95d88_2 : decode cJ13_bitCount_95d88 2 = .ok (.iconst 1, 1) := by decide +kernel
theorem dJ13_bitCount_95d88_3 : decode cJ13_bitCount_95d88 3 = .ok (.lushr, 1) := by decide +kernel
theorem dJ13_bitCount_95d88_4 : decode cJ13_bitCount_95d88 4 = .ok (.ldc2_w 314, 3) := by decide +kernel
theorem dJ13_bitCount_95d88_7 : decode cJ13_bitCount_95d88 7 = .ok (.land, 1) := by decide +kernel
theorem dJ13_bitCount_95d88_8 : decode cJ13_bitCount_95d88 8 = .ok (.lsub, 1) := by decide +kernel
theorem dJ13_bitCount_95d88_9 : decode cJ13_bitCount_95d88 9 = .ok (.lstore_n 0, 1) := by decide +kernel
theorem dJ13_bitCount_95d88_10 : decode cJ13_bitCount_95d88 10 = .ok (.lload_n 0, 1) := by decide +kernel
theorem dJ13_bitCount_95d88_11 : decode cJ13_bitCount_95d88 11 = .ok (.ldc2_w 316, 3) := by decide +kernel
theorem dJ13_bitCount_95d88_14 : decode cJ13_bitCount_95d88 14 = .ok (.land, 1) := by decide +kernel
theorem dJ13_bitCount_95d88_15 : decode cJ13_bitCount_95d88 15 = .ok (.lload_n 0, 1) := by decide +kernel
theorem dJ13_bitCount_95d88_16 : decode cJ13_bitCount_95d88 16 = .ok (.iconst 2, 1) := by decide +kernel
theorem dJ13_bitCount_95d88_17 : decode cJ13_bitCount_95d88 17 = .ok (.lushr, 1) := by decide +kernel
theorem dJ13_bitCount_95d88_18 : decode cJ13_bitCount_95d88 18 = .ok (.ldc2_w 316, 3) := by decide +kernel
theorem dJ13_bitCount_95d88_21 : decode cJ13_bitCount_95d88 21 = .ok (.land, 1) := by decide +kernel
theorem dJ13_bitCount_95d88_22 : decode cJ13_bitCount_95d88 22 = .ok (.ladd, 1) := by decide +kernel
theorem dJ13_bitCount_95d88_23 : decode cJ13_bitCount_95d88 23 = .ok (.lstore_n 0, 1) := by decide +kernel
theorem dJ13_bitCount_95d88_24 : decode cJ13_bitCount_95d88 24 = .ok (.lload_n 0, 1) := by decide +kernel
theorem dJ13_bitCount_95d88_25 : decode cJ13_bitCount_95d88 25 = .ok (.lload_n 0, 1) := by decide +kernel
theorem dJ13_bitCount_95d88_26 : decode cJ13_bitCount_95d88 26 = .ok (.iconst 4, 1) := by decide +kernel
theorem dJ13_bitCount_95d88_27 : decode cJ13_bitCount_95d88 27 = .ok (.lushr, 1) := by decide +kernel
theorem dJ13_bitCount_95d88_28 : decode cJ13_bitCount_95d88 28 = .ok (.ladd, 1) := by decide +kernel
theorem dJ13_bitCount_95d88_29 : decode cJ13_bitCount_95d88 29 = .ok (.ldc2_w 318, 3) := by decide +kernel
theorem dJ13_bitCount_95d88_32 : decode cJ13_bitCount_95d88 32 = .ok (.land, 1) := by decide +kernel
theorem dJ13_bitCount_95d88_33 : decode cJ13_bitCount_95d88 33 = .ok (.lstore_n 0, 1) := by decide +kernel
theorem dJ13_bitCount_95d88_34 : decode cJ13_bitCount_95d88 34 = .ok (.lload_n 0, 1) := by decide +kernel
theorem dJ13_bitCount_95d88_35 : decode cJ13_bitCount_95d88 35 = .ok (.lload_n 0, 1) := by decide +kernel
theorem dJ13_bitCount_95d88_36 : decode cJ13_bitCount_95d88 36 = .ok (.bipush 8, 2) := by decide +kernel
theorem dJ13_bitCount_95d88_38 : decode cJ13_bitCount_95d88 38 = .ok (.lushr, 1) := by decide +kernel
theorem dJ13_bitCount_95d88_39 : decode cJ13_bitCount_95d88 39 = .ok (.ladd, 1) := by decide +kernel
theorem dJ13_bitCount_95d88_40 : decode cJ13_bitCount_95d88 40 = .ok (.lstore_n 0, 1) := by decide +kernel
theorem dJ13_bitCount_95d88_41 : decode cJ13_bitCount_95d88 41 = .ok (.lload_n 0, 1) := by decide +kernel
theorem dJ13_bitCount_95d88_42 : decode cJ13_bitCount_95d88 42 = .ok (.lload_n 0, 1) := by decide +kernel
theorem dJ13_bitCount_95d88_43 : decode cJ13_bitCount_95d88 43 = .ok (.bipush 16, 2) := by decide +kernel
theorem dJ13_bitCount_95d88_45 : decode cJ13_bitCount_95d88 45 = .ok (.lushr, 1) := by decide +kernel
theorem dJ13_bitCount_95d88_46 : decode cJ13_bitCount_95d88 46 = .ok (.ladd, 1) := by decide +kernel
theorem dJ13_bitCount_95d88_47 : decode cJ13_bitCount_95d88 47 = .ok (.lstore_n 0, 1) := by decide +kernel
theorem dJ13_bitCount_95d88_48 : decode cJ13_bitCount_95d88 48 = .ok (.lload_n 0, 1) := by decide +kernel
theorem dJ13_bitCount_95d88_49 : decode cJ13_bitCount_95d88 49 = .ok (.lload_n 0, 1) := by decide +kernel
theorem dJ13_bitCount_95d88_50 : decode cJ13_bitCount_95d88 50 = .ok (.bipush 32, 2) := by decide +kernel
theorem dJ13_bitCount_95d88_52 : decode cJ13_bitCount_95d88 52 = .ok (.lushr, 1) := by decide +kernel
theorem dJ13_bitCount_95d88_53 : decode cJ13_bitCount_95d88 53 = .ok (.ladd, 1) := by decide +kernel
theorem dJ13_bitCount_95d88_54 : decode cJ13_bitCount_95d88 54 = .ok (.lstore_n 0, 1) := by decide +kernel
theorem dJ13_bitCount_95d88_55 : decode cJ13_bitCount_95d88 55 = .ok (.lload_n 0, 1) := by decide +kernel
theorem dJ13_bitCount_95d88_56 : decode cJ13_bitCount_95d88 56 = .ok (.l2i, 1) := by decide +kernel
theorem dJ13_bitCount_95d88_57 : decode cJ13_bitCount_95d88 57 = .ok (.bipush 127, 2) := by decide +kernel
theorem dJ13_bitCount_95d88_59 : decode cJ13_bitCount_95d88 59 = .ok (.iand, 1) := by decide +kernel
theorem dJ13_bitCount_95d88_60 : decode cJ13_bitCount_95d88 60 = .ok (.ireturn, 1) := by decide +kernel
theorem dJ9_min_7cf53_0 : decode cJ9_min_7cf53 0 = .ok (.iload_n 0, 1) := by decide +kernel
theorem dJ9_min_7cf53_1 : decode cJ9_min_7cf53 1 = .ok (.iload_n 1, 1) := by decide +kernel
theorem dJ9_min_7cf53_2 : decode cJ9_min_7cf53 2 = .ok (.if_icmp .gt 7, 3) := by decide +kernel
theorem dJ9_min_7cf53_5 : decode cJ9_min_7cf53 5 = .ok (.iload_n 0, 1) := by decide +kernel
theorem dJ9_min_7cf53_6 : decode cJ9_min_7cf53 6 = .ok (.goto 4, 3) := by decide +kernel
theorem dJ9_min_7cf53_9 : decode cJ9_min_7cf53 9 = .ok (.iload_n 1, 1) := by decide +kernel
theorem dJ9_min_7cf53_10 : decode cJ9_min_7cf53 10 = .ok (.ireturn, 1) := by decide +kernel
