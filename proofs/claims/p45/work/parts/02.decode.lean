/-! decode rows of the code, as the program printed them -/
theorem dX0_init_0 : decode cX0_init 0 = .ok (.aload_n 0, 1) := by decide +kernel
theorem dX0_init_1 : decode cX0_init 1 = .ok (.invokespecial 3, 3) := by decide +kernel
theorem dX0_init_4 : decode cX0_init 4 = .ok (.aload_n 0, 1) := by decide +kernel
theorem dX0_init_5 : decode cX0_init 5 = .ok (.iconst 0, 1) := by decide +kernel
theorem dX0_init_6 : decode cX0_init 6 = .ok (.putfield 9, 3) := by decide +kernel
theorem dX0_init_9 : decode cX0_init 9 = .ok (.aload_n 0, 1) := by decide +kernel
theorem dX0_init_10 : decode cX0_init 10 = .ok (.iconst 0, 1) := by decide +kernel
theorem dX0_init_11 : decode cX0_init 11 = .ok (.putfield 15, 3) := by decide +kernel
theorem dX0_init_14 : decode cX0_init 14 = .ok (.aload_n 0, 1) := by decide +kernel
theorem dX0_init_15 : decode cX0_init 15 = .ok (.bipush 7, 2) := by decide +kernel
theorem dX0_init_17 : decode cX0_init 17 = .ok (.newarray .int, 2) := by decide +kernel
theorem dX0_init_19 : decode cX0_init 19 = .ok (.putfield 18, 3) := by decide +kernel
theorem dX0_init_22 : decode cX0_init 22 = .ok (.aload_n 0, 1) := by decide +kernel
theorem dX0_init_23 : decode cX0_init 23 = .ok (.bipush 7, 2) := by decide +kernel
theorem dX0_init_25 : decode cX0_init 25 = .ok (.newarray .long, 2) := by decide +kernel
theorem dX0_init_27 : decode cX0_init 27 = .ok (.putfield 22, 3) := by decide +kernel
theorem dX0_init_30 : decode cX0_init 30 = .ok (.aload_n 0, 1) := by decide +kernel
theorem dX0_init_31 : decode cX0_init 31 = .ok (.bipush 7, 2) := by decide +kernel
theorem dX0_init_33 : decode cX0_init 33 = .ok (.newarray .long, 2) := by decide +kernel
theorem dX0_init_35 : decode cX0_init 35 = .ok (.putfield 26, 3) := by decide +kernel
theorem dX0_init_38 : decode cX0_init 38 = .ok (.aload_n 0, 1) := by decide +kernel
theorem dX0_init_39 : decode cX0_init 39 = .ok (.bipush 7, 2) := by decide +kernel
theorem dX0_init_41 : decode cX0_init 41 = .ok (.newarray .int, 2) := by decide +kernel
theorem dX0_init_43 : decode cX0_init 43 = .ok (.putfield 29, 3) := by decide +kernel
theorem dX0_init_46 : decode cX0_init 46 = .ok (.aload_n 0, 1) := by decide +kernel
theorem dX0_init_47 : decode cX0_init 47 = .ok (.iconst 0, 1) := by decide +kernel
theorem dX0_init_48 : decode cX0_init 48 = .ok (.putfield 32, 3) := by decide +kernel
theorem dX0_init_51 : decode cX0_init 51 = .ok (.return_, 1) := by decide +kernel
theorem dX0_begin_0 : decode cX0_begin 0 = .ok (.aload_n 0, 1) := by decide +kernel
theorem dX0_begin_1 : decode cX0_begin 1 = .ok (.aload_n 1, 1) := by decide +kernel
theorem dX0_begin_2 : decode cX0_begin 2 = .ok (.invokevirtual 35, 3) := by decide +kernel
theorem dX0_begin_5 : decode cX0_begin 5 = .ok (.aload_n 0, 1) := by decide +kernel
theorem dX0_begin_6 : decode cX0_begin 6 = .ok (.aload_n 1, 1) := by decide +kernel
theorem dX0_begin_7 : decode cX0_begin 7 = .ok (.invokevirtual 39, 3) := by decide +kernel
theorem dX0_begin_10 : decode cX0_begin 10 = .ok (.return_, 1) := by decide +kernel
theorem dX0_byColours_0 : decode cX0_byColours 0 = .ok (.aload_n 0, 1) := by decide +kernel
theorem dX0_byColours_1 : decode cX0_byColours 1 = .ok (.iconst 0, 1) := by decide +kernel
theorem dX0_byColours_2 : decode cX0_byColours 2 = .ok (.putfield 9, 3) := by decide +kernel
theorem dX0_byColours_5 : decode cX0_byColours 5 = .ok (.aload_n 0, 1) := by decide +kernel
theorem dX0_byColours_6 : decode cX0_byColours 6 = .ok (.iconst 0, 1) := by decide +kernel
theorem dX0_byColours_7 : decode cX0_byColours 7 = .ok (.putfield 15, 3) := by decide +kernel
theorem dX0_byColours_10 : decode cX0_byColours 10 = .ok (.iconst 0, 1) := by decide +kernel
theorem dX0_byColours_11 : decode cX0_byColours 11 = .ok (.istore_n 2, 1) := by decide +kernel
theorem dX0_byColours_12 : decode cX0_byColours 12 = .ok (.iload_n 2, 1) := by decide +kernel
theorem dX0_byColours_13 : decode cX0_byColours 13 = .ok (.bipush 10, 2) := by decide +kernel
theorem dX0_byColours_15 : decode cX0_byColours 15 = .ok (.if_icmp .ge 91, 3) := by decide +kernel
theorem dX0_byColours_18 : decode cX0_byColours 18 = .ok (.aload_n 0, 1) := by decide +kernel
theorem dX0_byColours_19 : decode cX0_byColours 19 = .ok (.getfield 9, 3) := by decide +kernel
theorem dX0_byColours_22 : decode cX0_byColours 22 = .ok (.bipush 7, 2) := by decide +kernel
theorem dX0_byColours_24 : decode cX0_byColours 24 = .ok (.if_icmp .ge 82, 3) := by decide +kernel
theorem dX0_byColours_27 : decode cX0_byColours 27 = .ok (.iconst 0, 1) := by decide +kernel
theorem dX0_byColours_28 : decode cX0_byColours 28 = .ok (.istore_n 3, 1) := by decide +kernel
theorem dX0_byColours_29 : decode cX0_byColours 29 = .ok (.iconst 0, 1) := by decide +kernel
theorem dX0_byColours_30 : decode cX0_byColours 30 = .ok (.istore 4, 2) := by decide +kernel
theorem dX0_byColours_32 : decode cX0_byColours 32 = .ok (.iload 4, 2) := by decide +kernel
theorem dX0_byColours_34 : decode cX0_byColours 34 = .ok (.aload_n 1, 1) := by decide +kernel
theorem dX0_byColours_35 : decode cX0_byColours 35 = .ok (.getfield 42, 3) := by decide +kernel
theorem dX0_byColours_38 : decode cX0_byColours 38 = .ok (.if_icmp .ge 27, 3) := by decide +kernel
theorem dX0_byColours_41 : decode cX0_byColours 41 = .ok (.aload_n 1, 1) := by decide +kernel
theorem dX0_byColours_42 : decode cX0_byColours 42 = .ok (.getfield 45, 3) := by decide +kernel
theorem dX0_byColours_45 : decode cX0_byColours 45 = .ok (.iload 4, 2) := by decide +kernel
theorem dX0_byColours_47 : decode cX0_byColours 47 = .ok (.iaload, 1) := by decide +kernel
theorem dX0_byColours_48 : decode cX0_byColours 48 = .ok (.iload_n 2, 1) := by decide +kernel
theorem dX0_byColours_49 : decode cX0_byColours 49 = .ok (.if_icmp .ne 10, 3) := by decide +kernel
theorem dX0_byColours_52 : decode cX0_byColours 52 = .ok (.iload_n 3, 1) := by decide +kernel
theorem dX0_byColours_53 : decode cX0_byColours 53 = .ok (.iconst 1, 1) := by decide +kernel
theorem dX0_byColours_54 : decode cX0_byColours 54 = .ok (.iload 4, 2) := by decide +kernel
theorem dX0_byColours_56 : decode cX0_byColours 56 = .ok (.ishl, 1) := by decide +kernel
theorem dX0_byColours_57 : decode cX0_byColours 57 = .ok (.ior, 1) := by decide +kernel
theorem dX0_byColours_58 : decode cX0_byColours 58 = .ok (.istore_n 3, 1) := by decide +kernel
theorem dX0_byColours_59 : decode cX0_byColours 59 = .ok (.iinc 4 1, 3) := by decide +kernel
theorem dX0_byColours_62 : decode cX0_byColours 62 = .ok (.goto (-30), 3) := by decide +kernel
theorem dX0_byColours_65 : decode cX0_byColours 65 = .ok (.iload_n 3, 1) := by decide +kernel
theorem dX0_byColours_66 : decode cX0_byColours 66 = .ok (.ifCond .eq 34, 3) := by decide +kernel
theorem dX0_byColours_69 : decode cX0_byColours 69 = .ok (.aload_n 0, 1) := by decide +kernel
theorem dX0_byColours_70 : decode cX0_byColours 70 = .ok (.getfield 18, 3) := by decide +kernel
theorem dX0_byColours_73 : decode cX0_byColours 73 = .ok (.aload_n 0, 1) := by decide +kernel
theorem dX0_byColours_74 : decode cX0_byColours 74 = .ok (.getfield 9, 3) := by decide +kernel
theorem dX0_byColours_77 : decode cX0_byColours 77 = .ok (.iload_n 3, 1) := by decide +kernel
theorem dX0_byColours_78 : decode cX0_byColours 78 = .ok (.iastore, 1) := by decide +kernel
theorem dX0_byColours_79 : decode cX0_byColours 79 = .ok (.aload_n 0, 1) := by decide +kernel
theorem dX0_byColours_80 : decode cX0_byColours 80 = .ok (.getfield 22, 3) := by decide +kernel
theorem dX0_byColours_83 : decode cX0_byColours 83 = .ok (.aload_n 0, 1) := by decide +kernel
theorem dX0_byColours_84 : decode cX0_byColours 84 = .ok (.getfield 9, 3) := by decide +kernel
theorem dX0_byColours_87 : decode cX0_byColours 87 = .ok (.iload_n 2, 1) := by decide +kernel
theorem dX0_byColours_88 : decode cX0_byColours 88 = .ok (.i2l, 1) := by decide +kernel
theorem dX0_byColours_89 : decode cX0_byColours 89 = .ok (.lastore, 1) := by decide +kernel
theorem dX0_byColours_90 : decode cX0_byColours 90 = .ok (.aload_n 0, 1) := by decide +kernel
theorem dX0_byColours_91 : decode cX0_byColours 91 = .ok (.dup, 1) := by decide +kernel
theorem dX0_byColours_92 : decode cX0_byColours 92 = .ok (.getfield 9, 3) := by decide +kernel
theorem dX0_byColours_95 : decode cX0_byColours 95 = .ok (.iconst 1, 1) := by decide +kernel
theorem dX0_byColours_96 : decode cX0_byColours 96 = .ok (.iadd, 1) := by decide +kernel
theorem dX0_byColours_97 : decode cX0_byColours 97 = .ok (.putfield 9, 3) := by decide +kernel
theorem dX0_byColours_100 : decode cX0_byColours 100 = .ok (.iinc 2 1, 3) := by decide +kernel
theorem dX0_byColours_103 : decode cX0_byColours 103 = .ok (.goto (-91), 3) := by decide +kernel
theorem dX0_byColours_106 : decode cX0_byColours 106 = .ok (.return_, 1) := by decide +kernel
theorem dX0_refine_0 : decode cX0_refine 0 = .ok (.aload_n 0, 1) := by decide +kernel
theorem dX0_refine_1 : decode cX0_refine 1 = .ok (.iconst 0, 1) := by decide +kernel
theorem dX0_refine_2 : decode cX0_refine 2 = .ok (.putfield 15, 3) := by decide +kernel
theorem dX0_refine_5 : decode cX0_refine 5 = .ok (.aload_n 0, 1) := by decide +kernel
theorem dX0_refine_6 : decode cX0_refine 6 = .ok (.getfield 9, 3) := by decide +kernel
theorem dX0_refine_9 : decode cX0_refine 9 = .ok (.aload_n 1, 1) := by decide +kernel
theorem dX0_refine_10 : decode cX0_refine 10 = .ok (.getfield 42, 3) := by decide +kernel
theorem dX0_refine_13 : decode cX0_refine 13 = .ok (.if_icmp .ge 33, 3) := by decide +kernel
theorem dX0_refine_16 : decode cX0_refine 16 = .ok (.aload_n 0, 1) := by decide +kernel
theorem dX0_refine_17 : decode cX0_refine 17 = .ok (.getfield 15, 3) := by decide +kernel
theorem dX0_refine_20 : decode cX0_refine 20 = .ok (.bipush 7, 2) := by decide +kernel
theorem dX0_refine_22 : decode cX0_refine 22 = .ok (.if_icmp .ge 24, 3) := by decide +kernel
theorem dX0_refine_25 : decode cX0_refine 25 = .ok (.aload_n 0, 1) := by decide +kernel
theorem dX0_refine_26 : decode cX0_refine 26 = .ok (.aload_n 1, 1) := by decide +kernel
theorem dX0_refine_27 : decode cX0_refine 27 = .ok (.invokevirtual 48, 3) := by decide +kernel
theorem dX0_refine_30 : decode cX0_refine 30 = .ok (.ifCond .eq 16, 3) := by decide +kernel
theorem dX0_refine_33 : decode cX0_refine 33 = .ok (.aload_n 0, 1) := by decide +kernel
theorem dX0_refine_34 : decode cX0_refine 34 = .ok (.dup, 1) := by decide +kernel
theorem dX0_refine_35 : decode cX0_refine 35 = .ok (.getfield 15, 3) := by decide +kernel
theorem dX0_refine_38 : decode cX0_refine 38 = .ok (.iconst 1, 1) := by decide +kernel
theorem dX0_refine_39 : decode cX0_refine 39 = .ok (.iadd, 1) := by decide +kernel
theorem dX0_refine_40 : decode cX0_refine 40 = .ok (.putfield 15, 3) := by decide +kernel
theorem dX0_refine_43 : decode cX0_refine 43 = .ok (.goto (-38), 3) := by decide +kernel
theorem dX0_refine_46 : decode cX0_refine 46 = .ok (.return_, 1) := by decide +kernel
theorem dX0_divide_0 : decode cX0_divide 0 = .ok (.iconst 0, 1) := by decide +kernel
theorem dX0_divide_1 : decode cX0_divide 1 = .ok (.istore_n 2, 1) := by decide +kernel
theorem dX0_divide_2 : decode cX0_divide 2 = .ok (.iload_n 2, 1) := by decide +kernel
theorem dX0_divide_3 : decode cX0_divide 3 = .ok (.aload_n 1, 1) := by decide +kernel
theorem dX0_divide_4 : decode cX0_divide 4 = .ok (.getfield 42, 3) := by decide +kernel
theorem dX0_divide_7 : decode cX0_divide 7 = .ok (.if_icmp .ge 21, 3) := by decide +kernel
theorem dX0_divide_10 : decode cX0_divide 10 = .ok (.aload_n 0, 1) := by decide +kernel
theorem dX0_divide_11 : decode cX0_divide 11 = .ok (.getfield 26, 3) := by decide +kernel
theorem dX0_divide_14 : decode cX0_divide 14 = .ok (.iload_n 2, 1) := by decide +kernel
theorem dX0_divide_15 : decode cX0_divide 15 = .ok (.aload_n 0, 1) := by decide +kernel
theorem dX0_divide_16 : decode cX0_divide 16 = .ok (.aload_n 1, 1) := by decide +kernel
theorem dX0_divide_17 : decode cX0_divide 17 = .ok (.iload_n 2, 1) := by decide +kernel
theorem dX0_divide_18 : decode cX0_divide 18 = .ok (.invokevirtual 52, 3) := by decide +kernel
theorem dX0_divide_21 : decode cX0_divide 21 = .ok (.lastore, 1) := by decide +kernel
theorem dX0_divide_22 : decode cX0_divide 22 = .ok (.iinc 2 1, 3) := by decide +kernel
theorem dX0_divide_25 : decode cX0_divide 25 = .ok (.goto (-23), 3) := by decide +kernel
theorem dX0_divide_28 : decode cX0_divide 28 = .ok (.aload_n 0, 1) := by decide +kernel
theorem dX0_divide_29 : decode cX0_divide 29 = .ok (.iconst 0, 1) := by decide +kernel
theorem dX0_divide_30 : decode cX0_divide 30 = .ok (.putfield 32, 3) := by decide +kernel
theorem dX0_divide_33 : decode cX0_divide 33 = .ok (.iconst 0, 1) := by decide +kernel
theorem dX0_divide_34 : decode cX0_divide 34 = .ok (.istore_n 2, 1) := by decide +kernel
theorem dX0_divide_35 : decode cX0_divide 35 = .ok (.iload_n 2, 1) := by decide +kernel
theorem dX0_divide_36 : decode cX0_divide 36 = .ok (.aload_n 0, 1) := by decide +kernel
theorem dX0_divide_37 : decode cX0_divide 37 = .ok (.getfield 9, 3) := by decide +kernel
theorem dX0_divide_40 : decode cX0_divide 40 = .ok (.if_icmp .ge 19, 3) := by decide +kernel
theorem dX0_divide_43 : decode cX0_divide 43 = .ok (.aload_n 0, 1) := by decide +kernel
theorem dX0_divide_44 : decode cX0_divide 44 = .ok (.aload_n 0, 1) := by decide +kernel
theorem dX0_divide_45 : decode cX0_divide 45 = .ok (.getfield 18, 3) := by decide +kernel
theorem dX0_divide_48 : decode cX0_divide 48 = .ok (.iload_n 2, 1) := by decide +kernel
theorem dX0_divide_49 : decode cX0_divide 49 = .ok (.iaload, 1) := by decide +kernel
theorem dX0_divide_50 : decode cX0_divide 50 = .ok (.invokevirtual 56, 3) := by decide +kernel
theorem dX0_divide_53 : decode cX0_divide 53 = .ok (.iinc 2 1, 3) := by decide +kernel
theorem dX0_divide_56 : decode cX0_divide 56 = .ok (.goto (-21), 3) := by decide +kernel
theorem dX0_divide_59 : decode cX0_divide 59 = .ok (.aload_n 0, 1) := by decide +kernel
theorem dX0_divide_60 : decode cX0_divide 60 = .ok (.getfield 32, 3) := by decide +kernel
theorem dX0_divide_63 : decode cX0_divide 63 = .ok (.aload_n 0, 1) := by decide +kernel
theorem dX0_divide_64 : decode cX0_divide 64 = .ok (.getfield 9, 3) := by decide +kernel
theorem dX0_divide_67 : decode cX0_divide 67 = .ok (.if_icmp .le 7, 3) := by decide +kernel
theorem dX0_divide_70 : decode cX0_divide 70 = .ok (.iconst 1, 1) := by decide +kernel
theorem dX0_divide_71 : decode cX0_divide 71 = .ok (.goto 4, 3) := by decide +kernel
theorem dX0_divide_74 : decode cX0_divide 74 = .ok (.iconst 0, 1) := by decide +kernel
theorem dX0_divide_75 : decode cX0_divide 75 = .ok (.istore_n 2, 1) := by decide +kernel
theorem dX0_divide_76 : decode cX0_divide 76 = .ok (.aload_n 0, 1) := by decide +kernel
theorem dX0_divide_77 : decode cX0_divide 77 = .ok (.aload_n 0, 1) := by decide +kernel
theorem dX0_divide_78 : decode cX0_divide 78 = .ok (.getfield 32, 3) := by decide +kernel
theorem dX0_divide_81 : decode cX0_divide 81 = .ok (.putfield 9, 3) := by decide +kernel
theorem dX0_divide_84 : decode cX0_divide 84 = .ok (.aload_n 0, 1) := by decide +kernel
theorem dX0_divide_85 : decode cX0_divide 85 = .ok (.getfield 29, 3) := by decide +kernel
theorem dX0_divide_88 : decode cX0_divide 88 = .ok (.iconst 0, 1) := by decide +kernel
theorem dX0_divide_89 : decode cX0_divide 89 = .ok (.aload_n 0, 1) := by decide +kernel
theorem dX0_divide_90 : decode cX0_divide 90 = .ok (.getfield 18, 3) := by decide +kernel
theorem dX0_divide_93 : decode cX0_divide 93 = .ok (.iconst 0, 1) := by decide +kernel
theorem dX0_divide_94 : decode cX0_divide 94 = .ok (.aload_n 0, 1) := by decide +kernel
theorem dX0_divide_95 : decode cX0_divide 95 = .ok (.getfield 9, 3) := by decide +kernel
theorem dX0_divide_98 : decode cX0_divide 98 = .ok (.invokestatic 60, 3) := by decide +kernel
theorem dX0_divide_101 : decode cX0_divide 101 = .ok (.iload_n 2, 1) := by decide +kernel
theorem dX0_divide_102 : decode cX0_divide 102 = .ok (.ireturn, 1) := by decide +kernel
theorem dX0_signOf_0 : decode cX0_signOf 0 = .ok (.lconst 0, 1) := by decide +kernel
theorem dX0_signOf_1 : decode cX0_signOf 1 = .ok (.lstore_n 3, 1) := by decide +kernel
theorem dX0_signOf_2 : decode cX0_signOf 2 = .ok (.iconst 0, 1) := by decide +kernel
theorem dX0_signOf_3 : decode cX0_signOf 3 = .ok (.istore 5, 2) := by decide +kernel
theorem dX0_signOf_5 : decode cX0_signOf 5 = .ok (.iload 5, 2) := by decide +kernel
theorem dX0_signOf_7 : decode cX0_signOf 7 = .ok (.aload_n 0, 1) := by decide +kernel
theorem dX0_signOf_8 : decode cX0_signOf 8 = .ok (.getfield 9, 3) := by decide +kernel
theorem dX0_signOf_11 : decode cX0_signOf 11 = .ok (.if_icmp .ge 50, 3) := by decide +kernel
theorem dX0_signOf_14 : decode cX0_signOf 14 = .ok (.iconst 1, 1) := by decide +kernel
theorem dX0_signOf_15 : decode cX0_signOf 15 = .ok (.istore 6, 2) := by decide +kernel
theorem dX0_signOf_17 : decode cX0_signOf 17 = .ok (.iload 6, 2) := by decide +kernel
theorem dX0_signOf_19 : decode cX0_signOf 19 = .ok (.iconst 4, 1) := by decide +kernel
theorem dX0_signOf_20 : decode cX0_signOf 20 = .ok (.if_icmp .ge 35, 3) := by decide +kernel
theorem dX0_signOf_23 : decode cX0_signOf 23 = .ok (.lload_n 3, 1) := by decide +kernel
theorem dX0_signOf_24 : decode cX0_signOf 24 = .ok (.iconst 3, 1) := by decide +kernel
theorem dX0_signOf_25 : decode cX0_signOf 25 = .ok (.lshl, 1) := by decide +kernel
theorem dX0_signOf_26 : decode cX0_signOf 26 = .ok (.aload_n 1, 1) := by decide +kernel
theorem dX0_signOf_27 : decode cX0_signOf 27 = .ok (.getfield 66, 3) := by decide +kernel
theorem dX0_signOf_30 : decode cX0_signOf 30 = .ok (.iload 6, 2) := by decide +kernel
theorem dX0_signOf_32 : decode cX0_signOf 32 = .ok (.aaload, 1) := by decide +kernel
theorem dX0_signOf_33 : decode cX0_signOf 33 = .ok (.iload_n 2, 1) := by decide +kernel
theorem dX0_signOf_34 : decode cX0_signOf 34 = .ok (.iaload, 1) := by decide +kernel
theorem dX0_signOf_35 : decode cX0_signOf 35 = .ok (.aload_n 0, 1) := by decide +kernel
theorem dX0_signOf_36 : decode cX0_signOf 36 = .ok (.getfield 18, 3) := by decide +kernel
theorem dX0_signOf_39 : decode cX0_signOf 39 = .ok (.iload 5, 2) := by decide +kernel
theorem dX0_signOf_41 : decode cX0_signOf 41 = .ok (.iaload, 1) := by decide +kernel
theorem dX0_signOf_42 : decode cX0_signOf 42 = .ok (.iand, 1) := by decide +kernel
theorem dX0_signOf_43 : decode cX0_signOf 43 = .ok (.invokestatic 70, 3) := by decide +kernel
theorem dX0_signOf_46 : decode cX0_signOf 46 = .ok (.i2l, 1) := by decide +kernel
theorem dX0_signOf_47 : decode cX0_signOf 47 = .ok (.lor, 1) := by decide +kernel
theorem dX0_signOf_48 : decode cX0_signOf 48 = .ok (.lstore_n 3, 1) := by decide +kernel
theorem dX0_signOf_49 : decode cX0_signOf 49 = .ok (.iinc 6 1, 3) := by decide +kernel
theorem dX0_signOf_52 : decode cX0_signOf 52 = .ok (.goto (-35), 3) := by decide +kernel
theorem dX0_signOf_55 : decode cX0_signOf 55 = .ok (.iinc 5 1, 3) := by decide +kernel
theorem dX0_signOf_58 : decode cX0_signOf 58 = .ok (.goto (-53), 3) := by decide +kernel
theorem dX0_signOf_61 : decode cX0_signOf 61 = .ok (.lload_n 3, 1) := by decide +kernel
theorem dX0_signOf_62 : decode cX0_signOf 62 = .ok (.lreturn, 1) := by decide +kernel
theorem dX0_split_0 : decode cX0_split 0 = .ok (.iload_n 1, 1) := by decide +kernel
theorem dX0_split_1 : decode cX0_split 1 = .ok (.istore_n 2, 1) := by decide +kernel
theorem dX0_split_2 : decode cX0_split 2 = .ok (.iload_n 2, 1) := by decide +kernel
theorem dX0_split_3 : decode cX0_split 3 = .ok (.ifCond .eq 133, 3) := by decide +kernel
theorem dX0_split_6 : decode cX0_split 6 = .ok (.aload_n 0, 1) := by decide +kernel
theorem dX0_split_7 : decode cX0_split 7 = .ok (.getfield 32, 3) := by decide +kernel
theorem dX0_split_10 : decode cX0_split 10 = .ok (.bipush 7, 2) := by decide +kernel
theorem dX0_split_12 : decode cX0_split 12 = .ok (.if_icmp .ge 124, 3) := by decide +kernel
theorem dX0_split_15 : decode cX0_split 15 = .ok (.ldc2_w 76, 3) := by decide +kernel
theorem dX0_split_18 : decode cX0_split 18 = .ok (.lstore_n 3, 1) := by decide +kernel
theorem dX0_split_19 : decode cX0_split 19 = .ok (.iconst 0, 1) := by decide +kernel
theorem dX0_split_20 : decode cX0_split 20 = .ok (.istore 5, 2) := by decide +kernel
theorem dX0_split_22 : decode cX0_split 22 = .ok (.iconst 0, 1) := by decide +kernel
theorem dX0_split_23 : decode cX0_split 23 = .ok (.istore 6, 2) := by decide +kernel
theorem dX0_split_25 : decode cX0_split 25 = .ok (.iload 6, 2) := by decide +kernel
theorem dX0_split_27 : decode cX0_split 27 = .ok (.bipush 7, 2) := by decide +kernel
theorem dX0_split_29 : decode cX0_split 29 = .ok (.if_icmp .ge 66, 3) := by decide +kernel
theorem dX0_split_32 : decode cX0_split 32 = .ok (.iload_n 2, 1) := by decide +kernel
theorem dX0_split_33 : decode cX0_split 33 = .ok (.iload 6, 2) := by decide +kernel
theorem dX0_split_35 : decode cX0_split 35 = .ok (.ishr, 1) := by decide +kernel
theorem dX0_split_36 : decode cX0_split 36 = .ok (.iconst 1, 1) := by decide +kernel
theorem dX0_split_37 : decode cX0_split 37 = .ok (.iand, 1) := by decide +kernel
theorem dX0_split_38 : decode cX0_split 38 = .ok (.ifCond .eq 51, 3) := by decide +kernel
theorem dX0_split_41 : decode cX0_split 41 = .ok (.aload_n 0, 1) := by decide +kernel
theorem dX0_split_42 : decode cX0_split 42 = .ok (.getfield 26, 3) := by decide +kernel
theorem dX0_split_45 : decode cX0_split 45 = .ok (.iload 6, 2) := by decide +kernel
theorem dX0_split_47 : decode cX0_split 47 = .ok (.laload, 1) := by decide +kernel
theorem dX0_split_48 : decode cX0_split 48 = .ok (.lload_n 3, 1) := by decide +kernel
theorem dX0_split_49 : decode cX0_split 49 = .ok (.lcmp, 1) := by decide +kernel
theorem dX0_split_50 : decode cX0_split 50 = .ok (.ifCond .gt 39, 3) := by decide +kernel
theorem dX0_split_53 : decode cX0_split 53 = .ok (.aload_n 0, 1) := by decide +kernel
theorem dX0_split_54 : decode cX0_split 54 = .ok (.getfield 26, 3) := by decide +kernel
theorem dX0_split_57 : decode cX0_split 57 = .ok (.iload 6, 2) := by decide +kernel
theorem dX0_split_59 : decode cX0_split 59 = .ok (.laload, 1) := by decide +kernel
theorem dX0_split_60 : decode cX0_split 60 = .ok (.lload_n 3, 1) := by decide +kernel
theorem dX0_split_61 : decode cX0_split 61 = .ok (.lcmp, 1) := by decide +kernel
theorem dX0_split_62 : decode cX0_split 62 = .ok (.ifCond .ge 10, 3) := by decide +kernel
theorem dX0_split_65 : decode cX0_split 65 = .ok (.iconst 1, 1) := by decide +kernel
theorem dX0_split_66 : decode cX0_split 66 = .ok (.iload 6, 2) := by decide +kernel
theorem dX0_split_68 : decode cX0_split 68 = .ok (.ishl, 1) := by decide +kernel
theorem dX0_split_69 : decode cX0_split 69 = .ok (.goto 10, 3) := by decide +kernel
theorem dX0_split_72 : decode cX0_split 72 = .ok (.iload 5, 2) := by decide +kernel
theorem dX0_split_74 : decode cX0_split 74 = .ok (.iconst 1, 1) := by decide +kernel
theorem dX0_split_75 : decode cX0_split 75 = .ok (.iload 6, 2) := by decide +kernel
theorem dX0_split_77 : decode cX0_split 77 = .ok (.ishl, 1) := by decide +kernel
theorem dX0_split_78 : decode cX0_split 78 = .ok (.ior, 1) := by decide +kernel
theorem dX0_split_79 : decode cX0_split 79 = .ok (.istore 5, 2) := by decide +kernel
theorem dX0_split_81 : decode cX0_split 81 = .ok (.aload_n 0, 1) := by decide +kernel
theorem dX0_split_82 : decode cX0_split 82 = .ok (.getfield 26, 3) := by decide +kernel
theorem dX0_split_85 : decode cX0_split 85 = .ok (.iload 6, 2) := by decide +kernel
theorem dX0_split_87 : decode cX0_split 87 = .ok (.laload, 1) := by decide +kernel
theorem dX0_split_88 : decode cX0_split 88 = .ok (.lstore_n 3, 1) := by decide +kernel
theorem dX0_split_89 : decode cX0_split 89 = .ok (.iinc 6 1, 3) := by decide +kernel
theorem dX0_split_92 : decode cX0_split 92 = .ok (.goto (-67), 3) := by decide +kernel
theorem dX0_split_95 : decode cX0_split 95 = .ok (.aload_n 0, 1) := by decide +kernel
theorem dX0_split_96 : decode cX0_split 96 = .ok (.getfield 29, 3) := by decide +kernel
theorem dX0_split_99 : decode cX0_split 99 = .ok (.aload_n 0, 1) := by decide +kernel
theorem dX0_split_100 : decode cX0_split 100 = .ok (.getfield 32, 3) := by decide +kernel
theorem dX0_split_103 : decode cX0_split 103 = .ok (.iload 5, 2) := by decide +kernel
theorem dX0_split_105 : decode cX0_split 105 = .ok (.iastore, 1) := by decide +kernel
theorem dX0_split_106 : decode cX0_split 106 = .ok (.aload_n 0, 1) := by decide +kernel
theorem dX0_split_107 : decode cX0_split 107 = .ok (.getfield 22, 3) := by decide +kernel
theorem dX0_split_110 : decode cX0_split 110 = .ok (.aload_n 0, 1) := by decide +kernel
theorem dX0_split_111 : decode cX0_split 111 = .ok (.getfield 32, 3) := by decide +kernel
theorem dX0_split_114 : decode cX0_split 114 = .ok (.lload_n 3, 1) := by decide +kernel
theorem dX0_split_115 : decode cX0_split 115 = .ok (.lastore, 1) := by decide +kernel
theorem dX0_split_116 : decode cX0_split 116 = .ok (.aload_n 0, 1) := by decide +kernel
theorem dX0_split_117 : decode cX0_split 117 = .ok (.dup, 1) := by decide +kernel
theorem dX0_split_118 : decode cX0_split 118 = .ok (.getfield 32, 3) := by decide +kernel
theorem dX0_split_121 : decode cX0_split 121 = .ok (.iconst 1, 1) := by decide +kernel
theorem dX0_split_122 : decode cX0_split 122 = .ok (.iadd, 1) := by decide +kernel
theorem dX0_split_123 : decode cX0_split 123 = .ok (.putfield 32, 3) := by decide +kernel
theorem dX0_split_126 : decode cX0_split 126 = .ok (.iload_n 2, 1) := by decide +kernel
theorem dX0_split_127 : decode cX0_split 127 = .ok (.iload 5, 2) := by decide +kernel
theorem dX0_split_129 : decode cX0_split 129 = .ok (.iconst (-1), 1) := by decide +kernel
theorem dX0_split_130 : decode cX0_split 130 = .ok (.ixor, 1) := by decide +kernel
theorem dX0_split_131 : decode cX0_split 131 = .ok (.iand, 1) := by decide +kernel
theorem dX0_split_132 : decode cX0_split 132 = .ok (.istore_n 2, 1) := by decide +kernel
theorem dX0_split_133 : decode cX0_split 133 = .ok (.goto (-131), 3) := by decide +kernel
theorem dX0_split_136 : decode cX0_split 136 = .ok (.return_, 1) := by decide +kernel
theorem dX0_putAhead_0 : decode cX0_putAhead 0 = .ok (.iconst 0, 1) := by decide +kernel
theorem dX0_putAhead_1 : decode cX0_putAhead 1 = .ok (.istore_n 2, 1) := by decide +kernel
theorem dX0_putAhead_2 : decode cX0_putAhead 2 = .ok (.iload_n 2, 1) := by decide +kernel
theorem dX0_putAhead_3 : decode cX0_putAhead 3 = .ok (.aload_n 0, 1) := by decide +kernel
theorem dX0_putAhead_4 : decode cX0_putAhead 4 = .ok (.getfield 9, 3) := by decide +kernel
theorem dX0_putAhead_7 : decode cX0_putAhead 7 = .ok (.if_icmp .ge 109, 3) := by decide +kernel
theorem dX0_putAhead_10 : decode cX0_putAhead 10 = .ok (.aload_n 0, 1) := by decide +kernel
theorem dX0_putAhead_11 : decode cX0_putAhead 11 = .ok (.getfield 18, 3) := by decide +kernel
theorem dX0_putAhead_14 : decode cX0_putAhead 14 = .ok (.iload_n 2, 1) := by decide +kernel
theorem dX0_putAhead_15 : decode cX0_putAhead 15 = .ok (.iaload, 1) := by decide +kernel
theorem dX0_putAhead_16 : decode cX0_putAhead 16 = .ok (.iload_n 1, 1) := by decide +kernel
theorem dX0_putAhead_17 : decode cX0_putAhead 17 = .ok (.invokestatic 78, 3) := by decide +kernel
theorem dX0_putAhead_20 : decode cX0_putAhead 20 = .ok (.ifCond .eq 90, 3) := by decide +kernel
theorem dX0_putAhead_23 : decode cX0_putAhead 23 = .ok (.aload_n 0, 1) := by decide +kernel
theorem dX0_putAhead_24 : decode cX0_putAhead 24 = .ok (.getfield 18, 3) := by decide +kernel
theorem dX0_putAhead_27 : decode cX0_putAhead 27 = .ok (.iload_n 2, 1) := by decide +kernel
theorem dX0_putAhead_28 : decode cX0_putAhead 28 = .ok (.iaload, 1) := by decide +kernel
theorem dX0_putAhead_29 : decode cX0_putAhead 29 = .ok (.iconst 1, 1) := by decide +kernel
theorem dX0_putAhead_30 : decode cX0_putAhead 30 = .ok (.iload_n 1, 1) := by decide +kernel
theorem dX0_putAhead_31 : decode cX0_putAhead 31 = .ok (.ishl, 1) := by decide +kernel
theorem dX0_putAhead_32 : decode cX0_putAhead 32 = .ok (.if_icmp .eq 78, 3) := by decide +kernel
theorem dX0_putAhead_35 : decode cX0_putAhead 35 = .ok (.aload_n 0, 1) := by decide +kernel
theorem dX0_putAhead_36 : decode cX0_putAhead 36 = .ok (.getfield 9, 3) := by decide +kernel
theorem dX0_putAhead_39 : decode cX0_putAhead 39 = .ok (.bipush 7, 2) := by decide +kernel
theorem dX0_putAhead_41 : decode cX0_putAhead 41 = .ok (.if_icmp .ge 69, 3) := by decide +kernel
theorem dX0_putAhead_44 : decode cX0_putAhead 44 = .ok (.aload_n 0, 1) := by decide +kernel
theorem dX0_putAhead_45 : decode cX0_putAhead 45 = .ok (.getfield 9, 3) := by decide +kernel
theorem dX0_putAhead_48 : decode cX0_putAhead 48 = .ok (.istore_n 3, 1) := by decide +kernel
theorem dX0_putAhead_49 : decode cX0_putAhead 49 = .ok (.iload_n 3, 1) := by decide +kernel
theorem dX0_putAhead_50 : decode cX0_putAhead 50 = .ok (.iload_n 2, 1) := by decide +kernel
theorem dX0_putAhead_51 : decode cX0_putAhead 51 = .ok (.if_icmp .le 23, 3) := by decide +kernel
theorem dX0_putAhead_54 : decode cX0_putAhead 54 = .ok (.aload_n 0, 1) := by decide +kernel
theorem dX0_putAhead_55 : decode cX0_putAhead 55 = .ok (.getfield 18, 3) := by decide +kernel
theorem dX0_putAhead_58 : decode cX0_putAhead 58 = .ok (.iload_n 3, 1) := by decide +kernel
theorem dX0_putAhead_59 : decode cX0_putAhead 59 = .ok (.aload_n 0, 1) := by decide +kernel
theorem dX0_putAhead_60 : decode cX0_putAhead 60 = .ok (.getfield 18, 3) := by decide +kernel
theorem dX0_putAhead_63 : decode cX0_putAhead 63 = .ok (.iload_n 3, 1) := by decide +kernel
theorem dX0_putAhead_64 : decode cX0_putAhead 64 = .ok (.iconst 1, 1) := by decide +kernel
theorem dX0_putAhead_65 : decode cX0_putAhead 65 = .ok (.isub, 1) := by decide +kernel
theorem dX0_putAhead_66 : decode cX0_putAhead 66 = .ok (.iaload, 1) := by decide +kernel
theorem dX0_putAhead_67 : decode cX0_putAhead 67 = .ok (.iastore, 1) := by decide +kernel
theorem dX0_putAhead_68 : decode cX0_putAhead 68 = .ok (.iinc 3 (-1), 3) := by decide +kernel
theorem dX0_putAhead_71 : decode cX0_putAhead 71 = .ok (.goto (-22), 3) := by decide +kernel
theorem dX0_putAhead_74 : decode cX0_putAhead 74 = .ok (.aload_n 0, 1) := by decide +kernel
theorem dX0_putAhead_75 : decode cX0_putAhead 75 = .ok (.getfield 18, 3) := by decide +kernel
theorem dX0_putAhead_78 : decode cX0_putAhead 78 = .ok (.iload_n 2, 1) := by decide +kernel
theorem dX0_putAhead_79 : decode cX0_putAhead 79 = .ok (.iconst 1, 1) := by decide +kernel
theorem dX0_putAhead_80 : decode cX0_putAhead 80 = .ok (.iload_n 1, 1) := by decide +kernel
theorem dX0_putAhead_81 : decode cX0_putAhead 81 = .ok (.ishl, 1) := by decide +kernel
theorem dX0_putAhead_82 : decode cX0_putAhead 82 = .ok (.iastore, 1) := by decide +kernel
theorem dX0_putAhead_83 : decode cX0_putAhead 83 = .ok (.aload_n 0, 1) := by decide +kernel
theorem dX0_putAhead_84 : decode cX0_putAhead 84 = .ok (.getfield 18, 3) := by decide +kernel
theorem dX0_putAhead_87 : decode cX0_putAhead 87 = .ok (.iload_n 2, 1) := by decide +kernel
theorem dX0_putAhead_88 : decode cX0_putAhead 88 = .ok (.iconst 1, 1) := by decide +kernel
theorem dX0_putAhead_89 : decode cX0_putAhead 89 = .ok (.iadd, 1) := by decide +kernel
theorem dX0_putAhead_90 : decode cX0_putAhead 90 = .ok (.dup2, 1) := by decide +kernel
theorem dX0_putAhead_91 : decode cX0_putAhead 91 = .ok (.iaload, 1) := by decide +kernel
theorem dX0_putAhead_92 : decode cX0_putAhead 92 = .ok (.iconst 1, 1) := by decide +kernel
theorem dX0_putAhead_93 : decode cX0_putAhead 93 = .ok (.iload_n 1, 1) := by decide +kernel
theorem dX0_putAhead_94 : decode cX0_putAhead 94 = .ok (.ishl, 1) := by decide +kernel
theorem dX0_putAhead_95 : decode cX0_putAhead 95 = .ok (.iconst (-1), 1) := by decide +kernel
theorem dX0_putAhead_96 : decode cX0_putAhead 96 = .ok (.ixor, 1) := by decide +kernel
theorem dX0_putAhead_97 : decode cX0_putAhead 97 = .ok (.iand, 1) := by decide +kernel
theorem dX0_putAhead_98 : decode cX0_putAhead 98 = .ok (.iastore, 1) := by decide +kernel
theorem dX0_putAhead_99 : decode cX0_putAhead 99 = .ok (.aload_n 0, 1) := by decide +kernel
theorem dX0_putAhead_100 : decode cX0_putAhead 100 = .ok (.dup, 1) := by decide +kernel
theorem dX0_putAhead_101 : decode cX0_putAhead 101 = .ok (.getfield 9, 3) := by decide +kernel
theorem dX0_putAhead_104 : decode cX0_putAhead 104 = .ok (.iconst 1, 1) := by decide +kernel
theorem dX0_putAhead_105 : decode cX0_putAhead 105 = .ok (.iadd, 1) := by decide +kernel
theorem dX0_putAhead_106 : decode cX0_putAhead 106 = .ok (.putfield 9, 3) := by decide +kernel
theorem dX0_putAhead_109 : decode cX0_putAhead 109 = .ok (.return_, 1) := by decide +kernel
theorem dX0_putAhead_110 : decode cX0_putAhead 110 = .ok (.iinc 2 1, 3) := by decide +kernel
theorem dX0_putAhead_113 : decode cX0_putAhead 113 = .ok (.goto (-111), 3) := by decide +kernel
theorem dX0_putAhead_116 : decode cX0_putAhead 116 = .ok (.return_, 1) := by decide +kernel
theorem dX0_target_0 : decode cX0_target 0 = .ok (.iconst 0, 1) := by decide +kernel
theorem dX0_target_1 : decode cX0_target 1 = .ok (.istore_n 1, 1) := by decide +kernel
theorem dX0_target_2 : decode cX0_target 2 = .ok (.iconst 0, 1) := by decide +kernel
theorem dX0_target_3 : decode cX0_target 3 = .ok (.istore_n 2, 1) := by decide +kernel
theorem dX0_target_4 : decode cX0_target 4 = .ok (.iload_n 2, 1) := by decide +kernel
theorem dX0_target_5 : decode cX0_target 5 = .ok (.aload_n 0, 1) := by decide +kernel
theorem dX0_target_6 : decode cX0_target 6 = .ok (.getfield 9, 3) := by decide +kernel
theorem dX0_target_9 : decode cX0_target 9 = .ok (.if_icmp .ge 43, 3) := by decide +kernel
theorem dX0_target_12 : decode cX0_target 12 = .ok (.aload_n 0, 1) := by decide +kernel
theorem dX0_target_13 : decode cX0_target 13 = .ok (.getfield 18, 3) := by decide +kernel
theorem dX0_target_16 : decode cX0_target 16 = .ok (.iload_n 2, 1) := by decide +kernel
theorem dX0_target_17 : decode cX0_target 17 = .ok (.iaload, 1) := by decide +kernel
theorem dX0_target_18 : decode cX0_target 18 = .ok (.invokestatic 70, 3) := by decide +kernel
theorem dX0_target_21 : decode cX0_target 21 = .ok (.istore_n 3, 1) := by decide +kernel
theorem dX0_target_22 : decode cX0_target 22 = .ok (.iload_n 3, 1) := by decide +kernel
theorem dX0_target_23 : decode cX0_target 23 = .ok (.iconst 1, 1) := by decide +kernel
theorem dX0_target_24 : decode cX0_target 24 = .ok (.if_icmp .le 22, 3) := by decide +kernel
theorem dX0_target_27 : decode cX0_target 27 = .ok (.iload_n 1, 1) := by decide +kernel
theorem dX0_target_28 : decode cX0_target 28 = .ok (.ifCond .eq 11, 3) := by decide +kernel
theorem dX0_target_31 : decode cX0_target 31 = .ok (.iload_n 3, 1) := by decide +kernel
theorem dX0_target_32 : decode cX0_target 32 = .ok (.iload_n 1, 1) := by decide +kernel
theorem dX0_target_33 : decode cX0_target 33 = .ok (.invokestatic 70, 3) := by decide +kernel
theorem dX0_target_36 : decode cX0_target 36 = .ok (.if_icmp .ge 10, 3) := by decide +kernel
theorem dX0_target_39 : decode cX0_target 39 = .ok (.aload_n 0, 1) := by decide +kernel
theorem dX0_target_40 : decode cX0_target 40 = .ok (.getfield 18, 3) := by decide +kernel
theorem dX0_target_43 : decode cX0_target 43 = .ok (.iload_n 2, 1) := by decide +kernel
theorem dX0_target_44 : decode cX0_target 44 = .ok (.iaload, 1) := by decide +kernel
theorem dX0_target_45 : decode cX0_target 45 = .ok (.istore_n 1, 1) := by decide +kernel
theorem dX0_target_46 : decode cX0_target 46 = .ok (.iinc 2 1, 3) := by decide +kernel
theorem dX0_target_49 : decode cX0_target 49 = .ok (.goto (-45), 3) := by decide +kernel
theorem dX0_target_52 : decode cX0_target 52 = .ok (.iload_n 1, 1) := by decide +kernel
theorem dX0_target_53 : decode cX0_target 53 = .ok (.ireturn, 1) := by decide +kernel
theorem dX0_mark_0 : decode cX0_mark 0 = .ok (.iconst 0, 1) := by decide +kernel
theorem dX0_mark_1 : decode cX0_mark 1 = .ok (.istore_n 1, 1) := by decide +kernel
theorem dX0_mark_2 : decode cX0_mark 2 = .ok (.iconst 0, 1) := by decide +kernel
theorem dX0_mark_3 : decode cX0_mark 3 = .ok (.istore_n 2, 1) := by decide +kernel
theorem dX0_mark_4 : decode cX0_mark 4 = .ok (.iload_n 2, 1) := by decide +kernel
theorem dX0_mark_5 : decode cX0_mark 5 = .ok (.aload_n 0, 1) := by decide +kernel
theorem dX0_mark_6 : decode cX0_mark 6 = .ok (.getfield 9, 3) := by decide +kernel
theorem dX0_mark_9 : decode cX0_mark 9 = .ok (.if_icmp .ge 24, 3) := by decide +kernel
theorem dX0_mark_12 : decode cX0_mark 12 = .ok (.bipush 10, 2) := by decide +kernel
theorem dX0_mark_14 : decode cX0_mark 14 = .ok (.iload_n 1, 1) := by decide +kernel
theorem dX0_mark_15 : decode cX0_mark 15 = .ok (.imul, 1) := by decide +kernel
theorem dX0_mark_16 : decode cX0_mark 16 = .ok (.aload_n 0, 1) := by decide +kernel
theorem dX0_mark_17 : decode cX0_mark 17 = .ok (.getfield 18, 3) := by decide +kernel
theorem dX0_mark_20 : decode cX0_mark 20 = .ok (.iload_n 2, 1) := by decide +kernel
theorem dX0_mark_21 : decode cX0_mark 21 = .ok (.iaload, 1) := by decide +kernel
theorem dX0_mark_22 : decode cX0_mark 22 = .ok (.invokestatic 70, 3) := by decide +kernel
theorem dX0_mark_25 : decode cX0_mark 25 = .ok (.iadd, 1) := by decide +kernel
theorem dX0_mark_26 : decode cX0_mark 26 = .ok (.istore_n 1, 1) := by decide +kernel
theorem dX0_mark_27 : decode cX0_mark 27 = .ok (.iinc 2 1, 3) := by decide +kernel
theorem dX0_mark_30 : decode cX0_mark 30 = .ok (.goto (-26), 3) := by decide +kernel
theorem dX0_mark_33 : decode cX0_mark 33 = .ok (.bipush 10, 2) := by decide +kernel
theorem dX0_mark_35 : decode cX0_mark 35 = .ok (.iload_n 1, 1) := by decide +kernel
theorem dX0_mark_36 : decode cX0_mark 36 = .ok (.imul, 1) := by decide +kernel
theorem dX0_mark_37 : decode cX0_mark 37 = .ok (.aload_n 0, 1) := by decide +kernel
theorem dX0_mark_38 : decode cX0_mark 38 = .ok (.getfield 15, 3) := by decide +kernel
theorem dX0_mark_41 : decode cX0_mark 41 = .ok (.iadd, 1) := by decide +kernel
theorem dX0_mark_42 : decode cX0_mark 42 = .ok (.ireturn, 1) := by decide +kernel
theorem dX0_take_0 : decode cX0_take 0 = .ok (.aload_n 0, 1) := by decide +kernel
theorem dX0_take_1 : decode cX0_take 1 = .ok (.aload_n 1, 1) := by decide +kernel
theorem dX0_take_2 : decode cX0_take 2 = .ok (.getfield 9, 3) := by decide +kernel
theorem dX0_take_5 : decode cX0_take 5 = .ok (.putfield 9, 3) := by decide +kernel
theorem dX0_take_8 : decode cX0_take 8 = .ok (.aload_n 0, 1) := by decide +kernel
theorem dX0_take_9 : decode cX0_take 9 = .ok (.aload_n 1, 1) := by decide +kernel
theorem dX0_take_10 : decode cX0_take 10 = .ok (.getfield 15, 3) := by decide +kernel
theorem dX0_take_13 : decode cX0_take 13 = .ok (.putfield 15, 3) := by decide +kernel
theorem dX0_take_16 : decode cX0_take 16 = .ok (.aload_n 1, 1) := by decide +kernel
theorem dX0_take_17 : decode cX0_take 17 = .ok (.getfield 18, 3) := by decide +kernel
theorem dX0_take_20 : decode cX0_take 20 = .ok (.iconst 0, 1) := by decide +kernel
theorem dX0_take_21 : decode cX0_take 21 = .ok (.aload_n 0, 1) := by decide +kernel
theorem dX0_take_22 : decode cX0_take 22 = .ok (.getfield 18, 3) := by decide +kernel
theorem dX0_take_25 : decode cX0_take 25 = .ok (.iconst 0, 1) := by decide +kernel
theorem dX0_take_26 : decode cX0_take 26 = .ok (.bipush 7, 2) := by decide +kernel
theorem dX0_take_28 : decode cX0_take 28 = .ok (.invokestatic 60, 3) := by decide +kernel
theorem dX0_take_31 : decode cX0_take 31 = .ok (.return_, 1) := by decide +kernel
theorem dX0_alike_0 : decode cX0_alike 0 = .ok (.aload_n 0, 1) := by decide +kernel
theorem dX0_alike_1 : decode cX0_alike 1 = .ok (.getfield 9, 3) := by decide +kernel
theorem dX0_alike_4 : decode cX0_alike 4 = .ok (.aload_n 1, 1) := by decide +kernel
theorem dX0_alike_5 : decode cX0_alike 5 = .ok (.getfield 9, 3) := by decide +kernel
theorem dX0_alike_8 : decode cX0_alike 8 = .ok (.if_icmp .eq 5, 3) := by decide +kernel
theorem dX0_alike_11 : decode cX0_alike 11 = .ok (.iconst 0, 1) := by decide +kernel
theorem dX0_alike_12 : decode cX0_alike 12 = .ok (.ireturn, 1) := by decide +kernel
theorem dX0_alike_13 : decode cX0_alike 13 = .ok (.iconst 0, 1) := by decide +kernel
theorem dX0_alike_14 : decode cX0_alike 14 = .ok (.istore_n 2, 1) := by decide +kernel
theorem dX0_alike_15 : decode cX0_alike 15 = .ok (.iload_n 2, 1) := by decide +kernel
theorem dX0_alike_16 : decode cX0_alike 16 = .ok (.aload_n 0, 1) := by decide +kernel
theorem dX0_alike_17 : decode cX0_alike 17 = .ok (.getfield 9, 3) := by decide +kernel
theorem dX0_alike_20 : decode cX0_alike 20 = .ok (.if_icmp .ge 48, 3) := by decide +kernel
theorem dX0_alike_23 : decode cX0_alike 23 = .ok (.aload_n 0, 1) := by decide +kernel
theorem dX0_alike_24 : decode cX0_alike 24 = .ok (.getfield 22, 3) := by decide +kernel
theorem dX0_alike_27 : decode cX0_alike 27 = .ok (.iload_n 2, 1) := by decide +kernel
theorem dX0_alike_28 : decode cX0_alike 28 = .ok (.laload, 1) := by decide +kernel
theorem dX0_alike_29 : decode cX0_alike 29 = .ok (.aload_n 1, 1) := by decide +kernel
theorem dX0_alike_30 : decode cX0_alike 30 = .ok (.getfield 22, 3) := by decide +kernel
theorem dX0_alike_33 : decode cX0_alike 33 = .ok (.iload_n 2, 1) := by decide +kernel
theorem dX0_alike_34 : decode cX0_alike 34 = .ok (.laload, 1) := by decide +kernel
theorem dX0_alike_35 : decode cX0_alike 35 = .ok (.lcmp, 1) := by decide +kernel
theorem dX0_alike_36 : decode cX0_alike 36 = .ok (.ifCond .ne 24, 3) := by decide +kernel
theorem dX0_alike_39 : decode cX0_alike 39 = .ok (.aload_n 0, 1) := by decide +kernel
theorem dX0_alike_40 : decode cX0_alike 40 = .ok (.getfield 18, 3) := by decide +kernel
theorem dX0_alike_43 : decode cX0_alike 43 = .ok (.iload_n 2, 1) := by decide +kernel
theorem dX0_alike_44 : decode cX0_alike 44 = .ok (.iaload, 1) := by decide +kernel
theorem dX0_alike_45 : decode cX0_alike 45 = .ok (.invokestatic 70, 3) := by decide +kernel
theorem dX0_alike_48 : decode cX0_alike 48 = .ok (.aload_n 1, 1) := by decide +kernel
theorem dX0_alike_49 : decode cX0_alike 49 = .ok (.getfield 18, 3) := by decide +kernel
theorem dX0_alike_52 : decode cX0_alike 52 = .ok (.iload_n 2, 1) := by decide +kernel
theorem dX0_alike_53 : decode cX0_alike 53 = .ok (.iaload, 1) := by decide +kernel
theorem dX0_alike_54 : decode cX0_alike 54 = .ok (.invokestatic 70, 3) := by decide +kernel
theorem dX0_alike_57 : decode cX0_alike 57 = .ok (.if_icmp .eq 5, 3) := by decide +kernel
theorem dX0_alike_60 : decode cX0_alike 60 = .ok (.iconst 0, 1) := by decide +kernel
theorem dX0_alike_61 : decode cX0_alike 61 = .ok (.ireturn, 1) := by decide +kernel
theorem dX0_alike_62 : decode cX0_alike 62 = .ok (.iinc 2 1, 3) := by decide +kernel
theorem dX0_alike_65 : decode cX0_alike 65 = .ok (.goto (-50), 3) := by decide +kernel
theorem dX0_alike_68 : decode cX0_alike 68 = .ok (.iconst 1, 1) := by decide +kernel
theorem dX0_alike_69 : decode cX0_alike 69 = .ok (.ireturn, 1) := by decide +kernel
theorem dX1_init_0 : decode cX1_init 0 = .ok (.aload_n 0, 1) := by decide +kernel
theorem dX1_init_1 : decode cX1_init 1 = .ok (.invokespecial 3, 3) := by decide +kernel
theorem dX1_init_4 : decode cX1_init 4 = .ok (.aload_n 0, 1) := by decide +kernel
theorem dX1_init_5 : decode cX1_init 5 = .ok (.iconst 1, 1) := by decide +kernel
theorem dX1_init_6 : decode cX1_init 6 = .ok (.putfield 9, 3) := by decide +kernel
theorem dX1_init_9 : decode cX1_init 9 = .ok (.aload_n 0, 1) := by decide +kernel
theorem dX1_init_10 : decode cX1_init 10 = .ok (.bipush 7, 2) := by decide +kernel
theorem dX1_init_12 : decode cX1_init 12 = .ok (.newarray .int, 2) := by decide +kernel
theorem dX1_init_14 : decode cX1_init 14 = .ok (.putfield 15, 3) := by decide +kernel
theorem dX1_init_17 : decode cX1_init 17 = .ok (.aload_n 0, 1) := by decide +kernel
theorem dX1_init_18 : decode cX1_init 18 = .ok (.bipush 7, 2) := by decide +kernel
theorem dX1_init_20 : decode cX1_init 20 = .ok (.bipush 7, 2) := by decide +kernel
theorem dX1_init_22 : decode cX1_init 22 = .ok (.multianewarray 19 2, 4) := by decide +kernel
theorem dX1_init_26 : decode cX1_init 26 = .ok (.putfield 21, 3) := by decide +kernel
theorem dX1_init_29 : decode cX1_init 29 = .ok (.aload_n 0, 1) := by decide +kernel
theorem dX1_init_30 : decode cX1_init 30 = .ok (.iconst 4, 1) := by decide +kernel
theorem dX1_init_31 : decode cX1_init 31 = .ok (.bipush 7, 2) := by decide +kernel
theorem dX1_init_33 : decode cX1_init 33 = .ok (.multianewarray 19 2, 4) := by decide +kernel
theorem dX1_init_37 : decode cX1_init 37 = .ok (.putfield 24, 3) := by decide +kernel
theorem dX1_init_40 : decode cX1_init 40 = .ok (.return_, 1) := by decide +kernel
theorem dX1_has_0 : decode cX1_has 0 = .ok (.iload_n 1, 1) := by decide +kernel
theorem dX1_has_1 : decode cX1_has 1 = .ok (.ifCond .lt 15, 3) := by decide +kernel
theorem dX1_has_4 : decode cX1_has 4 = .ok (.iload_n 1, 1) := by decide +kernel
theorem dX1_has_5 : decode cX1_has 5 = .ok (.aload_n 0, 1) := by decide +kernel
theorem dX1_has_6 : decode cX1_has 6 = .ok (.getfield 9, 3) := by decide +kernel
theorem dX1_has_9 : decode cX1_has 9 = .ok (.if_icmp .ge 7, 3) := by decide +kernel
theorem dX1_has_12 : decode cX1_has 12 = .ok (.iconst 1, 1) := by decide +kernel
theorem dX1_has_13 : decode cX1_has 13 = .ok (.goto 4, 3) := by decide +kernel
theorem dX1_has_16 : decode cX1_has 16 = .ok (.iconst 0, 1) := by decide +kernel
theorem dX1_has_17 : decode cX1_has 17 = .ok (.ireturn, 1) := by decide +kernel
theorem dX1_hasAll_0 : decode cX1_hasAll 0 = .ok (.iload_n 1, 1) := by decide +kernel
theorem dX1_hasAll_1 : decode cX1_hasAll 1 = .ok (.ifCond .lt 17, 3) := by decide +kernel
theorem dX1_hasAll_4 : decode cX1_hasAll 4 = .ok (.iload_n 1, 1) := by decide +kernel
theorem dX1_hasAll_5 : decode cX1_hasAll 5 = .ok (.iconst 1, 1) := by decide +kernel
theorem dX1_hasAll_6 : decode cX1_hasAll 6 = .ok (.aload_n 0, 1) := by decide +kernel
theorem dX1_hasAll_7 : decode cX1_hasAll 7 = .ok (.getfield 9, 3) := by decide +kernel
theorem dX1_hasAll_10 : decode cX1_hasAll 10 = .ok (.ishl, 1) := by decide +kernel
theorem dX1_hasAll_11 : decode cX1_hasAll 11 = .ok (.if_icmp .ge 7, 3) := by decide +kernel
theorem dX1_hasAll_14 : decode cX1_hasAll 14 = .ok (.iconst 1, 1) := by decide +kernel
theorem dX1_hasAll_15 : decode cX1_hasAll 15 = .ok (.goto 4, 3) := by decide +kernel
theorem dX1_hasAll_18 : decode cX1_hasAll 18 = .ok (.iconst 0, 1) := by decide +kernel
theorem dX1_hasAll_19 : decode cX1_hasAll 19 = .ok (.ireturn, 1) := by decide +kernel
theorem dX1_links_0 : decode cX1_links 0 = .ok (.iconst 0, 1) := by decide +kernel
theorem dX1_links_1 : decode cX1_links 1 = .ok (.istore_n 1, 1) := by decide +kernel
theorem dX1_links_2 : decode cX1_links 2 = .ok (.iconst 0, 1) := by decide +kernel
theorem dX1_links_3 : decode cX1_links 3 = .ok (.istore_n 2, 1) := by decide +kernel
theorem dX1_links_4 : decode cX1_links 4 = .ok (.iload_n 2, 1) := by decide +kernel
theorem dX1_links_5 : decode cX1_links 5 = .ok (.aload_n 0, 1) := by decide +kernel
theorem dX1_links_6 : decode cX1_links 6 = .ok (.getfield 9, 3) := by decide +kernel
theorem dX1_links_9 : decode cX1_links 9 = .ok (.if_icmp .ge 23, 3) := by decide +kernel
theorem dX1_links_12 : decode cX1_links 12 = .ok (.iload_n 1, 1) := by decide +kernel
theorem dX1_links_13 : decode cX1_links 13 = .ok (.aload_n 0, 1) := by decide +kernel
theorem dX1_links_14 : decode cX1_links 14 = .ok (.getfield 24, 3) := by decide +kernel
theorem dX1_links_17 : decode cX1_links 17 = .ok (.iconst 0, 1) := by decide +kernel
theorem dX1_links_18 : decode cX1_links 18 = .ok (.aaload, 1) := by decide +kernel
theorem dX1_links_19 : decode cX1_links 19 = .ok (.iload_n 2, 1) := by decide +kernel
theorem dX1_links_20 : decode cX1_links 20 = .ok (.iaload, 1) := by decide +kernel
theorem dX1_links_21 : decode cX1_links 21 = .ok (.invokestatic 27, 3) := by decide +kernel
theorem dX1_links_24 : decode cX1_links 24 = .ok (.iadd, 1) := by decide +kernel
theorem dX1_links_25 : decode cX1_links 25 = .ok (.istore_n 1, 1) := by decide +kernel
theorem dX1_links_26 : decode cX1_links 26 = .ok (.iinc 2 1, 3) := by decide +kernel
theorem dX1_links_29 : decode cX1_links 29 = .ok (.goto (-25), 3) := by decide +kernel
theorem dX1_links_32 : decode cX1_links 32 = .ok (.iload_n 1, 1) := by decide +kernel
theorem dX1_links_33 : decode cX1_links 33 = .ok (.iconst 2, 1) := by decide +kernel
theorem dX1_links_34 : decode cX1_links 34 = .ok (.idiv, 1) := by decide +kernel
theorem dX1_links_35 : decode cX1_links 35 = .ok (.ireturn, 1) := by decide +kernel
theorem dX1_mostLinks_0 : decode cX1_mostLinks 0 = .ok (.iconst 0, 1) := by decide +kernel
theorem dX1_mostLinks_1 : decode cX1_mostLinks 1 = .ok (.istore_n 1, 1) := by decide +kernel
theorem dX1_mostLinks_2 : decode cX1_mostLinks 2 = .ok (.iconst 0, 1) := by decide +kernel
theorem dX1_mostLinks_3 : decode cX1_mostLinks 3 = .ok (.istore_n 2, 1) := by decide +kernel
theorem dX1_mostLinks_4 : decode cX1_mostLinks 4 = .ok (.iload_n 2, 1) := by decide +kernel
theorem dX1_mostLinks_5 : decode cX1_mostLinks 5 = .ok (.aload_n 0, 1) := by decide +kernel
theorem dX1_mostLinks_6 : decode cX1_mostLinks 6 = .ok (.getfield 9, 3) := by decide +kernel
theorem dX1_mostLinks_9 : decode cX1_mostLinks 9 = .ok (.if_icmp .ge 25, 3) := by decide +kernel
theorem dX1_mostLinks_12 : decode cX1_mostLinks 12 = .ok (.iload_n 1, 1) := by decide +kernel
theorem dX1_mostLinks_13 : decode cX1_mostLinks 13 = .ok (.aload_n 0, 1) := by decide +kernel
theorem dX1_mostLinks_14 : decode cX1_mostLinks 14 = .ok (.getfield 24, 3) := by decide +kernel
theorem dX1_mostLinks_17 : decode cX1_mostLinks 17 = .ok (.iconst 0, 1) := by decide +kernel
theorem dX1_mostLinks_18 : decode cX1_mostLinks 18 = .ok (.aaload, 1) := by decide +kernel
theorem dX1_mostLinks_19 : decode cX1_mostLinks 19 = .ok (.iload_n 2, 1) := by decide +kernel
theorem dX1_mostLinks_20 : decode cX1_mostLinks 20 = .ok (.iaload, 1) := by decide +kernel
theorem dX1_mostLinks_21 : decode cX1_mostLinks 21 = .ok (.invokestatic 27, 3) := by decide +kernel
theorem dX1_mostLinks_24 : decode cX1_mostLinks 24 = .ok (.invokestatic 33, 3) := by decide +kernel
theorem dX1_mostLinks_27 : decode cX1_mostLinks 27 = .ok (.istore_n 1, 1) := by decide +kernel
theorem dX1_mostLinks_28 : decode cX1_mostLinks 28 = .ok (.iinc 2 1, 3) := by decide +kernel
theorem dX1_mostLinks_31 : decode cX1_mostLinks 31 = .ok (.goto (-27), 3) := by decide +kernel
theorem dX1_mostLinks_34 : decode cX1_mostLinks 34 = .ok (.iload_n 1, 1) := by decide +kernel
theorem dX1_mostLinks_35 : decode cX1_mostLinks 35 = .ok (.ireturn, 1) := by decide +kernel
theorem dX1_join_0 : decode cX1_join 0 = .ok (.iconst 0, 1) := by decide +kernel
theorem dX1_join_1 : decode cX1_join 1 = .ok (.istore 4, 2) := by decide +kernel
theorem dX1_join_3 : decode cX1_join 3 = .ok (.iload 4, 2) := by decide +kernel
theorem dX1_join_5 : decode cX1_join 5 = .ok (.iconst 4, 1) := by decide +kernel
theorem dX1_join_6 : decode cX1_join 6 = .ok (.if_icmp .ge 43, 3) := by decide +kernel
theorem dX1_join_9 : decode cX1_join 9 = .ok (.aload_n 0, 1) := by decide +kernel
theorem dX1_join_10 : decode cX1_join 10 = .ok (.getfield 24, 3) := by decide +kernel
theorem dX1_join_13 : decode cX1_join 13 = .ok (.iload 4, 2) := by decide +kernel
theorem dX1_join_15 : decode cX1_join 15 = .ok (.aaload, 1) := by decide +kernel
theorem dX1_join_16 : decode cX1_join 16 = .ok (.iload_n 1, 1) := by decide +kernel
theorem dX1_join_17 : decode cX1_join 17 = .ok (.dup2, 1) := by decide +kernel
theorem dX1_join_18 : decode cX1_join 18 = .ok (.iaload, 1) := by decide +kernel
theorem dX1_join_19 : decode cX1_join 19 = .ok (.iconst 1, 1) := by decide +kernel
theorem dX1_join_20 : decode cX1_join 20 = .ok (.iload_n 2, 1) := by decide +kernel
theorem dX1_join_21 : decode cX1_join 21 = .ok (.ishl, 1) := by decide +kernel
theorem dX1_join_22 : decode cX1_join 22 = .ok (.iconst (-1), 1) := by decide +kernel
theorem dX1_join_23 : decode cX1_join 23 = .ok (.ixor, 1) := by decide +kernel
theorem dX1_join_24 : decode cX1_join 24 = .ok (.iand, 1) := by decide +kernel
theorem dX1_join_25 : decode cX1_join 25 = .ok (.iastore, 1) := by decide +kernel
theorem dX1_join_26 : decode cX1_join 26 = .ok (.aload_n 0, 1) := by decide +kernel
theorem dX1_join_27 : decode cX1_join 27 = .ok (.getfield 24, 3) := by decide +kernel
theorem dX1_join_30 : decode cX1_join 30 = .ok (.iload 4, 2) := by decide +kernel
theorem dX1_join_32 : decode cX1_join 32 = .ok (.aaload, 1) := by decide +kernel
theorem dX1_join_33 : decode cX1_join 33 = .ok (.iload_n 2, 1) := by decide +kernel
theorem dX1_join_34 : decode cX1_join 34 = .ok (.dup2, 1) := by decide +kernel
theorem dX1_join_35 : decode cX1_join 35 = .ok (.iaload, 1) := by decide +kernel
theorem dX1_join_36 : decode cX1_join 36 = .ok (.iconst 1, 1) := by decide +kernel
theorem dX1_join_37 : decode cX1_join 37 = .ok (.iload_n 1, 1) := by decide +kernel
theorem dX1_join_38 : decode cX1_join 38 = .ok (.ishl, 1) := by decide +kernel
theorem dX1_join_39 : decode cX1_join 39 = .ok (.iconst (-1), 1) := by decide +kernel
theorem dX1_join_40 : decode cX1_join 40 = .ok (.ixor, 1) := by decide +kernel
theorem dX1_join_41 : decode cX1_join 41 = .ok (.iand, 1) := by decide +kernel
theorem dX1_join_42 : decode cX1_join 42 = .ok (.iastore, 1) := by decide +kernel
theorem dX1_join_43 : decode cX1_join 43 = .ok (.iinc 4 1, 3) := by decide +kernel
theorem dX1_join_46 : decode cX1_join 46 = .ok (.goto (-43), 3) := by decide +kernel
theorem dX1_join_49 : decode cX1_join 49 = .ok (.aload_n 0, 1) := by decide +kernel
theorem dX1_join_50 : decode cX1_join 50 = .ok (.getfield 21, 3) := by decide +kernel
theorem dX1_join_53 : decode cX1_join 53 = .ok (.iload_n 1, 1) := by decide +kernel
theorem dX1_join_54 : decode cX1_join 54 = .ok (.aaload, 1) := by decide +kernel
theorem dX1_join_55 : decode cX1_join 55 = .ok (.iload_n 2, 1) := by decide +kernel
theorem dX1_join_56 : decode cX1_join 56 = .ok (.iload_n 3, 1) := by decide +kernel
theorem dX1_join_57 : decode cX1_join 57 = .ok (.iastore, 1) := by decide +kernel
theorem dX1_join_58 : decode cX1_join 58 = .ok (.aload_n 0, 1) := by decide +kernel
theorem dX1_join_59 : decode cX1_join 59 = .ok (.getfield 21, 3) := by decide +kernel
theorem dX1_join_62 : decode cX1_join 62 = .ok (.iload_n 2, 1) := by decide +kernel
theorem dX1_join_63 : decode cX1_join 63 = .ok (.aaload, 1) := by decide +kernel
theorem dX1_join_64 : decode cX1_join 64 = .ok (.iload_n 1, 1) := by decide +kernel
theorem dX1_join_65 : decode cX1_join 65 = .ok (.iload_n 3, 1) := by decide +kernel
theorem dX1_join_66 : decode cX1_join 66 = .ok (.iastore, 1) := by decide +kernel
theorem dX1_join_67 : decode cX1_join 67 = .ok (.iload_n 3, 1) := by decide +kernel
theorem dX1_join_68 : decode cX1_join 68 = .ok (.ifCond .eq 59, 3) := by decide +kernel
theorem dX1_join_71 : decode cX1_join 71 = .ok (.aload_n 0, 1) := by decide +kernel
theorem dX1_join_72 : decode cX1_join 72 = .ok (.getfield 24, 3) := by decide +kernel
theorem dX1_join_75 : decode cX1_join 75 = .ok (.iconst 0, 1) := by decide +kernel
theorem dX1_join_76 : decode cX1_join 76 = .ok (.aaload, 1) := by decide +kernel
theorem dX1_join_77 : decode cX1_join 77 = .ok (.iload_n 1, 1) := by decide +kernel
theorem dX1_join_78 : decode cX1_join 78 = .ok (.dup2, 1) := by decide +kernel
theorem dX1_join_79 : decode cX1_join 79 = .ok (.iaload, 1) := by decide +kernel
theorem dX1_join_80 : decode cX1_join 80 = .ok (.iconst 1, 1) := by decide +kernel
theorem dX1_join_81 : decode cX1_join 81 = .ok (.iload_n 2, 1) := by decide +kernel
theorem dX1_join_82 : decode cX1_join 82 = .ok (.ishl, 1) := by decide +kernel
theorem dX1_join_83 : decode cX1_join 83 = .ok (.ior, 1) := by decide +kernel
theorem dX1_join_84 : decode cX1_join 84 = .ok (.iastore, 1) := by decide +kernel
theorem dX1_join_85 : decode cX1_join 85 = .ok (.aload_n 0, 1) := by decide +kernel
theorem dX1_join_86 : decode cX1_join 86 = .ok (.getfield 24, 3) := by decide +kernel
theorem dX1_join_89 : decode cX1_join 89 = .ok (.iconst 0, 1) := by decide +kernel
theorem dX1_join_90 : decode cX1_join 90 = .ok (.aaload, 1) := by decide +kernel
theorem dX1_join_91 : decode cX1_join 91 = .ok (.iload_n 2, 1) := by decide +kernel
theorem dX1_join_92 : decode cX1_join 92 = .ok (.dup2, 1) := by decide +kernel
theorem dX1_join_93 : decode cX1_join 93 = .ok (.iaload, 1) := by decide +kernel
theorem dX1_join_94 : decode cX1_join 94 = .ok (.iconst 1, 1) := by decide +kernel
theorem dX1_join_95 : decode cX1_join 95 = .ok (.iload_n 1, 1) := by decide +kernel
theorem dX1_join_96 : decode cX1_join 96 = .ok (.ishl, 1) := by decide +kernel
theorem dX1_join_97 : decode cX1_join 97 = .ok (.ior, 1) := by decide +kernel
theorem dX1_join_98 : decode cX1_join 98 = .ok (.iastore, 1) := by decide +kernel
theorem dX1_join_99 : decode cX1_join 99 = .ok (.aload_n 0, 1) := by decide +kernel
theorem dX1_join_100 : decode cX1_join 100 = .ok (.getfield 24, 3) := by decide +kernel
theorem dX1_join_103 : decode cX1_join 103 = .ok (.iload_n 3, 1) := by decide +kernel
theorem dX1_join_104 : decode cX1_join 104 = .ok (.aaload, 1) := by decide +kernel
theorem dX1_join_105 : decode cX1_join 105 = .ok (.iload_n 1, 1) := by decide +kernel
theorem dX1_join_106 : decode cX1_join 106 = .ok (.dup2, 1) := by decide +kernel
theorem dX1_join_107 : decode cX1_join 107 = .ok (.iaload, 1) := by decide +kernel
theorem dX1_join_108 : decode cX1_join 108 = .ok (.iconst 1, 1) := by decide +kernel
theorem dX1_join_109 : decode cX1_join 109 = .ok (.iload_n 2, 1) := by decide +kernel
theorem dX1_join_110 : decode cX1_join 110 = .ok (.ishl, 1) := by decide +kernel
theorem dX1_join_111 : decode cX1_join 111 = .ok (.ior, 1) := by decide +kernel
theorem dX1_join_112 : decode cX1_join 112 = .ok (.iastore, 1) := by decide +kernel
theorem dX1_join_113 : decode cX1_join 113 = .ok (.aload_n 0, 1) := by decide +kernel
theorem dX1_join_114 : decode cX1_join 114 = .ok (.getfield 24, 3) := by decide +kernel
theorem dX1_join_117 : decode cX1_join 117 = .ok (.iload_n 3, 1) := by decide +kernel
theorem dX1_join_118 : decode cX1_join 118 = .ok (.aaload, 1) := by decide +kernel
theorem dX1_join_119 : decode cX1_join 119 = .ok (.iload_n 2, 1) := by decide +kernel
theorem dX1_join_120 : decode cX1_join 120 = .ok (.dup2, 1) := by decide +kernel
theorem dX1_join_121 : decode cX1_join 121 = .ok (.iaload, 1) := by decide +kernel
theorem dX1_join_122 : decode cX1_join 122 = .ok (.iconst 1, 1) := by decide +kernel
theorem dX1_join_123 : decode cX1_join 123 = .ok (.iload_n 1, 1) := by decide +kernel
theorem dX1_join_124 : decode cX1_join 124 = .ok (.ishl, 1) := by decide +kernel
theorem dX1_join_125 : decode cX1_join 125 = .ok (.ior, 1) := by decide +kernel
theorem dX1_join_126 : decode cX1_join 126 = .ok (.iastore, 1) := by decide +kernel
theorem dX1_join_127 : decode cX1_join 127 = .ok (.return_, 1) := by decide +kernel
theorem dX1_exchange_0 : decode cX1_exchange 0 = .ok (.aload_n 0, 1) := by decide +kernel
theorem dX1_exchange_1 : decode cX1_exchange 1 = .ok (.getfield 15, 3) := by decide +kernel
theorem dX1_exchange_4 : decode cX1_exchange 4 = .ok (.iload_n 1, 1) := by decide +kernel
theorem dX1_exchange_5 : decode cX1_exchange 5 = .ok (.iaload, 1) := by decide +kernel
theorem dX1_exchange_6 : decode cX1_exchange 6 = .ok (.istore_n 3, 1) := by decide +kernel
theorem dX1_exchange_7 : decode cX1_exchange 7 = .ok (.aload_n 0, 1) := by decide +kernel
theorem dX1_exchange_8 : decode cX1_exchange 8 = .ok (.getfield 15, 3) := by decide +kernel
theorem dX1_exchange_11 : decode cX1_exchange 11 = .ok (.iload_n 1, 1) := by decide +kernel
theorem dX1_exchange_12 : decode cX1_exchange 12 = .ok (.aload_n 0, 1) := by decide +kernel
theorem dX1_exchange_13 : decode cX1_exchange 13 = .ok (.getfield 15, 3) := by decide +kernel
theorem dX1_exchange_16 : decode cX1_exchange 16 = .ok (.iload_n 2, 1) := by decide +kernel
theorem dX1_exchange_17 : decode cX1_exchange 17 = .ok (.iaload, 1) := by decide +kernel
theorem dX1_exchange_18 : decode cX1_exchange 18 = .ok (.iastore, 1) := by decide +kernel
theorem dX1_exchange_19 : decode cX1_exchange 19 = .ok (.aload_n 0, 1) := by decide +kernel
theorem dX1_exchange_20 : decode cX1_exchange 20 = .ok (.getfield 15, 3) := by decide +kernel
theorem dX1_exchange_23 : decode cX1_exchange 23 = .ok (.iload_n 2, 1) := by decide +kernel
theorem dX1_exchange_24 : decode cX1_exchange 24 = .ok (.iload_n 3, 1) := by decide +kernel
theorem dX1_exchange_25 : decode cX1_exchange 25 = .ok (.iastore, 1) := by decide +kernel
theorem dX1_exchange_26 : decode cX1_exchange 26 = .ok (.iconst 0, 1) := by decide +kernel
theorem dX1_exchange_27 : decode cX1_exchange 27 = .ok (.istore 4, 2) := by decide +kernel
theorem dX1_exchange_29 : decode cX1_exchange 29 = .ok (.iload 4, 2) := by decide +kernel
theorem dX1_exchange_31 : decode cX1_exchange 31 = .ok (.aload_n 0, 1) := by decide +kernel
theorem dX1_exchange_32 : decode cX1_exchange 32 = .ok (.getfield 9, 3) := by decide +kernel
theorem dX1_exchange_35 : decode cX1_exchange 35 = .ok (.if_icmp .ge 57, 3) := by decide +kernel
theorem dX1_exchange_38 : decode cX1_exchange 38 = .ok (.iload 4, 2) := by decide +kernel
theorem dX1_exchange_40 : decode cX1_exchange 40 = .ok (.iload_n 1, 1) := by decide +kernel
theorem dX1_exchange_41 : decode cX1_exchange 41 = .ok (.if_icmp .eq 45, 3) := by decide +kernel
theorem dX1_exchange_44 : decode cX1_exchange 44 = .ok (.iload 4, 2) := by decide +kernel
theorem dX1_exchange_46 : decode cX1_exchange 46 = .ok (.iload_n 2, 1) := by decide +kernel
theorem dX1_exchange_47 : decode cX1_exchange 47 = .ok (.if_icmp .eq 39, 3) := by decide +kernel
theorem dX1_exchange_50 : decode cX1_exchange 50 = .ok (.aload_n 0, 1) := by decide +kernel
theorem dX1_exchange_51 : decode cX1_exchange 51 = .ok (.getfield 21, 3) := by decide +kernel
theorem dX1_exchange_54 : decode cX1_exchange 54 = .ok (.iload_n 1, 1) := by decide +kernel
theorem dX1_exchange_55 : decode cX1_exchange 55 = .ok (.aaload, 1) := by decide +kernel
theorem dX1_exchange_56 : decode cX1_exchange 56 = .ok (.iload 4, 2) := by decide +kernel
theorem dX1_exchange_58 : decode cX1_exchange 58 = .ok (.iaload, 1) := by decide +kernel
theorem dX1_exchange_59 : decode cX1_exchange 59 = .ok (.istore 5, 2) := by decide +kernel
theorem dX1_exchange_61 : decode cX1_exchange 61 = .ok (.aload_n 0, 1) := by decide +kernel
theorem dX1_exchange_62 : decode cX1_exchange 62 = .ok (.iload_n 1, 1) := by decide +kernel
theorem dX1_exchange_63 : decode cX1_exchange 63 = .ok (.iload 4, 2) := by decide +kernel
theorem dX1_exchange_65 : decode cX1_exchange 65 = .ok (.aload_n 0, 1) := by decide +kernel
theorem dX1_exchange_66 : decode cX1_exchange 66 = .ok (.getfield 21, 3) := by decide +kernel
theorem dX1_exchange_69 : decode cX1_exchange 69 = .ok (.iload_n 2, 1) := by decide +kernel
theorem dX1_exchange_70 : decode cX1_exchange 70 = .ok (.aaload, 1) := by decide +kernel
theorem dX1_exchange_71 : decode cX1_exchange 71 = .ok (.iload 4, 2) := by decide +kernel
theorem dX1_exchange_73 : decode cX1_exchange 73 = .ok (.iaload, 1) := by decide +kernel
theorem dX1_exchange_74 : decode cX1_exchange 74 = .ok (.invokevirtual 39, 3) := by decide +kernel
theorem dX1_exchange_77 : decode cX1_exchange 77 = .ok (.aload_n 0, 1) := by decide +kernel
theorem dX1_exchange_78 : decode cX1_exchange 78 = .ok (.iload_n 2, 1) := by decide +kernel
theorem dX1_exchange_79 : decode cX1_exchange 79 = .ok (.iload 4, 2) := by decide +kernel
theorem dX1_exchange_81 : decode cX1_exchange 81 = .ok (.iload 5, 2) := by decide +kernel
theorem dX1_exchange_83 : decode cX1_exchange 83 = .ok (.invokevirtual 39, 3) := by decide +kernel
theorem dX1_exchange_86 : decode cX1_exchange 86 = .ok (.iinc 4 1, 3) := by decide +kernel
theorem dX1_exchange_89 : decode cX1_exchange 89 = .ok (.goto (-60), 3) := by decide +kernel
theorem dX1_exchange_92 : decode cX1_exchange 92 = .ok (.return_, 1) := by decide +kernel
theorem dX1_mix_0 : decode cX1_mix 0 = .ok (.iconst 0, 1) := by decide +kernel
theorem dX1_mix_1 : decode cX1_mix 1 = .ok (.istore_n 2, 1) := by decide +kernel
theorem dX1_mix_2 : decode cX1_mix 2 = .ok (.iload_n 1, 1) := by decide +kernel
theorem dX1_mix_3 : decode cX1_mix 3 = .ok (.i2l, 1) := by decide +kernel
theorem dX1_mix_4 : decode cX1_mix 4 = .ok (.lstore_n 3, 1) := by decide +kernel
theorem dX1_mix_5 : decode cX1_mix 5 = .ok (.aload_n 0, 1) := by decide +kernel
theorem dX1_mix_6 : decode cX1_mix 6 = .ok (.getfield 9, 3) := by decide +kernel
theorem dX1_mix_9 : decode cX1_mix 9 = .ok (.iconst 1, 1) := by decide +kernel
theorem dX1_mix_10 : decode cX1_mix 10 = .ok (.isub, 1) := by decide +kernel
theorem dX1_mix_11 : decode cX1_mix 11 = .ok (.istore 5, 2) := by decide +kernel
theorem dX1_mix_13 : decode cX1_mix 13 = .ok (.iload 5, 2) := by decide +kernel
theorem dX1_mix_15 : decode cX1_mix 15 = .ok (.ifCond .le 47, 3) := by decide +kernel
theorem dX1_mix_18 : decode cX1_mix 18 = .ok (.ldc2_w 43, 3) := by decide +kernel
theorem dX1_mix_21 : decode cX1_mix 21 = .ok (.lload_n 3, 1) := by decide +kernel
theorem dX1_mix_22 : decode cX1_mix 22 = .ok (.lmul, 1) := by decide +kernel
theorem dX1_mix_23 : decode cX1_mix 23 = .ok (.ldc2_w 45, 3) := by decide +kernel
theorem dX1_mix_26 : decode cX1_mix 26 = .ok (.lrem, 1) := by decide +kernel
theorem dX1_mix_27 : decode cX1_mix 27 = .ok (.lstore_n 3, 1) := by decide +kernel
theorem dX1_mix_28 : decode cX1_mix 28 = .ok (.lload_n 3, 1) := by decide +kernel
theorem dX1_mix_29 : decode cX1_mix 29 = .ok (.iload 5, 2) := by decide +kernel
theorem dX1_mix_31 : decode cX1_mix 31 = .ok (.iconst 1, 1) := by decide +kernel
theorem dX1_mix_32 : decode cX1_mix 32 = .ok (.iadd, 1) := by decide +kernel
theorem dX1_mix_33 : decode cX1_mix 33 = .ok (.i2l, 1) := by decide +kernel
theorem dX1_mix_34 : decode cX1_mix 34 = .ok (.lrem, 1) := by decide +kernel
theorem dX1_mix_35 : decode cX1_mix 35 = .ok (.l2i, 1) := by decide +kernel
theorem dX1_mix_36 : decode cX1_mix 36 = .ok (.istore 6, 2) := by decide +kernel
theorem dX1_mix_38 : decode cX1_mix 38 = .ok (.iload 6, 2) := by decide +kernel
theorem dX1_mix_40 : decode cX1_mix 40 = .ok (.iload 5, 2) := by decide +kernel
theorem dX1_mix_42 : decode cX1_mix 42 = .ok (.if_icmp .eq 14, 3) := by decide +kernel
theorem dX1_mix_45 : decode cX1_mix 45 = .ok (.aload_n 0, 1) := by decide +kernel
theorem dX1_mix_46 : decode cX1_mix 46 = .ok (.iload 5, 2) := by decide +kernel
theorem dX1_mix_48 : decode cX1_mix 48 = .ok (.iload 6, 2) := by decide +kernel
theorem dX1_mix_50 : decode cX1_mix 50 = .ok (.invokevirtual 47, 3) := by decide +kernel
theorem dX1_mix_53 : decode cX1_mix 53 = .ok (.iinc 2 1, 3) := by decide +kernel
theorem dX1_mix_56 : decode cX1_mix 56 = .ok (.iinc 5 (-1), 3) := by decide +kernel
theorem dX1_mix_59 : decode cX1_mix 59 = .ok (.goto (-46), 3) := by decide +kernel
theorem dX1_mix_62 : decode cX1_mix 62 = .ok (.iload_n 2, 1) := by decide +kernel
theorem dX1_mix_63 : decode cX1_mix 63 = .ok (.ireturn, 1) := by decide +kernel
theorem dX1_empty_0 : decode cX1_empty 0 = .ok (.iconst 0, 1) := by decide +kernel
theorem dX1_empty_1 : decode cX1_empty 1 = .ok (.istore_n 2, 1) := by decide +kernel
theorem dX1_empty_2 : decode cX1_empty 2 = .ok (.iload_n 2, 1) := by decide +kernel
theorem dX1_empty_3 : decode cX1_empty 3 = .ok (.bipush 7, 2) := by decide +kernel
theorem dX1_empty_5 : decode cX1_empty 5 = .ok (.if_icmp .ge 36, 3) := by decide +kernel
theorem dX1_empty_8 : decode cX1_empty 8 = .ok (.aload_n 0, 1) := by decide +kernel
theorem dX1_empty_9 : decode cX1_empty 9 = .ok (.getfield 15, 3) := by decide +kernel
theorem dX1_empty_12 : decode cX1_empty 12 = .ok (.iload_n 2, 1) := by decide +kernel
theorem dX1_empty_13 : decode cX1_empty 13 = .ok (.iconst 0, 1) := by decide +kernel
theorem dX1_empty_14 : decode cX1_empty 14 = .ok (.iastore, 1) := by decide +kernel
theorem dX1_empty_15 : decode cX1_empty 15 = .ok (.iconst 0, 1) := by decide +kernel
theorem dX1_empty_16 : decode cX1_empty 16 = .ok (.istore_n 3, 1) := by decide +kernel
theorem dX1_empty_17 : decode cX1_empty 17 = .ok (.iload_n 3, 1) := by decide +kernel
theorem dX1_empty_18 : decode cX1_empty 18 = .ok (.iload_n 2, 1) := by decide +kernel
theorem dX1_empty_19 : decode cX1_empty 19 = .ok (.if_icmp .ge 16, 3) := by decide +kernel
theorem dX1_empty_22 : decode cX1_empty 22 = .ok (.aload_n 0, 1) := by decide +kernel
theorem dX1_empty_23 : decode cX1_empty 23 = .ok (.iload_n 2, 1) := by decide +kernel
theorem dX1_empty_24 : decode cX1_empty 24 = .ok (.iload_n 3, 1) := by decide +kernel
theorem dX1_empty_25 : decode cX1_empty 25 = .ok (.iconst 0, 1) := by decide +kernel
theorem dX1_empty_26 : decode cX1_empty 26 = .ok (.invokevirtual 39, 3) := by decide +kernel
theorem dX1_empty_29 : decode cX1_empty 29 = .ok (.iinc 3 1, 3) := by decide +kernel
theorem dX1_empty_32 : decode cX1_empty 32 = .ok (.goto (-15), 3) := by decide +kernel
theorem dX1_empty_35 : decode cX1_empty 35 = .ok (.iinc 2 1, 3) := by decide +kernel
theorem dX1_empty_38 : decode cX1_empty 38 = .ok (.goto (-36), 3) := by decide +kernel
theorem dX1_empty_41 : decode cX1_empty 41 = .ok (.aload_n 0, 1) := by decide +kernel
theorem dX1_empty_42 : decode cX1_empty 42 = .ok (.iload_n 1, 1) := by decide +kernel
theorem dX1_empty_43 : decode cX1_empty 43 = .ok (.putfield 9, 3) := by decide +kernel
theorem dX1_empty_46 : decode cX1_empty 46 = .ok (.return_, 1) := by decide +kernel
theorem dX1_take_0 : decode cX1_take 0 = .ok (.aload_n 0, 1) := by decide +kernel
theorem dX1_take_1 : decode cX1_take 1 = .ok (.aload_n 1, 1) := by decide +kernel
theorem dX1_take_2 : decode cX1_take 2 = .ok (.getfield 9, 3) := by decide +kernel
theorem dX1_take_5 : decode cX1_take 5 = .ok (.putfield 9, 3) := by decide +kernel
theorem dX1_take_8 : decode cX1_take 8 = .ok (.aload_n 1, 1) := by decide +kernel
theorem dX1_take_9 : decode cX1_take 9 = .ok (.getfield 15, 3) := by decide +kernel
theorem dX1_take_12 : decode cX1_take 12 = .ok (.iconst 0, 1) := by decide +kernel
theorem dX1_take_13 : decode cX1_take 13 = .ok (.aload_n 0, 1) := by decide +kernel
theorem dX1_take_14 : decode cX1_take 14 = .ok (.getfield 15, 3) := by decide +kernel
theorem dX1_take_17 : decode cX1_take 17 = .ok (.iconst 0, 1) := by decide +kernel
theorem dX1_take_18 : decode cX1_take 18 = .ok (.bipush 7, 2) := by decide +kernel
theorem dX1_take_20 : decode cX1_take 20 = .ok (.invokestatic 55, 3) := by decide +kernel
theorem dX1_take_23 : decode cX1_take 23 = .ok (.iconst 0, 1) := by decide +kernel
theorem dX1_take_24 : decode cX1_take 24 = .ok (.istore_n 2, 1) := by decide +kernel
theorem dX1_take_25 : decode cX1_take 25 = .ok (.iload_n 2, 1) := by decide +kernel
theorem dX1_take_26 : decode cX1_take 26 = .ok (.bipush 7, 2) := by decide +kernel
theorem dX1_take_28 : decode cX1_take 28 = .ok (.if_icmp .ge 28, 3) := by decide +kernel
theorem dX1_take_31 : decode cX1_take 31 = .ok (.aload_n 1, 1) := by decide +kernel
theorem dX1_take_32 : decode cX1_take 32 = .ok (.getfield 21, 3) := by decide +kernel
theorem dX1_take_35 : decode cX1_take 35 = .ok (.iload_n 2, 1) := by decide +kernel
theorem dX1_take_36 : decode cX1_take 36 = .ok (.aaload, 1) := by decide +kernel
theorem dX1_take_37 : decode cX1_take 37 = .ok (.iconst 0, 1) := by decide +kernel
theorem dX1_take_38 : decode cX1_take 38 = .ok (.aload_n 0, 1) := by decide +kernel
theorem dX1_take_39 : decode cX1_take 39 = .ok (.getfield 21, 3) := by decide +kernel
theorem dX1_take_42 : decode cX1_take 42 = .ok (.iload_n 2, 1) := by decide +kernel
theorem dX1_take_43 : decode cX1_take 43 = .ok (.aaload, 1) := by decide +kernel
theorem dX1_take_44 : decode cX1_take 44 = .ok (.iconst 0, 1) := by decide +kernel
theorem dX1_take_45 : decode cX1_take 45 = .ok (.bipush 7, 2) := by decide +kernel
theorem dX1_take_47 : decode cX1_take 47 = .ok (.invokestatic 55, 3) := by decide +kernel
theorem dX1_take_50 : decode cX1_take 50 = .ok (.iinc 2 1, 3) := by decide +kernel
theorem dX1_take_53 : decode cX1_take 53 = .ok (.goto (-28), 3) := by decide +kernel
theorem dX1_take_56 : decode cX1_take 56 = .ok (.iconst 0, 1) := by decide +kernel
theorem dX1_take_57 : decode cX1_take 57 = .ok (.istore_n 2, 1) := by decide +kernel
theorem dX1_take_58 : decode cX1_take 58 = .ok (.iload_n 2, 1) := by decide +kernel
theorem dX1_take_59 : decode cX1_take 59 = .ok (.iconst 4, 1) := by decide +kernel
theorem dX1_take_60 : decode cX1_take 60 = .ok (.if_icmp .ge 28, 3) := by decide +kernel
theorem dX1_take_63 : decode cX1_take 63 = .ok (.aload_n 1, 1) := by decide +kernel
theorem dX1_take_64 : decode cX1_take 64 = .ok (.getfield 24, 3) := by decide +kernel
theorem dX1_take_67 : decode cX1_take 67 = .ok (.iload_n 2, 1) := by decide +kernel
theorem dX1_take_68 : decode cX1_take 68 = .ok (.aaload, 1) := by decide +kernel
theorem dX1_take_69 : decode cX1_take 69 = .ok (.iconst 0, 1) := by decide +kernel
theorem dX1_take_70 : decode cX1_take 70 = .ok (.aload_n 0, 1) := by decide +kernel
theorem dX1_take_71 : decode cX1_take 71 = .ok (.getfield 24, 3) := by decide +kernel
theorem dX1_take_74 : decode cX1_take 74 = .ok (.iload_n 2, 1) := by decide +kernel
theorem dX1_take_75 : decode cX1_take 75 = .ok (.aaload, 1) := by decide +kernel
theorem dX1_take_76 : decode cX1_take 76 = .ok (.iconst 0, 1) := by decide +kernel
theorem dX1_take_77 : decode cX1_take 77 = .ok (.bipush 7, 2) := by decide +kernel
theorem dX1_take_79 : decode cX1_take 79 = .ok (.invokestatic 55, 3) := by decide +kernel
theorem dX1_take_82 : decode cX1_take 82 = .ok (.iinc 2 1, 3) := by decide +kernel
theorem dX1_take_85 : decode cX1_take 85 = .ok (.goto (-27), 3) := by decide +kernel
theorem dX1_take_88 : decode cX1_take 88 = .ok (.return_, 1) := by decide +kernel
theorem dX1_same_0 : decode cX1_same 0 = .ok (.aload_n 0, 1) := by decide +kernel
theorem dX1_same_1 : decode cX1_same 1 = .ok (.getfield 9, 3) := by decide +kernel
theorem dX1_same_4 : decode cX1_same 4 = .ok (.aload_n 1, 1) := by decide +kernel
theorem dX1_same_5 : decode cX1_same 5 = .ok (.getfield 9, 3) := by decide +kernel
theorem dX1_same_8 : decode cX1_same 8 = .ok (.if_icmp .eq 5, 3) := by decide +kernel
theorem dX1_same_11 : decode cX1_same 11 = .ok (.iconst 0, 1) := by decide +kernel
theorem dX1_same_12 : decode cX1_same 12 = .ok (.ireturn, 1) := by decide +kernel
theorem dX1_same_13 : decode cX1_same 13 = .ok (.iconst 0, 1) := by decide +kernel
theorem dX1_same_14 : decode cX1_same 14 = .ok (.istore_n 2, 1) := by decide +kernel
theorem dX1_same_15 : decode cX1_same 15 = .ok (.iload_n 2, 1) := by decide +kernel
theorem dX1_same_16 : decode cX1_same 16 = .ok (.aload_n 0, 1) := by decide +kernel
theorem dX1_same_17 : decode cX1_same 17 = .ok (.getfield 9, 3) := by decide +kernel
theorem dX1_same_20 : decode cX1_same 20 = .ok (.if_icmp .ge 60, 3) := by decide +kernel
theorem dX1_same_23 : decode cX1_same 23 = .ok (.aload_n 0, 1) := by decide +kernel
theorem dX1_same_24 : decode cX1_same 24 = .ok (.getfield 15, 3) := by decide +kernel
theorem dX1_same_27 : decode cX1_same 27 = .ok (.iload_n 2, 1) := by decide +kernel
theorem dX1_same_28 : decode cX1_same 28 = .ok (.iaload, 1) := by decide +kernel
theorem dX1_same_29 : decode cX1_same 29 = .ok (.aload_n 1, 1) := by decide +kernel
theorem dX1_same_30 : decode cX1_same 30 = .ok (.getfield 15, 3) := by decide +kernel
theorem dX1_same_33 : decode cX1_same 33 = .ok (.iload_n 2, 1) := by decide +kernel
theorem dX1_same_34 : decode cX1_same 34 = .ok (.iaload, 1) := by decide +kernel
theorem dX1_same_35 : decode cX1_same 35 = .ok (.if_icmp .eq 5, 3) := by decide +kernel
theorem dX1_same_38 : decode cX1_same 38 = .ok (.iconst 0, 1) := by decide +kernel
theorem dX1_same_39 : decode cX1_same 39 = .ok (.ireturn, 1) := by decide +kernel
theorem dX1_same_40 : decode cX1_same 40 = .ok (.iconst 0, 1) := by decide +kernel
theorem dX1_same_41 : decode cX1_same 41 = .ok (.istore_n 3, 1) := by decide +kernel
theorem dX1_same_42 : decode cX1_same 42 = .ok (.iload_n 3, 1) := by decide +kernel
theorem dX1_same_43 : decode cX1_same 43 = .ok (.iload_n 2, 1) := by decide +kernel
theorem dX1_same_44 : decode cX1_same 44 = .ok (.if_icmp .ge 30, 3) := by decide +kernel
theorem dX1_same_47 : decode cX1_same 47 = .ok (.aload_n 0, 1) := by decide +kernel
theorem dX1_same_48 : decode cX1_same 48 = .ok (.getfield 21, 3) := by decide +kernel
theorem dX1_same_51 : decode cX1_same 51 = .ok (.iload_n 2, 1) := by decide +kernel
theorem dX1_same_52 : decode cX1_same 52 = .ok (.aaload, 1) := by decide +kernel
theorem dX1_same_53 : decode cX1_same 53 = .ok (.iload_n 3, 1) := by decide +kernel
theorem dX1_same_54 : decode cX1_same 54 = .ok (.iaload, 1) := by decide +kernel
theorem dX1_same_55 : decode cX1_same 55 = .ok (.aload_n 1, 1) := by decide +kernel
theorem dX1_same_56 : decode cX1_same 56 = .ok (.getfield 21, 3) := by decide +kernel
theorem dX1_same_59 : decode cX1_same 59 = .ok (.iload_n 2, 1) := by decide +kernel
theorem dX1_same_60 : decode cX1_same 60 = .ok (.aaload, 1) := by decide +kernel
theorem dX1_same_61 : decode cX1_same 61 = .ok (.iload_n 3, 1) := by decide +kernel
theorem dX1_same_62 : decode cX1_same 62 = .ok (.iaload, 1) := by decide +kernel
theorem dX1_same_63 : decode cX1_same 63 = .ok (.if_icmp .eq 5, 3) := by decide +kernel
theorem dX1_same_66 : decode cX1_same 66 = .ok (.iconst 0, 1) := by decide +kernel
theorem dX1_same_67 : decode cX1_same 67 = .ok (.ireturn, 1) := by decide +kernel
theorem dX1_same_68 : decode cX1_same 68 = .ok (.iinc 3 1, 3) := by decide +kernel
theorem dX1_same_71 : decode cX1_same 71 = .ok (.goto (-29), 3) := by decide +kernel
theorem dX1_same_74 : decode cX1_same 74 = .ok (.iinc 2 1, 3) := by decide +kernel
theorem dX1_same_77 : decode cX1_same 77 = .ok (.goto (-62), 3) := by decide +kernel
theorem dX1_same_80 : decode cX1_same 80 = .ok (.iconst 1, 1) := by decide +kernel
theorem dX1_same_81 : decode cX1_same 81 = .ok (.ireturn, 1) := by decide +kernel
theorem dX2_init_0 : decode cX2_init 0 = .ok (.aload_n 0, 1) := by decide +kernel
theorem dX2_init_1 : decode cX2_init 1 = .ok (.invokespecial 3, 3) := by decide +kernel
theorem dX2_init_4 : decode cX2_init 4 = .ok (.aload_n 0, 1) := by decide +kernel
theorem dX2_init_5 : decode cX2_init 5 = .ok (.iconst 0, 1) := by decide +kernel
theorem dX2_init_6 : decode cX2_init 6 = .ok (.putfield 9, 3) := by decide +kernel
theorem dX2_init_9 : decode cX2_init 9 = .ok (.aload_n 0, 1) := by decide +kernel
theorem dX2_init_10 : decode cX2_init 10 = .ok (.iconst 0, 1) := by decide +kernel
theorem dX2_init_11 : decode cX2_init 11 = .ok (.putfield 15, 3) := by decide +kernel
theorem dX2_init_14 : decode cX2_init 14 = .ok (.aload_n 0, 1) := by decide +kernel
theorem dX2_init_15 : decode cX2_init 15 = .ok (.bipush 7, 2) := by decide +kernel
theorem dX2_init_17 : decode cX2_init 17 = .ok (.newarray .int, 2) := by decide +kernel
theorem dX2_init_19 : decode cX2_init 19 = .ok (.putfield 18, 3) := by decide +kernel
theorem dX2_init_22 : decode cX2_init 22 = .ok (.aload_n 0, 1) := by decide +kernel
theorem dX2_init_23 : decode cX2_init 23 = .ok (.bipush 28, 2) := by decide +kernel
theorem dX2_init_25 : decode cX2_init 25 = .ok (.newarray .int, 2) := by decide +kernel
theorem dX2_init_27 : decode cX2_init 27 = .ok (.putfield 22, 3) := by decide +kernel
theorem dX2_init_30 : decode cX2_init 30 = .ok (.aload_n 0, 1) := by decide +kernel
theorem dX2_init_31 : decode cX2_init 31 = .ok (.bipush 7, 2) := by decide +kernel
theorem dX2_init_33 : decode cX2_init 33 = .ok (.newarray .int, 2) := by decide +kernel
theorem dX2_init_35 : decode cX2_init 35 = .ok (.putfield 25, 3) := by decide +kernel
theorem dX2_init_38 : decode cX2_init 38 = .ok (.return_, 1) := by decide +kernel
theorem dX2_write_0 : decode cX2_write 0 = .ok (.aload_n 0, 1) := by decide +kernel
theorem dX2_write_1 : decode cX2_write 1 = .ok (.iload_n 3, 1) := by decide +kernel
theorem dX2_write_2 : decode cX2_write 2 = .ok (.putfield 9, 3) := by decide +kernel
theorem dX2_write_5 : decode cX2_write 5 = .ok (.aload_n 0, 1) := by decide +kernel
theorem dX2_write_6 : decode cX2_write 6 = .ok (.iconst 0, 1) := by decide +kernel
theorem dX2_write_7 : decode cX2_write 7 = .ok (.putfield 15, 3) := by decide +kernel
theorem dX2_write_10 : decode cX2_write 10 = .ok (.iconst 0, 1) := by decide +kernel
theorem dX2_write_11 : decode cX2_write 11 = .ok (.istore 4, 2) := by decide +kernel
theorem dX2_write_13 : decode cX2_write 13 = .ok (.iload 4, 2) := by decide +kernel
theorem dX2_write_15 : decode cX2_write 15 = .ok (.aload_n 1, 1) := by decide +kernel
theorem dX2_write_16 : decode cX2_write 16 = .ok (.getfield 28, 3) := by decide +kernel
theorem dX2_write_19 : decode cX2_write 19 = .ok (.if_icmp .ge 77, 3) := by decide +kernel
theorem dX2_write_22 : decode cX2_write 22 = .ok (.aload_n 2, 1) := by decide +kernel
theorem dX2_write_23 : decode cX2_write 23 = .ok (.getfield 33, 3) := by decide +kernel
theorem dX2_write_26 : decode cX2_write 26 = .ok (.iload 4, 2) := by decide +kernel
theorem dX2_write_28 : decode cX2_write 28 = .ok (.iaload, 1) := by decide +kernel
theorem dX2_write_29 : decode cX2_write 29 = .ok (.invokestatic 38, 3) := by decide +kernel
theorem dX2_write_32 : decode cX2_write 32 = .ok (.bipush 7, 2) := by decide +kernel
theorem dX2_write_34 : decode cX2_write 34 = .ok (.iand, 1) := by decide +kernel
theorem dX2_write_35 : decode cX2_write 35 = .ok (.istore 5, 2) := by decide +kernel
theorem dX2_write_37 : decode cX2_write 37 = .ok (.aload_n 0, 1) := by decide +kernel
theorem dX2_write_38 : decode cX2_write 38 = .ok (.getfield 25, 3) := by decide +kernel
theorem dX2_write_41 : decode cX2_write 41 = .ok (.iload 4, 2) := by decide +kernel
theorem dX2_write_43 : decode cX2_write 43 = .ok (.iload 5, 2) := by decide +kernel
theorem dX2_write_45 : decode cX2_write 45 = .ok (.aload_n 1, 1) := by decide +kernel
theorem dX2_write_46 : decode cX2_write 46 = .ok (.getfield 28, 3) := by decide +kernel
theorem dX2_write_49 : decode cX2_write 49 = .ok (.if_icmp .ge 8, 3) := by decide +kernel
theorem dX2_write_52 : decode cX2_write 52 = .ok (.iload 5, 2) := by decide +kernel
theorem dX2_write_54 : decode cX2_write 54 = .ok (.goto 4, 3) := by decide +kernel
theorem dX2_write_57 : decode cX2_write 57 = .ok (.iconst 0, 1) := by decide +kernel
theorem dX2_write_58 : decode cX2_write 58 = .ok (.iastore, 1) := by decide +kernel
theorem dX2_write_59 : decode cX2_write 59 = .ok (.aload_n 0, 1) := by decide +kernel
theorem dX2_write_60 : decode cX2_write 60 = .ok (.getfield 22, 3) := by decide +kernel
theorem dX2_write_63 : decode cX2_write 63 = .ok (.aload_n 0, 1) := by decide +kernel
theorem dX2_write_64 : decode cX2_write 64 = .ok (.getfield 15, 3) := by decide +kernel
theorem dX2_write_67 : decode cX2_write 67 = .ok (.aload_n 1, 1) := by decide +kernel
theorem dX2_write_68 : decode cX2_write 68 = .ok (.getfield 44, 3) := by decide +kernel
theorem dX2_write_71 : decode cX2_write 71 = .ok (.aload_n 0, 1) := by decide +kernel
theorem dX2_write_72 : decode cX2_write 72 = .ok (.getfield 25, 3) := by decide +kernel
theorem dX2_write_75 : decode cX2_write 75 = .ok (.iload 4, 2) := by decide +kernel
theorem dX2_write_77 : decode cX2_write 77 = .ok (.iaload, 1) := by decide +kernel
theorem dX2_write_78 : decode cX2_write 78 = .ok (.iaload, 1) := by decide +kernel
theorem dX2_write_79 : decode cX2_write 79 = .ok (.iastore, 1) := by decide +kernel
theorem dX2_write_80 : decode cX2_write 80 = .ok (.aload_n 0, 1) := by decide +kernel
theorem dX2_write_81 : decode cX2_write 81 = .ok (.dup, 1) := by decide +kernel
theorem dX2_write_82 : decode cX2_write 82 = .ok (.getfield 15, 3) := by decide +kernel
theorem dX2_write_85 : decode cX2_write 85 = .ok (.iconst 1, 1) := by decide +kernel
theorem dX2_write_86 : decode cX2_write 86 = .ok (.iadd, 1) := by decide +kernel
theorem dX2_write_87 : decode cX2_write 87 = .ok (.putfield 15, 3) := by decide +kernel
theorem dX2_write_90 : decode cX2_write 90 = .ok (.iinc 4 1, 3) := by decide +kernel
theorem dX2_write_93 : decode cX2_write 93 = .ok (.goto (-80), 3) := by decide +kernel
theorem dX2_write_96 : decode cX2_write 96 = .ok (.iconst 0, 1) := by decide +kernel
theorem dX2_write_97 : decode cX2_write 97 = .ok (.istore 4, 2) := by decide +kernel
theorem dX2_write_99 : decode cX2_write 99 = .ok (.iload 4, 2) := by decide +kernel
theorem dX2_write_101 : decode cX2_write 101 = .ok (.aload_n 1, 1) := by decide +kernel
theorem dX2_write_102 : decode cX2_write 102 = .ok (.getfield 28, 3) := by decide +kernel
theorem dX2_write_105 : decode cX2_write 105 = .ok (.if_icmp .ge 69, 3) := by decide +kernel
theorem dX2_write_108 : decode cX2_write 108 = .ok (.iload 4, 2) := by decide +kernel
theorem dX2_write_110 : decode cX2_write 110 = .ok (.iconst 1, 1) := by decide +kernel
theorem dX2_write_111 : decode cX2_write 111 = .ok (.iadd, 1) := by decide +kernel
theorem dX2_write_112 : decode cX2_write 112 = .ok (.istore 5, 2) := by decide +kernel
theorem dX2_write_114 : decode cX2_write 114 = .ok (.iload 5, 2) := by decide +kernel
theorem dX2_write_116 : decode cX2_write 116 = .ok (.aload_n 1, 1) := by decide +kernel
theorem dX2_write_117 : decode cX2_write 117 = .ok (.getfield 28, 3) := by decide +kernel
theorem dX2_write_120 : decode cX2_write 120 = .ok (.if_icmp .ge 48, 3) := by decide +kernel
theorem dX2_write_123 : decode cX2_write 123 = .ok (.aload_n 0, 1) := by decide +kernel
theorem dX2_write_124 : decode cX2_write 124 = .ok (.getfield 22, 3) := by decide +kernel
theorem dX2_write_127 : decode cX2_write 127 = .ok (.aload_n 0, 1) := by decide +kernel
theorem dX2_write_128 : decode cX2_write 128 = .ok (.getfield 15, 3) := by decide +kernel
theorem dX2_write_131 : decode cX2_write 131 = .ok (.aload_n 1, 1) := by decide +kernel
theorem dX2_write_132 : decode cX2_write 132 = .ok (.getfield 47, 3) := by decide +kernel
theorem dX2_write_135 : decode cX2_write 135 = .ok (.aload_n 0, 1) := by decide +kernel
theorem dX2_write_136 : decode cX2_write 136 = .ok (.getfield 25, 3) := by decide +kernel
theorem dX2_write_139 : decode cX2_write 139 = .ok (.iload 4, 2) := by decide +kernel
theorem dX2_write_141 : decode cX2_write 141 = .ok (.iaload, 1) := by decide +kernel
theorem dX2_write_142 : decode cX2_write 142 = .ok (.aaload, 1) := by decide +kernel
theorem dX2_write_143 : decode cX2_write 143 = .ok (.aload_n 0, 1) := by decide +kernel
theorem dX2_write_144 : decode cX2_write 144 = .ok (.getfield 25, 3) := by decide +kernel
theorem dX2_write_147 : decode cX2_write 147 = .ok (.iload 5, 2) := by decide +kernel
theorem dX2_write_149 : decode cX2_write 149 = .ok (.iaload, 1) := by decide +kernel
theorem dX2_write_150 : decode cX2_write 150 = .ok (.iaload, 1) := by decide +kernel
theorem dX2_write_151 : decode cX2_write 151 = .ok (.iastore, 1) := by decide +kernel
theorem dX2_write_152 : decode cX2_write 152 = .ok (.aload_n 0, 1) := by decide +kernel
theorem dX2_write_153 : decode cX2_write 153 = .ok (.dup, 1) := by decide +kernel
theorem dX2_write_154 : decode cX2_write 154 = .ok (.getfield 15, 3) := by decide +kernel
theorem dX2_write_157 : decode cX2_write 157 = .ok (.iconst 1, 1) := by decide +kernel
theorem dX2_write_158 : decode cX2_write 158 = .ok (.iadd, 1) := by decide +kernel
theorem dX2_write_159 : decode cX2_write 159 = .ok (.putfield 15, 3) := by decide +kernel
theorem dX2_write_162 : decode cX2_write 162 = .ok (.iinc 5 1, 3) := by decide +kernel
theorem dX2_write_165 : decode cX2_write 165 = .ok (.goto (-51), 3) := by decide +kernel
theorem dX2_write_168 : decode cX2_write 168 = .ok (.iinc 4 1, 3) := by decide +kernel
theorem dX2_write_171 : decode cX2_write 171 = .ok (.goto (-72), 3) := by decide +kernel
theorem dX2_write_174 : decode cX2_write 174 = .ok (.return_, 1) := by decide +kernel
theorem dX2_compare_0 : decode cX2_compare 0 = .ok (.aload_n 0, 1) := by decide +kernel
theorem dX2_compare_1 : decode cX2_compare 1 = .ok (.getfield 9, 3) := by decide +kernel
theorem dX2_compare_4 : decode cX2_compare 4 = .ok (.aload_n 1, 1) := by decide +kernel
theorem dX2_compare_5 : decode cX2_compare 5 = .ok (.getfield 9, 3) := by decide +kernel
theorem dX2_compare_8 : decode cX2_compare 8 = .ok (.invokestatic 51, 3) := by decide +kernel
theorem dX2_compare_11 : decode cX2_compare 11 = .ok (.istore_n 2, 1) := by decide +kernel
theorem dX2_compare_12 : decode cX2_compare 12 = .ok (.iconst 0, 1) := by decide +kernel
theorem dX2_compare_13 : decode cX2_compare 13 = .ok (.istore_n 3, 1) := by decide +kernel
theorem dX2_compare_14 : decode cX2_compare 14 = .ok (.iload_n 3, 1) := by decide +kernel
theorem dX2_compare_15 : decode cX2_compare 15 = .ok (.iload_n 2, 1) := by decide +kernel
theorem dX2_compare_16 : decode cX2_compare 16 = .ok (.if_icmp .gt 40, 3) := by decide +kernel
theorem dX2_compare_19 : decode cX2_compare 19 = .ok (.aload_n 0, 1) := by decide +kernel
theorem dX2_compare_20 : decode cX2_compare 20 = .ok (.getfield 18, 3) := by decide +kernel
theorem dX2_compare_23 : decode cX2_compare 23 = .ok (.iload_n 3, 1) := by decide +kernel
theorem dX2_compare_24 : decode cX2_compare 24 = .ok (.iaload, 1) := by decide +kernel
theorem dX2_compare_25 : decode cX2_compare 25 = .ok (.aload_n 1, 1) := by decide +kernel
theorem dX2_compare_26 : decode cX2_compare 26 = .ok (.getfield 18, 3) := by decide +kernel
theorem dX2_compare_29 : decode cX2_compare 29 = .ok (.iload_n 3, 1) := by decide +kernel
theorem dX2_compare_30 : decode cX2_compare 30 = .ok (.iaload, 1) := by decide +kernel
theorem dX2_compare_31 : decode cX2_compare 31 = .ok (.if_icmp .eq 19, 3) := by decide +kernel
theorem dX2_compare_34 : decode cX2_compare 34 = .ok (.aload_n 0, 1) := by decide +kernel
theorem dX2_compare_35 : decode cX2_compare 35 = .ok (.getfield 18, 3) := by decide +kernel
theorem dX2_compare_38 : decode cX2_compare 38 = .ok (.iload_n 3, 1) := by decide +kernel
theorem dX2_compare_39 : decode cX2_compare 39 = .ok (.iaload, 1) := by decide +kernel
theorem dX2_compare_40 : decode cX2_compare 40 = .ok (.aload_n 1, 1) := by decide +kernel
theorem dX2_compare_41 : decode cX2_compare 41 = .ok (.getfield 18, 3) := by decide +kernel
theorem dX2_compare_44 : decode cX2_compare 44 = .ok (.iload_n 3, 1) := by decide +kernel
theorem dX2_compare_45 : decode cX2_compare 45 = .ok (.iaload, 1) := by decide +kernel
theorem dX2_compare_46 : decode cX2_compare 46 = .ok (.invokestatic 57, 3) := by decide +kernel
theorem dX2_compare_49 : decode cX2_compare 49 = .ok (.ireturn, 1) := by decide +kernel
theorem dX2_compare_50 : decode cX2_compare 50 = .ok (.iinc 3 1, 3) := by decide +kernel
theorem dX2_compare_53 : decode cX2_compare 53 = .ok (.goto (-39), 3) := by decide +kernel
theorem dX2_compare_56 : decode cX2_compare 56 = .ok (.aload_n 0, 1) := by decide +kernel
theorem dX2_compare_57 : decode cX2_compare 57 = .ok (.aload_n 1, 1) := by decide +kernel
theorem dX2_compare_58 : decode cX2_compare 58 = .ok (.invokevirtual 60, 3) := by decide +kernel
theorem dX2_compare_61 : decode cX2_compare 61 = .ok (.ireturn, 1) := by decide +kernel
theorem dX2_compareCodes_0 : decode cX2_compareCodes 0 = .ok (.aload_n 0, 1) := by decide +kernel
theorem dX2_compareCodes_1 : decode cX2_compareCodes 1 = .ok (.getfield 15, 3) := by decide +kernel
theorem dX2_compareCodes_4 : decode cX2_compareCodes 4 = .ok (.aload_n 1, 1) := by decide +kernel
theorem dX2_compareCodes_5 : decode cX2_compareCodes 5 = .ok (.getfield 15, 3) := by decide +kernel
theorem dX2_compareCodes_8 : decode cX2_compareCodes 8 = .ok (.if_icmp .eq 15, 3) := by decide +kernel
theorem dX2_compareCodes_11 : decode cX2_compareCodes 11 = .ok (.aload_n 0, 1) := by decide +kernel
theorem dX2_compareCodes_12 : decode cX2_compareCodes 12 = .ok (.getfield 15, 3) := by decide +kernel
theorem dX2_compareCodes_15 : decode cX2_compareCodes 15 = .ok (.aload_n 1, 1) := by decide +kernel
theorem dX2_compareCodes_16 : decode cX2_compareCodes 16 = .ok (.getfield 15, 3) := by decide +kernel
theorem dX2_compareCodes_19 : decode cX2_compareCodes 19 = .ok (.invokestatic 57, 3) := by decide +kernel
theorem dX2_compareCodes_22 : decode cX2_compareCodes 22 = .ok (.ireturn, 1) := by decide +kernel
theorem dX2_compareCodes_23 : decode cX2_compareCodes 23 = .ok (.iconst 0, 1) := by decide +kernel
theorem dX2_compareCodes_24 : decode cX2_compareCodes 24 = .ok (.istore_n 2, 1) := by decide +kernel
theorem dX2_compareCodes_25 : decode cX2_compareCodes 25 = .ok (.iload_n 2, 1) := by decide +kernel
theorem dX2_compareCodes_26 : decode cX2_compareCodes 26 = .ok (.aload_n 0, 1) := by decide +kernel
theorem dX2_compareCodes_27 : decode cX2_compareCodes 27 = .ok (.getfield 15, 3) := by decide +kernel
theorem dX2_compareCodes_30 : decode cX2_compareCodes 30 = .ok (.if_icmp .ge 40, 3) := by decide +kernel
theorem dX2_compareCodes_33 : decode cX2_compareCodes 33 = .ok (.aload_n 0, 1) := by decide +kernel
theorem dX2_compareCodes_34 : decode cX2_compareCodes 34 = .ok (.getfield 22, 3) := by decide +kernel
theorem dX2_compareCodes_37 : decode cX2_compareCodes 37 = .ok (.iload_n 2, 1) := by decide +kernel
theorem dX2_compareCodes_38 : decode cX2_compareCodes 38 = .ok (.iaload, 1) := by decide +kernel
theorem dX2_compareCodes_39 : decode cX2_compareCodes 39 = .ok (.aload_n 1, 1) := by decide +kernel
theorem dX2_compareCodes_40 : decode cX2_compareCodes 40 = .ok (.getfield 22, 3) := by decide +kernel
theorem dX2_compareCodes_43 : decode cX2_compareCodes 43 = .ok (.iload_n 2, 1) := by decide +kernel
theorem dX2_compareCodes_44 : decode cX2_compareCodes 44 = .ok (.iaload, 1) := by decide +kernel
theorem dX2_compareCodes_45 : decode cX2_compareCodes 45 = .ok (.if_icmp .eq 19, 3) := by decide +kernel
theorem dX2_compareCodes_48 : decode cX2_compareCodes 48 = .ok (.aload_n 0, 1) := by decide +kernel
theorem dX2_compareCodes_49 : decode cX2_compareCodes 49 = .ok (.getfield 22, 3) := by decide +kernel
theorem dX2_compareCodes_52 : decode cX2_compareCodes 52 = .ok (.iload_n 2, 1) := by decide +kernel
theorem dX2_compareCodes_53 : decode cX2_compareCodes 53 = .ok (.iaload, 1) := by decide +kernel
theorem dX2_compareCodes_54 : decode cX2_compareCodes 54 = .ok (.aload_n 1, 1) := by decide +kernel
theorem dX2_compareCodes_55 : decode cX2_compareCodes 55 = .ok (.getfield 22, 3) := by decide +kernel
theorem dX2_compareCodes_58 : decode cX2_compareCodes 58 = .ok (.iload_n 2, 1) := by decide +kernel
theorem dX2_compareCodes_59 : decode cX2_compareCodes 59 = .ok (.iaload, 1) := by decide +kernel
theorem dX2_compareCodes_60 : decode cX2_compareCodes 60 = .ok (.invokestatic 57, 3) := by decide +kernel
theorem dX2_compareCodes_63 : decode cX2_compareCodes 63 = .ok (.ireturn, 1) := by decide +kernel
theorem dX2_compareCodes_64 : decode cX2_compareCodes 64 = .ok (.iinc 2 1, 3) := by decide +kernel
theorem dX2_compareCodes_67 : decode cX2_compareCodes 67 = .ok (.goto (-42), 3) := by decide +kernel
theorem dX2_compareCodes_70 : decode cX2_compareCodes 70 = .ok (.iconst 0, 1) := by decide +kernel
theorem dX2_compareCodes_71 : decode cX2_compareCodes 71 = .ok (.ireturn, 1) := by decide +kernel
theorem dX2_take_0 : decode cX2_take 0 = .ok (.aload_n 0, 1) := by decide +kernel
theorem dX2_take_1 : decode cX2_take 1 = .ok (.aload_n 1, 1) := by decide +kernel
theorem dX2_take_2 : decode cX2_take 2 = .ok (.getfield 9, 3) := by decide +kernel
theorem dX2_take_5 : decode cX2_take 5 = .ok (.putfield 9, 3) := by decide +kernel
theorem dX2_take_8 : decode cX2_take 8 = .ok (.aload_n 0, 1) := by decide +kernel
theorem dX2_take_9 : decode cX2_take 9 = .ok (.aload_n 1, 1) := by decide +kernel
theorem dX2_take_10 : decode cX2_take 10 = .ok (.getfield 15, 3) := by decide +kernel
theorem dX2_take_13 : decode cX2_take 13 = .ok (.putfield 15, 3) := by decide +kernel
theorem dX2_take_16 : decode cX2_take 16 = .ok (.aload_n 1, 1) := by decide +kernel
theorem dX2_take_17 : decode cX2_take 17 = .ok (.getfield 18, 3) := by decide +kernel
theorem dX2_take_20 : decode cX2_take 20 = .ok (.iconst 0, 1) := by decide +kernel
theorem dX2_take_21 : decode cX2_take 21 = .ok (.aload_n 0, 1) := by decide +kernel
theorem dX2_take_22 : decode cX2_take 22 = .ok (.getfield 18, 3) := by decide +kernel
theorem dX2_take_25 : decode cX2_take 25 = .ok (.iconst 0, 1) := by decide +kernel
theorem dX2_take_26 : decode cX2_take 26 = .ok (.bipush 7, 2) := by decide +kernel
theorem dX2_take_28 : decode cX2_take 28 = .ok (.invokestatic 64, 3) := by decide +kernel
theorem dX2_take_31 : decode cX2_take 31 = .ok (.aload_n 1, 1) := by decide +kernel
theorem dX2_take_32 : decode cX2_take 32 = .ok (.getfield 22, 3) := by decide +kernel
theorem dX2_take_35 : decode cX2_take 35 = .ok (.iconst 0, 1) := by decide +kernel
theorem dX2_take_36 : decode cX2_take 36 = .ok (.aload_n 0, 1) := by decide +kernel
theorem dX2_take_37 : decode cX2_take 37 = .ok (.getfield 22, 3) := by decide +kernel
theorem dX2_take_40 : decode cX2_take 40 = .ok (.iconst 0, 1) := by decide +kernel
theorem dX2_take_41 : decode cX2_take 41 = .ok (.bipush 28, 2) := by decide +kernel
theorem dX2_take_43 : decode cX2_take 43 = .ok (.invokestatic 64, 3) := by decide +kernel
theorem dX2_take_46 : decode cX2_take 46 = .ok (.aload_n 1, 1) := by decide +kernel
theorem dX2_take_47 : decode cX2_take 47 = .ok (.getfield 25, 3) := by decide +kernel
theorem dX2_take_50 : decode cX2_take 50 = .ok (.iconst 0, 1) := by decide +kernel
theorem dX2_take_51 : decode cX2_take 51 = .ok (.aload_n 0, 1) := by decide +kernel
theorem dX2_take_52 : decode cX2_take 52 = .ok (.getfield 25, 3) := by decide +kernel
theorem dX2_take_55 : decode cX2_take 55 = .ok (.iconst 0, 1) := by decide +kernel
theorem dX2_take_56 : decode cX2_take 56 = .ok (.bipush 7, 2) := by decide +kernel
theorem dX2_take_58 : decode cX2_take 58 = .ok (.invokestatic 64, 3) := by decide +kernel
theorem dX2_take_61 : decode cX2_take 61 = .ok (.return_, 1) := by decide +kernel
theorem dX3_init_0 : decode cX3_init 0 = .ok (.aload_n 0, 1) := by decide +kernel
theorem dX3_init_1 : decode cX3_init 1 = .ok (.invokespecial 3, 3) := by decide +kernel
theorem dX3_init_4 : decode cX3_init 4 = .ok (.aload_n 0, 1) := by decide +kernel
theorem dX3_init_5 : decode cX3_init 5 = .ok (.iconst 0, 1) := by decide +kernel
theorem dX3_init_6 : decode cX3_init 6 = .ok (.putfield 9, 3) := by decide +kernel
theorem dX3_init_9 : decode cX3_init 9 = .ok (.aload_n 0, 1) := by decide +kernel
theorem dX3_init_10 : decode cX3_init 10 = .ok (.bipush 7, 2) := by decide +kernel
theorem dX3_init_12 : decode cX3_init 12 = .ok (.newarray .int, 2) := by decide +kernel
theorem dX3_init_14 : decode cX3_init 14 = .ok (.putfield 15, 3) := by decide +kernel
theorem dX3_init_17 : decode cX3_init 17 = .ok (.aload_n 0, 1) := by decide +kernel
theorem dX3_init_18 : decode cX3_init 18 = .ok (.bipush 7, 2) := by decide +kernel
theorem dX3_init_20 : decode cX3_init 20 = .ok (.newarray .int, 2) := by decide +kernel
theorem dX3_init_22 : decode cX3_init 22 = .ok (.putfield 19, 3) := by decide +kernel
theorem dX3_init_25 : decode cX3_init 25 = .ok (.aload_n 0, 1) := by decide +kernel
theorem dX3_init_26 : decode cX3_init 26 = .ok (.new 22, 3) := by decide +kernel
theorem dX3_init_29 : decode cX3_init 29 = .ok (.dup, 1) := by decide +kernel
theorem dX3_init_30 : decode cX3_init 30 = .ok (.invokespecial 24, 3) := by decide +kernel
theorem dX3_init_33 : decode cX3_init 33 = .ok (.putfield 25, 3) := by decide +kernel
theorem dX3_init_36 : decode cX3_init 36 = .ok (.aload_n 0, 1) := by decide +kernel
theorem dX3_init_37 : decode cX3_init 37 = .ok (.new 22, 3) := by decide +kernel
theorem dX3_init_40 : decode cX3_init 40 = .ok (.dup, 1) := by decide +kernel
theorem dX3_init_41 : decode cX3_init 41 = .ok (.invokespecial 24, 3) := by decide +kernel
theorem dX3_init_44 : decode cX3_init 44 = .ok (.putfield 29, 3) := by decide +kernel
theorem dX3_init_47 : decode cX3_init 47 = .ok (.aload_n 0, 1) := by decide +kernel
theorem dX3_init_48 : decode cX3_init 48 = .ok (.bipush 7, 2) := by decide +kernel
theorem dX3_init_50 : decode cX3_init 50 = .ok (.newarray .int, 2) := by decide +kernel
theorem dX3_init_52 : decode cX3_init 52 = .ok (.putfield 32, 3) := by decide +kernel
theorem dX3_init_55 : decode cX3_init 55 = .ok (.aload_n 0, 1) := by decide +kernel
theorem dX3_init_56 : decode cX3_init 56 = .ok (.iconst 0, 1) := by decide +kernel
theorem dX3_init_57 : decode cX3_init 57 = .ok (.putfield 35, 3) := by decide +kernel
theorem dX3_init_60 : decode cX3_init 60 = .ok (.aload_n 0, 1) := by decide +kernel
theorem dX3_init_61 : decode cX3_init 61 = .ok (.iconst 0, 1) := by decide +kernel
theorem dX3_init_62 : decode cX3_init 62 = .ok (.putfield 38, 3) := by decide +kernel
theorem dX3_init_65 : decode cX3_init 65 = .ok (.return_, 1) := by decide +kernel
theorem dX3_match_0 : decode cX3_match 0 = .ok (.aload_n 0, 1) := by decide +kernel
theorem dX3_match_1 : decode cX3_match 1 = .ok (.getfield 25, 3) := by decide +kernel
theorem dX3_match_4 : decode cX3_match 4 = .ok (.aload_n 1, 1) := by decide +kernel
theorem dX3_match_5 : decode cX3_match 5 = .ok (.invokevirtual 41, 3) := by decide +kernel
theorem dX3_match_8 : decode cX3_match 8 = .ok (.aload_n 0, 1) := by decide +kernel
theorem dX3_match_9 : decode cX3_match 9 = .ok (.getfield 29, 3) := by decide +kernel
theorem dX3_match_12 : decode cX3_match 12 = .ok (.aload_n 2, 1) := by decide +kernel
theorem dX3_match_13 : decode cX3_match 13 = .ok (.invokevirtual 41, 3) := by decide +kernel
theorem dX3_match_16 : decode cX3_match 16 = .ok (.aload_n 0, 1) := by decide +kernel
theorem dX3_match_17 : decode cX3_match 17 = .ok (.iload_n 3, 1) := by decide +kernel
theorem dX3_match_18 : decode cX3_match 18 = .ok (.putfield 35, 3) := by decide +kernel
theorem dX3_match_21 : decode cX3_match 21 = .ok (.aload_n 0, 1) := by decide +kernel
theorem dX3_match_22 : decode cX3_match 22 = .ok (.iconst 0, 1) := by decide +kernel
theorem dX3_match_23 : decode cX3_match 23 = .ok (.putfield 9, 3) := by decide +kernel
theorem dX3_match_26 : decode cX3_match 26 = .ok (.iconst 0, 1) := by decide +kernel
theorem dX3_match_27 : decode cX3_match 27 = .ok (.istore 4, 2) := by decide +kernel
theorem dX3_match_29 : decode cX3_match 29 = .ok (.iload 4, 2) := by decide +kernel
theorem dX3_match_31 : decode cX3_match 31 = .ok (.bipush 7, 2) := by decide +kernel
theorem dX3_match_33 : decode cX3_match 33 = .ok (.if_icmp .ge 17, 3) := by decide +kernel
theorem dX3_match_36 : decode cX3_match 36 = .ok (.aload_n 0, 1) := by decide +kernel
theorem dX3_match_37 : decode cX3_match 37 = .ok (.getfield 19, 3) := by decide +kernel
theorem dX3_match_40 : decode cX3_match 40 = .ok (.iload 4, 2) := by decide +kernel
theorem dX3_match_42 : decode cX3_match 42 = .ok (.iconst 0, 1) := by decide +kernel
theorem dX3_match_43 : decode cX3_match 43 = .ok (.iastore, 1) := by decide +kernel
theorem dX3_match_44 : decode cX3_match 44 = .ok (.iinc 4 1, 3) := by decide +kernel
theorem dX3_match_47 : decode cX3_match 47 = .ok (.goto (-18), 3) := by decide +kernel
theorem dX3_match_50 : decode cX3_match 50 = .ok (.aload_n 1, 1) := by decide +kernel
theorem dX3_match_51 : decode cX3_match 51 = .ok (.getfield 45, 3) := by decide +kernel
theorem dX3_match_54 : decode cX3_match 54 = .ok (.aload_n 2, 1) := by decide +kernel
theorem dX3_match_55 : decode cX3_match 55 = .ok (.getfield 45, 3) := by decide +kernel
theorem dX3_match_58 : decode cX3_match 58 = .ok (.if_icmp .ne 9, 3) := by decide +kernel
theorem dX3_match_61 : decode cX3_match 61 = .ok (.aload_n 0, 1) := by decide +kernel
theorem dX3_match_62 : decode cX3_match 62 = .ok (.iconst 0, 1) := by decide +kernel
theorem dX3_match_63 : decode cX3_match 63 = .ok (.iconst 0, 1) := by decide +kernel
theorem dX3_match_64 : decode cX3_match 64 = .ok (.invokevirtual 48, 3) := by decide +kernel
theorem dX3_match_67 : decode cX3_match 67 = .ok (.return_, 1) := by decide +kernel
theorem dX3_send_0 : decode cX3_send 0 = .ok (.iload_n 1, 1) := by decide +kernel
theorem dX3_send_1 : decode cX3_send 1 = .ok (.aload_n 0, 1) := by decide +kernel
theorem dX3_send_2 : decode cX3_send 2 = .ok (.getfield 25, 3) := by decide +kernel
theorem dX3_send_5 : decode cX3_send 5 = .ok (.getfield 45, 3) := by decide +kernel
theorem dX3_send_8 : decode cX3_send 8 = .ok (.if_icmp .lt 8, 3) := by decide +kernel
theorem dX3_send_11 : decode cX3_send 11 = .ok (.aload_n 0, 1) := by decide +kernel
theorem dX3_send_12 : decode cX3_send 12 = .ok (.invokevirtual 52, 3) := by decide +kernel
theorem dX3_send_15 : decode cX3_send 15 = .ok (.return_, 1) := by decide +kernel
theorem dX3_send_16 : decode cX3_send 16 = .ok (.iconst 0, 1) := by decide +kernel
theorem dX3_send_17 : decode cX3_send 17 = .ok (.istore_n 3, 1) := by decide +kernel
theorem dX3_send_18 : decode cX3_send 18 = .ok (.iload_n 3, 1) := by decide +kernel
theorem dX3_send_19 : decode cX3_send 19 = .ok (.aload_n 0, 1) := by decide +kernel
theorem dX3_send_20 : decode cX3_send 20 = .ok (.getfield 29, 3) := by decide +kernel
theorem dX3_send_23 : decode cX3_send 23 = .ok (.getfield 45, 3) := by decide +kernel
theorem dX3_send_26 : decode cX3_send 26 = .ok (.if_icmp .ge 45, 3) := by decide +kernel
theorem dX3_send_29 : decode cX3_send 29 = .ok (.iload_n 2, 1) := by decide +kernel
theorem dX3_send_30 : decode cX3_send 30 = .ok (.iload_n 3, 1) := by decide +kernel
theorem dX3_send_31 : decode cX3_send 31 = .ok (.invokestatic 55, 3) := by decide +kernel
theorem dX3_send_34 : decode cX3_send 34 = .ok (.ifCond .ne 31, 3) := by decide +kernel
theorem dX3_send_37 : decode cX3_send 37 = .ok (.aload_n 0, 1) := by decide +kernel
theorem dX3_send_38 : decode cX3_send 38 = .ok (.iload_n 1, 1) := by decide +kernel
theorem dX3_send_39 : decode cX3_send 39 = .ok (.iload_n 3, 1) := by decide +kernel
theorem dX3_send_40 : decode cX3_send 40 = .ok (.invokevirtual 59, 3) := by decide +kernel
theorem dX3_send_43 : decode cX3_send 43 = .ok (.ifCond .eq 22, 3) := by decide +kernel
theorem dX3_send_46 : decode cX3_send 46 = .ok (.aload_n 0, 1) := by decide +kernel
theorem dX3_send_47 : decode cX3_send 47 = .ok (.getfield 32, 3) := by decide +kernel
theorem dX3_send_50 : decode cX3_send 50 = .ok (.iload_n 1, 1) := by decide +kernel
theorem dX3_send_51 : decode cX3_send 51 = .ok (.iload_n 3, 1) := by decide +kernel
theorem dX3_send_52 : decode cX3_send 52 = .ok (.iastore, 1) := by decide +kernel
theorem dX3_send_53 : decode cX3_send 53 = .ok (.aload_n 0, 1) := by decide +kernel
theorem dX3_send_54 : decode cX3_send 54 = .ok (.iload_n 1, 1) := by decide +kernel
theorem dX3_send_55 : decode cX3_send 55 = .ok (.iconst 1, 1) := by decide +kernel
theorem dX3_send_56 : decode cX3_send 56 = .ok (.iadd, 1) := by decide +kernel
theorem dX3_send_57 : decode cX3_send 57 = .ok (.iload_n 2, 1) := by decide +kernel
theorem dX3_send_58 : decode cX3_send 58 = .ok (.iconst 1, 1) := by decide +kernel
theorem dX3_send_59 : decode cX3_send 59 = .ok (.iload_n 3, 1) := by decide +kernel
theorem dX3_send_60 : decode cX3_send 60 = .ok (.ishl, 1) := by decide +kernel
theorem dX3_send_61 : decode cX3_send 61 = .ok (.ior, 1) := by decide +kernel
theorem dX3_send_62 : decode cX3_send 62 = .ok (.invokevirtual 48, 3) := by decide +kernel
theorem dX3_send_65 : decode cX3_send 65 = .ok (.iinc 3 1, 3) := by decide +kernel
theorem dX3_send_68 : decode cX3_send 68 = .ok (.goto (-50), 3) := by decide +kernel
theorem dX3_send_71 : decode cX3_send 71 = .ok (.return_, 1) := by decide +kernel
theorem dX3_fits_0 : decode cX3_fits 0 = .ok (.iload_n 1, 1) := by decide +kernel
theorem dX3_fits_1 : decode cX3_fits 1 = .ok (.iload_n 2, 1) := by decide +kernel
theorem dX3_fits_2 : decode cX3_fits 2 = .ok (.if_icmp .eq 14, 3) := by decide +kernel
theorem dX3_fits_5 : decode cX3_fits 5 = .ok (.aload_n 0, 1) := by decide +kernel
theorem dX3_fits_6 : decode cX3_fits 6 = .ok (.getfield 35, 3) := by decide +kernel
theorem dX3_fits_9 : decode cX3_fits 9 = .ok (.iload_n 1, 1) := by decide +kernel
theorem dX3_fits_10 : decode cX3_fits 10 = .ok (.invokestatic 55, 3) := by decide +kernel
theorem dX3_fits_13 : decode cX3_fits 13 = .ok (.ifCond .ne 16, 3) := by decide +kernel
theorem dX3_fits_16 : decode cX3_fits 16 = .ok (.aload_n 0, 1) := by decide +kernel
theorem dX3_fits_17 : decode cX3_fits 17 = .ok (.iload_n 1, 1) := by decide +kernel
theorem dX3_fits_18 : decode cX3_fits 18 = .ok (.iload_n 2, 1) := by decide +kernel
theorem dX3_fits_19 : decode cX3_fits 19 = .ok (.invokevirtual 62, 3) := by decide +kernel
theorem dX3_fits_22 : decode cX3_fits 22 = .ok (.ifCond .ne 7, 3) := by decide +kernel
theorem dX3_fits_25 : decode cX3_fits 25 = .ok (.iconst 1, 1) := by decide +kernel
theorem dX3_fits_26 : decode cX3_fits 26 = .ok (.goto 4, 3) := by decide +kernel
theorem dX3_fits_29 : decode cX3_fits 29 = .ok (.iconst 0, 1) := by decide +kernel
theorem dX3_fits_30 : decode cX3_fits 30 = .ok (.ireturn, 1) := by decide +kernel
theorem dX3_unlike_0 : decode cX3_unlike 0 = .ok (.aload_n 0, 1) := by decide +kernel
theorem dX3_unlike_1 : decode cX3_unlike 1 = .ok (.getfield 25, 3) := by decide +kernel
theorem dX3_unlike_4 : decode cX3_unlike 4 = .ok (.getfield 66, 3) := by decide +kernel
theorem dX3_unlike_7 : decode cX3_unlike 7 = .ok (.iload_n 1, 1) := by decide +kernel
theorem dX3_unlike_8 : decode cX3_unlike 8 = .ok (.iaload, 1) := by decide +kernel
theorem dX3_unlike_9 : decode cX3_unlike 9 = .ok (.aload_n 0, 1) := by decide +kernel
theorem dX3_unlike_10 : decode cX3_unlike 10 = .ok (.getfield 29, 3) := by decide +kernel
theorem dX3_unlike_13 : decode cX3_unlike 13 = .ok (.getfield 66, 3) := by decide +kernel
theorem dX3_unlike_16 : decode cX3_unlike 16 = .ok (.iload_n 2, 1) := by decide +kernel
theorem dX3_unlike_17 : decode cX3_unlike 17 = .ok (.iaload, 1) := by decide +kernel
theorem dX3_unlike_18 : decode cX3_unlike 18 = .ok (.if_icmp .ne 7, 3) := by decide +kernel
theorem dX3_unlike_21 : decode cX3_unlike 21 = .ok (.iconst 0, 1) := by decide +kernel
theorem dX3_unlike_22 : decode cX3_unlike 22 = .ok (.goto 4, 3) := by decide +kernel
theorem dX3_unlike_25 : decode cX3_unlike 25 = .ok (.iconst 1, 1) := by decide +kernel
theorem dX3_unlike_26 : decode cX3_unlike 26 = .ok (.istore_n 3, 1) := by decide +kernel
theorem dX3_unlike_27 : decode cX3_unlike 27 = .ok (.iconst 0, 1) := by decide +kernel
theorem dX3_unlike_28 : decode cX3_unlike 28 = .ok (.istore 4, 2) := by decide +kernel
theorem dX3_unlike_30 : decode cX3_unlike 30 = .ok (.iload 4, 2) := by decide +kernel
theorem dX3_unlike_32 : decode cX3_unlike 32 = .ok (.iload_n 1, 1) := by decide +kernel
theorem dX3_unlike_33 : decode cX3_unlike 33 = .ok (.if_icmp .ge 44, 3) := by decide +kernel
theorem dX3_unlike_36 : decode cX3_unlike 36 = .ok (.aload_n 0, 1) := by decide +kernel
theorem dX3_unlike_37 : decode cX3_unlike 37 = .ok (.getfield 25, 3) := by decide +kernel
theorem dX3_unlike_40 : decode cX3_unlike 40 = .ok (.getfield 69, 3) := by decide +kernel
theorem dX3_unlike_43 : decode cX3_unlike 43 = .ok (.iload 4, 2) := by decide +kernel
theorem dX3_unlike_45 : decode cX3_unlike 45 = .ok (.aaload, 1) := by decide +kernel
theorem dX3_unlike_46 : decode cX3_unlike 46 = .ok (.iload_n 1, 1) := by decide +kernel
theorem dX3_unlike_47 : decode cX3_unlike 47 = .ok (.iaload, 1) := by decide +kernel
theorem dX3_unlike_48 : decode cX3_unlike 48 = .ok (.aload_n 0, 1) := by decide +kernel
theorem dX3_unlike_49 : decode cX3_unlike 49 = .ok (.getfield 29, 3) := by decide +kernel
theorem dX3_unlike_52 : decode cX3_unlike 52 = .ok (.getfield 69, 3) := by decide +kernel
theorem dX3_unlike_55 : decode cX3_unlike 55 = .ok (.aload_n 0, 1) := by decide +kernel
theorem dX3_unlike_56 : decode cX3_unlike 56 = .ok (.getfield 32, 3) := by decide +kernel
theorem dX3_unlike_59 : decode cX3_unlike 59 = .ok (.iload 4, 2) := by decide +kernel
theorem dX3_unlike_61 : decode cX3_unlike 61 = .ok (.iaload, 1) := by decide +kernel
theorem dX3_unlike_62 : decode cX3_unlike 62 = .ok (.aaload, 1) := by decide +kernel
theorem dX3_unlike_63 : decode cX3_unlike 63 = .ok (.iload_n 2, 1) := by decide +kernel
theorem dX3_unlike_64 : decode cX3_unlike 64 = .ok (.iaload, 1) := by decide +kernel
theorem dX3_unlike_65 : decode cX3_unlike 65 = .ok (.if_icmp .eq 6, 3) := by decide +kernel
theorem dX3_unlike_68 : decode cX3_unlike 68 = .ok (.iinc 3 1, 3) := by decide +kernel
theorem dX3_unlike_71 : decode cX3_unlike 71 = .ok (.iinc 4 1, 3) := by decide +kernel
theorem dX3_unlike_74 : decode cX3_unlike 74 = .ok (.goto (-44), 3) := by decide +kernel
theorem dX3_unlike_77 : decode cX3_unlike 77 = .ok (.iload_n 3, 1) := by decide +kernel
theorem dX3_unlike_78 : decode cX3_unlike 78 = .ok (.ireturn, 1) := by decide +kernel
theorem dX3_note_0 : decode cX3_note 0 = .ok (.aload_n 0, 1) := by decide +kernel
theorem dX3_note_1 : decode cX3_note 1 = .ok (.getfield 9, 3) := by decide +kernel
theorem dX3_note_4 : decode cX3_note 4 = .ok (.ifCond .ne 18, 3) := by decide +kernel
theorem dX3_note_7 : decode cX3_note 7 = .ok (.aload_n 0, 1) := by decide +kernel
theorem dX3_note_8 : decode cX3_note 8 = .ok (.getfield 32, 3) := by decide +kernel
theorem dX3_note_11 : decode cX3_note 11 = .ok (.iconst 0, 1) := by decide +kernel
theorem dX3_note_12 : decode cX3_note 12 = .ok (.aload_n 0, 1) := by decide +kernel
theorem dX3_note_13 : decode cX3_note 13 = .ok (.getfield 15, 3) := by decide +kernel
theorem dX3_note_16 : decode cX3_note 16 = .ok (.iconst 0, 1) := by decide +kernel
theorem dX3_note_17 : decode cX3_note 17 = .ok (.bipush 7, 2) := by decide +kernel
theorem dX3_note_19 : decode cX3_note 19 = .ok (.invokestatic 73, 3) := by decide +kernel
theorem dX3_note_22 : decode cX3_note 22 = .ok (.aload_n 0, 1) := by decide +kernel
theorem dX3_note_23 : decode cX3_note 23 = .ok (.dup, 1) := by decide +kernel
theorem dX3_note_24 : decode cX3_note 24 = .ok (.getfield 9, 3) := by decide +kernel
theorem dX3_note_27 : decode cX3_note 27 = .ok (.iconst 1, 1) := by decide +kernel
theorem dX3_note_28 : decode cX3_note 28 = .ok (.iadd, 1) := by decide +kernel
theorem dX3_note_29 : decode cX3_note 29 = .ok (.putfield 9, 3) := by decide +kernel
theorem dX3_note_32 : decode cX3_note 32 = .ok (.iconst 0, 1) := by decide +kernel
theorem dX3_note_33 : decode cX3_note 33 = .ok (.istore_n 1, 1) := by decide +kernel
theorem dX3_note_34 : decode cX3_note 34 = .ok (.iload_n 1, 1) := by decide +kernel
theorem dX3_note_35 : decode cX3_note 35 = .ok (.aload_n 0, 1) := by decide +kernel
theorem dX3_note_36 : decode cX3_note 36 = .ok (.getfield 25, 3) := by decide +kernel
theorem dX3_note_39 : decode cX3_note 39 = .ok (.getfield 45, 3) := by decide +kernel
theorem dX3_note_42 : decode cX3_note 42 = .ok (.if_icmp .ge 26, 3) := by decide +kernel
theorem dX3_note_45 : decode cX3_note 45 = .ok (.aload_n 0, 1) := by decide +kernel
theorem dX3_note_46 : decode cX3_note 46 = .ok (.getfield 19, 3) := by decide +kernel
theorem dX3_note_49 : decode cX3_note 49 = .ok (.iload_n 1, 1) := by decide +kernel
theorem dX3_note_50 : decode cX3_note 50 = .ok (.dup2, 1) := by decide +kernel
theorem dX3_note_51 : decode cX3_note 51 = .ok (.iaload, 1) := by decide +kernel
theorem dX3_note_52 : decode cX3_note 52 = .ok (.iconst 1, 1) := by decide +kernel
theorem dX3_note_53 : decode cX3_note 53 = .ok (.aload_n 0, 1) := by decide +kernel
theorem dX3_note_54 : decode cX3_note 54 = .ok (.getfield 32, 3) := by decide +kernel
theorem dX3_note_57 : decode cX3_note 57 = .ok (.iload_n 1, 1) := by decide +kernel
theorem dX3_note_58 : decode cX3_note 58 = .ok (.iaload, 1) := by decide +kernel
theorem dX3_note_59 : decode cX3_note 59 = .ok (.ishl, 1) := by decide +kernel
theorem dX3_note_60 : decode cX3_note 60 = .ok (.ior, 1) := by decide +kernel
theorem dX3_note_61 : decode cX3_note 61 = .ok (.iastore, 1) := by decide +kernel
theorem dX3_note_62 : decode cX3_note 62 = .ok (.iinc 1 1, 3) := by decide +kernel
theorem dX3_note_65 : decode cX3_note 65 = .ok (.goto (-31), 3) := by decide +kernel
theorem dX3_note_68 : decode cX3_note 68 = .ok (.return_, 1) := by decide +kernel
theorem dX3_orbits_0 : decode cX3_orbits 0 = .ok (.iconst 0, 1) := by decide +kernel
theorem dX3_orbits_1 : decode cX3_orbits 1 = .ok (.istore_n 1, 1) := by decide +kernel
theorem dX3_orbits_2 : decode cX3_orbits 2 = .ok (.iconst 0, 1) := by decide +kernel
theorem dX3_orbits_3 : decode cX3_orbits 3 = .ok (.istore_n 2, 1) := by decide +kernel
theorem dX3_orbits_4 : decode cX3_orbits 4 = .ok (.iload_n 2, 1) := by decide +kernel
theorem dX3_orbits_5 : decode cX3_orbits 5 = .ok (.aload_n 0, 1) := by decide +kernel
theorem dX3_orbits_6 : decode cX3_orbits 6 = .ok (.getfield 25, 3) := by decide +kernel
theorem dX3_orbits_9 : decode cX3_orbits 9 = .ok (.getfield 45, 3) := by decide +kernel
theorem dX3_orbits_12 : decode cX3_orbits 12 = .ok (.if_icmp .ge 27, 3) := by decide +kernel
theorem dX3_orbits_15 : decode cX3_orbits 15 = .ok (.aload_n 0, 1) := by decide +kernel
theorem dX3_orbits_16 : decode cX3_orbits 16 = .ok (.getfield 19, 3) := by decide +kernel
theorem dX3_orbits_19 : decode cX3_orbits 19 = .ok (.iload_n 2, 1) := by decide +kernel
theorem dX3_orbits_20 : decode cX3_orbits 20 = .ok (.iaload, 1) := by decide +kernel
theorem dX3_orbits_21 : decode cX3_orbits 21 = .ok (.iconst 1, 1) := by decide +kernel
theorem dX3_orbits_22 : decode cX3_orbits 22 = .ok (.iload_n 2, 1) := by decide +kernel
theorem dX3_orbits_23 : decode cX3_orbits 23 = .ok (.ishl, 1) := by decide +kernel
theorem dX3_orbits_24 : decode cX3_orbits 24 = .ok (.iconst 1, 1) := by decide +kernel
theorem dX3_orbits_25 : decode cX3_orbits 25 = .ok (.isub, 1) := by decide +kernel
theorem dX3_orbits_26 : decode cX3_orbits 26 = .ok (.iand, 1) := by decide +kernel
theorem dX3_orbits_27 : decode cX3_orbits 27 = .ok (.ifCond .ne 6, 3) := by decide +kernel
theorem dX3_orbits_30 : decode cX3_orbits 30 = .ok (.iinc 1 1, 3) := by decide +kernel
theorem dX3_orbits_33 : decode cX3_orbits 33 = .ok (.iinc 2 1, 3) := by decide +kernel
theorem dX3_orbits_36 : decode cX3_orbits 36 = .ok (.goto (-32), 3) := by decide +kernel
theorem dX3_orbits_39 : decode cX3_orbits 39 = .ok (.iload_n 1, 1) := by decide +kernel
theorem dX3_orbits_40 : decode cX3_orbits 40 = .ok (.ireturn, 1) := by decide +kernel
theorem dX3_unmoved_0 : decode cX3_unmoved 0 = .ok (.iconst 0, 1) := by decide +kernel
theorem dX3_unmoved_1 : decode cX3_unmoved 1 = .ok (.istore_n 1, 1) := by decide +kernel
theorem dX3_unmoved_2 : decode cX3_unmoved 2 = .ok (.iconst 0, 1) := by decide +kernel
theorem dX3_unmoved_3 : decode cX3_unmoved 3 = .ok (.istore_n 2, 1) := by decide +kernel
theorem dX3_unmoved_4 : decode cX3_unmoved 4 = .ok (.iload_n 2, 1) := by decide +kernel
theorem dX3_unmoved_5 : decode cX3_unmoved 5 = .ok (.aload_n 0, 1) := by decide +kernel
theorem dX3_unmoved_6 : decode cX3_unmoved 6 = .ok (.getfield 25, 3) := by decide +kernel
theorem dX3_unmoved_9 : decode cX3_unmoved 9 = .ok (.getfield 45, 3) := by decide +kernel
theorem dX3_unmoved_12 : decode cX3_unmoved 12 = .ok (.if_icmp .ge 24, 3) := by decide +kernel
theorem dX3_unmoved_15 : decode cX3_unmoved 15 = .ok (.aload_n 0, 1) := by decide +kernel
theorem dX3_unmoved_16 : decode cX3_unmoved 16 = .ok (.getfield 19, 3) := by decide +kernel
theorem dX3_unmoved_19 : decode cX3_unmoved 19 = .ok (.iload_n 2, 1) := by decide +kernel
theorem dX3_unmoved_20 : decode cX3_unmoved 20 = .ok (.iaload, 1) := by decide +kernel
theorem dX3_unmoved_21 : decode cX3_unmoved 21 = .ok (.iconst 1, 1) := by decide +kernel
theorem dX3_unmoved_22 : decode cX3_unmoved 22 = .ok (.iload_n 2, 1) := by decide +kernel
theorem dX3_unmoved_23 : decode cX3_unmoved 23 = .ok (.ishl, 1) := by decide +kernel
theorem dX3_unmoved_24 : decode cX3_unmoved 24 = .ok (.if_icmp .ne 6, 3) := by decide +kernel
theorem dX3_unmoved_27 : decode cX3_unmoved 27 = .ok (.iinc 1 1, 3) := by decide +kernel
theorem dX3_unmoved_30 : decode cX3_unmoved 30 = .ok (.iinc 2 1, 3) := by decide +kernel
theorem dX3_unmoved_33 : decode cX3_unmoved 33 = .ok (.goto (-29), 3) := by decide +kernel
theorem dX3_unmoved_36 : decode cX3_unmoved 36 = .ok (.iload_n 1, 1) := by decide +kernel
theorem dX3_unmoved_37 : decode cX3_unmoved 37 = .ok (.ireturn, 1) := by decide +kernel
theorem dX3_leastChanges_0 : decode cX3_leastChanges 0 = .ok (.aload_n 0, 1) := by decide +kernel
theorem dX3_leastChanges_1 : decode cX3_leastChanges 1 = .ok (.getfield 25, 3) := by decide +kernel
theorem dX3_leastChanges_4 : decode cX3_leastChanges 4 = .ok (.aload_n 1, 1) := by decide +kernel
theorem dX3_leastChanges_5 : decode cX3_leastChanges 5 = .ok (.invokevirtual 41, 3) := by decide +kernel
theorem dX3_leastChanges_8 : decode cX3_leastChanges 8 = .ok (.aload_n 0, 1) := by decide +kernel
theorem dX3_leastChanges_9 : decode cX3_leastChanges 9 = .ok (.getfield 29, 3) := by decide +kernel
theorem dX3_leastChanges_12 : decode cX3_leastChanges 12 = .ok (.aload_n 2, 1) := by decide +kernel
theorem dX3_leastChanges_13 : decode cX3_leastChanges 13 = .ok (.invokevirtual 41, 3) := by decide +kernel
theorem dX3_leastChanges_16 : decode cX3_leastChanges 16 = .ok (.aload_n 0, 1) := by decide +kernel
theorem dX3_leastChanges_17 : decode cX3_leastChanges 17 = .ok (.bipush 29, 2) := by decide +kernel
theorem dX3_leastChanges_19 : decode cX3_leastChanges 19 = .ok (.putfield 38, 3) := by decide +kernel
theorem dX3_leastChanges_22 : decode cX3_leastChanges 22 = .ok (.aload_n 0, 1) := by decide +kernel
theorem dX3_leastChanges_23 : decode cX3_leastChanges 23 = .ok (.iconst 0, 1) := by decide +kernel
theorem dX3_leastChanges_24 : decode cX3_leastChanges 24 = .ok (.iconst 0, 1) := by decide +kernel
theorem dX3_leastChanges_25 : decode cX3_leastChanges 25 = .ok (.iconst 0, 1) := by decide +kernel
theorem dX3_leastChanges_26 : decode cX3_leastChanges 26 = .ok (.invokevirtual 79, 3) := by decide +kernel
theorem dX3_leastChanges_29 : decode cX3_leastChanges 29 = .ok (.aload_n 0, 1) := by decide +kernel
theorem dX3_leastChanges_30 : decode cX3_leastChanges 30 = .ok (.getfield 38, 3) := by decide +kernel
theorem dX3_leastChanges_33 : decode cX3_leastChanges 33 = .ok (.ireturn, 1) := by decide +kernel
theorem dX3_weigh_0 : decode cX3_weigh 0 = .ok (.iload_n 3, 1) := by decide +kernel
theorem dX3_weigh_1 : decode cX3_weigh 1 = .ok (.aload_n 0, 1) := by decide +kernel
theorem dX3_weigh_2 : decode cX3_weigh 2 = .ok (.getfield 38, 3) := by decide +kernel
theorem dX3_weigh_5 : decode cX3_weigh 5 = .ok (.if_icmp .lt 4, 3) := by decide +kernel
theorem dX3_weigh_8 : decode cX3_weigh 8 = .ok (.return_, 1) := by decide +kernel
theorem dX3_weigh_9 : decode cX3_weigh 9 = .ok (.iload_n 1, 1) := by decide +kernel
theorem dX3_weigh_10 : decode cX3_weigh 10 = .ok (.aload_n 0, 1) := by decide +kernel
theorem dX3_weigh_11 : decode cX3_weigh 11 = .ok (.getfield 25, 3) := by decide +kernel
theorem dX3_weigh_14 : decode cX3_weigh 14 = .ok (.getfield 45, 3) := by decide +kernel
theorem dX3_weigh_17 : decode cX3_weigh 17 = .ok (.if_icmp .lt 9, 3) := by decide +kernel
theorem dX3_weigh_20 : decode cX3_weigh 20 = .ok (.aload_n 0, 1) := by decide +kernel
theorem dX3_weigh_21 : decode cX3_weigh 21 = .ok (.iload_n 3, 1) := by decide +kernel
theorem dX3_weigh_22 : decode cX3_weigh 22 = .ok (.putfield 38, 3) := by decide +kernel
theorem dX3_weigh_25 : decode cX3_weigh 25 = .ok (.return_, 1) := by decide +kernel
theorem dX3_weigh_26 : decode cX3_weigh 26 = .ok (.iconst 0, 1) := by decide +kernel
theorem dX3_weigh_27 : decode cX3_weigh 27 = .ok (.istore 4, 2) := by decide +kernel
theorem dX3_weigh_29 : decode cX3_weigh 29 = .ok (.iload 4, 2) := by decide +kernel
theorem dX3_weigh_31 : decode cX3_weigh 31 = .ok (.aload_n 0, 1) := by decide +kernel
theorem dX3_weigh_32 : decode cX3_weigh 32 = .ok (.getfield 29, 3) := by decide +kernel
theorem dX3_weigh_35 : decode cX3_weigh 35 = .ok (.getfield 45, 3) := by decide +kernel
theorem dX3_weigh_38 : decode cX3_weigh 38 = .ok (.if_icmp .ge 48, 3) := by decide +kernel
theorem dX3_weigh_41 : decode cX3_weigh 41 = .ok (.iload_n 2, 1) := by decide +kernel
theorem dX3_weigh_42 : decode cX3_weigh 42 = .ok (.iload 4, 2) := by decide +kernel
theorem dX3_weigh_44 : decode cX3_weigh 44 = .ok (.invokestatic 55, 3) := by decide +kernel
theorem dX3_weigh_47 : decode cX3_weigh 47 = .ok (.ifCond .ne 33, 3) := by decide +kernel
theorem dX3_weigh_50 : decode cX3_weigh 50 = .ok (.aload_n 0, 1) := by decide +kernel
theorem dX3_weigh_51 : decode cX3_weigh 51 = .ok (.getfield 32, 3) := by decide +kernel
theorem dX3_weigh_54 : decode cX3_weigh 54 = .ok (.iload_n 1, 1) := by decide +kernel
theorem dX3_weigh_55 : decode cX3_weigh 55 = .ok (.iload 4, 2) := by decide +kernel
theorem dX3_weigh_57 : decode cX3_weigh 57 = .ok (.iastore, 1) := by decide +kernel
theorem dX3_weigh_58 : decode cX3_weigh 58 = .ok (.aload_n 0, 1) := by decide +kernel
theorem dX3_weigh_59 : decode cX3_weigh 59 = .ok (.iload_n 1, 1) := by decide +kernel
theorem dX3_weigh_60 : decode cX3_weigh 60 = .ok (.iconst 1, 1) := by decide +kernel
theorem dX3_weigh_61 : decode cX3_weigh 61 = .ok (.iadd, 1) := by decide +kernel
theorem dX3_weigh_62 : decode cX3_weigh 62 = .ok (.iload_n 2, 1) := by decide +kernel
theorem dX3_weigh_63 : decode cX3_weigh 63 = .ok (.iconst 1, 1) := by decide +kernel
theorem dX3_weigh_64 : decode cX3_weigh 64 = .ok (.iload 4, 2) := by decide +kernel
theorem dX3_weigh_66 : decode cX3_weigh 66 = .ok (.ishl, 1) := by decide +kernel
theorem dX3_weigh_67 : decode cX3_weigh 67 = .ok (.ior, 1) := by decide +kernel
theorem dX3_weigh_68 : decode cX3_weigh 68 = .ok (.iload_n 3, 1) := by decide +kernel
theorem dX3_weigh_69 : decode cX3_weigh 69 = .ok (.aload_n 0, 1) := by decide +kernel
theorem dX3_weigh_70 : decode cX3_weigh 70 = .ok (.iload_n 1, 1) := by decide +kernel
theorem dX3_weigh_71 : decode cX3_weigh 71 = .ok (.iload 4, 2) := by decide +kernel
theorem dX3_weigh_73 : decode cX3_weigh 73 = .ok (.invokevirtual 62, 3) := by decide +kernel
theorem dX3_weigh_76 : decode cX3_weigh 76 = .ok (.iadd, 1) := by decide +kernel
theorem dX3_weigh_77 : decode cX3_weigh 77 = .ok (.invokevirtual 79, 3) := by decide +kernel
theorem dX3_weigh_80 : decode cX3_weigh 80 = .ok (.iinc 4 1, 3) := by decide +kernel
theorem dX3_weigh_83 : decode cX3_weigh 83 = .ok (.goto (-54), 3) := by decide +kernel
theorem dX3_weigh_86 : decode cX3_weigh 86 = .ok (.return_, 1) := by decide +kernel
theorem dX4_init_0 : decode cX4_init 0 = .ok (.aload_n 0, 1) := by decide +kernel
theorem dX4_init_1 : decode cX4_init 1 = .ok (.invokespecial 3, 3) := by decide +kernel
theorem dX4_init_4 : decode cX4_init 4 = .ok (.aload_n 0, 1) := by decide +kernel
theorem dX4_init_5 : decode cX4_init 5 = .ok (.iconst 0, 1) := by decide +kernel
theorem dX4_init_6 : decode cX4_init 6 = .ok (.putfield 9, 3) := by decide +kernel
theorem dX4_init_9 : decode cX4_init 9 = .ok (.aload_n 0, 1) := by decide +kernel
theorem dX4_init_10 : decode cX4_init 10 = .ok (.iconst 0, 1) := by decide +kernel
theorem dX4_init_11 : decode cX4_init 11 = .ok (.putfield 15, 3) := by decide +kernel
theorem dX4_init_14 : decode cX4_init 14 = .ok (.aload_n 0, 1) := by decide +kernel
theorem dX4_init_15 : decode cX4_init 15 = .ok (.bipush 8, 2) := by decide +kernel
theorem dX4_init_17 : decode cX4_init 17 = .ok (.newarray .int, 2) := by decide +kernel
theorem dX4_init_19 : decode cX4_init 19 = .ok (.putfield 18, 3) := by decide +kernel
theorem dX4_init_22 : decode cX4_init 22 = .ok (.aload_n 0, 1) := by decide +kernel
theorem dX4_init_23 : decode cX4_init 23 = .ok (.bipush 8, 2) := by decide +kernel
theorem dX4_init_25 : decode cX4_init 25 = .ok (.anewarray 22, 3) := by decide +kernel
theorem dX4_init_28 : decode cX4_init 28 = .ok (.putfield 24, 3) := by decide +kernel
theorem dX4_init_31 : decode cX4_init 31 = .ok (.iconst 0, 1) := by decide +kernel
theorem dX4_init_32 : decode cX4_init 32 = .ok (.istore_n 1, 1) := by decide +kernel
theorem dX4_init_33 : decode cX4_init 33 = .ok (.iload_n 1, 1) := by decide +kernel
theorem dX4_init_34 : decode cX4_init 34 = .ok (.bipush 8, 2) := by decide +kernel
theorem dX4_init_36 : decode cX4_init 36 = .ok (.if_icmp .ge 22, 3) := by decide +kernel
theorem dX4_init_39 : decode cX4_init 39 = .ok (.aload_n 0, 1) := by decide +kernel
theorem dX4_init_40 : decode cX4_init 40 = .ok (.getfield 24, 3) := by decide +kernel
theorem dX4_init_43 : decode cX4_init 43 = .ok (.iload_n 1, 1) := by decide +kernel
theorem dX4_init_44 : decode cX4_init 44 = .ok (.new 22, 3) := by decide +kernel
theorem dX4_init_47 : decode cX4_init 47 = .ok (.dup, 1) := by decide +kernel
theorem dX4_init_48 : decode cX4_init 48 = .ok (.invokespecial 28, 3) := by decide +kernel
theorem dX4_init_51 : decode cX4_init 51 = .ok (.aastore, 1) := by decide +kernel
theorem dX4_init_52 : decode cX4_init 52 = .ok (.iinc 1 1, 3) := by decide +kernel
theorem dX4_init_55 : decode cX4_init 55 = .ok (.goto (-22), 3) := by decide +kernel
theorem dX4_init_58 : decode cX4_init 58 = .ok (.return_, 1) := by decide +kernel
theorem dX4_keep_0 : decode cX4_keep 0 = .ok (.aload_n 0, 1) := by decide +kernel
theorem dX4_keep_1 : decode cX4_keep 1 = .ok (.getfield 18, 3) := by decide +kernel
theorem dX4_keep_4 : decode cX4_keep 4 = .ok (.aload_n 0, 1) := by decide +kernel
theorem dX4_keep_5 : decode cX4_keep 5 = .ok (.getfield 15, 3) := by decide +kernel
theorem dX4_keep_8 : decode cX4_keep 8 = .ok (.iload_n 1, 1) := by decide +kernel
theorem dX4_keep_9 : decode cX4_keep 9 = .ok (.iastore, 1) := by decide +kernel
theorem dX4_keep_10 : decode cX4_keep 10 = .ok (.aload_n 0, 1) := by decide +kernel
theorem dX4_keep_11 : decode cX4_keep 11 = .ok (.getfield 24, 3) := by decide +kernel
theorem dX4_keep_14 : decode cX4_keep 14 = .ok (.aload_n 0, 1) := by decide +kernel
theorem dX4_keep_15 : decode cX4_keep 15 = .ok (.getfield 15, 3) := by decide +kernel
theorem dX4_keep_18 : decode cX4_keep 18 = .ok (.aaload, 1) := by decide +kernel
theorem dX4_keep_19 : decode cX4_keep 19 = .ok (.aload_n 2, 1) := by decide +kernel
theorem dX4_keep_20 : decode cX4_keep 20 = .ok (.invokevirtual 29, 3) := by decide +kernel
theorem dX4_keep_23 : decode cX4_keep 23 = .ok (.aload_n 0, 1) := by decide +kernel
theorem dX4_keep_24 : decode cX4_keep 24 = .ok (.aload_n 0, 1) := by decide +kernel
theorem dX4_keep_25 : decode cX4_keep 25 = .ok (.getfield 15, 3) := by decide +kernel
theorem dX4_keep_28 : decode cX4_keep 28 = .ok (.iconst 1, 1) := by decide +kernel
theorem dX4_keep_29 : decode cX4_keep 29 = .ok (.iadd, 1) := by decide +kernel
theorem dX4_keep_30 : decode cX4_keep 30 = .ok (.bipush 8, 2) := by decide +kernel
theorem dX4_keep_32 : decode cX4_keep 32 = .ok (.irem, 1) := by decide +kernel
theorem dX4_keep_33 : decode cX4_keep 33 = .ok (.putfield 15, 3) := by decide +kernel
theorem dX4_keep_36 : decode cX4_keep 36 = .ok (.aload_n 0, 1) := by decide +kernel
theorem dX4_keep_37 : decode cX4_keep 37 = .ok (.aload_n 0, 1) := by decide +kernel
theorem dX4_keep_38 : decode cX4_keep 38 = .ok (.getfield 9, 3) := by decide +kernel
theorem dX4_keep_41 : decode cX4_keep 41 = .ok (.iconst 1, 1) := by decide +kernel
theorem dX4_keep_42 : decode cX4_keep 42 = .ok (.iadd, 1) := by decide +kernel
theorem dX4_keep_43 : decode cX4_keep 43 = .ok (.bipush 8, 2) := by decide +kernel
theorem dX4_keep_45 : decode cX4_keep 45 = .ok (.invokestatic 33, 3) := by decide +kernel
theorem dX4_keep_48 : decode cX4_keep 48 = .ok (.putfield 9, 3) := by decide +kernel
theorem dX4_keep_51 : decode cX4_keep 51 = .ok (.return_, 1) := by decide +kernel
theorem dX5_init_0 : decode cX5_init 0 = .ok (.aload_n 0, 1) := by decide +kernel
theorem dX5_init_1 : decode cX5_init 1 = .ok (.invokespecial 3, 3) := by decide +kernel
theorem dX5_init_4 : decode cX5_init 4 = .ok (.aload_n 0, 1) := by decide +kernel
theorem dX5_init_5 : decode cX5_init 5 = .ok (.iconst 0, 1) := by decide +kernel
theorem dX5_init_6 : decode cX5_init 6 = .ok (.putfield 9, 3) := by decide +kernel
theorem dX5_init_9 : decode cX5_init 9 = .ok (.aload_n 0, 1) := by decide +kernel
theorem dX5_init_10 : decode cX5_init 10 = .ok (.iconst 0, 1) := by decide +kernel
theorem dX5_init_11 : decode cX5_init 11 = .ok (.putfield 15, 3) := by decide +kernel
theorem dX5_init_14 : decode cX5_init 14 = .ok (.aload_n 0, 1) := by decide +kernel
theorem dX5_init_15 : decode cX5_init 15 = .ok (.iconst (-1), 1) := by decide +kernel
theorem dX5_init_16 : decode cX5_init 16 = .ok (.putfield 18, 3) := by decide +kernel
theorem dX5_init_19 : decode cX5_init 19 = .ok (.aload_n 0, 1) := by decide +kernel
theorem dX5_init_20 : decode cX5_init 20 = .ok (.new 21, 3) := by decide +kernel
theorem dX5_init_23 : decode cX5_init 23 = .ok (.dup, 1) := by decide +kernel
theorem dX5_init_24 : decode cX5_init 24 = .ok (.invokespecial 23, 3) := by decide +kernel
theorem dX5_init_27 : decode cX5_init 27 = .ok (.putfield 24, 3) := by decide +kernel
theorem dX5_init_30 : decode cX5_init 30 = .ok (.aload_n 0, 1) := by decide +kernel
theorem dX5_init_31 : decode cX5_init 31 = .ok (.sipush 400, 3) := by decide +kernel
theorem dX5_init_34 : decode cX5_init 34 = .ok (.newarray .int, 2) := by decide +kernel
theorem dX5_init_36 : decode cX5_init 36 = .ok (.putfield 28, 3) := by decide +kernel
theorem dX5_init_39 : decode cX5_init 39 = .ok (.aload_n 0, 1) := by decide +kernel
theorem dX5_init_40 : decode cX5_init 40 = .ok (.iconst 0, 1) := by decide +kernel
theorem dX5_init_41 : decode cX5_init 41 = .ok (.putfield 32, 3) := by decide +kernel
theorem dX5_init_44 : decode cX5_init 44 = .ok (.aload_n 0, 1) := by decide +kernel
theorem dX5_init_45 : decode cX5_init 45 = .ok (.iconst 0, 1) := by decide +kernel
theorem dX5_init_46 : decode cX5_init 46 = .ok (.putfield 35, 3) := by decide +kernel
theorem dX5_init_49 : decode cX5_init 49 = .ok (.aload_n 0, 1) := by decide +kernel
theorem dX5_init_50 : decode cX5_init 50 = .ok (.iconst 0, 1) := by decide +kernel
theorem dX5_init_51 : decode cX5_init 51 = .ok (.putfield 38, 3) := by decide +kernel
theorem dX5_init_54 : decode cX5_init 54 = .ok (.aload_n 0, 1) := by decide +kernel
theorem dX5_init_55 : decode cX5_init 55 = .ok (.iconst 0, 1) := by decide +kernel
theorem dX5_init_56 : decode cX5_init 56 = .ok (.putfield 41, 3) := by decide +kernel
theorem dX5_init_59 : decode cX5_init 59 = .ok (.aload_n 0, 1) := by decide +kernel
theorem dX5_init_60 : decode cX5_init 60 = .ok (.iconst 0, 1) := by decide +kernel
theorem dX5_init_61 : decode cX5_init 61 = .ok (.putfield 44, 3) := by decide +kernel
theorem dX5_init_64 : decode cX5_init 64 = .ok (.return_, 1) := by decide +kernel
theorem dX5_put_0 : decode cX5_put 0 = .ok (.bipush 24, 2) := by decide +kernel
theorem dX5_put_2 : decode cX5_put 2 = .ok (.istore_n 2, 1) := by decide +kernel
theorem dX5_put_3 : decode cX5_put 3 = .ok (.iload_n 2, 1) := by decide +kernel
theorem dX5_put_4 : decode cX5_put 4 = .ok (.ifCond .lt 45, 3) := by decide +kernel
theorem dX5_put_7 : decode cX5_put 7 = .ok (.aload_n 0, 1) := by decide +kernel
theorem dX5_put_8 : decode cX5_put 8 = .ok (.getfield 9, 3) := by decide +kernel
theorem dX5_put_11 : decode cX5_put 11 = .ok (.sipush 400, 3) := by decide +kernel
theorem dX5_put_14 : decode cX5_put 14 = .ok (.if_icmp .ge 35, 3) := by decide +kernel
theorem dX5_put_17 : decode cX5_put 17 = .ok (.aload_n 0, 1) := by decide +kernel
theorem dX5_put_18 : decode cX5_put 18 = .ok (.getfield 28, 3) := by decide +kernel
theorem dX5_put_21 : decode cX5_put 21 = .ok (.aload_n 0, 1) := by decide +kernel
theorem dX5_put_22 : decode cX5_put 22 = .ok (.getfield 9, 3) := by decide +kernel
theorem dX5_put_25 : decode cX5_put 25 = .ok (.iload_n 1, 1) := by decide +kernel
theorem dX5_put_26 : decode cX5_put 26 = .ok (.iload_n 2, 1) := by decide +kernel
theorem dX5_put_27 : decode cX5_put 27 = .ok (.iushr, 1) := by decide +kernel
theorem dX5_put_28 : decode cX5_put 28 = .ok (.sipush 255, 3) := by decide +kernel
theorem dX5_put_31 : decode cX5_put 31 = .ok (.iand, 1) := by decide +kernel
theorem dX5_put_32 : decode cX5_put 32 = .ok (.iastore, 1) := by decide +kernel
theorem dX5_put_33 : decode cX5_put 33 = .ok (.aload_n 0, 1) := by decide +kernel
theorem dX5_put_34 : decode cX5_put 34 = .ok (.dup, 1) := by decide +kernel
theorem dX5_put_35 : decode cX5_put 35 = .ok (.getfield 9, 3) := by decide +kernel
theorem dX5_put_38 : decode cX5_put 38 = .ok (.iconst 1, 1) := by decide +kernel
theorem dX5_put_39 : decode cX5_put 39 = .ok (.iadd, 1) := by decide +kernel
theorem dX5_put_40 : decode cX5_put 40 = .ok (.putfield 9, 3) := by decide +kernel
theorem dX5_put_43 : decode cX5_put 43 = .ok (.iinc 2 (-8), 3) := by decide +kernel
theorem dX5_put_46 : decode cX5_put 46 = .ok (.goto (-43), 3) := by decide +kernel
theorem dX5_put_49 : decode cX5_put 49 = .ok (.return_, 1) := by decide +kernel
theorem dX5_read_0 : decode cX5_read 0 = .ok (.aload_n 0, 1) := by decide +kernel
theorem dX5_read_1 : decode cX5_read 1 = .ok (.iload_n 1, 1) := by decide +kernel
theorem dX5_read_2 : decode cX5_read 2 = .ok (.putfield 32, 3) := by decide +kernel
theorem dX5_read_5 : decode cX5_read 5 = .ok (.aload_n 0, 1) := by decide +kernel
theorem dX5_read_6 : decode cX5_read 6 = .ok (.iconst 0, 1) := by decide +kernel
theorem dX5_read_7 : decode cX5_read 7 = .ok (.putfield 9, 3) := by decide +kernel
theorem dX5_read_10 : decode cX5_read 10 = .ok (.aload_n 0, 1) := by decide +kernel
theorem dX5_read_11 : decode cX5_read 11 = .ok (.iconst 0, 1) := by decide +kernel
theorem dX5_read_12 : decode cX5_read 12 = .ok (.putfield 41, 3) := by decide +kernel
theorem dX5_read_15 : decode cX5_read 15 = .ok (.aload_n 0, 1) := by decide +kernel
theorem dX5_read_16 : decode cX5_read 16 = .ok (.iconst 0, 1) := by decide +kernel
theorem dX5_read_17 : decode cX5_read 17 = .ok (.putfield 15, 3) := by decide +kernel
theorem dX5_read_20 : decode cX5_read 20 = .ok (.aload_n 0, 1) := by decide +kernel
theorem dX5_read_21 : decode cX5_read 21 = .ok (.iconst 0, 1) := by decide +kernel
theorem dX5_read_22 : decode cX5_read 22 = .ok (.putfield 44, 3) := by decide +kernel
theorem dX5_read_25 : decode cX5_read 25 = .ok (.aload_n 0, 1) := by decide +kernel
theorem dX5_read_26 : decode cX5_read 26 = .ok (.invokevirtual 47, 3) := by decide +kernel
theorem dX5_read_29 : decode cX5_read 29 = .ok (.aload_n 0, 1) := by decide +kernel
theorem dX5_read_30 : decode cX5_read 30 = .ok (.invokevirtual 50, 3) := by decide +kernel
theorem dX5_read_33 : decode cX5_read 33 = .ok (.ifCond .eq 7, 3) := by decide +kernel
theorem dX5_read_36 : decode cX5_read 36 = .ok (.aload_n 0, 1) := by decide +kernel
theorem dX5_read_37 : decode cX5_read 37 = .ok (.invokevirtual 54, 3) := by decide +kernel
theorem dX5_read_40 : decode cX5_read 40 = .ok (.return_, 1) := by decide +kernel
theorem dX5_readSize_0 : decode cX5_readSize 0 = .ok (.aload_n 0, 1) := by decide +kernel
theorem dX5_readSize_1 : decode cX5_readSize 1 = .ok (.ldc 57, 2) := by decide +kernel
theorem dX5_readSize_3 : decode cX5_readSize 3 = .ok (.invokevirtual 59, 3) := by decide +kernel
theorem dX5_readSize_6 : decode cX5_readSize 6 = .ok (.ifCond .ne 9, 3) := by decide +kernel
theorem dX5_readSize_9 : decode cX5_readSize 9 = .ok (.aload_n 0, 1) := by decide +kernel
theorem dX5_readSize_10 : decode cX5_readSize 10 = .ok (.iconst 1, 1) := by decide +kernel
theorem dX5_readSize_11 : decode cX5_readSize 11 = .ok (.invokevirtual 63, 3) := by decide +kernel
theorem dX5_readSize_14 : decode cX5_readSize 14 = .ok (.ireturn, 1) := by decide +kernel
theorem dX5_readSize_15 : decode cX5_readSize 15 = .ok (.aload_n 0, 1) := by decide +kernel
theorem dX5_readSize_16 : decode cX5_readSize 16 = .ok (.invokevirtual 47, 3) := by decide +kernel
theorem dX5_readSize_19 : decode cX5_readSize 19 = .ok (.aload_n 0, 1) := by decide +kernel
theorem dX5_readSize_20 : decode cX5_readSize 20 = .ok (.getfield 35, 3) := by decide +kernel
theorem dX5_readSize_23 : decode cX5_readSize 23 = .ok (.iconst 1, 1) := by decide +kernel
theorem dX5_readSize_24 : decode cX5_readSize 24 = .ok (.if_icmp .eq 9, 3) := by decide +kernel
theorem dX5_readSize_27 : decode cX5_readSize 27 = .ok (.aload_n 0, 1) := by decide +kernel
theorem dX5_readSize_28 : decode cX5_readSize 28 = .ok (.iconst 1, 1) := by decide +kernel
theorem dX5_readSize_29 : decode cX5_readSize 29 = .ok (.invokevirtual 63, 3) := by decide +kernel
theorem dX5_readSize_32 : decode cX5_readSize 32 = .ok (.ireturn, 1) := by decide +kernel
theorem dX5_readSize_33 : decode cX5_readSize 33 = .ok (.aload_n 0, 1) := by decide +kernel
theorem dX5_readSize_34 : decode cX5_readSize 34 = .ok (.invokevirtual 67, 3) := by decide +kernel
theorem dX5_readSize_37 : decode cX5_readSize 37 = .ok (.iconst 1, 1) := by decide +kernel
theorem dX5_readSize_38 : decode cX5_readSize 38 = .ok (.if_icmp .lt 12, 3) := by decide +kernel
theorem dX5_readSize_41 : decode cX5_readSize 41 = .ok (.aload_n 0, 1) := by decide +kernel
theorem dX5_readSize_42 : decode cX5_readSize 42 = .ok (.invokevirtual 67, 3) := by decide +kernel
theorem dX5_readSize_45 : decode cX5_readSize 45 = .ok (.bipush 7, 2) := by decide +kernel
theorem dX5_readSize_47 : decode cX5_readSize 47 = .ok (.if_icmp .le 9, 3) := by decide +kernel
theorem dX5_readSize_50 : decode cX5_readSize 50 = .ok (.aload_n 0, 1) := by decide +kernel
theorem dX5_readSize_51 : decode cX5_readSize 51 = .ok (.iconst 2, 1) := by decide +kernel
theorem dX5_readSize_52 : decode cX5_readSize 52 = .ok (.invokevirtual 63, 3) := by decide +kernel
theorem dX5_readSize_55 : decode cX5_readSize 55 = .ok (.ireturn, 1) := by decide +kernel
theorem dX5_readSize_56 : decode cX5_readSize 56 = .ok (.aload_n 0, 1) := by decide +kernel
theorem dX5_readSize_57 : decode cX5_readSize 57 = .ok (.getfield 24, 3) := by decide +kernel
theorem dX5_readSize_60 : decode cX5_readSize 60 = .ok (.aload_n 0, 1) := by decide +kernel
theorem dX5_readSize_61 : decode cX5_readSize 61 = .ok (.invokevirtual 67, 3) := by decide +kernel
theorem dX5_readSize_64 : decode cX5_readSize 64 = .ok (.invokevirtual 71, 3) := by decide +kernel
theorem dX5_readSize_67 : decode cX5_readSize 67 = .ok (.aload_n 0, 1) := by decide +kernel
theorem dX5_readSize_68 : decode cX5_readSize 68 = .ok (.invokevirtual 47, 3) := by decide +kernel
theorem dX5_readSize_71 : decode cX5_readSize 71 = .ok (.iconst 1, 1) := by decide +kernel
theorem dX5_readSize_72 : decode cX5_readSize 72 = .ok (.ireturn, 1) := by decide +kernel
theorem dX5_readLines_0 : decode cX5_readLines 0 = .ok (.iconst 0, 1) := by decide +kernel
theorem dX5_readLines_1 : decode cX5_readLines 1 = .ok (.istore_n 1, 1) := by decide +kernel
theorem dX5_readLines_2 : decode cX5_readLines 2 = .ok (.iload_n 1, 1) := by decide +kernel
theorem dX5_readLines_3 : decode cX5_readLines 3 = .ok (.sipush 400, 3) := by decide +kernel
theorem dX5_readLines_6 : decode cX5_readLines 6 = .ok (.if_icmp .ge 29, 3) := by decide +kernel
theorem dX5_readLines_9 : decode cX5_readLines 9 = .ok (.aload_n 0, 1) := by decide +kernel
theorem dX5_readLines_10 : decode cX5_readLines 10 = .ok (.getfield 35, 3) := by decide +kernel
theorem dX5_readLines_13 : decode cX5_readLines 13 = .ok (.iconst 3, 1) := by decide +kernel
theorem dX5_readLines_14 : decode cX5_readLines 14 = .ok (.if_icmp .ne 21, 3) := by decide +kernel
theorem dX5_readLines_17 : decode cX5_readLines 17 = .ok (.aload_n 0, 1) := by decide +kernel
theorem dX5_readLines_18 : decode cX5_readLines 18 = .ok (.invokevirtual 47, 3) := by decide +kernel
theorem dX5_readLines_21 : decode cX5_readLines 21 = .ok (.aload_n 0, 1) := by decide +kernel
theorem dX5_readLines_22 : decode cX5_readLines 22 = .ok (.invokevirtual 75, 3) := by decide +kernel
theorem dX5_readLines_25 : decode cX5_readLines 25 = .ok (.ifCond .ne 4, 3) := by decide +kernel
theorem dX5_readLines_28 : decode cX5_readLines 28 = .ok (.return_, 1) := by decide +kernel
theorem dX5_readLines_29 : decode cX5_readLines 29 = .ok (.iinc 1 1, 3) := by decide +kernel
theorem dX5_readLines_32 : decode cX5_readLines 32 = .ok (.goto (-30), 3) := by decide +kernel
theorem dX5_readLines_35 : decode cX5_readLines 35 = .ok (.aload_n 0, 1) := by decide +kernel
theorem dX5_readLines_36 : decode cX5_readLines 36 = .ok (.getfield 35, 3) := by decide +kernel
theorem dX5_readLines_39 : decode cX5_readLines 39 = .ok (.ifCond .eq 9, 3) := by decide +kernel
theorem dX5_readLines_42 : decode cX5_readLines 42 = .ok (.aload_n 0, 1) := by decide +kernel
theorem dX5_readLines_43 : decode cX5_readLines 43 = .ok (.iconst 1, 1) := by decide +kernel
theorem dX5_readLines_44 : decode cX5_readLines 44 = .ok (.invokevirtual 63, 3) := by decide +kernel
theorem dX5_readLines_47 : decode cX5_readLines 47 = .ok (.pop, 1) := by decide +kernel
theorem dX5_readLines_48 : decode cX5_readLines 48 = .ok (.return_, 1) := by decide +kernel
theorem dX5_readLine_0 : decode cX5_readLine 0 = .ok (.aload_n 0, 1) := by decide +kernel
theorem dX5_readLine_1 : decode cX5_readLine 1 = .ok (.ldc 78, 2) := by decide +kernel
theorem dX5_readLine_3 : decode cX5_readLine 3 = .ok (.invokevirtual 59, 3) := by decide +kernel
theorem dX5_readLine_6 : decode cX5_readLine 6 = .ok (.ifCond .eq 12, 3) := by decide +kernel
theorem dX5_readLine_9 : decode cX5_readLine 9 = .ok (.aload_n 0, 1) := by decide +kernel
theorem dX5_readLine_10 : decode cX5_readLine 10 = .ok (.invokevirtual 47, 3) := by decide +kernel
theorem dX5_readLine_13 : decode cX5_readLine 13 = .ok (.aload_n 0, 1) := by decide +kernel
theorem dX5_readLine_14 : decode cX5_readLine 14 = .ok (.invokevirtual 80, 3) := by decide +kernel
theorem dX5_readLine_17 : decode cX5_readLine 17 = .ok (.ireturn, 1) := by decide +kernel
theorem dX5_readLine_18 : decode cX5_readLine 18 = .ok (.aload_n 0, 1) := by decide +kernel
theorem dX5_readLine_19 : decode cX5_readLine 19 = .ok (.ldc 83, 2) := by decide +kernel
theorem dX5_readLine_21 : decode cX5_readLine 21 = .ok (.invokevirtual 59, 3) := by decide +kernel
theorem dX5_readLine_24 : decode cX5_readLine 24 = .ok (.ifCond .eq 12, 3) := by decide +kernel
theorem dX5_readLine_27 : decode cX5_readLine 27 = .ok (.aload_n 0, 1) := by decide +kernel
theorem dX5_readLine_28 : decode cX5_readLine 28 = .ok (.invokevirtual 47, 3) := by decide +kernel
theorem dX5_readLine_31 : decode cX5_readLine 31 = .ok (.aload_n 0, 1) := by decide +kernel
theorem dX5_readLine_32 : decode cX5_readLine 32 = .ok (.invokevirtual 85, 3) := by decide +kernel
theorem dX5_readLine_35 : decode cX5_readLine 35 = .ok (.ireturn, 1) := by decide +kernel
theorem dX5_readLine_36 : decode cX5_readLine 36 = .ok (.aload_n 0, 1) := by decide +kernel
theorem dX5_readLine_37 : decode cX5_readLine 37 = .ok (.ldc 88, 2) := by decide +kernel
theorem dX5_readLine_39 : decode cX5_readLine 39 = .ok (.invokevirtual 59, 3) := by decide +kernel
theorem dX5_readLine_42 : decode cX5_readLine 42 = .ok (.ifCond .eq 14, 3) := by decide +kernel
theorem dX5_readLine_45 : decode cX5_readLine 45 = .ok (.aload_n 0, 1) := by decide +kernel
theorem dX5_readLine_46 : decode cX5_readLine 46 = .ok (.invokevirtual 47, 3) := by decide +kernel
theorem dX5_readLine_49 : decode cX5_readLine 49 = .ok (.aload_n 0, 1) := by decide +kernel
theorem dX5_readLine_50 : decode cX5_readLine 50 = .ok (.iconst 2, 1) := by decide +kernel
theorem dX5_readLine_51 : decode cX5_readLine 51 = .ok (.iconst 0, 1) := by decide +kernel
theorem dX5_readLine_52 : decode cX5_readLine 52 = .ok (.invokevirtual 90, 3) := by decide +kernel
theorem dX5_readLine_55 : decode cX5_readLine 55 = .ok (.ireturn, 1) := by decide +kernel
theorem dX5_readLine_56 : decode cX5_readLine 56 = .ok (.aload_n 0, 1) := by decide +kernel
theorem dX5_readLine_57 : decode cX5_readLine 57 = .ok (.ldc 94, 2) := by decide +kernel
theorem dX5_readLine_59 : decode cX5_readLine 59 = .ok (.invokevirtual 59, 3) := by decide +kernel
theorem dX5_readLine_62 : decode cX5_readLine 62 = .ok (.ifCond .eq 14, 3) := by decide +kernel
theorem dX5_readLine_65 : decode cX5_readLine 65 = .ok (.aload_n 0, 1) := by decide +kernel
theorem dX5_readLine_66 : decode cX5_readLine 66 = .ok (.invokevirtual 47, 3) := by decide +kernel
theorem dX5_readLine_69 : decode cX5_readLine 69 = .ok (.aload_n 0, 1) := by decide +kernel
theorem dX5_readLine_70 : decode cX5_readLine 70 = .ok (.iconst 3, 1) := by decide +kernel
theorem dX5_readLine_71 : decode cX5_readLine 71 = .ok (.iconst 1, 1) := by decide +kernel
theorem dX5_readLine_72 : decode cX5_readLine 72 = .ok (.invokevirtual 90, 3) := by decide +kernel
theorem dX5_readLine_75 : decode cX5_readLine 75 = .ok (.ireturn, 1) := by decide +kernel
theorem dX5_readLine_76 : decode cX5_readLine 76 = .ok (.aload_n 0, 1) := by decide +kernel
theorem dX5_readLine_77 : decode cX5_readLine 77 = .ok (.iconst 1, 1) := by decide +kernel
theorem dX5_readLine_78 : decode cX5_readLine 78 = .ok (.invokevirtual 63, 3) := by decide +kernel
theorem dX5_readLine_81 : decode cX5_readLine 81 = .ok (.ireturn, 1) := by decide +kernel
theorem dX5_readPaint_0 : decode cX5_readPaint 0 = .ok (.aload_n 0, 1) := by decide +kernel
theorem dX5_readPaint_1 : decode cX5_readPaint 1 = .ok (.invokevirtual 96, 3) := by decide +kernel
theorem dX5_readPaint_4 : decode cX5_readPaint 4 = .ok (.ifCond .ne 5, 3) := by decide +kernel
theorem dX5_readPaint_7 : decode cX5_readPaint 7 = .ok (.iconst 0, 1) := by decide +kernel
theorem dX5_readPaint_8 : decode cX5_readPaint 8 = .ok (.ireturn, 1) := by decide +kernel
theorem dX5_readPaint_9 : decode cX5_readPaint 9 = .ok (.aload_n 0, 1) := by decide +kernel
theorem dX5_readPaint_10 : decode cX5_readPaint 10 = .ok (.invokevirtual 67, 3) := by decide +kernel
theorem dX5_readPaint_13 : decode cX5_readPaint 13 = .ok (.istore_n 1, 1) := by decide +kernel
theorem dX5_readPaint_14 : decode cX5_readPaint 14 = .ok (.aload_n 0, 1) := by decide +kernel
theorem dX5_readPaint_15 : decode cX5_readPaint 15 = .ok (.getfield 44, 3) := by decide +kernel
theorem dX5_readPaint_18 : decode cX5_readPaint 18 = .ok (.iload_n 1, 1) := by decide +kernel
theorem dX5_readPaint_19 : decode cX5_readPaint 19 = .ok (.invokestatic 99, 3) := by decide +kernel
theorem dX5_readPaint_22 : decode cX5_readPaint 22 = .ok (.ifCond .eq 9, 3) := by decide +kernel
theorem dX5_readPaint_25 : decode cX5_readPaint 25 = .ok (.aload_n 0, 1) := by decide +kernel
theorem dX5_readPaint_26 : decode cX5_readPaint 26 = .ok (.iconst 3, 1) := by decide +kernel
theorem dX5_readPaint_27 : decode cX5_readPaint 27 = .ok (.invokevirtual 63, 3) := by decide +kernel
theorem dX5_readPaint_30 : decode cX5_readPaint 30 = .ok (.ireturn, 1) := by decide +kernel
theorem dX5_readPaint_31 : decode cX5_readPaint 31 = .ok (.aload_n 0, 1) := by decide +kernel
theorem dX5_readPaint_32 : decode cX5_readPaint 32 = .ok (.dup, 1) := by decide +kernel
theorem dX5_readPaint_33 : decode cX5_readPaint 33 = .ok (.getfield 44, 3) := by decide +kernel
theorem dX5_readPaint_36 : decode cX5_readPaint 36 = .ok (.iconst 1, 1) := by decide +kernel
theorem dX5_readPaint_37 : decode cX5_readPaint 37 = .ok (.iload_n 1, 1) := by decide +kernel
theorem dX5_readPaint_38 : decode cX5_readPaint 38 = .ok (.ishl, 1) := by decide +kernel
theorem dX5_readPaint_39 : decode cX5_readPaint 39 = .ok (.ior, 1) := by decide +kernel
theorem dX5_readPaint_40 : decode cX5_readPaint 40 = .ok (.putfield 44, 3) := by decide +kernel
theorem dX5_readPaint_43 : decode cX5_readPaint 43 = .ok (.aload_n 0, 1) := by decide +kernel
theorem dX5_readPaint_44 : decode cX5_readPaint 44 = .ok (.invokevirtual 47, 3) := by decide +kernel
theorem dX5_readPaint_47 : decode cX5_readPaint 47 = .ok (.aload_n 0, 1) := by decide +kernel
theorem dX5_readPaint_48 : decode cX5_readPaint 48 = .ok (.getfield 35, 3) := by decide +kernel
theorem dX5_readPaint_51 : decode cX5_readPaint 51 = .ok (.iconst 1, 1) := by decide +kernel
theorem dX5_readPaint_52 : decode cX5_readPaint 52 = .ok (.if_icmp .eq 9, 3) := by decide +kernel
theorem dX5_readPaint_55 : decode cX5_readPaint 55 = .ok (.aload_n 0, 1) := by decide +kernel
theorem dX5_readPaint_56 : decode cX5_readPaint 56 = .ok (.iconst 1, 1) := by decide +kernel
theorem dX5_readPaint_57 : decode cX5_readPaint 57 = .ok (.invokevirtual 63, 3) := by decide +kernel
theorem dX5_readPaint_60 : decode cX5_readPaint 60 = .ok (.ireturn, 1) := by decide +kernel
theorem dX5_readPaint_61 : decode cX5_readPaint 61 = .ok (.aload_n 0, 1) := by decide +kernel
theorem dX5_readPaint_62 : decode cX5_readPaint 62 = .ok (.getfield 24, 3) := by decide +kernel
theorem dX5_readPaint_65 : decode cX5_readPaint 65 = .ok (.getfield 103, 3) := by decide +kernel
theorem dX5_readPaint_68 : decode cX5_readPaint 68 = .ok (.iload_n 1, 1) := by decide +kernel
theorem dX5_readPaint_69 : decode cX5_readPaint 69 = .ok (.aload_n 0, 1) := by decide +kernel
theorem dX5_readPaint_70 : decode cX5_readPaint 70 = .ok (.invokevirtual 67, 3) := by decide +kernel
theorem dX5_readPaint_73 : decode cX5_readPaint 73 = .ok (.iastore, 1) := by decide +kernel
theorem dX5_readPaint_74 : decode cX5_readPaint 74 = .ok (.aload_n 0, 1) := by decide +kernel
theorem dX5_readPaint_75 : decode cX5_readPaint 75 = .ok (.invokevirtual 47, 3) := by decide +kernel
theorem dX5_readPaint_78 : decode cX5_readPaint 78 = .ok (.iconst 1, 1) := by decide +kernel
theorem dX5_readPaint_79 : decode cX5_readPaint 79 = .ok (.ireturn, 1) := by decide +kernel
theorem dX5_readLink_0 : decode cX5_readLink 0 = .ok (.aload_n 0, 1) := by decide +kernel
theorem dX5_readLink_1 : decode cX5_readLink 1 = .ok (.invokevirtual 96, 3) := by decide +kernel
theorem dX5_readLink_4 : decode cX5_readLink 4 = .ok (.ifCond .ne 5, 3) := by decide +kernel
theorem dX5_readLink_7 : decode cX5_readLink 7 = .ok (.iconst 0, 1) := by decide +kernel
theorem dX5_readLink_8 : decode cX5_readLink 8 = .ok (.ireturn, 1) := by decide +kernel
theorem dX5_readLink_9 : decode cX5_readLink 9 = .ok (.aload_n 0, 1) := by decide +kernel
theorem dX5_readLink_10 : decode cX5_readLink 10 = .ok (.invokevirtual 67, 3) := by decide +kernel
theorem dX5_readLink_13 : decode cX5_readLink 13 = .ok (.istore_n 1, 1) := by decide +kernel
theorem dX5_readLink_14 : decode cX5_readLink 14 = .ok (.aload_n 0, 1) := by decide +kernel
theorem dX5_readLink_15 : decode cX5_readLink 15 = .ok (.invokevirtual 47, 3) := by decide +kernel
theorem dX5_readLink_18 : decode cX5_readLink 18 = .ok (.aload_n 0, 1) := by decide +kernel
theorem dX5_readLink_19 : decode cX5_readLink 19 = .ok (.invokevirtual 96, 3) := by decide +kernel
theorem dX5_readLink_22 : decode cX5_readLink 22 = .ok (.ifCond .ne 5, 3) := by decide +kernel
theorem dX5_readLink_25 : decode cX5_readLink 25 = .ok (.iconst 0, 1) := by decide +kernel
theorem dX5_readLink_26 : decode cX5_readLink 26 = .ok (.ireturn, 1) := by decide +kernel
theorem dX5_readLink_27 : decode cX5_readLink 27 = .ok (.aload_n 0, 1) := by decide +kernel
theorem dX5_readLink_28 : decode cX5_readLink 28 = .ok (.invokevirtual 67, 3) := by decide +kernel
theorem dX5_readLink_31 : decode cX5_readLink 31 = .ok (.istore_n 2, 1) := by decide +kernel
theorem dX5_readLink_32 : decode cX5_readLink 32 = .ok (.aload_n 0, 1) := by decide +kernel
theorem dX5_readLink_33 : decode cX5_readLink 33 = .ok (.iload_n 1, 1) := by decide +kernel
theorem dX5_readLink_34 : decode cX5_readLink 34 = .ok (.iload_n 2, 1) := by decide +kernel
theorem dX5_readLink_35 : decode cX5_readLink 35 = .ok (.invokevirtual 106, 3) := by decide +kernel
theorem dX5_readLink_38 : decode cX5_readLink 38 = .ok (.ifCond .ne 5, 3) := by decide +kernel
theorem dX5_readLink_41 : decode cX5_readLink 41 = .ok (.iconst 0, 1) := by decide +kernel
theorem dX5_readLink_42 : decode cX5_readLink 42 = .ok (.ireturn, 1) := by decide +kernel
theorem dX5_readLink_43 : decode cX5_readLink 43 = .ok (.aload_n 0, 1) := by decide +kernel
theorem dX5_readLink_44 : decode cX5_readLink 44 = .ok (.invokevirtual 47, 3) := by decide +kernel
theorem dX5_readLink_47 : decode cX5_readLink 47 = .ok (.aload_n 0, 1) := by decide +kernel
theorem dX5_readLink_48 : decode cX5_readLink 48 = .ok (.getfield 35, 3) := by decide +kernel
theorem dX5_readLink_51 : decode cX5_readLink 51 = .ok (.iconst 1, 1) := by decide +kernel
theorem dX5_readLink_52 : decode cX5_readLink 52 = .ok (.if_icmp .eq 5, 3) := by decide +kernel
theorem dX5_readLink_55 : decode cX5_readLink 55 = .ok (.iconst 1, 1) := by decide +kernel
theorem dX5_readLink_56 : decode cX5_readLink 56 = .ok (.ireturn, 1) := by decide +kernel
theorem dX5_readLink_57 : decode cX5_readLink 57 = .ok (.aload_n 0, 1) := by decide +kernel
theorem dX5_readLink_58 : decode cX5_readLink 58 = .ok (.invokevirtual 67, 3) := by decide +kernel
theorem dX5_readLink_61 : decode cX5_readLink 61 = .ok (.iconst 1, 1) := by decide +kernel
theorem dX5_readLink_62 : decode cX5_readLink 62 = .ok (.if_icmp .lt 11, 3) := by decide +kernel
theorem dX5_readLink_65 : decode cX5_readLink 65 = .ok (.aload_n 0, 1) := by decide +kernel
theorem dX5_readLink_66 : decode cX5_readLink 66 = .ok (.invokevirtual 67, 3) := by decide +kernel
theorem dX5_readLink_69 : decode cX5_readLink 69 = .ok (.iconst 4, 1) := by decide +kernel
theorem dX5_readLink_70 : decode cX5_readLink 70 = .ok (.if_icmp .lt 9, 3) := by decide +kernel
theorem dX5_readLink_73 : decode cX5_readLink 73 = .ok (.aload_n 0, 1) := by decide +kernel
theorem dX5_readLink_74 : decode cX5_readLink 74 = .ok (.iconst 2, 1) := by decide +kernel
theorem dX5_readLink_75 : decode cX5_readLink 75 = .ok (.invokevirtual 63, 3) := by decide +kernel
theorem dX5_readLink_78 : decode cX5_readLink 78 = .ok (.ireturn, 1) := by decide +kernel
theorem dX5_readLink_79 : decode cX5_readLink 79 = .ok (.aload_n 0, 1) := by decide +kernel
theorem dX5_readLink_80 : decode cX5_readLink 80 = .ok (.getfield 24, 3) := by decide +kernel
theorem dX5_readLink_83 : decode cX5_readLink 83 = .ok (.iload_n 1, 1) := by decide +kernel
theorem dX5_readLink_84 : decode cX5_readLink 84 = .ok (.iload_n 2, 1) := by decide +kernel
theorem dX5_readLink_85 : decode cX5_readLink 85 = .ok (.aload_n 0, 1) := by decide +kernel
theorem dX5_readLink_86 : decode cX5_readLink 86 = .ok (.invokevirtual 67, 3) := by decide +kernel
theorem dX5_readLink_89 : decode cX5_readLink 89 = .ok (.invokevirtual 109, 3) := by decide +kernel
theorem dX5_readLink_92 : decode cX5_readLink 92 = .ok (.aload_n 0, 1) := by decide +kernel
theorem dX5_readLink_93 : decode cX5_readLink 93 = .ok (.invokevirtual 47, 3) := by decide +kernel
theorem dX5_readLink_96 : decode cX5_readLink 96 = .ok (.iconst 1, 1) := by decide +kernel
theorem dX5_readLink_97 : decode cX5_readLink 97 = .ok (.ireturn, 1) := by decide +kernel
theorem dX5_readChain_0 : decode cX5_readChain 0 = .ok (.iconst 0, 1) := by decide +kernel
theorem dX5_readChain_1 : decode cX5_readChain 1 = .ok (.istore_n 3, 1) := by decide +kernel
theorem dX5_readChain_2 : decode cX5_readChain 2 = .ok (.iconst 0, 1) := by decide +kernel
theorem dX5_readChain_3 : decode cX5_readChain 3 = .ok (.istore 4, 2) := by decide +kernel
theorem dX5_readChain_5 : decode cX5_readChain 5 = .ok (.iconst 0, 1) := by decide +kernel
theorem dX5_readChain_6 : decode cX5_readChain 6 = .ok (.istore 5, 2) := by decide +kernel
theorem dX5_readChain_8 : decode cX5_readChain 8 = .ok (.iload 5, 2) := by decide +kernel
theorem dX5_readChain_10 : decode cX5_readChain 10 = .ok (.sipush 400, 3) := by decide +kernel
theorem dX5_readChain_13 : decode cX5_readChain 13 = .ok (.if_icmp .ge 70, 3) := by decide +kernel
theorem dX5_readChain_16 : decode cX5_readChain 16 = .ok (.iload 5, 2) := by decide +kernel
theorem dX5_readChain_18 : decode cX5_readChain 18 = .ok (.iload_n 1, 1) := by decide +kernel
theorem dX5_readChain_19 : decode cX5_readChain 19 = .ok (.if_icmp .lt 11, 3) := by decide +kernel
theorem dX5_readChain_22 : decode cX5_readChain 22 = .ok (.aload_n 0, 1) := by decide +kernel
theorem dX5_readChain_23 : decode cX5_readChain 23 = .ok (.getfield 35, 3) := by decide +kernel
theorem dX5_readChain_26 : decode cX5_readChain 26 = .ok (.iconst 1, 1) := by decide +kernel
theorem dX5_readChain_27 : decode cX5_readChain 27 = .ok (.if_icmp .ne 56, 3) := by decide +kernel
theorem dX5_readChain_30 : decode cX5_readChain 30 = .ok (.aload_n 0, 1) := by decide +kernel
theorem dX5_readChain_31 : decode cX5_readChain 31 = .ok (.invokevirtual 96, 3) := by decide +kernel
theorem dX5_readChain_34 : decode cX5_readChain 34 = .ok (.ifCond .ne 5, 3) := by decide +kernel
theorem dX5_readChain_37 : decode cX5_readChain 37 = .ok (.iconst 0, 1) := by decide +kernel
theorem dX5_readChain_38 : decode cX5_readChain 38 = .ok (.ireturn, 1) := by decide +kernel
theorem dX5_readChain_39 : decode cX5_readChain 39 = .ok (.aload_n 0, 1) := by decide +kernel
theorem dX5_readChain_40 : decode cX5_readChain 40 = .ok (.invokevirtual 67, 3) := by decide +kernel
theorem dX5_readChain_43 : decode cX5_readChain 43 = .ok (.istore 6, 2) := by decide +kernel
theorem dX5_readChain_45 : decode cX5_readChain 45 = .ok (.iload 5, 2) := by decide +kernel
theorem dX5_readChain_47 : decode cX5_readChain 47 = .ok (.ifCond .ne 9, 3) := by decide +kernel
theorem dX5_readChain_50 : decode cX5_readChain 50 = .ok (.iload 6, 2) := by decide +kernel
theorem dX5_readChain_52 : decode cX5_readChain 52 = .ok (.istore_n 3, 1) := by decide +kernel
theorem dX5_readChain_53 : decode cX5_readChain 53 = .ok (.goto 16, 3) := by decide +kernel
theorem dX5_readChain_56 : decode cX5_readChain 56 = .ok (.aload_n 0, 1) := by decide +kernel
theorem dX5_readChain_57 : decode cX5_readChain 57 = .ok (.iload 4, 2) := by decide +kernel
theorem dX5_readChain_59 : decode cX5_readChain 59 = .ok (.iload 6, 2) := by decide +kernel
theorem dX5_readChain_61 : decode cX5_readChain 61 = .ok (.invokevirtual 106, 3) := by decide +kernel
theorem dX5_readChain_64 : decode cX5_readChain 64 = .ok (.ifCond .ne 5, 3) := by decide +kernel
theorem dX5_readChain_67 : decode cX5_readChain 67 = .ok (.iconst 0, 1) := by decide +kernel
theorem dX5_readChain_68 : decode cX5_readChain 68 = .ok (.ireturn, 1) := by decide +kernel
theorem dX5_readChain_69 : decode cX5_readChain 69 = .ok (.iload 6, 2) := by decide +kernel
theorem dX5_readChain_71 : decode cX5_readChain 71 = .ok (.istore 4, 2) := by decide +kernel
theorem dX5_readChain_73 : decode cX5_readChain 73 = .ok (.aload_n 0, 1) := by decide +kernel
theorem dX5_readChain_74 : decode cX5_readChain 74 = .ok (.invokevirtual 47, 3) := by decide +kernel
theorem dX5_readChain_77 : decode cX5_readChain 77 = .ok (.iinc 5 1, 3) := by decide +kernel
theorem dX5_readChain_80 : decode cX5_readChain 80 = .ok (.goto (-72), 3) := by decide +kernel
theorem dX5_readChain_83 : decode cX5_readChain 83 = .ok (.iload_n 2, 1) := by decide +kernel
theorem dX5_readChain_84 : decode cX5_readChain 84 = .ok (.ifCond .eq 28, 3) := by decide +kernel
theorem dX5_readChain_87 : decode cX5_readChain 87 = .ok (.aload_n 0, 1) := by decide +kernel
theorem dX5_readChain_88 : decode cX5_readChain 88 = .ok (.getfield 35, 3) := by decide +kernel
theorem dX5_readChain_91 : decode cX5_readChain 91 = .ok (.iconst 3, 1) := by decide +kernel
theorem dX5_readChain_92 : decode cX5_readChain 92 = .ok (.if_icmp .eq 10, 3) := by decide +kernel
theorem dX5_readChain_95 : decode cX5_readChain 95 = .ok (.aload_n 0, 1) := by decide +kernel
theorem dX5_readChain_96 : decode cX5_readChain 96 = .ok (.getfield 35, 3) := by decide +kernel
theorem dX5_readChain_99 : decode cX5_readChain 99 = .ok (.ifCond .ne 13, 3) := by decide +kernel
theorem dX5_readChain_102 : decode cX5_readChain 102 = .ok (.aload_n 0, 1) := by decide +kernel
theorem dX5_readChain_103 : decode cX5_readChain 103 = .ok (.iload 4, 2) := by decide +kernel
theorem dX5_readChain_105 : decode cX5_readChain 105 = .ok (.iload_n 3, 1) := by decide +kernel
theorem dX5_readChain_106 : decode cX5_readChain 106 = .ok (.invokevirtual 106, 3) := by decide +kernel
theorem dX5_readChain_109 : decode cX5_readChain 109 = .ok (.ifCond .eq 7, 3) := by decide +kernel
theorem dX5_readChain_112 : decode cX5_readChain 112 = .ok (.iconst 1, 1) := by decide +kernel
theorem dX5_readChain_113 : decode cX5_readChain 113 = .ok (.goto 4, 3) := by decide +kernel
theorem dX5_readChain_116 : decode cX5_readChain 116 = .ok (.iconst 0, 1) := by decide +kernel
theorem dX5_readChain_117 : decode cX5_readChain 117 = .ok (.ireturn, 1) := by decide +kernel
theorem dX5_joins_0 : decode cX5_joins 0 = .ok (.iload_n 1, 1) := by decide +kernel
theorem dX5_joins_1 : decode cX5_joins 1 = .ok (.iload_n 2, 1) := by decide +kernel
theorem dX5_joins_2 : decode cX5_joins 2 = .ok (.if_icmp .eq 17, 3) := by decide +kernel
theorem dX5_joins_5 : decode cX5_joins 5 = .ok (.aload_n 0, 1) := by decide +kernel
theorem dX5_joins_6 : decode cX5_joins 6 = .ok (.getfield 24, 3) := by decide +kernel
theorem dX5_joins_9 : decode cX5_joins 9 = .ok (.getfield 113, 3) := by decide +kernel
theorem dX5_joins_12 : decode cX5_joins 12 = .ok (.iload_n 1, 1) := by decide +kernel
theorem dX5_joins_13 : decode cX5_joins 13 = .ok (.aaload, 1) := by decide +kernel
theorem dX5_joins_14 : decode cX5_joins 14 = .ok (.iload_n 2, 1) := by decide +kernel
theorem dX5_joins_15 : decode cX5_joins 15 = .ok (.iaload, 1) := by decide +kernel
theorem dX5_joins_16 : decode cX5_joins 16 = .ok (.ifCond .eq 9, 3) := by decide +kernel
theorem dX5_joins_19 : decode cX5_joins 19 = .ok (.aload_n 0, 1) := by decide +kernel
theorem dX5_joins_20 : decode cX5_joins 20 = .ok (.iconst 3, 1) := by decide +kernel
theorem dX5_joins_21 : decode cX5_joins 21 = .ok (.invokevirtual 63, 3) := by decide +kernel
theorem dX5_joins_24 : decode cX5_joins 24 = .ok (.ireturn, 1) := by decide +kernel
theorem dX5_joins_25 : decode cX5_joins 25 = .ok (.aload_n 0, 1) := by decide +kernel
theorem dX5_joins_26 : decode cX5_joins 26 = .ok (.getfield 24, 3) := by decide +kernel
theorem dX5_joins_29 : decode cX5_joins 29 = .ok (.iload_n 1, 1) := by decide +kernel
theorem dX5_joins_30 : decode cX5_joins 30 = .ok (.iload_n 2, 1) := by decide +kernel
theorem dX5_joins_31 : decode cX5_joins 31 = .ok (.iconst 1, 1) := by decide +kernel
theorem dX5_joins_32 : decode cX5_joins 32 = .ok (.invokevirtual 109, 3) := by decide +kernel
theorem dX5_joins_35 : decode cX5_joins 35 = .ok (.iconst 1, 1) := by decide +kernel
theorem dX5_joins_36 : decode cX5_joins 36 = .ok (.ireturn, 1) := by decide +kernel
theorem dX5_fails_0 : decode cX5_fails 0 = .ok (.aload_n 0, 1) := by decide +kernel
theorem dX5_fails_1 : decode cX5_fails 1 = .ok (.iload_n 1, 1) := by decide +kernel
theorem dX5_fails_2 : decode cX5_fails 2 = .ok (.putfield 15, 3) := by decide +kernel
theorem dX5_fails_5 : decode cX5_fails 5 = .ok (.aload_n 0, 1) := by decide +kernel
theorem dX5_fails_6 : decode cX5_fails 6 = .ok (.aload_n 0, 1) := by decide +kernel
theorem dX5_fails_7 : decode cX5_fails 7 = .ok (.getfield 38, 3) := by decide +kernel
theorem dX5_fails_10 : decode cX5_fails 10 = .ok (.putfield 18, 3) := by decide +kernel
theorem dX5_fails_13 : decode cX5_fails 13 = .ok (.iconst 0, 1) := by decide +kernel
theorem dX5_fails_14 : decode cX5_fails 14 = .ok (.ireturn, 1) := by decide +kernel
theorem dX5_isVertex_0 : decode cX5_isVertex 0 = .ok (.aload_n 0, 1) := by decide +kernel
theorem dX5_isVertex_1 : decode cX5_isVertex 1 = .ok (.getfield 35, 3) := by decide +kernel
theorem dX5_isVertex_4 : decode cX5_isVertex 4 = .ok (.iconst 1, 1) := by decide +kernel
theorem dX5_isVertex_5 : decode cX5_isVertex 5 = .ok (.if_icmp .eq 9, 3) := by decide +kernel
theorem dX5_isVertex_8 : decode cX5_isVertex 8 = .ok (.aload_n 0, 1) := by decide +kernel
theorem dX5_isVertex_9 : decode cX5_isVertex 9 = .ok (.iconst 1, 1) := by decide +kernel
theorem dX5_isVertex_10 : decode cX5_isVertex 10 = .ok (.invokevirtual 63, 3) := by decide +kernel
theorem dX5_isVertex_13 : decode cX5_isVertex 13 = .ok (.ireturn, 1) := by decide +kernel
theorem dX5_isVertex_14 : decode cX5_isVertex 14 = .ok (.aload_n 0, 1) := by decide +kernel
theorem dX5_isVertex_15 : decode cX5_isVertex 15 = .ok (.getfield 24, 3) := by decide +kernel
theorem dX5_isVertex_18 : decode cX5_isVertex 18 = .ok (.aload_n 0, 1) := by decide +kernel
theorem dX5_isVertex_19 : decode cX5_isVertex 19 = .ok (.invokevirtual 67, 3) := by decide +kernel
theorem dX5_isVertex_22 : decode cX5_isVertex 22 = .ok (.invokevirtual 117, 3) := by decide +kernel
theorem dX5_isVertex_25 : decode cX5_isVertex 25 = .ok (.ifCond .ne 11, 3) := by decide +kernel
theorem dX5_isVertex_28 : decode cX5_isVertex 28 = .ok (.aload_n 0, 1) := by decide +kernel
theorem dX5_isVertex_29 : decode cX5_isVertex 29 = .ok (.iconst 2, 1) := by decide +kernel
theorem dX5_isVertex_30 : decode cX5_isVertex 30 = .ok (.invokevirtual 63, 3) := by decide +kernel
theorem dX5_isVertex_33 : decode cX5_isVertex 33 = .ok (.ifCond .eq 7, 3) := by decide +kernel
theorem dX5_isVertex_36 : decode cX5_isVertex 36 = .ok (.iconst 1, 1) := by decide +kernel
theorem dX5_isVertex_37 : decode cX5_isVertex 37 = .ok (.goto 4, 3) := by decide +kernel
theorem dX5_isVertex_40 : decode cX5_isVertex 40 = .ok (.iconst 0, 1) := by decide +kernel
theorem dX5_isVertex_41 : decode cX5_isVertex 41 = .ok (.ireturn, 1) := by decide +kernel
theorem dX5_digit_0 : decode cX5_digit 0 = .ok (.aload_n 0, 1) := by decide +kernel
theorem dX5_digit_1 : decode cX5_digit 1 = .ok (.getfield 38, 3) := by decide +kernel
theorem dX5_digit_4 : decode cX5_digit 4 = .ok (.sipush 400, 3) := by decide +kernel
theorem dX5_digit_7 : decode cX5_digit 7 = .ok (.if_icmp .ge 18, 3) := by decide +kernel
theorem dX5_digit_10 : decode cX5_digit 10 = .ok (.aload_n 0, 1) := by decide +kernel
theorem dX5_digit_11 : decode cX5_digit 11 = .ok (.getfield 28, 3) := by decide +kernel
theorem dX5_digit_14 : decode cX5_digit 14 = .ok (.aload_n 0, 1) := by decide +kernel
theorem dX5_digit_15 : decode cX5_digit 15 = .ok (.getfield 38, 3) := by decide +kernel
theorem dX5_digit_18 : decode cX5_digit 18 = .ok (.iaload, 1) := by decide +kernel
theorem dX5_digit_19 : decode cX5_digit 19 = .ok (.bipush 48, 2) := by decide +kernel
theorem dX5_digit_21 : decode cX5_digit 21 = .ok (.isub, 1) := by decide +kernel
theorem dX5_digit_22 : decode cX5_digit 22 = .ok (.goto 4, 3) := by decide +kernel
theorem dX5_digit_25 : decode cX5_digit 25 = .ok (.iconst 0, 1) := by decide +kernel
theorem dX5_digit_26 : decode cX5_digit 26 = .ok (.ireturn, 1) := by decide +kernel
theorem dX5_isWord_0 : decode cX5_isWord 0 = .ok (.aload_n 0, 1) := by decide +kernel
theorem dX5_isWord_1 : decode cX5_isWord 1 = .ok (.getfield 35, 3) := by decide +kernel
theorem dX5_isWord_4 : decode cX5_isWord 4 = .ok (.iconst 2, 1) := by decide +kernel
theorem dX5_isWord_5 : decode cX5_isWord 5 = .ok (.if_icmp .ne 19, 3) := by decide +kernel
theorem dX5_isWord_8 : decode cX5_isWord 8 = .ok (.aload_n 0, 1) := by decide +kernel
theorem dX5_isWord_9 : decode cX5_isWord 9 = .ok (.getfield 41, 3) := by decide +kernel
theorem dX5_isWord_12 : decode cX5_isWord 12 = .ok (.aload_n 0, 1) := by decide +kernel
theorem dX5_isWord_13 : decode cX5_isWord 13 = .ok (.getfield 38, 3) := by decide +kernel
theorem dX5_isWord_16 : decode cX5_isWord 16 = .ok (.isub, 1) := by decide +kernel
theorem dX5_isWord_17 : decode cX5_isWord 17 = .ok (.aload_n 1, 1) := by decide +kernel
theorem dX5_isWord_18 : decode cX5_isWord 18 = .ok (.invokevirtual 120, 3) := by decide +kernel
theorem dX5_isWord_21 : decode cX5_isWord 21 = .ok (.if_icmp .eq 5, 3) := by decide +kernel
theorem dX5_isWord_24 : decode cX5_isWord 24 = .ok (.iconst 0, 1) := by decide +kernel
theorem dX5_isWord_25 : decode cX5_isWord 25 = .ok (.ireturn, 1) := by decide +kernel
theorem dX5_isWord_26 : decode cX5_isWord 26 = .ok (.iconst 0, 1) := by decide +kernel
theorem dX5_isWord_27 : decode cX5_isWord 27 = .ok (.istore_n 2, 1) := by decide +kernel
theorem dX5_isWord_28 : decode cX5_isWord 28 = .ok (.iload_n 2, 1) := by decide +kernel
theorem dX5_isWord_29 : decode cX5_isWord 29 = .ok (.aload_n 1, 1) := by decide +kernel
theorem dX5_isWord_30 : decode cX5_isWord 30 = .ok (.invokevirtual 120, 3) := by decide +kernel
theorem dX5_isWord_33 : decode cX5_isWord 33 = .ok (.if_icmp .ge 30, 3) := by decide +kernel
theorem dX5_isWord_36 : decode cX5_isWord 36 = .ok (.aload_n 0, 1) := by decide +kernel
theorem dX5_isWord_37 : decode cX5_isWord 37 = .ok (.getfield 28, 3) := by decide +kernel
theorem dX5_isWord_40 : decode cX5_isWord 40 = .ok (.aload_n 0, 1) := by decide +kernel
theorem dX5_isWord_41 : decode cX5_isWord 41 = .ok (.getfield 38, 3) := by decide +kernel
theorem dX5_isWord_44 : decode cX5_isWord 44 = .ok (.iload_n 2, 1) := by decide +kernel
theorem dX5_isWord_45 : decode cX5_isWord 45 = .ok (.iadd, 1) := by decide +kernel
theorem dX5_isWord_46 : decode cX5_isWord 46 = .ok (.iaload, 1) := by decide +kernel
theorem dX5_isWord_47 : decode cX5_isWord 47 = .ok (.aload_n 1, 1) := by decide +kernel
theorem dX5_isWord_48 : decode cX5_isWord 48 = .ok (.iload_n 2, 1) := by decide +kernel
theorem dX5_isWord_49 : decode cX5_isWord 49 = .ok (.invokevirtual 125, 3) := by decide +kernel
theorem dX5_isWord_52 : decode cX5_isWord 52 = .ok (.if_icmp .eq 5, 3) := by decide +kernel
theorem dX5_isWord_55 : decode cX5_isWord 55 = .ok (.iconst 0, 1) := by decide +kernel
theorem dX5_isWord_56 : decode cX5_isWord 56 = .ok (.ireturn, 1) := by decide +kernel
theorem dX5_isWord_57 : decode cX5_isWord 57 = .ok (.iinc 2 1, 3) := by decide +kernel
theorem dX5_isWord_60 : decode cX5_isWord 60 = .ok (.goto (-32), 3) := by decide +kernel
theorem dX5_isWord_63 : decode cX5_isWord 63 = .ok (.iconst 1, 1) := by decide +kernel
theorem dX5_isWord_64 : decode cX5_isWord 64 = .ok (.ireturn, 1) := by decide +kernel
theorem dX5_step_0 : decode cX5_step 0 = .ok (.aload_n 0, 1) := by decide +kernel
theorem dX5_step_1 : decode cX5_step 1 = .ok (.aload_n 0, 1) := by decide +kernel
theorem dX5_step_2 : decode cX5_step 2 = .ok (.getfield 41, 3) := by decide +kernel
theorem dX5_step_5 : decode cX5_step 5 = .ok (.putfield 38, 3) := by decide +kernel
theorem dX5_step_8 : decode cX5_step 8 = .ok (.aload_n 0, 1) := by decide +kernel
theorem dX5_step_9 : decode cX5_step 9 = .ok (.getfield 38, 3) := by decide +kernel
theorem dX5_step_12 : decode cX5_step 12 = .ok (.aload_n 0, 1) := by decide +kernel
theorem dX5_step_13 : decode cX5_step 13 = .ok (.getfield 32, 3) := by decide +kernel
theorem dX5_step_16 : decode cX5_step 16 = .ok (.if_icmp .ge 30, 3) := by decide +kernel
theorem dX5_step_19 : decode cX5_step 19 = .ok (.aload_n 0, 1) := by decide +kernel
theorem dX5_step_20 : decode cX5_step 20 = .ok (.getfield 28, 3) := by decide +kernel
theorem dX5_step_23 : decode cX5_step 23 = .ok (.aload_n 0, 1) := by decide +kernel
theorem dX5_step_24 : decode cX5_step 24 = .ok (.getfield 38, 3) := by decide +kernel
theorem dX5_step_27 : decode cX5_step 27 = .ok (.iaload, 1) := by decide +kernel
theorem dX5_step_28 : decode cX5_step 28 = .ok (.bipush 32, 2) := by decide +kernel
theorem dX5_step_30 : decode cX5_step 30 = .ok (.if_icmp .ne 16, 3) := by decide +kernel
theorem dX5_step_33 : decode cX5_step 33 = .ok (.aload_n 0, 1) := by decide +kernel
theorem dX5_step_34 : decode cX5_step 34 = .ok (.dup, 1) := by decide +kernel
theorem dX5_step_35 : decode cX5_step 35 = .ok (.getfield 38, 3) := by decide +kernel
theorem dX5_step_38 : decode cX5_step 38 = .ok (.iconst 1, 1) := by decide +kernel
theorem dX5_step_39 : decode cX5_step 39 = .ok (.iadd, 1) := by decide +kernel
theorem dX5_step_40 : decode cX5_step 40 = .ok (.putfield 38, 3) := by decide +kernel
theorem dX5_step_43 : decode cX5_step 43 = .ok (.goto (-35), 3) := by decide +kernel
theorem dX5_step_46 : decode cX5_step 46 = .ok (.aload_n 0, 1) := by decide +kernel
theorem dX5_step_47 : decode cX5_step 47 = .ok (.getfield 38, 3) := by decide +kernel
theorem dX5_step_50 : decode cX5_step 50 = .ok (.aload_n 0, 1) := by decide +kernel
theorem dX5_step_51 : decode cX5_step 51 = .ok (.getfield 32, 3) := by decide +kernel
theorem dX5_step_54 : decode cX5_step 54 = .ok (.if_icmp .lt 17, 3) := by decide +kernel
theorem dX5_step_57 : decode cX5_step 57 = .ok (.aload_n 0, 1) := by decide +kernel
theorem dX5_step_58 : decode cX5_step 58 = .ok (.iconst 0, 1) := by decide +kernel
theorem dX5_step_59 : decode cX5_step 59 = .ok (.putfield 35, 3) := by decide +kernel
theorem dX5_step_62 : decode cX5_step 62 = .ok (.aload_n 0, 1) := by decide +kernel
theorem dX5_step_63 : decode cX5_step 63 = .ok (.aload_n 0, 1) := by decide +kernel
theorem dX5_step_64 : decode cX5_step 64 = .ok (.getfield 38, 3) := by decide +kernel
theorem dX5_step_67 : decode cX5_step 67 = .ok (.putfield 41, 3) := by decide +kernel
theorem dX5_step_70 : decode cX5_step 70 = .ok (.return_, 1) := by decide +kernel
theorem dX5_step_71 : decode cX5_step 71 = .ok (.aload_n 0, 1) := by decide +kernel
theorem dX5_step_72 : decode cX5_step 72 = .ok (.aload_n 0, 1) := by decide +kernel
theorem dX5_step_73 : decode cX5_step 73 = .ok (.getfield 38, 3) := by decide +kernel
theorem dX5_step_76 : decode cX5_step 76 = .ok (.iconst 1, 1) := by decide +kernel
theorem dX5_step_77 : decode cX5_step 77 = .ok (.iadd, 1) := by decide +kernel
theorem dX5_step_78 : decode cX5_step 78 = .ok (.putfield 41, 3) := by decide +kernel
theorem dX5_step_81 : decode cX5_step 81 = .ok (.aload_n 0, 1) := by decide +kernel
theorem dX5_step_82 : decode cX5_step 82 = .ok (.getfield 28, 3) := by decide +kernel
theorem dX5_step_85 : decode cX5_step 85 = .ok (.aload_n 0, 1) := by decide +kernel
theorem dX5_step_86 : decode cX5_step 86 = .ok (.getfield 38, 3) := by decide +kernel
theorem dX5_step_89 : decode cX5_step 89 = .ok (.iaload, 1) := by decide +kernel
theorem dX5_step_90 : decode cX5_step 90 = .ok (.istore_n 1, 1) := by decide +kernel
theorem dX5_step_91 : decode cX5_step 91 = .ok (.iload_n 1, 1) := by decide +kernel
theorem dX5_step_92 : decode cX5_step 92 = .ok (.invokestatic 129, 3) := by decide +kernel
theorem dX5_step_95 : decode cX5_step 95 = .ok (.ifCond .eq 50, 3) := by decide +kernel
theorem dX5_step_98 : decode cX5_step 98 = .ok (.aload_n 0, 1) := by decide +kernel
theorem dX5_step_99 : decode cX5_step 99 = .ok (.getfield 41, 3) := by decide +kernel
theorem dX5_step_102 : decode cX5_step 102 = .ok (.aload_n 0, 1) := by decide +kernel
theorem dX5_step_103 : decode cX5_step 103 = .ok (.getfield 32, 3) := by decide +kernel
theorem dX5_step_106 : decode cX5_step 106 = .ok (.if_icmp .ge 31, 3) := by decide +kernel
theorem dX5_step_109 : decode cX5_step 109 = .ok (.aload_n 0, 1) := by decide +kernel
theorem dX5_step_110 : decode cX5_step 110 = .ok (.getfield 28, 3) := by decide +kernel
theorem dX5_step_113 : decode cX5_step 113 = .ok (.aload_n 0, 1) := by decide +kernel
theorem dX5_step_114 : decode cX5_step 114 = .ok (.getfield 41, 3) := by decide +kernel
theorem dX5_step_117 : decode cX5_step 117 = .ok (.iaload, 1) := by decide +kernel
theorem dX5_step_118 : decode cX5_step 118 = .ok (.invokestatic 129, 3) := by decide +kernel
theorem dX5_step_121 : decode cX5_step 121 = .ok (.ifCond .eq 16, 3) := by decide +kernel
theorem dX5_step_124 : decode cX5_step 124 = .ok (.aload_n 0, 1) := by decide +kernel
theorem dX5_step_125 : decode cX5_step 125 = .ok (.dup, 1) := by decide +kernel
theorem dX5_step_126 : decode cX5_step 126 = .ok (.getfield 41, 3) := by decide +kernel
theorem dX5_step_129 : decode cX5_step 129 = .ok (.iconst 1, 1) := by decide +kernel
theorem dX5_step_130 : decode cX5_step 130 = .ok (.iadd, 1) := by decide +kernel
theorem dX5_step_131 : decode cX5_step 131 = .ok (.putfield 41, 3) := by decide +kernel
theorem dX5_step_134 : decode cX5_step 134 = .ok (.goto (-36), 3) := by decide +kernel
theorem dX5_step_137 : decode cX5_step 137 = .ok (.aload_n 0, 1) := by decide +kernel
theorem dX5_step_138 : decode cX5_step 138 = .ok (.iconst 2, 1) := by decide +kernel
theorem dX5_step_139 : decode cX5_step 139 = .ok (.putfield 35, 3) := by decide +kernel
theorem dX5_step_142 : decode cX5_step 142 = .ok (.goto 38, 3) := by decide +kernel
theorem dX5_step_145 : decode cX5_step 145 = .ok (.iload_n 1, 1) := by decide +kernel
theorem dX5_step_146 : decode cX5_step 146 = .ok (.bipush 48, 2) := by decide +kernel
theorem dX5_step_148 : decode cX5_step 148 = .ok (.if_icmp .lt 17, 3) := by decide +kernel
theorem dX5_step_151 : decode cX5_step 151 = .ok (.iload_n 1, 1) := by decide +kernel
theorem dX5_step_152 : decode cX5_step 152 = .ok (.bipush 57, 2) := by decide +kernel
theorem dX5_step_154 : decode cX5_step 154 = .ok (.if_icmp .gt 11, 3) := by decide +kernel
theorem dX5_step_157 : decode cX5_step 157 = .ok (.aload_n 0, 1) := by decide +kernel
theorem dX5_step_158 : decode cX5_step 158 = .ok (.iconst 1, 1) := by decide +kernel
theorem dX5_step_159 : decode cX5_step 159 = .ok (.putfield 35, 3) := by decide +kernel
theorem dX5_step_162 : decode cX5_step 162 = .ok (.goto 18, 3) := by decide +kernel
theorem dX5_step_165 : decode cX5_step 165 = .ok (.aload_n 0, 1) := by decide +kernel
theorem dX5_step_166 : decode cX5_step 166 = .ok (.iload_n 1, 1) := by decide +kernel
theorem dX5_step_167 : decode cX5_step 167 = .ok (.bipush 59, 2) := by decide +kernel
theorem dX5_step_169 : decode cX5_step 169 = .ok (.if_icmp .ne 7, 3) := by decide +kernel
theorem dX5_step_172 : decode cX5_step 172 = .ok (.iconst 3, 1) := by decide +kernel
theorem dX5_step_173 : decode cX5_step 173 = .ok (.goto 4, 3) := by decide +kernel
theorem dX5_step_176 : decode cX5_step 176 = .ok (.iconst 4, 1) := by decide +kernel
theorem dX5_step_177 : decode cX5_step 177 = .ok (.putfield 35, 3) := by decide +kernel
theorem dX5_step_180 : decode cX5_step 180 = .ok (.return_, 1) := by decide +kernel
theorem dX5_isLetter_0 : decode cX5_isLetter 0 = .ok (.iload_n 0, 1) := by decide +kernel
theorem dX5_isLetter_1 : decode cX5_isLetter 1 = .ok (.bipush 97, 2) := by decide +kernel
theorem dX5_isLetter_3 : decode cX5_isLetter 3 = .ok (.if_icmp .lt 13, 3) := by decide +kernel
theorem dX5_isLetter_6 : decode cX5_isLetter 6 = .ok (.iload_n 0, 1) := by decide +kernel
theorem dX5_isLetter_7 : decode cX5_isLetter 7 = .ok (.bipush 122, 2) := by decide +kernel
theorem dX5_isLetter_9 : decode cX5_isLetter 9 = .ok (.if_icmp .gt 7, 3) := by decide +kernel
theorem dX5_isLetter_12 : decode cX5_isLetter 12 = .ok (.iconst 1, 1) := by decide +kernel
theorem dX5_isLetter_13 : decode cX5_isLetter 13 = .ok (.goto 4, 3) := by decide +kernel
theorem dX5_isLetter_16 : decode cX5_isLetter 16 = .ok (.iconst 0, 1) := by decide +kernel
theorem dX5_isLetter_17 : decode cX5_isLetter 17 = .ok (.ireturn, 1) := by decide +kernel
theorem dX6_init_0 : decode cX6_init 0 = .ok (.aload_n 0, 1) := by decide +kernel
theorem dX6_init_1 : decode cX6_init 1 = .ok (.invokespecial 3, 3) := by decide +kernel
theorem dX6_init_4 : decode cX6_init 4 = .ok (.aload_n 0, 1) := by decide +kernel
theorem dX6_init_5 : decode cX6_init 5 = .ok (.iconst 0, 1) := by decide +kernel
theorem dX6_init_6 : decode cX6_init 6 = .ok (.putfield 9, 3) := by decide +kernel
theorem dX6_init_9 : decode cX6_init 9 = .ok (.aload_n 0, 1) := by decide +kernel
theorem dX6_init_10 : decode cX6_init 10 = .ok (.iconst 0, 1) := by decide +kernel
theorem dX6_init_11 : decode cX6_init 11 = .ok (.putfield 15, 3) := by decide +kernel
theorem dX6_init_14 : decode cX6_init 14 = .ok (.aload_n 0, 1) := by decide +kernel
theorem dX6_init_15 : decode cX6_init 15 = .ok (.sipush 5040, 3) := by decide +kernel
theorem dX6_init_18 : decode cX6_init 18 = .ok (.newarray .int, 2) := by decide +kernel
theorem dX6_init_20 : decode cX6_init 20 = .ok (.putfield 18, 3) := by decide +kernel
theorem dX6_init_23 : decode cX6_init 23 = .ok (.aload_n 0, 1) := by decide +kernel
theorem dX6_init_24 : decode cX6_init 24 = .ok (.new 22, 3) := by decide +kernel
theorem dX6_init_27 : decode cX6_init 27 = .ok (.dup, 1) := by decide +kernel
theorem dX6_init_28 : decode cX6_init 28 = .ok (.invokespecial 24, 3) := by decide +kernel
theorem dX6_init_31 : decode cX6_init 31 = .ok (.putfield 25, 3) := by decide +kernel
theorem dX6_init_34 : decode cX6_init 34 = .ok (.return_, 1) := by decide +kernel
theorem dX6_forget_0 : decode cX6_forget 0 = .ok (.aload_n 0, 1) := by decide +kernel
theorem dX6_forget_1 : decode cX6_forget 1 = .ok (.iconst 0, 1) := by decide +kernel
theorem dX6_forget_2 : decode cX6_forget 2 = .ok (.putfield 9, 3) := by decide +kernel
theorem dX6_forget_5 : decode cX6_forget 5 = .ok (.aload_n 0, 1) := by decide +kernel
theorem dX6_forget_6 : decode cX6_forget 6 = .ok (.iconst 0, 1) := by decide +kernel
theorem dX6_forget_7 : decode cX6_forget 7 = .ok (.putfield 15, 3) := by decide +kernel
theorem dX6_forget_10 : decode cX6_forget 10 = .ok (.return_, 1) := by decide +kernel
theorem dX6_skips_0 : decode cX6_skips 0 = .ok (.aload_n 0, 1) := by decide +kernel
theorem dX6_skips_1 : decode cX6_skips 1 = .ok (.iload_n 2, 1) := by decide +kernel
theorem dX6_skips_2 : decode cX6_skips 2 = .ok (.iload_n 3, 1) := by decide +kernel
theorem dX6_skips_3 : decode cX6_skips 3 = .ok (.invokevirtual 29, 3) := by decide +kernel
theorem dX6_skips_6 : decode cX6_skips 6 = .ok (.iload_n 1, 1) := by decide +kernel
theorem dX6_skips_7 : decode cX6_skips 7 = .ok (.invokestatic 33, 3) := by decide +kernel
theorem dX6_skips_10 : decode cX6_skips 10 = .ok (.ireturn, 1) := by decide +kernel
theorem dX6_spread_0 : decode cX6_spread 0 = .ok (.iload_n 1, 1) := by decide +kernel
theorem dX6_spread_1 : decode cX6_spread 1 = .ok (.istore_n 3, 1) := by decide +kernel
theorem dX6_spread_2 : decode cX6_spread 2 = .ok (.iconst 0, 1) := by decide +kernel
theorem dX6_spread_3 : decode cX6_spread 3 = .ok (.istore 4, 2) := by decide +kernel
theorem dX6_spread_5 : decode cX6_spread 5 = .ok (.iconst 0, 1) := by decide +kernel
theorem dX6_spread_6 : decode cX6_spread 6 = .ok (.istore 5, 2) := by decide +kernel
theorem dX6_spread_8 : decode cX6_spread 8 = .ok (.iload 5, 2) := by decide +kernel
theorem dX6_spread_10 : decode cX6_spread 10 = .ok (.bipush 7, 2) := by decide +kernel
theorem dX6_spread_12 : decode cX6_spread 12 = .ok (.if_icmp .ge 66, 3) := by decide +kernel
theorem dX6_spread_15 : decode cX6_spread 15 = .ok (.iload_n 3, 1) := by decide +kernel
theorem dX6_spread_16 : decode cX6_spread 16 = .ok (.iload 4, 2) := by decide +kernel
theorem dX6_spread_18 : decode cX6_spread 18 = .ok (.if_icmp .eq 60, 3) := by decide +kernel
theorem dX6_spread_21 : decode cX6_spread 21 = .ok (.iload_n 3, 1) := by decide +kernel
theorem dX6_spread_22 : decode cX6_spread 22 = .ok (.istore 4, 2) := by decide +kernel
theorem dX6_spread_24 : decode cX6_spread 24 = .ok (.iconst 0, 1) := by decide +kernel
theorem dX6_spread_25 : decode cX6_spread 25 = .ok (.istore 6, 2) := by decide +kernel
theorem dX6_spread_27 : decode cX6_spread 27 = .ok (.iload 6, 2) := by decide +kernel
theorem dX6_spread_29 : decode cX6_spread 29 = .ok (.aload_n 0, 1) := by decide +kernel
theorem dX6_spread_30 : decode cX6_spread 30 = .ok (.getfield 9, 3) := by decide +kernel
theorem dX6_spread_33 : decode cX6_spread 33 = .ok (.if_icmp .ge 39, 3) := by decide +kernel
theorem dX6_spread_36 : decode cX6_spread 36 = .ok (.aload_n 0, 1) := by decide +kernel
theorem dX6_spread_37 : decode cX6_spread 37 = .ok (.aload_n 0, 1) := by decide +kernel
theorem dX6_spread_38 : decode cX6_spread 38 = .ok (.getfield 18, 3) := by decide +kernel
theorem dX6_spread_41 : decode cX6_spread 41 = .ok (.iload 6, 2) := by decide +kernel
theorem dX6_spread_43 : decode cX6_spread 43 = .ok (.iaload, 1) := by decide +kernel
theorem dX6_spread_44 : decode cX6_spread 44 = .ok (.iload_n 2, 1) := by decide +kernel
theorem dX6_spread_45 : decode cX6_spread 45 = .ok (.invokevirtual 37, 3) := by decide +kernel
theorem dX6_spread_48 : decode cX6_spread 48 = .ok (.ifCond .eq 18, 3) := by decide +kernel
theorem dX6_spread_51 : decode cX6_spread 51 = .ok (.iload_n 3, 1) := by decide +kernel
theorem dX6_spread_52 : decode cX6_spread 52 = .ok (.aload_n 0, 1) := by decide +kernel
theorem dX6_spread_53 : decode cX6_spread 53 = .ok (.iload_n 3, 1) := by decide +kernel
theorem dX6_spread_54 : decode cX6_spread 54 = .ok (.aload_n 0, 1) := by decide +kernel
theorem dX6_spread_55 : decode cX6_spread 55 = .ok (.getfield 18, 3) := by decide +kernel
theorem dX6_spread_58 : decode cX6_spread 58 = .ok (.iload 6, 2) := by decide +kernel
theorem dX6_spread_60 : decode cX6_spread 60 = .ok (.iaload, 1) := by decide +kernel
theorem dX6_spread_61 : decode cX6_spread 61 = .ok (.invokevirtual 40, 3) := by decide +kernel
theorem dX6_spread_64 : decode cX6_spread 64 = .ok (.ior, 1) := by decide +kernel
theorem dX6_spread_65 : decode cX6_spread 65 = .ok (.istore_n 3, 1) := by decide +kernel
theorem dX6_spread_66 : decode cX6_spread 66 = .ok (.iinc 6 1, 3) := by decide +kernel
theorem dX6_spread_69 : decode cX6_spread 69 = .ok (.goto (-42), 3) := by decide +kernel
theorem dX6_spread_72 : decode cX6_spread 72 = .ok (.iinc 5 1, 3) := by decide +kernel
theorem dX6_spread_75 : decode cX6_spread 75 = .ok (.goto (-67), 3) := by decide +kernel
theorem dX6_spread_78 : decode cX6_spread 78 = .ok (.iload_n 3, 1) := by decide +kernel
theorem dX6_spread_79 : decode cX6_spread 79 = .ok (.ireturn, 1) := by decide +kernel
theorem dX6_leavesAlone_0 : decode cX6_leavesAlone 0 = .ok (.iconst 0, 1) := by decide +kernel
theorem dX6_leavesAlone_1 : decode cX6_leavesAlone 1 = .ok (.istore_n 3, 1) := by decide +kernel
theorem dX6_leavesAlone_2 : decode cX6_leavesAlone 2 = .ok (.iload_n 3, 1) := by decide +kernel
theorem dX6_leavesAlone_3 : decode cX6_leavesAlone 3 = .ok (.aload_n 0, 1) := by decide +kernel
theorem dX6_leavesAlone_4 : decode cX6_leavesAlone 4 = .ok (.getfield 43, 3) := by decide +kernel
theorem dX6_leavesAlone_7 : decode cX6_leavesAlone 7 = .ok (.getfield 47, 3) := by decide +kernel
theorem dX6_leavesAlone_10 : decode cX6_leavesAlone 10 = .ok (.if_icmp .ge 28, 3) := by decide +kernel
theorem dX6_leavesAlone_13 : decode cX6_leavesAlone 13 = .ok (.iload_n 2, 1) := by decide +kernel
theorem dX6_leavesAlone_14 : decode cX6_leavesAlone 14 = .ok (.iload_n 3, 1) := by decide +kernel
theorem dX6_leavesAlone_15 : decode cX6_leavesAlone 15 = .ok (.invokestatic 33, 3) := by decide +kernel
theorem dX6_leavesAlone_18 : decode cX6_leavesAlone 18 = .ok (.ifCond .eq 14, 3) := by decide +kernel
theorem dX6_leavesAlone_21 : decode cX6_leavesAlone 21 = .ok (.iload_n 1, 1) := by decide +kernel
theorem dX6_leavesAlone_22 : decode cX6_leavesAlone 22 = .ok (.iload_n 3, 1) := by decide +kernel
theorem dX6_leavesAlone_23 : decode cX6_leavesAlone 23 = .ok (.invokestatic 52, 3) := by decide +kernel
theorem dX6_leavesAlone_26 : decode cX6_leavesAlone 26 = .ok (.iload_n 3, 1) := by decide +kernel
theorem dX6_leavesAlone_27 : decode cX6_leavesAlone 27 = .ok (.if_icmp .eq 5, 3) := by decide +kernel
theorem dX6_leavesAlone_30 : decode cX6_leavesAlone 30 = .ok (.iconst 0, 1) := by decide +kernel
theorem dX6_leavesAlone_31 : decode cX6_leavesAlone 31 = .ok (.ireturn, 1) := by decide +kernel
theorem dX6_leavesAlone_32 : decode cX6_leavesAlone 32 = .ok (.iinc 3 1, 3) := by decide +kernel
theorem dX6_leavesAlone_35 : decode cX6_leavesAlone 35 = .ok (.goto (-33), 3) := by decide +kernel
theorem dX6_leavesAlone_38 : decode cX6_leavesAlone 38 = .ok (.iconst 1, 1) := by decide +kernel
theorem dX6_leavesAlone_39 : decode cX6_leavesAlone 39 = .ok (.ireturn, 1) := by decide +kernel
theorem dX6_imageOf_0 : decode cX6_imageOf 0 = .ok (.iconst 0, 1) := by decide +kernel
theorem dX6_imageOf_1 : decode cX6_imageOf 1 = .ok (.istore_n 3, 1) := by decide +kernel
theorem dX6_imageOf_2 : decode cX6_imageOf 2 = .ok (.iconst 0, 1) := by decide +kernel
theorem dX6_imageOf_3 : decode cX6_imageOf 3 = .ok (.istore 4, 2) := by decide +kernel
theorem dX6_imageOf_5 : decode cX6_imageOf 5 = .ok (.iload 4, 2) := by decide +kernel
theorem dX6_imageOf_7 : decode cX6_imageOf 7 = .ok (.aload_n 0, 1) := by decide +kernel
theorem dX6_imageOf_8 : decode cX6_imageOf 8 = .ok (.getfield 43, 3) := by decide +kernel
theorem dX6_imageOf_11 : decode cX6_imageOf 11 = .ok (.getfield 47, 3) := by decide +kernel
theorem dX6_imageOf_14 : decode cX6_imageOf 14 = .ok (.if_icmp .ge 29, 3) := by decide +kernel
theorem dX6_imageOf_17 : decode cX6_imageOf 17 = .ok (.iload_n 1, 1) := by decide +kernel
theorem dX6_imageOf_18 : decode cX6_imageOf 18 = .ok (.iload 4, 2) := by decide +kernel
theorem dX6_imageOf_20 : decode cX6_imageOf 20 = .ok (.invokestatic 33, 3) := by decide +kernel
theorem dX6_imageOf_23 : decode cX6_imageOf 23 = .ok (.ifCond .eq 14, 3) := by decide +kernel
theorem dX6_imageOf_26 : decode cX6_imageOf 26 = .ok (.iload_n 3, 1) := by decide +kernel
theorem dX6_imageOf_27 : decode cX6_imageOf 27 = .ok (.iconst 1, 1) := by decide +kernel
theorem dX6_imageOf_28 : decode cX6_imageOf 28 = .ok (.iload_n 2, 1) := by decide +kernel
theorem dX6_imageOf_29 : decode cX6_imageOf 29 = .ok (.iload 4, 2) := by decide +kernel
theorem dX6_imageOf_31 : decode cX6_imageOf 31 = .ok (.invokestatic 52, 3) := by decide +kernel
theorem dX6_imageOf_34 : decode cX6_imageOf 34 = .ok (.ishl, 1) := by decide +kernel
theorem dX6_imageOf_35 : decode cX6_imageOf 35 = .ok (.ior, 1) := by decide +kernel
theorem dX6_imageOf_36 : decode cX6_imageOf 36 = .ok (.istore_n 3, 1) := by decide +kernel
theorem dX6_imageOf_37 : decode cX6_imageOf 37 = .ok (.iinc 4 1, 3) := by decide +kernel
theorem dX6_imageOf_40 : decode cX6_imageOf 40 = .ok (.goto (-35), 3) := by decide +kernel
theorem dX6_imageOf_43 : decode cX6_imageOf 43 = .ok (.iload_n 3, 1) := by decide +kernel
theorem dX6_imageOf_44 : decode cX6_imageOf 44 = .ok (.ireturn, 1) := by decide +kernel
theorem dX6_cuts_0 : decode cX6_cuts 0 = .ok (.aload_n 0, 1) := by decide +kernel
theorem dX6_cuts_1 : decode cX6_cuts 1 = .ok (.getfield 55, 3) := by decide +kernel
theorem dX6_cuts_4 : decode cX6_cuts 4 = .ok (.ifCond .ne 5, 3) := by decide +kernel
theorem dX6_cuts_7 : decode cX6_cuts 7 = .ok (.iconst 0, 1) := by decide +kernel
theorem dX6_cuts_8 : decode cX6_cuts 8 = .ok (.ireturn, 1) := by decide +kernel
theorem dX6_cuts_9 : decode cX6_cuts 9 = .ok (.iconst 0, 1) := by decide +kernel
theorem dX6_cuts_10 : decode cX6_cuts 10 = .ok (.istore_n 2, 1) := by decide +kernel
theorem dX6_cuts_11 : decode cX6_cuts 11 = .ok (.iload_n 2, 1) := by decide +kernel
theorem dX6_cuts_12 : decode cX6_cuts 12 = .ok (.iload_n 1, 1) := by decide +kernel
theorem dX6_cuts_13 : decode cX6_cuts 13 = .ok (.if_icmp .ge 32, 3) := by decide +kernel
theorem dX6_cuts_16 : decode cX6_cuts 16 = .ok (.aload_n 0, 1) := by decide +kernel
theorem dX6_cuts_17 : decode cX6_cuts 17 = .ok (.getfield 58, 3) := by decide +kernel
theorem dX6_cuts_20 : decode cX6_cuts 20 = .ok (.getfield 61, 3) := by decide +kernel
theorem dX6_cuts_23 : decode cX6_cuts 23 = .ok (.iload_n 2, 1) := by decide +kernel
theorem dX6_cuts_24 : decode cX6_cuts 24 = .ok (.iaload, 1) := by decide +kernel
theorem dX6_cuts_25 : decode cX6_cuts 25 = .ok (.aload_n 0, 1) := by decide +kernel
theorem dX6_cuts_26 : decode cX6_cuts 26 = .ok (.getfield 64, 3) := by decide +kernel
theorem dX6_cuts_29 : decode cX6_cuts 29 = .ok (.getfield 61, 3) := by decide +kernel
theorem dX6_cuts_32 : decode cX6_cuts 32 = .ok (.iload_n 2, 1) := by decide +kernel
theorem dX6_cuts_33 : decode cX6_cuts 33 = .ok (.iaload, 1) := by decide +kernel
theorem dX6_cuts_34 : decode cX6_cuts 34 = .ok (.if_icmp .eq 5, 3) := by decide +kernel
theorem dX6_cuts_37 : decode cX6_cuts 37 = .ok (.iconst 0, 1) := by decide +kernel
theorem dX6_cuts_38 : decode cX6_cuts 38 = .ok (.ireturn, 1) := by decide +kernel
theorem dX6_cuts_39 : decode cX6_cuts 39 = .ok (.iinc 2 1, 3) := by decide +kernel
theorem dX6_cuts_42 : decode cX6_cuts 42 = .ok (.goto (-31), 3) := by decide +kernel
theorem dX6_cuts_45 : decode cX6_cuts 45 = .ok (.aload_n 0, 1) := by decide +kernel
theorem dX6_cuts_46 : decode cX6_cuts 46 = .ok (.getfield 58, 3) := by decide +kernel
theorem dX6_cuts_49 : decode cX6_cuts 49 = .ok (.getfield 61, 3) := by decide +kernel
theorem dX6_cuts_52 : decode cX6_cuts 52 = .ok (.iload_n 1, 1) := by decide +kernel
theorem dX6_cuts_53 : decode cX6_cuts 53 = .ok (.iaload, 1) := by decide +kernel
theorem dX6_cuts_54 : decode cX6_cuts 54 = .ok (.aload_n 0, 1) := by decide +kernel
theorem dX6_cuts_55 : decode cX6_cuts 55 = .ok (.getfield 64, 3) := by decide +kernel
theorem dX6_cuts_58 : decode cX6_cuts 58 = .ok (.getfield 61, 3) := by decide +kernel
theorem dX6_cuts_61 : decode cX6_cuts 61 = .ok (.iload_n 1, 1) := by decide +kernel
theorem dX6_cuts_62 : decode cX6_cuts 62 = .ok (.iaload, 1) := by decide +kernel
theorem dX6_cuts_63 : decode cX6_cuts 63 = .ok (.if_icmp .le 7, 3) := by decide +kernel
theorem dX6_cuts_66 : decode cX6_cuts 66 = .ok (.iconst 1, 1) := by decide +kernel
theorem dX6_cuts_67 : decode cX6_cuts 67 = .ok (.goto 4, 3) := by decide +kernel
theorem dX6_cuts_70 : decode cX6_cuts 70 = .ok (.iconst 0, 1) := by decide +kernel
theorem dX6_cuts_71 : decode cX6_cuts 71 = .ok (.ireturn, 1) := by decide +kernel
theorem dX6_reach_0 : decode cX6_reach 0 = .ok (.aload_n 0, 1) := by decide +kernel
theorem dX6_reach_1 : decode cX6_reach 1 = .ok (.getfield 55, 3) := by decide +kernel
theorem dX6_reach_4 : decode cX6_reach 4 = .ok (.iconst 1, 1) := by decide +kernel
theorem dX6_reach_5 : decode cX6_reach 5 = .ok (.if_icmp .ne 17, 3) := by decide +kernel
theorem dX6_reach_8 : decode cX6_reach 8 = .ok (.aload_n 0, 1) := by decide +kernel
theorem dX6_reach_9 : decode cX6_reach 9 = .ok (.getfield 25, 3) := by decide +kernel
theorem dX6_reach_12 : decode cX6_reach 12 = .ok (.aload_n 0, 1) := by decide +kernel
theorem dX6_reach_13 : decode cX6_reach 13 = .ok (.getfield 58, 3) := by decide +kernel
theorem dX6_reach_16 : decode cX6_reach 16 = .ok (.invokevirtual 67, 3) := by decide +kernel
theorem dX6_reach_19 : decode cX6_reach 19 = .ok (.goto 26, 3) := by decide +kernel
theorem dX6_reach_22 : decode cX6_reach 22 = .ok (.aload_n 0, 1) := by decide +kernel
theorem dX6_reach_23 : decode cX6_reach 23 = .ok (.getfield 58, 3) := by decide +kernel
theorem dX6_reach_26 : decode cX6_reach 26 = .ok (.aload_n 0, 1) := by decide +kernel
theorem dX6_reach_27 : decode cX6_reach 27 = .ok (.getfield 25, 3) := by decide +kernel
theorem dX6_reach_30 : decode cX6_reach 30 = .ok (.invokevirtual 71, 3) := by decide +kernel
theorem dX6_reach_33 : decode cX6_reach 33 = .ok (.ifCond .ne 12, 3) := by decide +kernel
theorem dX6_reach_36 : decode cX6_reach 36 = .ok (.aload_n 0, 1) := by decide +kernel
theorem dX6_reach_37 : decode cX6_reach 37 = .ok (.aload_n 0, 1) := by decide +kernel
theorem dX6_reach_38 : decode cX6_reach 38 = .ok (.getfield 25, 3) := by decide +kernel
theorem dX6_reach_41 : decode cX6_reach 41 = .ok (.invokevirtual 75, 3) := by decide +kernel
theorem dX6_reach_44 : decode cX6_reach 44 = .ok (.return_, 1) := by decide +kernel
theorem dX6_reach_45 : decode cX6_reach 45 = .ok (.aload_n 0, 1) := by decide +kernel
theorem dX6_reach_46 : decode cX6_reach 46 = .ok (.getfield 55, 3) := by decide +kernel
theorem dX6_reach_49 : decode cX6_reach 49 = .ok (.iconst 1, 1) := by decide +kernel
theorem dX6_reach_50 : decode cX6_reach 50 = .ok (.if_icmp .ne 7, 3) := by decide +kernel
theorem dX6_reach_53 : decode cX6_reach 53 = .ok (.iconst (-1), 1) := by decide +kernel
theorem dX6_reach_54 : decode cX6_reach 54 = .ok (.goto 14, 3) := by decide +kernel
theorem dX6_reach_57 : decode cX6_reach 57 = .ok (.aload_n 0, 1) := by decide +kernel
theorem dX6_reach_58 : decode cX6_reach 58 = .ok (.getfield 58, 3) := by decide +kernel
theorem dX6_reach_61 : decode cX6_reach 61 = .ok (.aload_n 0, 1) := by decide +kernel
theorem dX6_reach_62 : decode cX6_reach 62 = .ok (.getfield 64, 3) := by decide +kernel
theorem dX6_reach_65 : decode cX6_reach 65 = .ok (.invokevirtual 71, 3) := by decide +kernel
theorem dX6_reach_68 : decode cX6_reach 68 = .ok (.istore_n 1, 1) := by decide +kernel
theorem dX6_reach_69 : decode cX6_reach 69 = .ok (.iload_n 1, 1) := by decide +kernel
theorem dX6_reach_70 : decode cX6_reach 70 = .ok (.ifCond .ge 27, 3) := by decide +kernel
theorem dX6_reach_73 : decode cX6_reach 73 = .ok (.aload_n 0, 1) := by decide +kernel
theorem dX6_reach_74 : decode cX6_reach 74 = .ok (.getfield 64, 3) := by decide +kernel
theorem dX6_reach_77 : decode cX6_reach 77 = .ok (.aload_n 0, 1) := by decide +kernel
theorem dX6_reach_78 : decode cX6_reach 78 = .ok (.getfield 58, 3) := by decide +kernel
theorem dX6_reach_81 : decode cX6_reach 81 = .ok (.invokevirtual 67, 3) := by decide +kernel
theorem dX6_reach_84 : decode cX6_reach 84 = .ok (.aload_n 0, 1) := by decide +kernel
theorem dX6_reach_85 : decode cX6_reach 85 = .ok (.dup, 1) := by decide +kernel
theorem dX6_reach_86 : decode cX6_reach 86 = .ok (.getfield 15, 3) := by decide +kernel
theorem dX6_reach_89 : decode cX6_reach 89 = .ok (.iconst 1, 1) := by decide +kernel
theorem dX6_reach_90 : decode cX6_reach 90 = .ok (.iadd, 1) := by decide +kernel
theorem dX6_reach_91 : decode cX6_reach 91 = .ok (.putfield 15, 3) := by decide +kernel
theorem dX6_reach_94 : decode cX6_reach 94 = .ok (.goto 15, 3) := by decide +kernel
theorem dX6_reach_97 : decode cX6_reach 97 = .ok (.iload_n 1, 1) := by decide +kernel
theorem dX6_reach_98 : decode cX6_reach 98 = .ok (.ifCond .ne 11, 3) := by decide +kernel
theorem dX6_reach_101 : decode cX6_reach 101 = .ok (.aload_n 0, 1) := by decide +kernel
theorem dX6_reach_102 : decode cX6_reach 102 = .ok (.aload_n 0, 1) := by decide +kernel
theorem dX6_reach_103 : decode cX6_reach 103 = .ok (.getfield 64, 3) := by decide +kernel
theorem dX6_reach_106 : decode cX6_reach 106 = .ok (.invokevirtual 75, 3) := by decide +kernel
theorem dX6_reach_109 : decode cX6_reach 109 = .ok (.return_, 1) := by decide +kernel
theorem dX6_note_0 : decode cX6_note 0 = .ok (.aload_n 0, 1) := by decide +kernel
theorem dX6_note_1 : decode cX6_note 1 = .ok (.getfield 9, 3) := by decide +kernel
theorem dX6_note_4 : decode cX6_note 4 = .ok (.sipush 5040, 3) := by decide +kernel
theorem dX6_note_7 : decode cX6_note 7 = .ok (.if_icmp .lt 4, 3) := by decide +kernel
theorem dX6_note_10 : decode cX6_note 10 = .ok (.return_, 1) := by decide +kernel
theorem dX6_note_11 : decode cX6_note 11 = .ok (.iconst 0, 1) := by decide +kernel
theorem dX6_note_12 : decode cX6_note 12 = .ok (.istore_n 2, 1) := by decide +kernel
theorem dX6_note_13 : decode cX6_note 13 = .ok (.iconst 0, 1) := by decide +kernel
theorem dX6_note_14 : decode cX6_note 14 = .ok (.istore_n 3, 1) := by decide +kernel
theorem dX6_note_15 : decode cX6_note 15 = .ok (.iload_n 3, 1) := by decide +kernel
theorem dX6_note_16 : decode cX6_note 16 = .ok (.aload_n 0, 1) := by decide +kernel
theorem dX6_note_17 : decode cX6_note 17 = .ok (.getfield 43, 3) := by decide +kernel
theorem dX6_note_20 : decode cX6_note 20 = .ok (.getfield 47, 3) := by decide +kernel
theorem dX6_note_23 : decode cX6_note 23 = .ok (.if_icmp .ge 30, 3) := by decide +kernel
theorem dX6_note_26 : decode cX6_note 26 = .ok (.iload_n 2, 1) := by decide +kernel
theorem dX6_note_27 : decode cX6_note 27 = .ok (.aload_n 0, 1) := by decide +kernel
theorem dX6_note_28 : decode cX6_note 28 = .ok (.getfield 58, 3) := by decide +kernel
theorem dX6_note_31 : decode cX6_note 31 = .ok (.getfield 78, 3) := by decide +kernel
theorem dX6_note_34 : decode cX6_note 34 = .ok (.iload_n 3, 1) := by decide +kernel
theorem dX6_note_35 : decode cX6_note 35 = .ok (.iaload, 1) := by decide +kernel
theorem dX6_note_36 : decode cX6_note 36 = .ok (.iconst 3, 1) := by decide +kernel
theorem dX6_note_37 : decode cX6_note 37 = .ok (.aload_n 1, 1) := by decide +kernel
theorem dX6_note_38 : decode cX6_note 38 = .ok (.getfield 78, 3) := by decide +kernel
theorem dX6_note_41 : decode cX6_note 41 = .ok (.iload_n 3, 1) := by decide +kernel
theorem dX6_note_42 : decode cX6_note 42 = .ok (.iaload, 1) := by decide +kernel
theorem dX6_note_43 : decode cX6_note 43 = .ok (.imul, 1) := by decide +kernel
theorem dX6_note_44 : decode cX6_note 44 = .ok (.ishl, 1) := by decide +kernel
theorem dX6_note_45 : decode cX6_note 45 = .ok (.ior, 1) := by decide +kernel
theorem dX6_note_46 : decode cX6_note 46 = .ok (.istore_n 2, 1) := by decide +kernel
theorem dX6_note_47 : decode cX6_note 47 = .ok (.iinc 3 1, 3) := by decide +kernel
theorem dX6_note_50 : decode cX6_note 50 = .ok (.goto (-35), 3) := by decide +kernel
theorem dX6_note_53 : decode cX6_note 53 = .ok (.aload_n 0, 1) := by decide +kernel
theorem dX6_note_54 : decode cX6_note 54 = .ok (.getfield 18, 3) := by decide +kernel
theorem dX6_note_57 : decode cX6_note 57 = .ok (.aload_n 0, 1) := by decide +kernel
theorem dX6_note_58 : decode cX6_note 58 = .ok (.getfield 9, 3) := by decide +kernel
theorem dX6_note_61 : decode cX6_note 61 = .ok (.iload_n 2, 1) := by decide +kernel
theorem dX6_note_62 : decode cX6_note 62 = .ok (.iastore, 1) := by decide +kernel
theorem dX6_note_63 : decode cX6_note 63 = .ok (.aload_n 0, 1) := by decide +kernel
theorem dX6_note_64 : decode cX6_note 64 = .ok (.dup, 1) := by decide +kernel
theorem dX6_note_65 : decode cX6_note 65 = .ok (.getfield 9, 3) := by decide +kernel
theorem dX6_note_68 : decode cX6_note 68 = .ok (.iconst 1, 1) := by decide +kernel
theorem dX6_note_69 : decode cX6_note 69 = .ok (.iadd, 1) := by decide +kernel
theorem dX6_note_70 : decode cX6_note 70 = .ok (.putfield 9, 3) := by decide +kernel
theorem dX6_note_73 : decode cX6_note 73 = .ok (.return_, 1) := by decide +kernel
theorem dX7_init_0 : decode cX7_init 0 = .ok (.aload_n 0, 1) := by decide +kernel
theorem dX7_init_1 : decode cX7_init 1 = .ok (.invokespecial 1, 3) := by decide +kernel
theorem dX7_init_4 : decode cX7_init 4 = .ok (.aload_n 0, 1) := by decide +kernel
theorem dX7_init_5 : decode cX7_init 5 = .ok (.iconst 0, 1) := by decide +kernel
theorem dX7_init_6 : decode cX7_init 6 = .ok (.putfield 7, 3) := by decide +kernel
theorem dX7_init_9 : decode cX7_init 9 = .ok (.aload_n 0, 1) := by decide +kernel
theorem dX7_init_10 : decode cX7_init 10 = .ok (.iconst 0, 1) := by decide +kernel
theorem dX7_init_11 : decode cX7_init 11 = .ok (.putfield 13, 3) := by decide +kernel
theorem dX7_init_14 : decode cX7_init 14 = .ok (.return_, 1) := by decide +kernel
theorem dX7_forget_0 : decode cX7_forget 0 = .ok (.aload_n 0, 1) := by decide +kernel
theorem dX7_forget_1 : decode cX7_forget 1 = .ok (.iconst 0, 1) := by decide +kernel
theorem dX7_forget_2 : decode cX7_forget 2 = .ok (.putfield 7, 3) := by decide +kernel
theorem dX7_forget_5 : decode cX7_forget 5 = .ok (.aload_n 0, 1) := by decide +kernel
theorem dX7_forget_6 : decode cX7_forget 6 = .ok (.iconst 0, 1) := by decide +kernel
theorem dX7_forget_7 : decode cX7_forget 7 = .ok (.putfield 13, 3) := by decide +kernel
theorem dX7_forget_10 : decode cX7_forget 10 = .ok (.return_, 1) := by decide +kernel
theorem dX7_skips_0 : decode cX7_skips 0 = .ok (.iconst 0, 1) := by decide +kernel
theorem dX7_skips_1 : decode cX7_skips 1 = .ok (.ireturn, 1) := by decide +kernel
theorem dX7_cuts_0 : decode cX7_cuts 0 = .ok (.iconst 0, 1) := by decide +kernel
theorem dX7_cuts_1 : decode cX7_cuts 1 = .ok (.ireturn, 1) := by decide +kernel
theorem dX7_reach_0 : decode cX7_reach 0 = .ok (.aload_n 0, 1) := by decide +kernel
theorem dX7_reach_1 : decode cX7_reach 1 = .ok (.aload_n 0, 1) := by decide +kernel
theorem dX7_reach_2 : decode cX7_reach 2 = .ok (.getfield 7, 3) := by decide +kernel
theorem dX7_reach_5 : decode cX7_reach 5 = .ok (.aload_n 0, 1) := by decide +kernel
theorem dX7_reach_6 : decode cX7_reach 6 = .ok (.getfield 16, 3) := by decide +kernel
theorem dX7_reach_9 : decode cX7_reach 9 = .ok (.getfield 20, 3) := by decide +kernel
theorem dX7_reach_12 : decode cX7_reach 12 = .ok (.invokestatic 25, 3) := by decide +kernel
theorem dX7_reach_15 : decode cX7_reach 15 = .ok (.putfield 7, 3) := by decide +kernel
theorem dX7_reach_18 : decode cX7_reach 18 = .ok (.aload_n 0, 1) := by decide +kernel
theorem dX7_reach_19 : decode cX7_reach 19 = .ok (.getfield 31, 3) := by decide +kernel
theorem dX7_reach_22 : decode cX7_reach 22 = .ok (.iconst 1, 1) := by decide +kernel
theorem dX7_reach_23 : decode cX7_reach 23 = .ok (.if_icmp .ne 7, 3) := by decide +kernel
theorem dX7_reach_26 : decode cX7_reach 26 = .ok (.iconst (-1), 1) := by decide +kernel
theorem dX7_reach_27 : decode cX7_reach 27 = .ok (.goto 14, 3) := by decide +kernel
theorem dX7_reach_30 : decode cX7_reach 30 = .ok (.aload_n 0, 1) := by decide +kernel
theorem dX7_reach_31 : decode cX7_reach 31 = .ok (.getfield 16, 3) := by decide +kernel
theorem dX7_reach_34 : decode cX7_reach 34 = .ok (.aload_n 0, 1) := by decide +kernel
theorem dX7_reach_35 : decode cX7_reach 35 = .ok (.getfield 34, 3) := by decide +kernel
theorem dX7_reach_38 : decode cX7_reach 38 = .ok (.invokevirtual 37, 3) := by decide +kernel
theorem dX7_reach_41 : decode cX7_reach 41 = .ok (.istore_n 1, 1) := by decide +kernel
theorem dX7_reach_42 : decode cX7_reach 42 = .ok (.iload_n 1, 1) := by decide +kernel
theorem dX7_reach_43 : decode cX7_reach 43 = .ok (.ifCond .ge 22, 3) := by decide +kernel
theorem dX7_reach_46 : decode cX7_reach 46 = .ok (.aload_n 0, 1) := by decide +kernel
theorem dX7_reach_47 : decode cX7_reach 47 = .ok (.getfield 34, 3) := by decide +kernel
theorem dX7_reach_50 : decode cX7_reach 50 = .ok (.aload_n 0, 1) := by decide +kernel
theorem dX7_reach_51 : decode cX7_reach 51 = .ok (.getfield 16, 3) := by decide +kernel
theorem dX7_reach_54 : decode cX7_reach 54 = .ok (.invokevirtual 41, 3) := by decide +kernel
theorem dX7_reach_57 : decode cX7_reach 57 = .ok (.aload_n 0, 1) := by decide +kernel
theorem dX7_reach_58 : decode cX7_reach 58 = .ok (.iconst 1, 1) := by decide +kernel
theorem dX7_reach_59 : decode cX7_reach 59 = .ok (.putfield 13, 3) := by decide +kernel
theorem dX7_reach_62 : decode cX7_reach 62 = .ok (.goto 17, 3) := by decide +kernel
theorem dX7_reach_65 : decode cX7_reach 65 = .ok (.iload_n 1, 1) := by decide +kernel
theorem dX7_reach_66 : decode cX7_reach 66 = .ok (.ifCond .ne 13, 3) := by decide +kernel
theorem dX7_reach_69 : decode cX7_reach 69 = .ok (.aload_n 0, 1) := by decide +kernel
theorem dX7_reach_70 : decode cX7_reach 70 = .ok (.dup, 1) := by decide +kernel
theorem dX7_reach_71 : decode cX7_reach 71 = .ok (.getfield 13, 3) := by decide +kernel
theorem dX7_reach_74 : decode cX7_reach 74 = .ok (.iconst 1, 1) := by decide +kernel
theorem dX7_reach_75 : decode cX7_reach 75 = .ok (.iadd, 1) := by decide +kernel
theorem dX7_reach_76 : decode cX7_reach 76 = .ok (.putfield 13, 3) := by decide +kernel
theorem dX7_reach_79 : decode cX7_reach 79 = .ok (.return_, 1) := by decide +kernel
theorem dX8_init_0 : decode cX8_init 0 = .ok (.aload_n 0, 1) := by decide +kernel
theorem dX8_init_1 : decode cX8_init 1 = .ok (.invokespecial 3, 3) := by decide +kernel
theorem dX8_init_4 : decode cX8_init 4 = .ok (.aload_n 0, 1) := by decide +kernel
theorem dX8_init_5 : decode cX8_init 5 = .ok (.new 9, 3) := by decide +kernel
theorem dX8_init_8 : decode cX8_init 8 = .ok (.dup, 1) := by decide +kernel
theorem dX8_init_9 : decode cX8_init 9 = .ok (.invokespecial 11, 3) := by decide +kernel
theorem dX8_init_12 : decode cX8_init 12 = .ok (.putfield 12, 3) := by decide +kernel
theorem dX8_init_15 : decode cX8_init 15 = .ok (.aload_n 0, 1) := by decide +kernel
theorem dX8_init_16 : decode cX8_init 16 = .ok (.bipush 7, 2) := by decide +kernel
theorem dX8_init_18 : decode cX8_init 18 = .ok (.anewarray 18, 3) := by decide +kernel
theorem dX8_init_21 : decode cX8_init 21 = .ok (.putfield 20, 3) := by decide +kernel
theorem dX8_init_24 : decode cX8_init 24 = .ok (.aload_n 0, 1) := by decide +kernel
theorem dX8_init_25 : decode cX8_init 25 = .ok (.new 24, 3) := by decide +kernel
theorem dX8_init_28 : decode cX8_init 28 = .ok (.dup, 1) := by decide +kernel
theorem dX8_init_29 : decode cX8_init 29 = .ok (.invokespecial 26, 3) := by decide +kernel
theorem dX8_init_32 : decode cX8_init 32 = .ok (.putfield 27, 3) := by decide +kernel
theorem dX8_init_35 : decode cX8_init 35 = .ok (.aload_n 0, 1) := by decide +kernel
theorem dX8_init_36 : decode cX8_init 36 = .ok (.new 24, 3) := by decide +kernel
theorem dX8_init_39 : decode cX8_init 39 = .ok (.dup, 1) := by decide +kernel
theorem dX8_init_40 : decode cX8_init 40 = .ok (.invokespecial 26, 3) := by decide +kernel
theorem dX8_init_43 : decode cX8_init 43 = .ok (.putfield 31, 3) := by decide +kernel
theorem dX8_init_46 : decode cX8_init 46 = .ok (.aload_n 0, 1) := by decide +kernel
theorem dX8_init_47 : decode cX8_init 47 = .ok (.iconst 0, 1) := by decide +kernel
theorem dX8_init_48 : decode cX8_init 48 = .ok (.putfield 34, 3) := by decide +kernel
theorem dX8_init_51 : decode cX8_init 51 = .ok (.aload_n 0, 1) := by decide +kernel
theorem dX8_init_52 : decode cX8_init 52 = .ok (.iconst 0, 1) := by decide +kernel
theorem dX8_init_53 : decode cX8_init 53 = .ok (.putfield 38, 3) := by decide +kernel
theorem dX8_init_56 : decode cX8_init 56 = .ok (.aload_n 0, 1) := by decide +kernel
theorem dX8_init_57 : decode cX8_init 57 = .ok (.iconst 0, 1) := by decide +kernel
theorem dX8_init_58 : decode cX8_init 58 = .ok (.putfield 41, 3) := by decide +kernel
theorem dX8_init_61 : decode cX8_init 61 = .ok (.aload_n 0, 1) := by decide +kernel
theorem dX8_init_62 : decode cX8_init 62 = .ok (.iconst 0, 1) := by decide +kernel
theorem dX8_init_63 : decode cX8_init 63 = .ok (.putfield 44, 3) := by decide +kernel
theorem dX8_init_66 : decode cX8_init 66 = .ok (.aload_n 0, 1) := by decide +kernel
theorem dX8_init_67 : decode cX8_init 67 = .ok (.iconst 0, 1) := by decide +kernel
theorem dX8_init_68 : decode cX8_init 68 = .ok (.putfield 47, 3) := by decide +kernel
theorem dX8_init_71 : decode cX8_init 71 = .ok (.iconst 0, 1) := by decide +kernel
theorem dX8_init_72 : decode cX8_init 72 = .ok (.istore_n 1, 1) := by decide +kernel
theorem dX8_init_73 : decode cX8_init 73 = .ok (.iload_n 1, 1) := by decide +kernel
theorem dX8_init_74 : decode cX8_init 74 = .ok (.bipush 7, 2) := by decide +kernel
theorem dX8_init_76 : decode cX8_init 76 = .ok (.if_icmp .ge 22, 3) := by decide +kernel
theorem dX8_init_79 : decode cX8_init 79 = .ok (.aload_n 0, 1) := by decide +kernel
theorem dX8_init_80 : decode cX8_init 80 = .ok (.getfield 20, 3) := by decide +kernel
theorem dX8_init_83 : decode cX8_init 83 = .ok (.iload_n 1, 1) := by decide +kernel
theorem dX8_init_84 : decode cX8_init 84 = .ok (.new 18, 3) := by decide +kernel
theorem dX8_init_87 : decode cX8_init 87 = .ok (.dup, 1) := by decide +kernel
theorem dX8_init_88 : decode cX8_init 88 = .ok (.invokespecial 51, 3) := by decide +kernel
theorem dX8_init_91 : decode cX8_init 91 = .ok (.aastore, 1) := by decide +kernel
theorem dX8_init_92 : decode cX8_init 92 = .ok (.iinc 1 1, 3) := by decide +kernel
theorem dX8_init_95 : decode cX8_init 95 = .ok (.goto (-22), 3) := by decide +kernel
theorem dX8_init_98 : decode cX8_init 98 = .ok (.return_, 1) := by decide +kernel
theorem dX8_look_0 : decode cX8_look 0 = .ok (.aload_n 0, 1) := by decide +kernel
theorem dX8_look_1 : decode cX8_look 1 = .ok (.getfield 47, 3) := by decide +kernel
theorem dX8_look_4 : decode cX8_look 4 = .ok (.ifCond .eq 15, 3) := by decide +kernel
theorem dX8_look_7 : decode cX8_look 7 = .ok (.aload_n 0, 1) := by decide +kernel
theorem dX8_look_8 : decode cX8_look 8 = .ok (.getfield 12, 3) := by decide +kernel
theorem dX8_look_11 : decode cX8_look 11 = .ok (.aload_n 1, 1) := by decide +kernel
theorem dX8_look_12 : decode cX8_look 12 = .ok (.invokevirtual 52, 3) := by decide +kernel
theorem dX8_look_15 : decode cX8_look 15 = .ok (.ifCond .eq 4, 3) := by decide +kernel
theorem dX8_look_18 : decode cX8_look 18 = .ok (.return_, 1) := by decide +kernel
theorem dX8_look_19 : decode cX8_look 19 = .ok (.aload_n 0, 1) := by decide +kernel
theorem dX8_look_20 : decode cX8_look 20 = .ok (.iconst 1, 1) := by decide +kernel
theorem dX8_look_21 : decode cX8_look 21 = .ok (.putfield 47, 3) := by decide +kernel
theorem dX8_look_24 : decode cX8_look 24 = .ok (.aload_n 0, 1) := by decide +kernel
theorem dX8_look_25 : decode cX8_look 25 = .ok (.getfield 12, 3) := by decide +kernel
theorem dX8_look_28 : decode cX8_look 28 = .ok (.aload_n 1, 1) := by decide +kernel
theorem dX8_look_29 : decode cX8_look 29 = .ok (.invokevirtual 56, 3) := by decide +kernel
theorem dX8_look_32 : decode cX8_look 32 = .ok (.aload_n 0, 1) := by decide +kernel
theorem dX8_look_33 : decode cX8_look 33 = .ok (.iconst 0, 1) := by decide +kernel
theorem dX8_look_34 : decode cX8_look 34 = .ok (.putfield 34, 3) := by decide +kernel
theorem dX8_look_37 : decode cX8_look 37 = .ok (.aload_n 0, 1) := by decide +kernel
theorem dX8_look_38 : decode cX8_look 38 = .ok (.iconst 0, 1) := by decide +kernel
theorem dX8_look_39 : decode cX8_look 39 = .ok (.putfield 38, 3) := by decide +kernel
theorem dX8_look_42 : decode cX8_look 42 = .ok (.aload_n 0, 1) := by decide +kernel
theorem dX8_look_43 : decode cX8_look 43 = .ok (.iconst 0, 1) := by decide +kernel
theorem dX8_look_44 : decode cX8_look 44 = .ok (.putfield 41, 3) := by decide +kernel
theorem dX8_look_47 : decode cX8_look 47 = .ok (.aload_n 0, 1) := by decide +kernel
theorem dX8_look_48 : decode cX8_look 48 = .ok (.iconst 0, 1) := by decide +kernel
theorem dX8_look_49 : decode cX8_look 49 = .ok (.putfield 44, 3) := by decide +kernel
theorem dX8_look_52 : decode cX8_look 52 = .ok (.aload_n 0, 1) := by decide +kernel
theorem dX8_look_53 : decode cX8_look 53 = .ok (.invokevirtual 60, 3) := by decide +kernel
theorem dX8_look_56 : decode cX8_look 56 = .ok (.aload_n 0, 1) := by decide +kernel
theorem dX8_look_57 : decode cX8_look 57 = .ok (.getfield 20, 3) := by decide +kernel
theorem dX8_look_60 : decode cX8_look 60 = .ok (.iconst 0, 1) := by decide +kernel
theorem dX8_look_61 : decode cX8_look 61 = .ok (.aaload, 1) := by decide +kernel
theorem dX8_look_62 : decode cX8_look 62 = .ok (.aload_n 0, 1) := by decide +kernel
theorem dX8_look_63 : decode cX8_look 63 = .ok (.getfield 12, 3) := by decide +kernel
theorem dX8_look_66 : decode cX8_look 66 = .ok (.invokevirtual 63, 3) := by decide +kernel
theorem dX8_look_69 : decode cX8_look 69 = .ok (.aload_n 0, 1) := by decide +kernel
theorem dX8_look_70 : decode cX8_look 70 = .ok (.getfield 27, 3) := by decide +kernel
theorem dX8_look_73 : decode cX8_look 73 = .ok (.getfield 66, 3) := by decide +kernel
theorem dX8_look_76 : decode cX8_look 76 = .ok (.iconst 0, 1) := by decide +kernel
theorem dX8_look_77 : decode cX8_look 77 = .ok (.aload_n 0, 1) := by decide +kernel
theorem dX8_look_78 : decode cX8_look 78 = .ok (.getfield 20, 3) := by decide +kernel
theorem dX8_look_81 : decode cX8_look 81 = .ok (.iconst 0, 1) := by decide +kernel
theorem dX8_look_82 : decode cX8_look 82 = .ok (.aaload, 1) := by decide +kernel
theorem dX8_look_83 : decode cX8_look 83 = .ok (.invokevirtual 70, 3) := by decide +kernel
theorem dX8_look_86 : decode cX8_look 86 = .ok (.iastore, 1) := by decide +kernel
theorem dX8_look_87 : decode cX8_look 87 = .ok (.aload_n 0, 1) := by decide +kernel
theorem dX8_look_88 : decode cX8_look 88 = .ok (.iconst 0, 1) := by decide +kernel
theorem dX8_look_89 : decode cX8_look 89 = .ok (.iconst 0, 1) := by decide +kernel
theorem dX8_look_90 : decode cX8_look 90 = .ok (.invokevirtual 74, 3) := by decide +kernel
theorem dX8_look_93 : decode cX8_look 93 = .ok (.return_, 1) := by decide +kernel
theorem dX8_come_0 : decode cX8_come 0 = .ok (.aload_n 0, 1) := by decide +kernel
theorem dX8_come_1 : decode cX8_come 1 = .ok (.dup, 1) := by decide +kernel
theorem dX8_come_2 : decode cX8_come 2 = .ok (.getfield 34, 3) := by decide +kernel
theorem dX8_come_5 : decode cX8_come 5 = .ok (.iconst 1, 1) := by decide +kernel
theorem dX8_come_6 : decode cX8_come 6 = .ok (.iadd, 1) := by decide +kernel
theorem dX8_come_7 : decode cX8_come 7 = .ok (.putfield 34, 3) := by decide +kernel
theorem dX8_come_10 : decode cX8_come 10 = .ok (.aload_n 0, 1) := by decide +kernel
theorem dX8_come_11 : decode cX8_come 11 = .ok (.getfield 20, 3) := by decide +kernel
theorem dX8_come_14 : decode cX8_come 14 = .ok (.iload_n 1, 1) := by decide +kernel
theorem dX8_come_15 : decode cX8_come 15 = .ok (.aaload, 1) := by decide +kernel
theorem dX8_come_16 : decode cX8_come 16 = .ok (.invokevirtual 78, 3) := by decide +kernel
theorem dX8_come_19 : decode cX8_come 19 = .ok (.istore_n 3, 1) := by decide +kernel
theorem dX8_come_20 : decode cX8_come 20 = .ok (.iload_n 3, 1) := by decide +kernel
theorem dX8_come_21 : decode cX8_come 21 = .ok (.ifCond .eq 11, 3) := by decide +kernel
theorem dX8_come_24 : decode cX8_come 24 = .ok (.iload_n 1, 1) := by decide +kernel
theorem dX8_come_25 : decode cX8_come 25 = .ok (.iconst 1, 1) := by decide +kernel
theorem dX8_come_26 : decode cX8_come 26 = .ok (.iadd, 1) := by decide +kernel
theorem dX8_come_27 : decode cX8_come 27 = .ok (.bipush 7, 2) := by decide +kernel
theorem dX8_come_29 : decode cX8_come 29 = .ok (.if_icmp .lt 36, 3) := by decide +kernel
theorem dX8_come_32 : decode cX8_come 32 = .ok (.aload_n 0, 1) := by decide +kernel
theorem dX8_come_33 : decode cX8_come 33 = .ok (.dup, 1) := by decide +kernel
theorem dX8_come_34 : decode cX8_come 34 = .ok (.getfield 38, 3) := by decide +kernel
theorem dX8_come_37 : decode cX8_come 37 = .ok (.iconst 1, 1) := by decide +kernel
theorem dX8_come_38 : decode cX8_come 38 = .ok (.iadd, 1) := by decide +kernel
theorem dX8_come_39 : decode cX8_come 39 = .ok (.putfield 38, 3) := by decide +kernel
theorem dX8_come_42 : decode cX8_come 42 = .ok (.aload_n 0, 1) := by decide +kernel
theorem dX8_come_43 : decode cX8_come 43 = .ok (.getfield 27, 3) := by decide +kernel
theorem dX8_come_46 : decode cX8_come 46 = .ok (.aload_n 0, 1) := by decide +kernel
theorem dX8_come_47 : decode cX8_come 47 = .ok (.getfield 12, 3) := by decide +kernel
theorem dX8_come_50 : decode cX8_come 50 = .ok (.aload_n 0, 1) := by decide +kernel
theorem dX8_come_51 : decode cX8_come 51 = .ok (.getfield 20, 3) := by decide +kernel
theorem dX8_come_54 : decode cX8_come 54 = .ok (.iload_n 1, 1) := by decide +kernel
theorem dX8_come_55 : decode cX8_come 55 = .ok (.aaload, 1) := by decide +kernel
theorem dX8_come_56 : decode cX8_come 56 = .ok (.iload_n 1, 1) := by decide +kernel
theorem dX8_come_57 : decode cX8_come 57 = .ok (.invokevirtual 81, 3) := by decide +kernel
theorem dX8_come_60 : decode cX8_come 60 = .ok (.aload_n 0, 1) := by decide +kernel
theorem dX8_come_61 : decode cX8_come 61 = .ok (.invokevirtual 85, 3) := by decide +kernel
theorem dX8_come_64 : decode cX8_come 64 = .ok (.return_, 1) := by decide +kernel
theorem dX8_come_65 : decode cX8_come 65 = .ok (.aload_n 0, 1) := by decide +kernel
theorem dX8_come_66 : decode cX8_come 66 = .ok (.getfield 20, 3) := by decide +kernel
theorem dX8_come_69 : decode cX8_come 69 = .ok (.iload_n 1, 1) := by decide +kernel
theorem dX8_come_70 : decode cX8_come 70 = .ok (.iconst 1, 1) := by decide +kernel
theorem dX8_come_71 : decode cX8_come 71 = .ok (.iadd, 1) := by decide +kernel
theorem dX8_come_72 : decode cX8_come 72 = .ok (.aaload, 1) := by decide +kernel
theorem dX8_come_73 : decode cX8_come 73 = .ok (.astore 4, 2) := by decide +kernel
theorem dX8_come_75 : decode cX8_come 75 = .ok (.iconst 0, 1) := by decide +kernel
theorem dX8_come_76 : decode cX8_come 76 = .ok (.istore 5, 2) := by decide +kernel
theorem dX8_come_78 : decode cX8_come 78 = .ok (.iconst 0, 1) := by decide +kernel
theorem dX8_come_79 : decode cX8_come 79 = .ok (.istore 6, 2) := by decide +kernel
theorem dX8_come_81 : decode cX8_come 81 = .ok (.iload 6, 2) := by decide +kernel
theorem dX8_come_83 : decode cX8_come 83 = .ok (.aload_n 0, 1) := by decide +kernel
theorem dX8_come_84 : decode cX8_come 84 = .ok (.getfield 12, 3) := by decide +kernel
theorem dX8_come_87 : decode cX8_come 87 = .ok (.getfield 88, 3) := by decide +kernel
theorem dX8_come_90 : decode cX8_come 90 = .ok (.if_icmp .ge 134, 3) := by decide +kernel
theorem dX8_come_93 : decode cX8_come 93 = .ok (.iload_n 3, 1) := by decide +kernel
theorem dX8_come_94 : decode cX8_come 94 = .ok (.iload 6, 2) := by decide +kernel
theorem dX8_come_96 : decode cX8_come 96 = .ok (.invokestatic 91, 3) := by decide +kernel
theorem dX8_come_99 : decode cX8_come 99 = .ok (.ifCond .ne 6, 3) := by decide +kernel
theorem dX8_come_102 : decode cX8_come 102 = .ok (.goto 116, 3) := by decide +kernel
theorem dX8_come_105 : decode cX8_come 105 = .ok (.aload_n 0, 1) := by decide +kernel
theorem dX8_come_106 : decode cX8_come 106 = .ok (.iload 6, 2) := by decide +kernel
theorem dX8_come_108 : decode cX8_come 108 = .ok (.iload 5, 2) := by decide +kernel
theorem dX8_come_110 : decode cX8_come 110 = .ok (.iload_n 2, 1) := by decide +kernel
theorem dX8_come_111 : decode cX8_come 111 = .ok (.invokevirtual 95, 3) := by decide +kernel
theorem dX8_come_114 : decode cX8_come 114 = .ok (.ifCond .eq 16, 3) := by decide +kernel
theorem dX8_come_117 : decode cX8_come 117 = .ok (.aload_n 0, 1) := by decide +kernel
theorem dX8_come_118 : decode cX8_come 118 = .ok (.dup, 1) := by decide +kernel
theorem dX8_come_119 : decode cX8_come 119 = .ok (.getfield 44, 3) := by decide +kernel
theorem dX8_come_122 : decode cX8_come 122 = .ok (.iconst 1, 1) := by decide +kernel
theorem dX8_come_123 : decode cX8_come 123 = .ok (.iadd, 1) := by decide +kernel
theorem dX8_come_124 : decode cX8_come 124 = .ok (.putfield 44, 3) := by decide +kernel
theorem dX8_come_127 : decode cX8_come 127 = .ok (.goto 91, 3) := by decide +kernel
theorem dX8_come_130 : decode cX8_come 130 = .ok (.iload 5, 2) := by decide +kernel
theorem dX8_come_132 : decode cX8_come 132 = .ok (.iconst 1, 1) := by decide +kernel
theorem dX8_come_133 : decode cX8_come 133 = .ok (.iload 6, 2) := by decide +kernel
theorem dX8_come_135 : decode cX8_come 135 = .ok (.ishl, 1) := by decide +kernel
theorem dX8_come_136 : decode cX8_come 136 = .ok (.ior, 1) := by decide +kernel
theorem dX8_come_137 : decode cX8_come 137 = .ok (.istore 5, 2) := by decide +kernel
theorem dX8_come_139 : decode cX8_come 139 = .ok (.aload 4, 2) := by decide +kernel
theorem dX8_come_141 : decode cX8_come 141 = .ok (.aload_n 0, 1) := by decide +kernel
theorem dX8_come_142 : decode cX8_come 142 = .ok (.getfield 20, 3) := by decide +kernel
theorem dX8_come_145 : decode cX8_come 145 = .ok (.iload_n 1, 1) := by decide +kernel
theorem dX8_come_146 : decode cX8_come 146 = .ok (.aaload, 1) := by decide +kernel
theorem dX8_come_147 : decode cX8_come 147 = .ok (.invokevirtual 99, 3) := by decide +kernel
theorem dX8_come_150 : decode cX8_come 150 = .ok (.aload 4, 2) := by decide +kernel
theorem dX8_come_152 : decode cX8_come 152 = .ok (.iload 6, 2) := by decide +kernel
theorem dX8_come_154 : decode cX8_come 154 = .ok (.invokevirtual 102, 3) := by decide +kernel
theorem dX8_come_157 : decode cX8_come 157 = .ok (.aload 4, 2) := by decide +kernel
theorem dX8_come_159 : decode cX8_come 159 = .ok (.aload_n 0, 1) := by decide +kernel
theorem dX8_come_160 : decode cX8_come 160 = .ok (.getfield 12, 3) := by decide +kernel
theorem dX8_come_163 : decode cX8_come 163 = .ok (.invokevirtual 106, 3) := by decide +kernel
theorem dX8_come_166 : decode cX8_come 166 = .ok (.aload_n 0, 1) := by decide +kernel
theorem dX8_come_167 : decode cX8_come 167 = .ok (.getfield 27, 3) := by decide +kernel
theorem dX8_come_170 : decode cX8_come 170 = .ok (.getfield 66, 3) := by decide +kernel
theorem dX8_come_173 : decode cX8_come 173 = .ok (.iload_n 1, 1) := by decide +kernel
theorem dX8_come_174 : decode cX8_come 174 = .ok (.iconst 1, 1) := by decide +kernel
theorem dX8_come_175 : decode cX8_come 175 = .ok (.iadd, 1) := by decide +kernel
theorem dX8_come_176 : decode cX8_come 176 = .ok (.aload 4, 2) := by decide +kernel
theorem dX8_come_178 : decode cX8_come 178 = .ok (.invokevirtual 70, 3) := by decide +kernel
theorem dX8_come_181 : decode cX8_come 181 = .ok (.iastore, 1) := by decide +kernel
theorem dX8_come_182 : decode cX8_come 182 = .ok (.aload_n 0, 1) := by decide +kernel
theorem dX8_come_183 : decode cX8_come 183 = .ok (.iload_n 1, 1) := by decide +kernel
theorem dX8_come_184 : decode cX8_come 184 = .ok (.iconst 1, 1) := by decide +kernel
theorem dX8_come_185 : decode cX8_come 185 = .ok (.iadd, 1) := by decide +kernel
theorem dX8_come_186 : decode cX8_come 186 = .ok (.invokevirtual 109, 3) := by decide +kernel
theorem dX8_come_189 : decode cX8_come 189 = .ok (.ifCond .eq 16, 3) := by decide +kernel
theorem dX8_come_192 : decode cX8_come 192 = .ok (.aload_n 0, 1) := by decide +kernel
theorem dX8_come_193 : decode cX8_come 193 = .ok (.dup, 1) := by decide +kernel
theorem dX8_come_194 : decode cX8_come 194 = .ok (.getfield 41, 3) := by decide +kernel
theorem dX8_come_197 : decode cX8_come 197 = .ok (.iconst 1, 1) := by decide +kernel
theorem dX8_come_198 : decode cX8_come 198 = .ok (.iadd, 1) := by decide +kernel
theorem dX8_come_199 : decode cX8_come 199 = .ok (.putfield 41, 3) := by decide +kernel
theorem dX8_come_202 : decode cX8_come 202 = .ok (.goto 16, 3) := by decide +kernel
theorem dX8_come_205 : decode cX8_come 205 = .ok (.aload_n 0, 1) := by decide +kernel
theorem dX8_come_206 : decode cX8_come 206 = .ok (.iload_n 1, 1) := by decide +kernel
theorem dX8_come_207 : decode cX8_come 207 = .ok (.iconst 1, 1) := by decide +kernel
theorem dX8_come_208 : decode cX8_come 208 = .ok (.iadd, 1) := by decide +kernel
theorem dX8_come_209 : decode cX8_come 209 = .ok (.iload_n 2, 1) := by decide +kernel
theorem dX8_come_210 : decode cX8_come 210 = .ok (.iconst 1, 1) := by decide +kernel
theorem dX8_come_211 : decode cX8_come 211 = .ok (.iload 6, 2) := by decide +kernel
theorem dX8_come_213 : decode cX8_come 213 = .ok (.ishl, 1) := by decide +kernel
theorem dX8_come_214 : decode cX8_come 214 = .ok (.ior, 1) := by decide +kernel
theorem dX8_come_215 : decode cX8_come 215 = .ok (.invokevirtual 74, 3) := by decide +kernel
theorem dX8_come_218 : decode cX8_come 218 = .ok (.iinc 6 1, 3) := by decide +kernel
theorem dX8_come_221 : decode cX8_come 221 = .ok (.goto (-140), 3) := by decide +kernel
theorem dX8_come_224 : decode cX8_come 224 = .ok (.return_, 1) := by decide +kernel
theorem dX9_init_0 : decode cX9_init 0 = .ok (.aload_n 0, 1) := by decide +kernel
theorem dX9_init_1 : decode cX9_init 1 = .ok (.invokespecial 1, 3) := by decide +kernel
theorem dX9_init_4 : decode cX9_init 4 = .ok (.aload_n 0, 1) := by decide +kernel
theorem dX9_init_5 : decode cX9_init 5 = .ok (.iconst 3, 1) := by decide +kernel
theorem dX9_init_6 : decode cX9_init 6 = .ok (.anewarray 9, 3) := by decide +kernel
theorem dX9_init_9 : decode cX9_init 9 = .ok (.putfield 11, 3) := by decide +kernel
theorem dX9_init_12 : decode cX9_init 12 = .ok (.aload_n 0, 1) := by decide +kernel
theorem dX9_init_13 : decode cX9_init 13 = .ok (.iconst 3, 1) := by decide +kernel
theorem dX9_init_14 : decode cX9_init 14 = .ok (.anewarray 15, 3) := by decide +kernel
theorem dX9_init_17 : decode cX9_init 17 = .ok (.putfield 17, 3) := by decide +kernel
theorem dX9_init_20 : decode cX9_init 20 = .ok (.aload_n 0, 1) := by decide +kernel
theorem dX9_init_21 : decode cX9_init 21 = .ok (.iconst 3, 1) := by decide +kernel
theorem dX9_init_22 : decode cX9_init 22 = .ok (.anewarray 21, 3) := by decide +kernel
theorem dX9_init_25 : decode cX9_init 25 = .ok (.putfield 23, 3) := by decide +kernel
theorem dX9_init_28 : decode cX9_init 28 = .ok (.aload_n 0, 1) := by decide +kernel
theorem dX9_init_29 : decode cX9_init 29 = .ok (.new 27, 3) := by decide +kernel
theorem dX9_init_32 : decode cX9_init 32 = .ok (.dup, 1) := by decide +kernel
theorem dX9_init_33 : decode cX9_init 33 = .ok (.invokespecial 29, 3) := by decide +kernel
theorem dX9_init_36 : decode cX9_init 36 = .ok (.putfield 30, 3) := by decide +kernel
theorem dX9_init_39 : decode cX9_init 39 = .ok (.aload_n 0, 1) := by decide +kernel
theorem dX9_init_40 : decode cX9_init 40 = .ok (.new 34, 3) := by decide +kernel
theorem dX9_init_43 : decode cX9_init 43 = .ok (.dup, 1) := by decide +kernel
theorem dX9_init_44 : decode cX9_init 44 = .ok (.invokespecial 36, 3) := by decide +kernel
theorem dX9_init_47 : decode cX9_init 47 = .ok (.putfield 37, 3) := by decide +kernel
theorem dX9_init_50 : decode cX9_init 50 = .ok (.aload_n 0, 1) := by decide +kernel
theorem dX9_init_51 : decode cX9_init 51 = .ok (.bipush 6, 2) := by decide +kernel
theorem dX9_init_53 : decode cX9_init 53 = .ok (.anewarray 9, 3) := by decide +kernel
theorem dX9_init_56 : decode cX9_init 56 = .ok (.putfield 41, 3) := by decide +kernel
theorem dX9_init_59 : decode cX9_init 59 = .ok (.aload_n 0, 1) := by decide +kernel
theorem dX9_init_60 : decode cX9_init 60 = .ok (.iconst 2, 1) := by decide +kernel
theorem dX9_init_61 : decode cX9_init 61 = .ok (.newarray .boolean, 2) := by decide +kernel
theorem dX9_init_63 : decode cX9_init 63 = .ok (.putfield 44, 3) := by decide +kernel
theorem dX9_init_66 : decode cX9_init 66 = .ok (.aload_n 0, 1) := by decide +kernel
theorem dX9_init_67 : decode cX9_init 67 = .ok (.new 48, 3) := by decide +kernel
theorem dX9_init_70 : decode cX9_init 70 = .ok (.dup, 1) := by decide +kernel
theorem dX9_init_71 : decode cX9_init 71 = .ok (.invokespecial 50, 3) := by decide +kernel
theorem dX9_init_74 : decode cX9_init 74 = .ok (.putfield 51, 3) := by decide +kernel
theorem dX9_init_77 : decode cX9_init 77 = .ok (.aload_n 0, 1) := by decide +kernel
theorem dX9_init_78 : decode cX9_init 78 = .ok (.new 48, 3) := by decide +kernel
theorem dX9_init_81 : decode cX9_init 81 = .ok (.dup, 1) := by decide +kernel
theorem dX9_init_82 : decode cX9_init 82 = .ok (.invokespecial 50, 3) := by decide +kernel
theorem dX9_init_85 : decode cX9_init 85 = .ok (.putfield 55, 3) := by decide +kernel
theorem dX9_init_88 : decode cX9_init 88 = .ok (.aload_n 0, 1) := by decide +kernel
theorem dX9_init_89 : decode cX9_init 89 = .ok (.new 58, 3) := by decide +kernel
theorem dX9_init_92 : decode cX9_init 92 = .ok (.dup, 1) := by decide +kernel
theorem dX9_init_93 : decode cX9_init 93 = .ok (.invokespecial 60, 3) := by decide +kernel
theorem dX9_init_96 : decode cX9_init 96 = .ok (.putfield 61, 3) := by decide +kernel
theorem dX9_init_99 : decode cX9_init 99 = .ok (.aload_n 0, 1) := by decide +kernel
theorem dX9_init_100 : decode cX9_init 100 = .ok (.new 9, 3) := by decide +kernel
theorem dX9_init_103 : decode cX9_init 103 = .ok (.dup, 1) := by decide +kernel
theorem dX9_init_104 : decode cX9_init 104 = .ok (.invokespecial 65, 3) := by decide +kernel
theorem dX9_init_107 : decode cX9_init 107 = .ok (.putfield 66, 3) := by decide +kernel
theorem dX9_init_110 : decode cX9_init 110 = .ok (.aload_n 0, 1) := by decide +kernel
theorem dX9_init_111 : decode cX9_init 111 = .ok (.new 21, 3) := by decide +kernel
theorem dX9_init_114 : decode cX9_init 114 = .ok (.dup, 1) := by decide +kernel
theorem dX9_init_115 : decode cX9_init 115 = .ok (.invokespecial 70, 3) := by decide +kernel
theorem dX9_init_118 : decode cX9_init 118 = .ok (.putfield 71, 3) := by decide +kernel
theorem dX9_init_121 : decode cX9_init 121 = .ok (.aload_n 0, 1) := by decide +kernel
theorem dX9_init_122 : decode cX9_init 122 = .ok (.bipush 7, 2) := by decide +kernel
theorem dX9_init_124 : decode cX9_init 124 = .ok (.anewarray 75, 3) := by decide +kernel
theorem dX9_init_127 : decode cX9_init 127 = .ok (.putfield 77, 3) := by decide +kernel
theorem dX9_init_130 : decode cX9_init 130 = .ok (.aload_n 0, 1) := by decide +kernel
theorem dX9_init_131 : decode cX9_init 131 = .ok (.iconst 0, 1) := by decide +kernel
theorem dX9_init_132 : decode cX9_init 132 = .ok (.putfield 81, 3) := by decide +kernel
theorem dX9_init_135 : decode cX9_init 135 = .ok (.iconst 0, 1) := by decide +kernel
theorem dX9_init_136 : decode cX9_init 136 = .ok (.istore_n 1, 1) := by decide +kernel
theorem dX9_init_137 : decode cX9_init 137 = .ok (.iload_n 1, 1) := by decide +kernel
theorem dX9_init_138 : decode cX9_init 138 = .ok (.iconst 3, 1) := by decide +kernel
theorem dX9_init_139 : decode cX9_init 139 = .ok (.if_icmp .ge 48, 3) := by decide +kernel
theorem dX9_init_142 : decode cX9_init 142 = .ok (.aload_n 0, 1) := by decide +kernel
theorem dX9_init_143 : decode cX9_init 143 = .ok (.getfield 11, 3) := by decide +kernel
theorem dX9_init_146 : decode cX9_init 146 = .ok (.iload_n 1, 1) := by decide +kernel
theorem dX9_init_147 : decode cX9_init 147 = .ok (.new 9, 3) := by decide +kernel
theorem dX9_init_150 : decode cX9_init 150 = .ok (.dup, 1) := by decide +kernel
theorem dX9_init_151 : decode cX9_init 151 = .ok (.invokespecial 65, 3) := by decide +kernel
theorem dX9_init_154 : decode cX9_init 154 = .ok (.aastore, 1) := by decide +kernel
theorem dX9_init_155 : decode cX9_init 155 = .ok (.aload_n 0, 1) := by decide +kernel
theorem dX9_init_156 : decode cX9_init 156 = .ok (.getfield 17, 3) := by decide +kernel
theorem dX9_init_159 : decode cX9_init 159 = .ok (.iload_n 1, 1) := by decide +kernel
theorem dX9_init_160 : decode cX9_init 160 = .ok (.new 15, 3) := by decide +kernel
theorem dX9_init_163 : decode cX9_init 163 = .ok (.dup, 1) := by decide +kernel
theorem dX9_init_164 : decode cX9_init 164 = .ok (.invokespecial 85, 3) := by decide +kernel
theorem dX9_init_167 : decode cX9_init 167 = .ok (.aastore, 1) := by decide +kernel
theorem dX9_init_168 : decode cX9_init 168 = .ok (.aload_n 0, 1) := by decide +kernel
theorem dX9_init_169 : decode cX9_init 169 = .ok (.getfield 23, 3) := by decide +kernel
theorem dX9_init_172 : decode cX9_init 172 = .ok (.iload_n 1, 1) := by decide +kernel
theorem dX9_init_173 : decode cX9_init 173 = .ok (.new 21, 3) := by decide +kernel
theorem dX9_init_176 : decode cX9_init 176 = .ok (.dup, 1) := by decide +kernel
theorem dX9_init_177 : decode cX9_init 177 = .ok (.invokespecial 70, 3) := by decide +kernel
theorem dX9_init_180 : decode cX9_init 180 = .ok (.aastore, 1) := by decide +kernel
theorem dX9_init_181 : decode cX9_init 181 = .ok (.iinc 1 1, 3) := by decide +kernel
theorem dX9_init_184 : decode cX9_init 184 = .ok (.goto (-47), 3) := by decide +kernel
theorem dX9_init_187 : decode cX9_init 187 = .ok (.iconst 0, 1) := by decide +kernel
theorem dX9_init_188 : decode cX9_init 188 = .ok (.istore_n 1, 1) := by decide +kernel
theorem dX9_init_189 : decode cX9_init 189 = .ok (.iload_n 1, 1) := by decide +kernel
theorem dX9_init_190 : decode cX9_init 190 = .ok (.aload_n 0, 1) := by decide +kernel
theorem dX9_init_191 : decode cX9_init 191 = .ok (.getfield 41, 3) := by decide +kernel
theorem dX9_init_194 : decode cX9_init 194 = .ok (.arraylength, 1) := by decide +kernel
theorem dX9_init_195 : decode cX9_init 195 = .ok (.if_icmp .ge 22, 3) := by decide +kernel
theorem dX9_init_198 : decode cX9_init 198 = .ok (.aload_n 0, 1) := by decide +kernel
theorem dX9_init_199 : decode cX9_init 199 = .ok (.getfield 41, 3) := by decide +kernel
theorem dX9_init_202 : decode cX9_init 202 = .ok (.iload_n 1, 1) := by decide +kernel
theorem dX9_init_203 : decode cX9_init 203 = .ok (.new 9, 3) := by decide +kernel
theorem dX9_init_206 : decode cX9_init 206 = .ok (.dup, 1) := by decide +kernel
theorem dX9_init_207 : decode cX9_init 207 = .ok (.invokespecial 65, 3) := by decide +kernel
theorem dX9_init_210 : decode cX9_init 210 = .ok (.aastore, 1) := by decide +kernel
theorem dX9_init_211 : decode cX9_init 211 = .ok (.iinc 1 1, 3) := by decide +kernel
theorem dX9_init_214 : decode cX9_init 214 = .ok (.goto (-25), 3) := by decide +kernel
theorem dX9_init_217 : decode cX9_init 217 = .ok (.iconst 0, 1) := by decide +kernel
theorem dX9_init_218 : decode cX9_init 218 = .ok (.istore_n 1, 1) := by decide +kernel
theorem dX9_init_219 : decode cX9_init 219 = .ok (.iload_n 1, 1) := by decide +kernel
theorem dX9_init_220 : decode cX9_init 220 = .ok (.bipush 7, 2) := by decide +kernel
theorem dX9_init_222 : decode cX9_init 222 = .ok (.if_icmp .ge 22, 3) := by decide +kernel
theorem dX9_init_225 : decode cX9_init 225 = .ok (.aload_n 0, 1) := by decide +kernel
theorem dX9_init_226 : decode cX9_init 226 = .ok (.getfield 77, 3) := by decide +kernel
theorem dX9_init_229 : decode cX9_init 229 = .ok (.iload_n 1, 1) := by decide +kernel
theorem dX9_init_230 : decode cX9_init 230 = .ok (.new 75, 3) := by decide +kernel
theorem dX9_init_233 : decode cX9_init 233 = .ok (.dup, 1) := by decide +kernel
theorem dX9_init_234 : decode cX9_init 234 = .ok (.invokespecial 86, 3) := by decide +kernel
theorem dX9_init_237 : decode cX9_init 237 = .ok (.aastore, 1) := by decide +kernel
theorem dX9_init_238 : decode cX9_init 238 = .ok (.iinc 1 1, 3) := by decide +kernel
theorem dX9_init_241 : decode cX9_init 241 = .ok (.goto (-22), 3) := by decide +kernel
theorem dX9_init_244 : decode cX9_init 244 = .ok (.return_, 1) := by decide +kernel
theorem dX9_feed_0 : decode cX9_feed 0 = .ok (.aload_n 0, 1) := by decide +kernel
theorem dX9_feed_1 : decode cX9_feed 1 = .ok (.getfield 30, 3) := by decide +kernel
theorem dX9_feed_4 : decode cX9_feed 4 = .ok (.getfield 87, 3) := by decide +kernel
theorem dX9_feed_7 : decode cX9_feed 7 = .ok (.sipush 380, 3) := by decide +kernel
theorem dX9_feed_10 : decode cX9_feed 10 = .ok (.if_icmp .le 5, 3) := by decide +kernel
theorem dX9_feed_13 : decode cX9_feed 13 = .ok (.iconst (-1), 1) := by decide +kernel
theorem dX9_feed_14 : decode cX9_feed 14 = .ok (.ireturn, 1) := by decide +kernel
theorem dX9_feed_15 : decode cX9_feed 15 = .ok (.aload_n 0, 1) := by decide +kernel
theorem dX9_feed_16 : decode cX9_feed 16 = .ok (.getfield 30, 3) := by decide +kernel
theorem dX9_feed_19 : decode cX9_feed 19 = .ok (.iload_n 1, 1) := by decide +kernel
theorem dX9_feed_20 : decode cX9_feed 20 = .ok (.invokevirtual 90, 3) := by decide +kernel
theorem dX9_feed_23 : decode cX9_feed 23 = .ok (.aload_n 0, 1) := by decide +kernel
theorem dX9_feed_24 : decode cX9_feed 24 = .ok (.getfield 30, 3) := by decide +kernel
theorem dX9_feed_27 : decode cX9_feed 27 = .ok (.iload_n 2, 1) := by decide +kernel
theorem dX9_feed_28 : decode cX9_feed 28 = .ok (.invokevirtual 90, 3) := by decide +kernel
theorem dX9_feed_31 : decode cX9_feed 31 = .ok (.aload_n 0, 1) := by decide +kernel
theorem dX9_feed_32 : decode cX9_feed 32 = .ok (.getfield 30, 3) := by decide +kernel
theorem dX9_feed_35 : decode cX9_feed 35 = .ok (.iload_n 3, 1) := by decide +kernel
theorem dX9_feed_36 : decode cX9_feed 36 = .ok (.invokevirtual 90, 3) := by decide +kernel
theorem dX9_feed_39 : decode cX9_feed 39 = .ok (.aload_n 0, 1) := by decide +kernel
theorem dX9_feed_40 : decode cX9_feed 40 = .ok (.getfield 30, 3) := by decide +kernel
theorem dX9_feed_43 : decode cX9_feed 43 = .ok (.iload 4, 2) := by decide +kernel
theorem dX9_feed_45 : decode cX9_feed 45 = .ok (.invokevirtual 90, 3) := by decide +kernel
theorem dX9_feed_48 : decode cX9_feed 48 = .ok (.aload_n 0, 1) := by decide +kernel
theorem dX9_feed_49 : decode cX9_feed 49 = .ok (.getfield 30, 3) := by decide +kernel
theorem dX9_feed_52 : decode cX9_feed 52 = .ok (.iload 5, 2) := by decide +kernel
theorem dX9_feed_54 : decode cX9_feed 54 = .ok (.invokevirtual 90, 3) := by decide +kernel
theorem dX9_feed_57 : decode cX9_feed 57 = .ok (.aload_n 0, 1) := by decide +kernel
theorem dX9_feed_58 : decode cX9_feed 58 = .ok (.getfield 30, 3) := by decide +kernel
theorem dX9_feed_61 : decode cX9_feed 61 = .ok (.getfield 87, 3) := by decide +kernel
theorem dX9_feed_64 : decode cX9_feed 64 = .ok (.ireturn, 1) := by decide +kernel
theorem dX9_text_0 : decode cX9_text 0 = .ok (.aload_n 0, 1) := by decide +kernel
theorem dX9_text_1 : decode cX9_text 1 = .ok (.iload_n 1, 1) := by decide +kernel
theorem dX9_text_2 : decode cX9_text 2 = .ok (.invokevirtual 94, 3) := by decide +kernel
theorem dX9_text_5 : decode cX9_text 5 = .ok (.astore_n 3, 1) := by decide +kernel
theorem dX9_text_6 : decode cX9_text 6 = .ok (.aload_n 3, 1) := by decide +kernel
theorem dX9_text_7 : decode cX9_text 7 = .ok (.ifnonnull 9, 3) := by decide +kernel
theorem dX9_text_10 : decode cX9_text 10 = .ok (.aload_n 0, 1) := by decide +kernel
theorem dX9_text_11 : decode cX9_text 11 = .ok (.iconst 1, 1) := by decide +kernel
theorem dX9_text_12 : decode cX9_text 12 = .ok (.invokevirtual 98, 3) := by decide +kernel
theorem dX9_text_15 : decode cX9_text 15 = .ok (.ireturn, 1) := by decide +kernel
theorem dX9_text_16 : decode cX9_text 16 = .ok (.iload_n 2, 1) := by decide +kernel
theorem dX9_text_17 : decode cX9_text 17 = .ok (.ifCond .lt 14, 3) := by decide +kernel
theorem dX9_text_20 : decode cX9_text 20 = .ok (.iload_n 2, 1) := by decide +kernel
theorem dX9_text_21 : decode cX9_text 21 = .ok (.aload_n 0, 1) := by decide +kernel
theorem dX9_text_22 : decode cX9_text 22 = .ok (.getfield 30, 3) := by decide +kernel
theorem dX9_text_25 : decode cX9_text 25 = .ok (.getfield 87, 3) := by decide +kernel
theorem dX9_text_28 : decode cX9_text 28 = .ok (.if_icmp .le 9, 3) := by decide +kernel
theorem dX9_text_31 : decode cX9_text 31 = .ok (.aload_n 0, 1) := by decide +kernel
theorem dX9_text_32 : decode cX9_text 32 = .ok (.iconst 2, 1) := by decide +kernel
theorem dX9_text_33 : decode cX9_text 33 = .ok (.invokevirtual 98, 3) := by decide +kernel
theorem dX9_text_36 : decode cX9_text 36 = .ok (.ireturn, 1) := by decide +kernel
theorem dX9_text_37 : decode cX9_text 37 = .ok (.aload_n 0, 1) := by decide +kernel
theorem dX9_text_38 : decode cX9_text 38 = .ok (.getfield 30, 3) := by decide +kernel
theorem dX9_text_41 : decode cX9_text 41 = .ok (.iload_n 2, 1) := by decide +kernel
theorem dX9_text_42 : decode cX9_text 42 = .ok (.invokevirtual 102, 3) := by decide +kernel
theorem dX9_text_45 : decode cX9_text 45 = .ok (.aload_n 0, 1) := by decide +kernel
theorem dX9_text_46 : decode cX9_text 46 = .ok (.getfield 30, 3) := by decide +kernel
theorem dX9_text_49 : decode cX9_text 49 = .ok (.getfield 105, 3) := by decide +kernel
theorem dX9_text_52 : decode cX9_text 52 = .ok (.ifCond .eq 9, 3) := by decide +kernel
theorem dX9_text_55 : decode cX9_text 55 = .ok (.aload_n 0, 1) := by decide +kernel
theorem dX9_text_56 : decode cX9_text 56 = .ok (.iconst 4, 1) := by decide +kernel
theorem dX9_text_57 : decode cX9_text 57 = .ok (.invokevirtual 98, 3) := by decide +kernel
theorem dX9_text_60 : decode cX9_text 60 = .ok (.ireturn, 1) := by decide +kernel
theorem dX9_text_61 : decode cX9_text 61 = .ok (.aload_n 0, 1) := by decide +kernel
theorem dX9_text_62 : decode cX9_text 62 = .ok (.getfield 37, 3) := by decide +kernel
theorem dX9_text_65 : decode cX9_text 65 = .ok (.iload_n 1, 1) := by decide +kernel
theorem dX9_text_66 : decode cX9_text 66 = .ok (.aload_n 3, 1) := by decide +kernel
theorem dX9_text_67 : decode cX9_text 67 = .ok (.invokevirtual 108, 3) := by decide +kernel
theorem dX9_text_70 : decode cX9_text 70 = .ok (.aload_n 3, 1) := by decide +kernel
theorem dX9_text_71 : decode cX9_text 71 = .ok (.aload_n 0, 1) := by decide +kernel
theorem dX9_text_72 : decode cX9_text 72 = .ok (.getfield 30, 3) := by decide +kernel
theorem dX9_text_75 : decode cX9_text 75 = .ok (.getfield 112, 3) := by decide +kernel
theorem dX9_text_78 : decode cX9_text 78 = .ok (.invokevirtual 115, 3) := by decide +kernel
theorem dX9_text_81 : decode cX9_text 81 = .ok (.aload_n 0, 1) := by decide +kernel
theorem dX9_text_82 : decode cX9_text 82 = .ok (.aload_n 3, 1) := by decide +kernel
theorem dX9_text_83 : decode cX9_text 83 = .ok (.getfield 119, 3) := by decide +kernel
theorem dX9_text_86 : decode cX9_text 86 = .ok (.invokevirtual 122, 3) := by decide +kernel
theorem dX9_text_89 : decode cX9_text 89 = .ok (.ireturn, 1) := by decide +kernel
theorem dX9_graph_0 : decode cX9_graph 0 = .ok (.aload_n 0, 1) := by decide +kernel
theorem dX9_graph_1 : decode cX9_graph 1 = .ok (.iload_n 1, 1) := by decide +kernel
theorem dX9_graph_2 : decode cX9_graph 2 = .ok (.invokevirtual 94, 3) := by decide +kernel
theorem dX9_graph_5 : decode cX9_graph 5 = .ok (.astore_n 3, 1) := by decide +kernel
theorem dX9_graph_6 : decode cX9_graph 6 = .ok (.aload_n 3, 1) := by decide +kernel
theorem dX9_graph_7 : decode cX9_graph 7 = .ok (.ifnull 12, 3) := by decide +kernel
theorem dX9_graph_10 : decode cX9_graph 10 = .ok (.iload_n 2, 1) := by decide +kernel
theorem dX9_graph_11 : decode cX9_graph 11 = .ok (.ifCond .lt 8, 3) := by decide +kernel
theorem dX9_graph_14 : decode cX9_graph 14 = .ok (.iload_n 2, 1) := by decide +kernel
theorem dX9_graph_15 : decode cX9_graph 15 = .ok (.iconst 3, 1) := by decide +kernel
theorem dX9_graph_16 : decode cX9_graph 16 = .ok (.if_icmp .le 9, 3) := by decide +kernel
theorem dX9_graph_19 : decode cX9_graph 19 = .ok (.aload_n 0, 1) := by decide +kernel
theorem dX9_graph_20 : decode cX9_graph 20 = .ok (.iconst 1, 1) := by decide +kernel
theorem dX9_graph_21 : decode cX9_graph 21 = .ok (.invokevirtual 98, 3) := by decide +kernel
theorem dX9_graph_24 : decode cX9_graph 24 = .ok (.ireturn, 1) := by decide +kernel
theorem dX9_graph_25 : decode cX9_graph 25 = .ok (.iload_n 2, 1) := by decide +kernel
theorem dX9_graph_26 : decode cX9_graph 26 = .ok (.tableswitch 64 0 2 #[26, 35, 44], 26) := by decide +kernel
theorem dX9_graph_52 : decode cX9_graph 52 = .ok (.aload_n 0, 1) := by decide +kernel
theorem dX9_graph_53 : decode cX9_graph 53 = .ok (.aload_n 3, 1) := by decide +kernel
theorem dX9_graph_54 : decode cX9_graph 54 = .ok (.getfield 119, 3) := by decide +kernel
theorem dX9_graph_57 : decode cX9_graph 57 = .ok (.invokevirtual 122, 3) := by decide +kernel
theorem dX9_graph_60 : decode cX9_graph 60 = .ok (.ireturn, 1) := by decide +kernel
theorem dX9_graph_61 : decode cX9_graph 61 = .ok (.aload_n 0, 1) := by decide +kernel
theorem dX9_graph_62 : decode cX9_graph 62 = .ok (.aload_n 3, 1) := by decide +kernel
theorem dX9_graph_63 : decode cX9_graph 63 = .ok (.invokevirtual 128, 3) := by decide +kernel
theorem dX9_graph_66 : decode cX9_graph 66 = .ok (.invokevirtual 122, 3) := by decide +kernel
theorem dX9_graph_69 : decode cX9_graph 69 = .ok (.ireturn, 1) := by decide +kernel
theorem dX9_graph_70 : decode cX9_graph 70 = .ok (.aload_n 0, 1) := by decide +kernel
theorem dX9_graph_71 : decode cX9_graph 71 = .ok (.getfield 51, 3) := by decide +kernel
theorem dX9_graph_74 : decode cX9_graph 74 = .ok (.aload_n 3, 1) := by decide +kernel
theorem dX9_graph_75 : decode cX9_graph 75 = .ok (.invokevirtual 132, 3) := by decide +kernel
theorem dX9_graph_78 : decode cX9_graph 78 = .ok (.aload_n 0, 1) := by decide +kernel
theorem dX9_graph_79 : decode cX9_graph 79 = .ok (.aload_n 0, 1) := by decide +kernel
theorem dX9_graph_80 : decode cX9_graph 80 = .ok (.getfield 51, 3) := by decide +kernel
theorem dX9_graph_83 : decode cX9_graph 83 = .ok (.getfield 135, 3) := by decide +kernel
theorem dX9_graph_86 : decode cX9_graph 86 = .ok (.invokevirtual 122, 3) := by decide +kernel
theorem dX9_graph_89 : decode cX9_graph 89 = .ok (.ireturn, 1) := by decide +kernel
theorem dX9_graph_90 : decode cX9_graph 90 = .ok (.aload_n 0, 1) := by decide +kernel
theorem dX9_graph_91 : decode cX9_graph 91 = .ok (.aload_n 3, 1) := by decide +kernel
theorem dX9_graph_92 : decode cX9_graph 92 = .ok (.invokevirtual 136, 3) := by decide +kernel
theorem dX9_graph_95 : decode cX9_graph 95 = .ok (.invokevirtual 122, 3) := by decide +kernel
theorem dX9_graph_98 : decode cX9_graph 98 = .ok (.ireturn, 1) := by decide +kernel
theorem dX9_colour_0 : decode cX9_colour 0 = .ok (.aload_n 0, 1) := by decide +kernel
theorem dX9_colour_1 : decode cX9_colour 1 = .ok (.iload_n 1, 1) := by decide +kernel
theorem dX9_colour_2 : decode cX9_colour 2 = .ok (.invokevirtual 94, 3) := by decide +kernel
theorem dX9_colour_5 : decode cX9_colour 5 = .ok (.astore_n 3, 1) := by decide +kernel
theorem dX9_colour_6 : decode cX9_colour 6 = .ok (.aload_n 3, 1) := by decide +kernel
theorem dX9_colour_7 : decode cX9_colour 7 = .ok (.ifnull 11, 3) := by decide +kernel
theorem dX9_colour_10 : decode cX9_colour 10 = .ok (.aload_n 3, 1) := by decide +kernel
theorem dX9_colour_11 : decode cX9_colour 11 = .ok (.iload_n 2, 1) := by decide +kernel
theorem dX9_colour_12 : decode cX9_colour 12 = .ok (.invokevirtual 139, 3) := by decide +kernel
theorem dX9_colour_15 : decode cX9_colour 15 = .ok (.ifCond .ne 9, 3) := by decide +kernel
theorem dX9_colour_18 : decode cX9_colour 18 = .ok (.aload_n 0, 1) := by decide +kernel
theorem dX9_colour_19 : decode cX9_colour 19 = .ok (.iconst 1, 1) := by decide +kernel
theorem dX9_colour_20 : decode cX9_colour 20 = .ok (.invokevirtual 98, 3) := by decide +kernel
theorem dX9_colour_23 : decode cX9_colour 23 = .ok (.ireturn, 1) := by decide +kernel
theorem dX9_colour_24 : decode cX9_colour 24 = .ok (.aload_n 0, 1) := by decide +kernel
theorem dX9_colour_25 : decode cX9_colour 25 = .ok (.aload_n 3, 1) := by decide +kernel
theorem dX9_colour_26 : decode cX9_colour 26 = .ok (.getfield 143, 3) := by decide +kernel
theorem dX9_colour_29 : decode cX9_colour 29 = .ok (.iload_n 2, 1) := by decide +kernel
theorem dX9_colour_30 : decode cX9_colour 30 = .ok (.iaload, 1) := by decide +kernel
theorem dX9_colour_31 : decode cX9_colour 31 = .ok (.invokevirtual 122, 3) := by decide +kernel
theorem dX9_colour_34 : decode cX9_colour 34 = .ok (.ireturn, 1) := by decide +kernel
theorem dX9_kind_0 : decode cX9_kind 0 = .ok (.aload_n 0, 1) := by decide +kernel
theorem dX9_kind_1 : decode cX9_kind 1 = .ok (.iload_n 1, 1) := by decide +kernel
theorem dX9_kind_2 : decode cX9_kind 2 = .ok (.invokevirtual 94, 3) := by decide +kernel
theorem dX9_kind_5 : decode cX9_kind 5 = .ok (.astore 4, 2) := by decide +kernel
theorem dX9_kind_7 : decode cX9_kind 7 = .ok (.aload 4, 2) := by decide +kernel
theorem dX9_kind_9 : decode cX9_kind 9 = .ok (.ifnull 21, 3) := by decide +kernel
theorem dX9_kind_12 : decode cX9_kind 12 = .ok (.aload 4, 2) := by decide +kernel
theorem dX9_kind_14 : decode cX9_kind 14 = .ok (.iload_n 2, 1) := by decide +kernel
theorem dX9_kind_15 : decode cX9_kind 15 = .ok (.invokevirtual 139, 3) := by decide +kernel
theorem dX9_kind_18 : decode cX9_kind 18 = .ok (.ifCond .eq 12, 3) := by decide +kernel
theorem dX9_kind_21 : decode cX9_kind 21 = .ok (.aload 4, 2) := by decide +kernel
theorem dX9_kind_23 : decode cX9_kind 23 = .ok (.iload_n 3, 1) := by decide +kernel
theorem dX9_kind_24 : decode cX9_kind 24 = .ok (.invokevirtual 139, 3) := by decide +kernel
theorem dX9_kind_27 : decode cX9_kind 27 = .ok (.ifCond .ne 9, 3) := by decide +kernel
theorem dX9_kind_30 : decode cX9_kind 30 = .ok (.aload_n 0, 1) := by decide +kernel
theorem dX9_kind_31 : decode cX9_kind 31 = .ok (.iconst 1, 1) := by decide +kernel
theorem dX9_kind_32 : decode cX9_kind 32 = .ok (.invokevirtual 98, 3) := by decide +kernel
theorem dX9_kind_35 : decode cX9_kind 35 = .ok (.ireturn, 1) := by decide +kernel
theorem dX9_kind_36 : decode cX9_kind 36 = .ok (.iload_n 2, 1) := by decide +kernel
theorem dX9_kind_37 : decode cX9_kind 37 = .ok (.iload_n 3, 1) := by decide +kernel
theorem dX9_kind_38 : decode cX9_kind 38 = .ok (.if_icmp .ne 9, 3) := by decide +kernel
theorem dX9_kind_41 : decode cX9_kind 41 = .ok (.aload_n 0, 1) := by decide +kernel
theorem dX9_kind_42 : decode cX9_kind 42 = .ok (.iconst 5, 1) := by decide +kernel
theorem dX9_kind_43 : decode cX9_kind 43 = .ok (.invokevirtual 98, 3) := by decide +kernel
theorem dX9_kind_46 : decode cX9_kind 46 = .ok (.ireturn, 1) := by decide +kernel
theorem dX9_kind_47 : decode cX9_kind 47 = .ok (.aload_n 0, 1) := by decide +kernel
theorem dX9_kind_48 : decode cX9_kind 48 = .ok (.aload 4, 2) := by decide +kernel
theorem dX9_kind_50 : decode cX9_kind 50 = .ok (.getfield 147, 3) := by decide +kernel
theorem dX9_kind_53 : decode cX9_kind 53 = .ok (.iload_n 2, 1) := by decide +kernel
theorem dX9_kind_54 : decode cX9_kind 54 = .ok (.aaload, 1) := by decide +kernel
theorem dX9_kind_55 : decode cX9_kind 55 = .ok (.iload_n 3, 1) := by decide +kernel
theorem dX9_kind_56 : decode cX9_kind 56 = .ok (.iaload, 1) := by decide +kernel
theorem dX9_kind_57 : decode cX9_kind 57 = .ok (.invokevirtual 122, 3) := by decide +kernel
theorem dX9_kind_60 : decode cX9_kind 60 = .ok (.ireturn, 1) := by decide +kernel
theorem dX9_degree_0 : decode cX9_degree 0 = .ok (.aload_n 0, 1) := by decide +kernel
theorem dX9_degree_1 : decode cX9_degree 1 = .ok (.iload_n 1, 1) := by decide +kernel
theorem dX9_degree_2 : decode cX9_degree 2 = .ok (.invokevirtual 94, 3) := by decide +kernel
theorem dX9_degree_5 : decode cX9_degree 5 = .ok (.astore 4, 2) := by decide +kernel
theorem dX9_degree_7 : decode cX9_degree 7 = .ok (.aload 4, 2) := by decide +kernel
theorem dX9_degree_9 : decode cX9_degree 9 = .ok (.ifnull 12, 3) := by decide +kernel
theorem dX9_degree_12 : decode cX9_degree 12 = .ok (.aload 4, 2) := by decide +kernel
theorem dX9_degree_14 : decode cX9_degree 14 = .ok (.iload_n 2, 1) := by decide +kernel
theorem dX9_degree_15 : decode cX9_degree 15 = .ok (.invokevirtual 139, 3) := by decide +kernel
theorem dX9_degree_18 : decode cX9_degree 18 = .ok (.ifCond .ne 9, 3) := by decide +kernel
theorem dX9_degree_21 : decode cX9_degree 21 = .ok (.aload_n 0, 1) := by decide +kernel
theorem dX9_degree_22 : decode cX9_degree 22 = .ok (.iconst 1, 1) := by decide +kernel
theorem dX9_degree_23 : decode cX9_degree 23 = .ok (.invokevirtual 98, 3) := by decide +kernel
theorem dX9_degree_26 : decode cX9_degree 26 = .ok (.ireturn, 1) := by decide +kernel
theorem dX9_degree_27 : decode cX9_degree 27 = .ok (.iload_n 3, 1) := by decide +kernel
theorem dX9_degree_28 : decode cX9_degree 28 = .ok (.ifCond .lt 8, 3) := by decide +kernel
theorem dX9_degree_31 : decode cX9_degree 31 = .ok (.iload_n 3, 1) := by decide +kernel
theorem dX9_degree_32 : decode cX9_degree 32 = .ok (.iconst 4, 1) := by decide +kernel
theorem dX9_degree_33 : decode cX9_degree 33 = .ok (.if_icmp .lt 9, 3) := by decide +kernel
theorem dX9_degree_36 : decode cX9_degree 36 = .ok (.aload_n 0, 1) := by decide +kernel
theorem dX9_degree_37 : decode cX9_degree 37 = .ok (.iconst 2, 1) := by decide +kernel
theorem dX9_degree_38 : decode cX9_degree 38 = .ok (.invokevirtual 98, 3) := by decide +kernel
theorem dX9_degree_41 : decode cX9_degree 41 = .ok (.ireturn, 1) := by decide +kernel
theorem dX9_degree_42 : decode cX9_degree 42 = .ok (.aload_n 0, 1) := by decide +kernel
theorem dX9_degree_43 : decode cX9_degree 43 = .ok (.aload 4, 2) := by decide +kernel
theorem dX9_degree_45 : decode cX9_degree 45 = .ok (.getfield 151, 3) := by decide +kernel
theorem dX9_degree_48 : decode cX9_degree 48 = .ok (.iload_n 3, 1) := by decide +kernel
theorem dX9_degree_49 : decode cX9_degree 49 = .ok (.aaload, 1) := by decide +kernel
theorem dX9_degree_50 : decode cX9_degree 50 = .ok (.iload_n 2, 1) := by decide +kernel
theorem dX9_degree_51 : decode cX9_degree 51 = .ok (.iaload, 1) := by decide +kernel
theorem dX9_degree_52 : decode cX9_degree 52 = .ok (.invokestatic 154, 3) := by decide +kernel
theorem dX9_degree_55 : decode cX9_degree 55 = .ok (.invokevirtual 122, 3) := by decide +kernel
theorem dX9_degree_58 : decode cX9_degree 58 = .ok (.ireturn, 1) := by decide +kernel
theorem dX9_start_0 : decode cX9_start 0 = .ok (.aload_n 0, 1) := by decide +kernel
theorem dX9_start_1 : decode cX9_start 1 = .ok (.iload_n 1, 1) := by decide +kernel
theorem dX9_start_2 : decode cX9_start 2 = .ok (.invokevirtual 94, 3) := by decide +kernel
theorem dX9_start_5 : decode cX9_start 5 = .ok (.astore_n 3, 1) := by decide +kernel
theorem dX9_start_6 : decode cX9_start 6 = .ok (.aload_n 3, 1) := by decide +kernel
theorem dX9_start_7 : decode cX9_start 7 = .ok (.ifnull 12, 3) := by decide +kernel
theorem dX9_start_10 : decode cX9_start 10 = .ok (.iload_n 2, 1) := by decide +kernel
theorem dX9_start_11 : decode cX9_start 11 = .ok (.ifCond .lt 8, 3) := by decide +kernel
theorem dX9_start_14 : decode cX9_start 14 = .ok (.iload_n 2, 1) := by decide +kernel
theorem dX9_start_15 : decode cX9_start 15 = .ok (.iconst 3, 1) := by decide +kernel
theorem dX9_start_16 : decode cX9_start 16 = .ok (.if_icmp .le 9, 3) := by decide +kernel
theorem dX9_start_19 : decode cX9_start 19 = .ok (.aload_n 0, 1) := by decide +kernel
theorem dX9_start_20 : decode cX9_start 20 = .ok (.iconst 1, 1) := by decide +kernel
theorem dX9_start_21 : decode cX9_start 21 = .ok (.invokevirtual 98, 3) := by decide +kernel
theorem dX9_start_24 : decode cX9_start 24 = .ok (.ireturn, 1) := by decide +kernel
theorem dX9_start_25 : decode cX9_start 25 = .ok (.aload_n 0, 1) := by decide +kernel
theorem dX9_start_26 : decode cX9_start 26 = .ok (.getfield 51, 3) := by decide +kernel
theorem dX9_start_29 : decode cX9_start 29 = .ok (.aload_n 3, 1) := by decide +kernel
theorem dX9_start_30 : decode cX9_start 30 = .ok (.invokevirtual 132, 3) := by decide +kernel
theorem dX9_start_33 : decode cX9_start 33 = .ok (.aload_n 0, 1) := by decide +kernel
theorem dX9_start_34 : decode cX9_start 34 = .ok (.getfield 51, 3) := by decide +kernel
theorem dX9_start_37 : decode cX9_start 37 = .ok (.getfield 135, 3) := by decide +kernel
theorem dX9_start_40 : decode cX9_start 40 = .ok (.istore 4, 2) := by decide +kernel
theorem dX9_start_42 : decode cX9_start 42 = .ok (.aload_n 0, 1) := by decide +kernel
theorem dX9_start_43 : decode cX9_start 43 = .ok (.getfield 51, 3) := by decide +kernel
theorem dX9_start_46 : decode cX9_start 46 = .ok (.aload_n 3, 1) := by decide +kernel
theorem dX9_start_47 : decode cX9_start 47 = .ok (.invokevirtual 159, 3) := by decide +kernel
theorem dX9_start_50 : decode cX9_start 50 = .ok (.iload_n 2, 1) := by decide +kernel
theorem dX9_start_51 : decode cX9_start 51 = .ok (.tableswitch 56 0 2 #[25, 37, 49], 25) := by decide +kernel
theorem dX9_start_76 : decode cX9_start 76 = .ok (.aload_n 0, 1) := by decide +kernel
theorem dX9_start_77 : decode cX9_start 77 = .ok (.aload_n 0, 1) := by decide +kernel
theorem dX9_start_78 : decode cX9_start 78 = .ok (.getfield 51, 3) := by decide +kernel
theorem dX9_start_81 : decode cX9_start 81 = .ok (.getfield 135, 3) := by decide +kernel
theorem dX9_start_84 : decode cX9_start 84 = .ok (.invokevirtual 122, 3) := by decide +kernel
theorem dX9_start_87 : decode cX9_start 87 = .ok (.ireturn, 1) := by decide +kernel
theorem dX9_start_88 : decode cX9_start 88 = .ok (.aload_n 0, 1) := by decide +kernel
theorem dX9_start_89 : decode cX9_start 89 = .ok (.aload_n 0, 1) := by decide +kernel
theorem dX9_start_90 : decode cX9_start 90 = .ok (.getfield 51, 3) := by decide +kernel
theorem dX9_start_93 : decode cX9_start 93 = .ok (.getfield 162, 3) := by decide +kernel
theorem dX9_start_96 : decode cX9_start 96 = .ok (.invokevirtual 122, 3) := by decide +kernel
theorem dX9_start_99 : decode cX9_start 99 = .ok (.ireturn, 1) := by decide +kernel
theorem dX9_start_100 : decode cX9_start 100 = .ok (.aload_n 0, 1) := by decide +kernel
theorem dX9_start_101 : decode cX9_start 101 = .ok (.iload 4, 2) := by decide +kernel
theorem dX9_start_103 : decode cX9_start 103 = .ok (.invokevirtual 122, 3) := by decide +kernel
theorem dX9_start_106 : decode cX9_start 106 = .ok (.ireturn, 1) := by decide +kernel
theorem dX9_start_107 : decode cX9_start 107 = .ok (.aload_n 0, 1) := by decide +kernel
theorem dX9_start_108 : decode cX9_start 108 = .ok (.aload_n 0, 1) := by decide +kernel
theorem dX9_start_109 : decode cX9_start 109 = .ok (.getfield 51, 3) := by decide +kernel
theorem dX9_start_112 : decode cX9_start 112 = .ok (.invokevirtual 165, 3) := by decide +kernel
theorem dX9_start_115 : decode cX9_start 115 = .ok (.invokevirtual 122, 3) := by decide +kernel
theorem dX9_start_118 : decode cX9_start 118 = .ok (.ireturn, 1) := by decide +kernel
theorem dX9_cell_0 : decode cX9_cell 0 = .ok (.aload_n 0, 1) := by decide +kernel
theorem dX9_cell_1 : decode cX9_cell 1 = .ok (.iload_n 1, 1) := by decide +kernel
theorem dX9_cell_2 : decode cX9_cell 2 = .ok (.invokevirtual 94, 3) := by decide +kernel
theorem dX9_cell_5 : decode cX9_cell 5 = .ok (.astore_n 3, 1) := by decide +kernel
theorem dX9_cell_6 : decode cX9_cell 6 = .ok (.aload_n 3, 1) := by decide +kernel
theorem dX9_cell_7 : decode cX9_cell 7 = .ok (.ifnonnull 9, 3) := by decide +kernel
theorem dX9_cell_10 : decode cX9_cell 10 = .ok (.aload_n 0, 1) := by decide +kernel
theorem dX9_cell_11 : decode cX9_cell 11 = .ok (.iconst 1, 1) := by decide +kernel
theorem dX9_cell_12 : decode cX9_cell 12 = .ok (.invokevirtual 98, 3) := by decide +kernel
theorem dX9_cell_15 : decode cX9_cell 15 = .ok (.ireturn, 1) := by decide +kernel
theorem dX9_cell_16 : decode cX9_cell 16 = .ok (.aload_n 0, 1) := by decide +kernel
theorem dX9_cell_17 : decode cX9_cell 17 = .ok (.getfield 51, 3) := by decide +kernel
theorem dX9_cell_20 : decode cX9_cell 20 = .ok (.aload_n 3, 1) := by decide +kernel
theorem dX9_cell_21 : decode cX9_cell 21 = .ok (.invokevirtual 168, 3) := by decide +kernel
theorem dX9_cell_24 : decode cX9_cell 24 = .ok (.iload_n 2, 1) := by decide +kernel
theorem dX9_cell_25 : decode cX9_cell 25 = .ok (.ifCond .lt 14, 3) := by decide +kernel
theorem dX9_cell_28 : decode cX9_cell 28 = .ok (.iload_n 2, 1) := by decide +kernel
theorem dX9_cell_29 : decode cX9_cell 29 = .ok (.aload_n 0, 1) := by decide +kernel
theorem dX9_cell_30 : decode cX9_cell 30 = .ok (.getfield 51, 3) := by decide +kernel
theorem dX9_cell_33 : decode cX9_cell 33 = .ok (.getfield 135, 3) := by decide +kernel
theorem dX9_cell_36 : decode cX9_cell 36 = .ok (.if_icmp .lt 9, 3) := by decide +kernel
theorem dX9_cell_39 : decode cX9_cell 39 = .ok (.aload_n 0, 1) := by decide +kernel
theorem dX9_cell_40 : decode cX9_cell 40 = .ok (.iconst 1, 1) := by decide +kernel
theorem dX9_cell_41 : decode cX9_cell 41 = .ok (.invokevirtual 98, 3) := by decide +kernel
theorem dX9_cell_44 : decode cX9_cell 44 = .ok (.ireturn, 1) := by decide +kernel
theorem dX9_cell_45 : decode cX9_cell 45 = .ok (.aload_n 0, 1) := by decide +kernel
theorem dX9_cell_46 : decode cX9_cell 46 = .ok (.aload_n 0, 1) := by decide +kernel
theorem dX9_cell_47 : decode cX9_cell 47 = .ok (.getfield 51, 3) := by decide +kernel
theorem dX9_cell_50 : decode cX9_cell 50 = .ok (.getfield 171, 3) := by decide +kernel
theorem dX9_cell_53 : decode cX9_cell 53 = .ok (.iload_n 2, 1) := by decide +kernel
theorem dX9_cell_54 : decode cX9_cell 54 = .ok (.iaload, 1) := by decide +kernel
theorem dX9_cell_55 : decode cX9_cell 55 = .ok (.invokevirtual 122, 3) := by decide +kernel
theorem dX9_cell_58 : decode cX9_cell 58 = .ok (.ireturn, 1) := by decide +kernel
theorem dX9_tree_0 : decode cX9_tree 0 = .ok (.aload_n 0, 1) := by decide +kernel
theorem dX9_tree_1 : decode cX9_tree 1 = .ok (.iload_n 1, 1) := by decide +kernel
theorem dX9_tree_2 : decode cX9_tree 2 = .ok (.invokevirtual 94, 3) := by decide +kernel
theorem dX9_tree_5 : decode cX9_tree 5 = .ok (.astore_n 3, 1) := by decide +kernel
theorem dX9_tree_6 : decode cX9_tree 6 = .ok (.aload_n 3, 1) := by decide +kernel
theorem dX9_tree_7 : decode cX9_tree 7 = .ok (.ifnull 12, 3) := by decide +kernel
theorem dX9_tree_10 : decode cX9_tree 10 = .ok (.iload_n 2, 1) := by decide +kernel
theorem dX9_tree_11 : decode cX9_tree 11 = .ok (.ifCond .lt 8, 3) := by decide +kernel
theorem dX9_tree_14 : decode cX9_tree 14 = .ok (.iload_n 2, 1) := by decide +kernel
theorem dX9_tree_15 : decode cX9_tree 15 = .ok (.iconst 4, 1) := by decide +kernel
theorem dX9_tree_16 : decode cX9_tree 16 = .ok (.if_icmp .le 9, 3) := by decide +kernel
theorem dX9_tree_19 : decode cX9_tree 19 = .ok (.aload_n 0, 1) := by decide +kernel
theorem dX9_tree_20 : decode cX9_tree 20 = .ok (.iconst 1, 1) := by decide +kernel
theorem dX9_tree_21 : decode cX9_tree 21 = .ok (.invokevirtual 98, 3) := by decide +kernel
theorem dX9_tree_24 : decode cX9_tree 24 = .ok (.ireturn, 1) := by decide +kernel
theorem dX9_tree_25 : decode cX9_tree 25 = .ok (.aload_n 0, 1) := by decide +kernel
theorem dX9_tree_26 : decode cX9_tree 26 = .ok (.getfield 17, 3) := by decide +kernel
theorem dX9_tree_29 : decode cX9_tree 29 = .ok (.iload_n 1, 1) := by decide +kernel
theorem dX9_tree_30 : decode cX9_tree 30 = .ok (.aaload, 1) := by decide +kernel
theorem dX9_tree_31 : decode cX9_tree 31 = .ok (.astore 4, 2) := by decide +kernel
theorem dX9_tree_33 : decode cX9_tree 33 = .ok (.aload 4, 2) := by decide +kernel
theorem dX9_tree_35 : decode cX9_tree 35 = .ok (.aload_n 3, 1) := by decide +kernel
theorem dX9_tree_36 : decode cX9_tree 36 = .ok (.invokevirtual 184, 3) := by decide +kernel
theorem dX9_tree_39 : decode cX9_tree 39 = .ok (.iload_n 2, 1) := by decide +kernel
theorem dX9_tree_40 : decode cX9_tree 40 = .ok (.tableswitch 77 0 3 #[32, 42, 52, 62], 32) := by decide +kernel
theorem dX9_tree_72 : decode cX9_tree 72 = .ok (.aload_n 0, 1) := by decide +kernel
theorem dX9_tree_73 : decode cX9_tree 73 = .ok (.aload 4, 2) := by decide +kernel
theorem dX9_tree_75 : decode cX9_tree 75 = .ok (.getfield 187, 3) := by decide +kernel
theorem dX9_tree_78 : decode cX9_tree 78 = .ok (.invokevirtual 122, 3) := by decide +kernel
theorem dX9_tree_81 : decode cX9_tree 81 = .ok (.ireturn, 1) := by decide +kernel
theorem dX9_tree_82 : decode cX9_tree 82 = .ok (.aload_n 0, 1) := by decide +kernel
theorem dX9_tree_83 : decode cX9_tree 83 = .ok (.aload 4, 2) := by decide +kernel
theorem dX9_tree_85 : decode cX9_tree 85 = .ok (.getfield 190, 3) := by decide +kernel
theorem dX9_tree_88 : decode cX9_tree 88 = .ok (.invokevirtual 122, 3) := by decide +kernel
theorem dX9_tree_91 : decode cX9_tree 91 = .ok (.ireturn, 1) := by decide +kernel
theorem dX9_tree_92 : decode cX9_tree 92 = .ok (.aload_n 0, 1) := by decide +kernel
theorem dX9_tree_93 : decode cX9_tree 93 = .ok (.aload 4, 2) := by decide +kernel
theorem dX9_tree_95 : decode cX9_tree 95 = .ok (.getfield 193, 3) := by decide +kernel
theorem dX9_tree_98 : decode cX9_tree 98 = .ok (.invokevirtual 122, 3) := by decide +kernel
theorem dX9_tree_101 : decode cX9_tree 101 = .ok (.ireturn, 1) := by decide +kernel
theorem dX9_tree_102 : decode cX9_tree 102 = .ok (.aload_n 0, 1) := by decide +kernel
theorem dX9_tree_103 : decode cX9_tree 103 = .ok (.aload 4, 2) := by decide +kernel
theorem dX9_tree_105 : decode cX9_tree 105 = .ok (.getfield 196, 3) := by decide +kernel
theorem dX9_tree_108 : decode cX9_tree 108 = .ok (.getfield 200, 3) := by decide +kernel
theorem dX9_tree_111 : decode cX9_tree 111 = .ok (.iconst 0, 1) := by decide +kernel
theorem dX9_tree_112 : decode cX9_tree 112 = .ok (.iaload, 1) := by decide +kernel
theorem dX9_tree_113 : decode cX9_tree 113 = .ok (.invokevirtual 122, 3) := by decide +kernel
theorem dX9_tree_116 : decode cX9_tree 116 = .ok (.ireturn, 1) := by decide +kernel
theorem dX9_tree_117 : decode cX9_tree 117 = .ok (.aload_n 0, 1) := by decide +kernel
theorem dX9_tree_118 : decode cX9_tree 118 = .ok (.aload 4, 2) := by decide +kernel
theorem dX9_tree_120 : decode cX9_tree 120 = .ok (.getfield 203, 3) := by decide +kernel
theorem dX9_tree_123 : decode cX9_tree 123 = .ok (.invokevirtual 122, 3) := by decide +kernel
theorem dX9_tree_126 : decode cX9_tree 126 = .ok (.ireturn, 1) := by decide +kernel
theorem dX9_search_0 : decode cX9_search 0 = .ok (.aload_n 0, 1) := by decide +kernel
theorem dX9_search_1 : decode cX9_search 1 = .ok (.iload_n 1, 1) := by decide +kernel
theorem dX9_search_2 : decode cX9_search 2 = .ok (.invokevirtual 94, 3) := by decide +kernel
theorem dX9_search_5 : decode cX9_search 5 = .ok (.astore_n 3, 1) := by decide +kernel
theorem dX9_search_6 : decode cX9_search 6 = .ok (.aload_n 3, 1) := by decide +kernel
theorem dX9_search_7 : decode cX9_search 7 = .ok (.ifnull 12, 3) := by decide +kernel
theorem dX9_search_10 : decode cX9_search 10 = .ok (.iload_n 2, 1) := by decide +kernel
theorem dX9_search_11 : decode cX9_search 11 = .ok (.ifCond .lt 8, 3) := by decide +kernel
theorem dX9_search_14 : decode cX9_search 14 = .ok (.iload_n 2, 1) := by decide +kernel
theorem dX9_search_15 : decode cX9_search 15 = .ok (.iconst 5, 1) := by decide +kernel
theorem dX9_search_16 : decode cX9_search 16 = .ok (.if_icmp .le 9, 3) := by decide +kernel
theorem dX9_search_19 : decode cX9_search 19 = .ok (.aload_n 0, 1) := by decide +kernel
theorem dX9_search_20 : decode cX9_search 20 = .ok (.iconst 1, 1) := by decide +kernel
theorem dX9_search_21 : decode cX9_search 21 = .ok (.invokevirtual 98, 3) := by decide +kernel
theorem dX9_search_24 : decode cX9_search 24 = .ok (.ireturn, 1) := by decide +kernel
theorem dX9_search_25 : decode cX9_search 25 = .ok (.aload_n 0, 1) := by decide +kernel
theorem dX9_search_26 : decode cX9_search 26 = .ok (.iload_n 1, 1) := by decide +kernel
theorem dX9_search_27 : decode cX9_search 27 = .ok (.invokevirtual 206, 3) := by decide +kernel
theorem dX9_search_30 : decode cX9_search 30 = .ok (.astore 4, 2) := by decide +kernel
theorem dX9_search_32 : decode cX9_search 32 = .ok (.iload_n 2, 1) := by decide +kernel
theorem dX9_search_33 : decode cX9_search 33 = .ok (.tableswitch 85 0 4 #[35, 45, 55, 65, 75], 35) := by decide +kernel
theorem dX9_search_68 : decode cX9_search 68 = .ok (.aload_n 0, 1) := by decide +kernel
theorem dX9_search_69 : decode cX9_search 69 = .ok (.aload 4, 2) := by decide +kernel
theorem dX9_search_71 : decode cX9_search 71 = .ok (.getfield 210, 3) := by decide +kernel
theorem dX9_search_74 : decode cX9_search 74 = .ok (.invokevirtual 122, 3) := by decide +kernel
theorem dX9_search_77 : decode cX9_search 77 = .ok (.ireturn, 1) := by decide +kernel
theorem dX9_search_78 : decode cX9_search 78 = .ok (.aload_n 0, 1) := by decide +kernel
theorem dX9_search_79 : decode cX9_search 79 = .ok (.aload 4, 2) := by decide +kernel
theorem dX9_search_81 : decode cX9_search 81 = .ok (.getfield 211, 3) := by decide +kernel
theorem dX9_search_84 : decode cX9_search 84 = .ok (.invokevirtual 122, 3) := by decide +kernel
theorem dX9_search_87 : decode cX9_search 87 = .ok (.ireturn, 1) := by decide +kernel
theorem dX9_search_88 : decode cX9_search 88 = .ok (.aload_n 0, 1) := by decide +kernel
theorem dX9_search_89 : decode cX9_search 89 = .ok (.aload 4, 2) := by decide +kernel
theorem dX9_search_91 : decode cX9_search 91 = .ok (.getfield 212, 3) := by decide +kernel
theorem dX9_search_94 : decode cX9_search 94 = .ok (.invokevirtual 122, 3) := by decide +kernel
theorem dX9_search_97 : decode cX9_search 97 = .ok (.ireturn, 1) := by decide +kernel
theorem dX9_search_98 : decode cX9_search 98 = .ok (.aload_n 0, 1) := by decide +kernel
theorem dX9_search_99 : decode cX9_search 99 = .ok (.aload 4, 2) := by decide +kernel
theorem dX9_search_101 : decode cX9_search 101 = .ok (.getfield 215, 3) := by decide +kernel
theorem dX9_search_104 : decode cX9_search 104 = .ok (.invokevirtual 122, 3) := by decide +kernel
theorem dX9_search_107 : decode cX9_search 107 = .ok (.ireturn, 1) := by decide +kernel
theorem dX9_search_108 : decode cX9_search 108 = .ok (.aload_n 0, 1) := by decide +kernel
theorem dX9_search_109 : decode cX9_search 109 = .ok (.aload 4, 2) := by decide +kernel
theorem dX9_search_111 : decode cX9_search 111 = .ok (.getfield 218, 3) := by decide +kernel
theorem dX9_search_114 : decode cX9_search 114 = .ok (.invokevirtual 122, 3) := by decide +kernel
theorem dX9_search_117 : decode cX9_search 117 = .ok (.ireturn, 1) := by decide +kernel
theorem dX9_search_118 : decode cX9_search 118 = .ok (.aload_n 0, 1) := by decide +kernel
theorem dX9_search_119 : decode cX9_search 119 = .ok (.aload 4, 2) := by decide +kernel
theorem dX9_search_121 : decode cX9_search 121 = .ok (.getfield 221, 3) := by decide +kernel
theorem dX9_search_124 : decode cX9_search 124 = .ok (.invokevirtual 122, 3) := by decide +kernel
theorem dX9_search_127 : decode cX9_search 127 = .ok (.ireturn, 1) := by decide +kernel
theorem dX9_name_0 : decode cX9_name 0 = .ok (.aload_n 0, 1) := by decide +kernel
theorem dX9_name_1 : decode cX9_name 1 = .ok (.iload_n 1, 1) := by decide +kernel
theorem dX9_name_2 : decode cX9_name 2 = .ok (.invokevirtual 94, 3) := by decide +kernel
theorem dX9_name_5 : decode cX9_name 5 = .ok (.ifnonnull 9, 3) := by decide +kernel
theorem dX9_name_8 : decode cX9_name 8 = .ok (.aload_n 0, 1) := by decide +kernel
theorem dX9_name_9 : decode cX9_name 9 = .ok (.iconst 1, 1) := by decide +kernel
theorem dX9_name_10 : decode cX9_name 10 = .ok (.invokevirtual 98, 3) := by decide +kernel
theorem dX9_name_13 : decode cX9_name 13 = .ok (.ireturn, 1) := by decide +kernel
theorem dX9_name_14 : decode cX9_name 14 = .ok (.aload_n 0, 1) := by decide +kernel
theorem dX9_name_15 : decode cX9_name 15 = .ok (.iload_n 1, 1) := by decide +kernel
theorem dX9_name_16 : decode cX9_name 16 = .ok (.invokevirtual 206, 3) := by decide +kernel
theorem dX9_name_19 : decode cX9_name 19 = .ok (.getfield 224, 3) := by decide +kernel
theorem dX9_name_22 : decode cX9_name 22 = .ok (.astore_n 3, 1) := by decide +kernel
theorem dX9_name_23 : decode cX9_name 23 = .ok (.iload_n 2, 1) := by decide +kernel
theorem dX9_name_24 : decode cX9_name 24 = .ok (.ifCond .lt 11, 3) := by decide +kernel
theorem dX9_name_27 : decode cX9_name 27 = .ok (.iload_n 2, 1) := by decide +kernel
theorem dX9_name_28 : decode cX9_name 28 = .ok (.aload_n 3, 1) := by decide +kernel
theorem dX9_name_29 : decode cX9_name 29 = .ok (.getfield 225, 3) := by decide +kernel
theorem dX9_name_32 : decode cX9_name 32 = .ok (.if_icmp .lt 10, 3) := by decide +kernel
theorem dX9_name_35 : decode cX9_name 35 = .ok (.aload_n 0, 1) := by decide +kernel
theorem dX9_name_36 : decode cX9_name 36 = .ok (.bipush 6, 2) := by decide +kernel
theorem dX9_name_38 : decode cX9_name 38 = .ok (.invokevirtual 98, 3) := by decide +kernel
theorem dX9_name_41 : decode cX9_name 41 = .ok (.ireturn, 1) := by decide +kernel
theorem dX9_name_42 : decode cX9_name 42 = .ok (.aload_n 0, 1) := by decide +kernel
theorem dX9_name_43 : decode cX9_name 43 = .ok (.aload_n 3, 1) := by decide +kernel
theorem dX9_name_44 : decode cX9_name 44 = .ok (.getfield 228, 3) := by decide +kernel
theorem dX9_name_47 : decode cX9_name 47 = .ok (.iload_n 2, 1) := by decide +kernel
theorem dX9_name_48 : decode cX9_name 48 = .ok (.iaload, 1) := by decide +kernel
theorem dX9_name_49 : decode cX9_name 49 = .ok (.invokevirtual 122, 3) := by decide +kernel
theorem dX9_name_52 : decode cX9_name 52 = .ok (.ireturn, 1) := by decide +kernel
theorem dX9_place_0 : decode cX9_place 0 = .ok (.aload_n 0, 1) := by decide +kernel
theorem dX9_place_1 : decode cX9_place 1 = .ok (.iload_n 1, 1) := by decide +kernel
theorem dX9_place_2 : decode cX9_place 2 = .ok (.invokevirtual 94, 3) := by decide +kernel
theorem dX9_place_5 : decode cX9_place 5 = .ok (.astore_n 3, 1) := by decide +kernel
theorem dX9_place_6 : decode cX9_place 6 = .ok (.aload_n 3, 1) := by decide +kernel
theorem dX9_place_7 : decode cX9_place 7 = .ok (.ifnonnull 9, 3) := by decide +kernel
theorem dX9_place_10 : decode cX9_place 10 = .ok (.aload_n 0, 1) := by decide +kernel
theorem dX9_place_11 : decode cX9_place 11 = .ok (.iconst 1, 1) := by decide +kernel
theorem dX9_place_12 : decode cX9_place 12 = .ok (.invokevirtual 98, 3) := by decide +kernel
theorem dX9_place_15 : decode cX9_place 15 = .ok (.ireturn, 1) := by decide +kernel
theorem dX9_place_16 : decode cX9_place 16 = .ok (.aload_n 3, 1) := by decide +kernel
theorem dX9_place_17 : decode cX9_place 17 = .ok (.iload_n 2, 1) := by decide +kernel
theorem dX9_place_18 : decode cX9_place 18 = .ok (.invokevirtual 139, 3) := by decide +kernel
theorem dX9_place_21 : decode cX9_place 21 = .ok (.ifCond .ne 10, 3) := by decide +kernel
theorem dX9_place_24 : decode cX9_place 24 = .ok (.aload_n 0, 1) := by decide +kernel
theorem dX9_place_25 : decode cX9_place 25 = .ok (.bipush 6, 2) := by decide +kernel
theorem dX9_place_27 : decode cX9_place 27 = .ok (.invokevirtual 98, 3) := by decide +kernel
theorem dX9_place_30 : decode cX9_place 30 = .ok (.ireturn, 1) := by decide +kernel
theorem dX9_place_31 : decode cX9_place 31 = .ok (.aload_n 0, 1) := by decide +kernel
theorem dX9_place_32 : decode cX9_place 32 = .ok (.aload_n 0, 1) := by decide +kernel
theorem dX9_place_33 : decode cX9_place 33 = .ok (.iload_n 1, 1) := by decide +kernel
theorem dX9_place_34 : decode cX9_place 34 = .ok (.invokevirtual 206, 3) := by decide +kernel
theorem dX9_place_37 : decode cX9_place 37 = .ok (.getfield 224, 3) := by decide +kernel
theorem dX9_place_40 : decode cX9_place 40 = .ok (.getfield 231, 3) := by decide +kernel
theorem dX9_place_43 : decode cX9_place 43 = .ok (.iload_n 2, 1) := by decide +kernel
theorem dX9_place_44 : decode cX9_place 44 = .ok (.iaload, 1) := by decide +kernel
theorem dX9_place_45 : decode cX9_place 45 = .ok (.invokevirtual 122, 3) := by decide +kernel
theorem dX9_place_48 : decode cX9_place 48 = .ok (.ireturn, 1) := by decide +kernel
theorem dX9_less_0 : decode cX9_less 0 = .ok (.aload_n 0, 1) := by decide +kernel
theorem dX9_less_1 : decode cX9_less 1 = .ok (.iload_n 1, 1) := by decide +kernel
theorem dX9_less_2 : decode cX9_less 2 = .ok (.invokevirtual 94, 3) := by decide +kernel
theorem dX9_less_5 : decode cX9_less 5 = .ok (.astore_n 3, 1) := by decide +kernel
theorem dX9_less_6 : decode cX9_less 6 = .ok (.aload_n 0, 1) := by decide +kernel
theorem dX9_less_7 : decode cX9_less 7 = .ok (.iload_n 2, 1) := by decide +kernel
theorem dX9_less_8 : decode cX9_less 8 = .ok (.invokevirtual 94, 3) := by decide +kernel
theorem dX9_less_11 : decode cX9_less 11 = .ok (.astore 4, 2) := by decide +kernel
theorem dX9_less_13 : decode cX9_less 13 = .ok (.aload_n 3, 1) := by decide +kernel
theorem dX9_less_14 : decode cX9_less 14 = .ok (.ifnull 8, 3) := by decide +kernel
theorem dX9_less_17 : decode cX9_less 17 = .ok (.aload 4, 2) := by decide +kernel
theorem dX9_less_19 : decode cX9_less 19 = .ok (.ifnonnull 9, 3) := by decide +kernel
theorem dX9_less_22 : decode cX9_less 22 = .ok (.aload_n 0, 1) := by decide +kernel
theorem dX9_less_23 : decode cX9_less 23 = .ok (.iconst 1, 1) := by decide +kernel
theorem dX9_less_24 : decode cX9_less 24 = .ok (.invokevirtual 98, 3) := by decide +kernel
theorem dX9_less_27 : decode cX9_less 27 = .ok (.ireturn, 1) := by decide +kernel
theorem dX9_less_28 : decode cX9_less 28 = .ok (.aload_n 0, 1) := by decide +kernel
theorem dX9_less_29 : decode cX9_less 29 = .ok (.iload_n 1, 1) := by decide +kernel
theorem dX9_less_30 : decode cX9_less 30 = .ok (.invokevirtual 206, 3) := by decide +kernel
theorem dX9_less_33 : decode cX9_less 33 = .ok (.getfield 224, 3) := by decide +kernel
theorem dX9_less_36 : decode cX9_less 36 = .ok (.aload_n 0, 1) := by decide +kernel
theorem dX9_less_37 : decode cX9_less 37 = .ok (.iload_n 2, 1) := by decide +kernel
theorem dX9_less_38 : decode cX9_less 38 = .ok (.invokevirtual 206, 3) := by decide +kernel
theorem dX9_less_41 : decode cX9_less 41 = .ok (.getfield 224, 3) := by decide +kernel
theorem dX9_less_44 : decode cX9_less 44 = .ok (.invokevirtual 234, 3) := by decide +kernel
theorem dX9_less_47 : decode cX9_less 47 = .ok (.istore 5, 2) := by decide +kernel
theorem dX9_less_49 : decode cX9_less 49 = .ok (.aload_n 0, 1) := by decide +kernel
theorem dX9_less_50 : decode cX9_less 50 = .ok (.iload 5, 2) := by decide +kernel
theorem dX9_less_52 : decode cX9_less 52 = .ok (.ifCond .ge 7, 3) := by decide +kernel
theorem dX9_less_55 : decode cX9_less 55 = .ok (.iconst 0, 1) := by decide +kernel
theorem dX9_less_56 : decode cX9_less 56 = .ok (.goto 13, 3) := by decide +kernel
theorem dX9_less_59 : decode cX9_less 59 = .ok (.iload 5, 2) := by decide +kernel
theorem dX9_less_61 : decode cX9_less 61 = .ok (.ifCond .le 7, 3) := by decide +kernel
theorem dX9_less_64 : decode cX9_less 64 = .ok (.iconst 1, 1) := by decide +kernel
theorem dX9_less_65 : decode cX9_less 65 = .ok (.goto 4, 3) := by decide +kernel
theorem dX9_less_68 : decode cX9_less 68 = .ok (.iconst 2, 1) := by decide +kernel
theorem dX9_less_69 : decode cX9_less 69 = .ok (.invokevirtual 122, 3) := by decide +kernel
theorem dX9_less_72 : decode cX9_less 72 = .ok (.ireturn, 1) := by decide +kernel
theorem dX9_generator_0 : decode cX9_generator 0 = .ok (.aload_n 0, 1) := by decide +kernel
theorem dX9_generator_1 : decode cX9_generator 1 = .ok (.iload_n 1, 1) := by decide +kernel
theorem dX9_generator_2 : decode cX9_generator 2 = .ok (.invokevirtual 94, 3) := by decide +kernel
theorem dX9_generator_5 : decode cX9_generator 5 = .ok (.astore 4, 2) := by decide +kernel
theorem dX9_generator_7 : decode cX9_generator 7 = .ok (.aload 4, 2) := by decide +kernel
theorem dX9_generator_9 : decode cX9_generator 9 = .ok (.ifnull 12, 3) := by decide +kernel
theorem dX9_generator_12 : decode cX9_generator 12 = .ok (.aload 4, 2) := by decide +kernel
theorem dX9_generator_14 : decode cX9_generator 14 = .ok (.iload_n 3, 1) := by decide +kernel
theorem dX9_generator_15 : decode cX9_generator 15 = .ok (.invokevirtual 139, 3) := by decide +kernel
theorem dX9_generator_18 : decode cX9_generator 18 = .ok (.ifCond .ne 9, 3) := by decide +kernel
theorem dX9_generator_21 : decode cX9_generator 21 = .ok (.aload_n 0, 1) := by decide +kernel
theorem dX9_generator_22 : decode cX9_generator 22 = .ok (.iconst 1, 1) := by decide +kernel
theorem dX9_generator_23 : decode cX9_generator 23 = .ok (.invokevirtual 98, 3) := by decide +kernel
theorem dX9_generator_26 : decode cX9_generator 26 = .ok (.ireturn, 1) := by decide +kernel
theorem dX9_generator_27 : decode cX9_generator 27 = .ok (.aload_n 0, 1) := by decide +kernel
theorem dX9_generator_28 : decode cX9_generator 28 = .ok (.iload_n 1, 1) := by decide +kernel
theorem dX9_generator_29 : decode cX9_generator 29 = .ok (.invokevirtual 206, 3) := by decide +kernel
theorem dX9_generator_32 : decode cX9_generator 32 = .ok (.astore 5, 2) := by decide +kernel
theorem dX9_generator_34 : decode cX9_generator 34 = .ok (.iload_n 2, 1) := by decide +kernel
theorem dX9_generator_35 : decode cX9_generator 35 = .ok (.ifCond .lt 12, 3) := by decide +kernel
theorem dX9_generator_38 : decode cX9_generator 38 = .ok (.iload_n 2, 1) := by decide +kernel
theorem dX9_generator_39 : decode cX9_generator 39 = .ok (.aload 5, 2) := by decide +kernel
theorem dX9_generator_41 : decode cX9_generator 41 = .ok (.getfield 218, 3) := by decide +kernel
theorem dX9_generator_44 : decode cX9_generator 44 = .ok (.if_icmp .lt 10, 3) := by decide +kernel
theorem dX9_generator_47 : decode cX9_generator 47 = .ok (.aload_n 0, 1) := by decide +kernel
theorem dX9_generator_48 : decode cX9_generator 48 = .ok (.bipush 6, 2) := by decide +kernel
theorem dX9_generator_50 : decode cX9_generator 50 = .ok (.invokevirtual 98, 3) := by decide +kernel
theorem dX9_generator_53 : decode cX9_generator 53 = .ok (.ireturn, 1) := by decide +kernel
theorem dX9_generator_54 : decode cX9_generator 54 = .ok (.aload_n 0, 1) := by decide +kernel
theorem dX9_generator_55 : decode cX9_generator 55 = .ok (.aload 5, 2) := by decide +kernel
theorem dX9_generator_57 : decode cX9_generator 57 = .ok (.getfield 238, 3) := by decide +kernel
theorem dX9_generator_60 : decode cX9_generator 60 = .ok (.iload_n 2, 1) := by decide +kernel
theorem dX9_generator_61 : decode cX9_generator 61 = .ok (.iaload, 1) := by decide +kernel
theorem dX9_generator_62 : decode cX9_generator 62 = .ok (.iload_n 3, 1) := by decide +kernel
theorem dX9_generator_63 : decode cX9_generator 63 = .ok (.invokestatic 241, 3) := by decide +kernel
theorem dX9_generator_66 : decode cX9_generator 66 = .ok (.invokevirtual 122, 3) := by decide +kernel
theorem dX9_generator_69 : decode cX9_generator 69 = .ok (.ireturn, 1) := by decide +kernel
theorem dX9_symmetries_0 : decode cX9_symmetries 0 = .ok (.aload_n 0, 1) := by decide +kernel
theorem dX9_symmetries_1 : decode cX9_symmetries 1 = .ok (.iload_n 1, 1) := by decide +kernel
theorem dX9_symmetries_2 : decode cX9_symmetries 2 = .ok (.invokevirtual 94, 3) := by decide +kernel
theorem dX9_symmetries_5 : decode cX9_symmetries 5 = .ok (.astore_n 3, 1) := by decide +kernel
theorem dX9_symmetries_6 : decode cX9_symmetries 6 = .ok (.aload_n 3, 1) := by decide +kernel
theorem dX9_symmetries_7 : decode cX9_symmetries 7 = .ok (.ifnull 12, 3) := by decide +kernel
theorem dX9_symmetries_10 : decode cX9_symmetries 10 = .ok (.iload_n 2, 1) := by decide +kernel
theorem dX9_symmetries_11 : decode cX9_symmetries 11 = .ok (.ifCond .lt 8, 3) := by decide +kernel
theorem dX9_symmetries_14 : decode cX9_symmetries 14 = .ok (.iload_n 2, 1) := by decide +kernel
theorem dX9_symmetries_15 : decode cX9_symmetries 15 = .ok (.iconst 2, 1) := by decide +kernel
theorem dX9_symmetries_16 : decode cX9_symmetries 16 = .ok (.if_icmp .le 9, 3) := by decide +kernel
theorem dX9_symmetries_19 : decode cX9_symmetries 19 = .ok (.aload_n 0, 1) := by decide +kernel
theorem dX9_symmetries_20 : decode cX9_symmetries 20 = .ok (.iconst 1, 1) := by decide +kernel
theorem dX9_symmetries_21 : decode cX9_symmetries 21 = .ok (.invokevirtual 98, 3) := by decide +kernel
theorem dX9_symmetries_24 : decode cX9_symmetries 24 = .ok (.ireturn, 1) := by decide +kernel
theorem dX9_symmetries_25 : decode cX9_symmetries 25 = .ok (.aload_n 0, 1) := by decide +kernel
theorem dX9_symmetries_26 : decode cX9_symmetries 26 = .ok (.getfield 61, 3) := by decide +kernel
theorem dX9_symmetries_29 : decode cX9_symmetries 29 = .ok (.aload_n 3, 1) := by decide +kernel
theorem dX9_symmetries_30 : decode cX9_symmetries 30 = .ok (.aload_n 3, 1) := by decide +kernel
theorem dX9_symmetries_31 : decode cX9_symmetries 31 = .ok (.iconst 0, 1) := by decide +kernel
theorem dX9_symmetries_32 : decode cX9_symmetries 32 = .ok (.invokevirtual 245, 3) := by decide +kernel
theorem dX9_symmetries_35 : decode cX9_symmetries 35 = .ok (.iload_n 2, 1) := by decide +kernel
theorem dX9_symmetries_36 : decode cX9_symmetries 36 = .ok (.lookupswitch 52 #[(0, 28), (1, 40)], 28) := by decide +kernel
theorem dX9_symmetries_64 : decode cX9_symmetries 64 = .ok (.aload_n 0, 1) := by decide +kernel
theorem dX9_symmetries_65 : decode cX9_symmetries 65 = .ok (.aload_n 0, 1) := by decide +kernel
theorem dX9_symmetries_66 : decode cX9_symmetries 66 = .ok (.getfield 61, 3) := by decide +kernel
theorem dX9_symmetries_69 : decode cX9_symmetries 69 = .ok (.getfield 249, 3) := by decide +kernel
theorem dX9_symmetries_72 : decode cX9_symmetries 72 = .ok (.invokevirtual 122, 3) := by decide +kernel
theorem dX9_symmetries_75 : decode cX9_symmetries 75 = .ok (.ireturn, 1) := by decide +kernel
theorem dX9_symmetries_76 : decode cX9_symmetries 76 = .ok (.aload_n 0, 1) := by decide +kernel
theorem dX9_symmetries_77 : decode cX9_symmetries 77 = .ok (.aload_n 0, 1) := by decide +kernel
theorem dX9_symmetries_78 : decode cX9_symmetries 78 = .ok (.getfield 61, 3) := by decide +kernel
theorem dX9_symmetries_81 : decode cX9_symmetries 81 = .ok (.invokevirtual 252, 3) := by decide +kernel
theorem dX9_symmetries_84 : decode cX9_symmetries 84 = .ok (.invokevirtual 122, 3) := by decide +kernel
theorem dX9_symmetries_87 : decode cX9_symmetries 87 = .ok (.ireturn, 1) := by decide +kernel
theorem dX9_symmetries_88 : decode cX9_symmetries 88 = .ok (.aload_n 0, 1) := by decide +kernel
theorem dX9_symmetries_89 : decode cX9_symmetries 89 = .ok (.aload_n 0, 1) := by decide +kernel
theorem dX9_symmetries_90 : decode cX9_symmetries 90 = .ok (.getfield 61, 3) := by decide +kernel
theorem dX9_symmetries_93 : decode cX9_symmetries 93 = .ok (.invokevirtual 255, 3) := by decide +kernel
theorem dX9_symmetries_96 : decode cX9_symmetries 96 = .ok (.invokevirtual 122, 3) := by decide +kernel
theorem dX9_symmetries_99 : decode cX9_symmetries 99 = .ok (.ireturn, 1) := by decide +kernel
theorem dX9_orbit_0 : decode cX9_orbit 0 = .ok (.aload_n 0, 1) := by decide +kernel
theorem dX9_orbit_1 : decode cX9_orbit 1 = .ok (.iload_n 1, 1) := by decide +kernel
theorem dX9_orbit_2 : decode cX9_orbit 2 = .ok (.invokevirtual 94, 3) := by decide +kernel
theorem dX9_orbit_5 : decode cX9_orbit 5 = .ok (.astore_n 3, 1) := by decide +kernel
theorem dX9_orbit_6 : decode cX9_orbit 6 = .ok (.aload_n 3, 1) := by decide +kernel
theorem dX9_orbit_7 : decode cX9_orbit 7 = .ok (.ifnull 11, 3) := by decide +kernel
theorem dX9_orbit_10 : decode cX9_orbit 10 = .ok (.aload_n 3, 1) := by decide +kernel
theorem dX9_orbit_11 : decode cX9_orbit 11 = .ok (.iload_n 2, 1) := by decide +kernel
theorem dX9_orbit_12 : decode cX9_orbit 12 = .ok (.invokevirtual 139, 3) := by decide +kernel
theorem dX9_orbit_15 : decode cX9_orbit 15 = .ok (.ifCond .ne 9, 3) := by decide +kernel
theorem dX9_orbit_18 : decode cX9_orbit 18 = .ok (.aload_n 0, 1) := by decide +kernel
theorem dX9_orbit_19 : decode cX9_orbit 19 = .ok (.iconst 1, 1) := by decide +kernel
theorem dX9_orbit_20 : decode cX9_orbit 20 = .ok (.invokevirtual 98, 3) := by decide +kernel
theorem dX9_orbit_23 : decode cX9_orbit 23 = .ok (.ireturn, 1) := by decide +kernel
theorem dX9_orbit_24 : decode cX9_orbit 24 = .ok (.aload_n 0, 1) := by decide +kernel
theorem dX9_orbit_25 : decode cX9_orbit 25 = .ok (.getfield 61, 3) := by decide +kernel
theorem dX9_orbit_28 : decode cX9_orbit 28 = .ok (.aload_n 3, 1) := by decide +kernel
theorem dX9_orbit_29 : decode cX9_orbit 29 = .ok (.aload_n 3, 1) := by decide +kernel
theorem dX9_orbit_30 : decode cX9_orbit 30 = .ok (.iconst 0, 1) := by decide +kernel
theorem dX9_orbit_31 : decode cX9_orbit 31 = .ok (.invokevirtual 245, 3) := by decide +kernel
theorem dX9_orbit_34 : decode cX9_orbit 34 = .ok (.aload_n 0, 1) := by decide +kernel
theorem dX9_orbit_35 : decode cX9_orbit 35 = .ok (.aload_n 0, 1) := by decide +kernel
theorem dX9_orbit_36 : decode cX9_orbit 36 = .ok (.getfield 61, 3) := by decide +kernel
theorem dX9_orbit_39 : decode cX9_orbit 39 = .ok (.getfield 258, 3) := by decide +kernel
theorem dX9_orbit_42 : decode cX9_orbit 42 = .ok (.iload_n 2, 1) := by decide +kernel
theorem dX9_orbit_43 : decode cX9_orbit 43 = .ok (.iaload, 1) := by decide +kernel
theorem dX9_orbit_44 : decode cX9_orbit 44 = .ok (.invokevirtual 122, 3) := by decide +kernel
theorem dX9_orbit_47 : decode cX9_orbit 47 = .ok (.ireturn, 1) := by decide +kernel
theorem dX9_leave_0 : decode cX9_leave 0 = .ok (.aload_n 0, 1) := by decide +kernel
theorem dX9_leave_1 : decode cX9_leave 1 = .ok (.iload_n 1, 1) := by decide +kernel
theorem dX9_leave_2 : decode cX9_leave 2 = .ok (.invokevirtual 94, 3) := by decide +kernel
theorem dX9_leave_5 : decode cX9_leave 5 = .ok (.astore_n 3, 1) := by decide +kernel
theorem dX9_leave_6 : decode cX9_leave 6 = .ok (.aload_n 3, 1) := by decide +kernel
theorem dX9_leave_7 : decode cX9_leave 7 = .ok (.ifnonnull 9, 3) := by decide +kernel
theorem dX9_leave_10 : decode cX9_leave 10 = .ok (.aload_n 0, 1) := by decide +kernel
theorem dX9_leave_11 : decode cX9_leave 11 = .ok (.iconst 1, 1) := by decide +kernel
theorem dX9_leave_12 : decode cX9_leave 12 = .ok (.invokevirtual 98, 3) := by decide +kernel
theorem dX9_leave_15 : decode cX9_leave 15 = .ok (.ireturn, 1) := by decide +kernel
theorem dX9_leave_16 : decode cX9_leave 16 = .ok (.aload_n 3, 1) := by decide +kernel
theorem dX9_leave_17 : decode cX9_leave 17 = .ok (.iload_n 2, 1) := by decide +kernel
theorem dX9_leave_18 : decode cX9_leave 18 = .ok (.invokevirtual 261, 3) := by decide +kernel
theorem dX9_leave_21 : decode cX9_leave 21 = .ok (.ifCond .ne 9, 3) := by decide +kernel
theorem dX9_leave_24 : decode cX9_leave 24 = .ok (.aload_n 0, 1) := by decide +kernel
theorem dX9_leave_25 : decode cX9_leave 25 = .ok (.iconst 2, 1) := by decide +kernel
theorem dX9_leave_26 : decode cX9_leave 26 = .ok (.invokevirtual 98, 3) := by decide +kernel
theorem dX9_leave_29 : decode cX9_leave 29 = .ok (.ireturn, 1) := by decide +kernel
theorem dX9_leave_30 : decode cX9_leave 30 = .ok (.aload_n 0, 1) := by decide +kernel
theorem dX9_leave_31 : decode cX9_leave 31 = .ok (.getfield 61, 3) := by decide +kernel
theorem dX9_leave_34 : decode cX9_leave 34 = .ok (.aload_n 3, 1) := by decide +kernel
theorem dX9_leave_35 : decode cX9_leave 35 = .ok (.aload_n 3, 1) := by decide +kernel
theorem dX9_leave_36 : decode cX9_leave 36 = .ok (.iload_n 2, 1) := by decide +kernel
theorem dX9_leave_37 : decode cX9_leave 37 = .ok (.invokevirtual 245, 3) := by decide +kernel
theorem dX9_leave_40 : decode cX9_leave 40 = .ok (.aload_n 0, 1) := by decide +kernel
theorem dX9_leave_41 : decode cX9_leave 41 = .ok (.aload_n 0, 1) := by decide +kernel
theorem dX9_leave_42 : decode cX9_leave 42 = .ok (.getfield 61, 3) := by decide +kernel
theorem dX9_leave_45 : decode cX9_leave 45 = .ok (.getfield 249, 3) := by decide +kernel
theorem dX9_leave_48 : decode cX9_leave 48 = .ok (.invokevirtual 122, 3) := by decide +kernel
theorem dX9_leave_51 : decode cX9_leave 51 = .ok (.ireturn, 1) := by decide +kernel
theorem dX9_maps_0 : decode cX9_maps 0 = .ok (.aload_n 0, 1) := by decide +kernel
theorem dX9_maps_1 : decode cX9_maps 1 = .ok (.iload_n 1, 1) := by decide +kernel
theorem dX9_maps_2 : decode cX9_maps 2 = .ok (.invokevirtual 94, 3) := by decide +kernel
theorem dX9_maps_5 : decode cX9_maps 5 = .ok (.astore_n 3, 1) := by decide +kernel
theorem dX9_maps_6 : decode cX9_maps 6 = .ok (.aload_n 0, 1) := by decide +kernel
theorem dX9_maps_7 : decode cX9_maps 7 = .ok (.iload_n 2, 1) := by decide +kernel
theorem dX9_maps_8 : decode cX9_maps 8 = .ok (.invokevirtual 94, 3) := by decide +kernel
theorem dX9_maps_11 : decode cX9_maps 11 = .ok (.astore 4, 2) := by decide +kernel
theorem dX9_maps_13 : decode cX9_maps 13 = .ok (.aload_n 3, 1) := by decide +kernel
theorem dX9_maps_14 : decode cX9_maps 14 = .ok (.ifnull 8, 3) := by decide +kernel
theorem dX9_maps_17 : decode cX9_maps 17 = .ok (.aload 4, 2) := by decide +kernel
theorem dX9_maps_19 : decode cX9_maps 19 = .ok (.ifnonnull 9, 3) := by decide +kernel
theorem dX9_maps_22 : decode cX9_maps 22 = .ok (.aload_n 0, 1) := by decide +kernel
theorem dX9_maps_23 : decode cX9_maps 23 = .ok (.iconst 1, 1) := by decide +kernel
theorem dX9_maps_24 : decode cX9_maps 24 = .ok (.invokevirtual 98, 3) := by decide +kernel
theorem dX9_maps_27 : decode cX9_maps 27 = .ok (.ireturn, 1) := by decide +kernel
theorem dX9_maps_28 : decode cX9_maps 28 = .ok (.aload_n 0, 1) := by decide +kernel
theorem dX9_maps_29 : decode cX9_maps 29 = .ok (.getfield 61, 3) := by decide +kernel
theorem dX9_maps_32 : decode cX9_maps 32 = .ok (.aload_n 3, 1) := by decide +kernel
theorem dX9_maps_33 : decode cX9_maps 33 = .ok (.aload 4, 2) := by decide +kernel
theorem dX9_maps_35 : decode cX9_maps 35 = .ok (.iconst 0, 1) := by decide +kernel
theorem dX9_maps_36 : decode cX9_maps 36 = .ok (.invokevirtual 245, 3) := by decide +kernel
theorem dX9_maps_39 : decode cX9_maps 39 = .ok (.aload_n 0, 1) := by decide +kernel
theorem dX9_maps_40 : decode cX9_maps 40 = .ok (.aload_n 0, 1) := by decide +kernel
theorem dX9_maps_41 : decode cX9_maps 41 = .ok (.getfield 61, 3) := by decide +kernel
theorem dX9_maps_44 : decode cX9_maps 44 = .ok (.getfield 249, 3) := by decide +kernel
theorem dX9_maps_47 : decode cX9_maps 47 = .ok (.invokevirtual 122, 3) := by decide +kernel
theorem dX9_maps_50 : decode cX9_maps 50 = .ok (.ireturn, 1) := by decide +kernel
theorem dX9_map_0 : decode cX9_map 0 = .ok (.aload_n 0, 1) := by decide +kernel
theorem dX9_map_1 : decode cX9_map 1 = .ok (.iload_n 1, 1) := by decide +kernel
theorem dX9_map_2 : decode cX9_map 2 = .ok (.invokevirtual 94, 3) := by decide +kernel
theorem dX9_map_5 : decode cX9_map 5 = .ok (.astore 4, 2) := by decide +kernel
theorem dX9_map_7 : decode cX9_map 7 = .ok (.aload_n 0, 1) := by decide +kernel
theorem dX9_map_8 : decode cX9_map 8 = .ok (.iload_n 2, 1) := by decide +kernel
theorem dX9_map_9 : decode cX9_map 9 = .ok (.invokevirtual 94, 3) := by decide +kernel
theorem dX9_map_12 : decode cX9_map 12 = .ok (.astore 5, 2) := by decide +kernel
theorem dX9_map_14 : decode cX9_map 14 = .ok (.aload 4, 2) := by decide +kernel
theorem dX9_map_16 : decode cX9_map 16 = .ok (.ifnull 17, 3) := by decide +kernel
theorem dX9_map_19 : decode cX9_map 19 = .ok (.aload 5, 2) := by decide +kernel
theorem dX9_map_21 : decode cX9_map 21 = .ok (.ifnull 12, 3) := by decide +kernel
theorem dX9_map_24 : decode cX9_map 24 = .ok (.aload 4, 2) := by decide +kernel
theorem dX9_map_26 : decode cX9_map 26 = .ok (.iload_n 3, 1) := by decide +kernel
theorem dX9_map_27 : decode cX9_map 27 = .ok (.invokevirtual 139, 3) := by decide +kernel
theorem dX9_map_30 : decode cX9_map 30 = .ok (.ifCond .ne 9, 3) := by decide +kernel
theorem dX9_map_33 : decode cX9_map 33 = .ok (.aload_n 0, 1) := by decide +kernel
theorem dX9_map_34 : decode cX9_map 34 = .ok (.iconst 1, 1) := by decide +kernel
theorem dX9_map_35 : decode cX9_map 35 = .ok (.invokevirtual 98, 3) := by decide +kernel
theorem dX9_map_38 : decode cX9_map 38 = .ok (.ireturn, 1) := by decide +kernel
theorem dX9_map_39 : decode cX9_map 39 = .ok (.aload_n 0, 1) := by decide +kernel
theorem dX9_map_40 : decode cX9_map 40 = .ok (.getfield 61, 3) := by decide +kernel
theorem dX9_map_43 : decode cX9_map 43 = .ok (.aload 4, 2) := by decide +kernel
theorem dX9_map_45 : decode cX9_map 45 = .ok (.aload 5, 2) := by decide +kernel
theorem dX9_map_47 : decode cX9_map 47 = .ok (.iconst 0, 1) := by decide +kernel
theorem dX9_map_48 : decode cX9_map 48 = .ok (.invokevirtual 245, 3) := by decide +kernel
theorem dX9_map_51 : decode cX9_map 51 = .ok (.aload_n 0, 1) := by decide +kernel
theorem dX9_map_52 : decode cX9_map 52 = .ok (.getfield 61, 3) := by decide +kernel
theorem dX9_map_55 : decode cX9_map 55 = .ok (.getfield 249, 3) := by decide +kernel
theorem dX9_map_58 : decode cX9_map 58 = .ok (.ifCond .ne 10, 3) := by decide +kernel
theorem dX9_map_61 : decode cX9_map 61 = .ok (.aload_n 0, 1) := by decide +kernel
theorem dX9_map_62 : decode cX9_map 62 = .ok (.bipush 6, 2) := by decide +kernel
theorem dX9_map_64 : decode cX9_map 64 = .ok (.invokevirtual 98, 3) := by decide +kernel
theorem dX9_map_67 : decode cX9_map 67 = .ok (.ireturn, 1) := by decide +kernel
theorem dX9_map_68 : decode cX9_map 68 = .ok (.aload_n 0, 1) := by decide +kernel
theorem dX9_map_69 : decode cX9_map 69 = .ok (.aload_n 0, 1) := by decide +kernel
theorem dX9_map_70 : decode cX9_map 70 = .ok (.getfield 61, 3) := by decide +kernel
theorem dX9_map_73 : decode cX9_map 73 = .ok (.getfield 264, 3) := by decide +kernel
theorem dX9_map_76 : decode cX9_map 76 = .ok (.iload_n 3, 1) := by decide +kernel
theorem dX9_map_77 : decode cX9_map 77 = .ok (.iaload, 1) := by decide +kernel
theorem dX9_map_78 : decode cX9_map 78 = .ok (.invokevirtual 122, 3) := by decide +kernel
theorem dX9_map_81 : decode cX9_map 81 = .ok (.ireturn, 1) := by decide +kernel
theorem dX9_changes_0 : decode cX9_changes 0 = .ok (.aload_n 0, 1) := by decide +kernel
theorem dX9_changes_1 : decode cX9_changes 1 = .ok (.iload_n 1, 1) := by decide +kernel
theorem dX9_changes_2 : decode cX9_changes 2 = .ok (.invokevirtual 94, 3) := by decide +kernel
theorem dX9_changes_5 : decode cX9_changes 5 = .ok (.astore_n 3, 1) := by decide +kernel
theorem dX9_changes_6 : decode cX9_changes 6 = .ok (.aload_n 0, 1) := by decide +kernel
theorem dX9_changes_7 : decode cX9_changes 7 = .ok (.iload_n 2, 1) := by decide +kernel
theorem dX9_changes_8 : decode cX9_changes 8 = .ok (.invokevirtual 94, 3) := by decide +kernel
theorem dX9_changes_11 : decode cX9_changes 11 = .ok (.astore 4, 2) := by decide +kernel
theorem dX9_changes_13 : decode cX9_changes 13 = .ok (.aload_n 3, 1) := by decide +kernel
theorem dX9_changes_14 : decode cX9_changes 14 = .ok (.ifnull 8, 3) := by decide +kernel
theorem dX9_changes_17 : decode cX9_changes 17 = .ok (.aload 4, 2) := by decide +kernel
theorem dX9_changes_19 : decode cX9_changes 19 = .ok (.ifnonnull 9, 3) := by decide +kernel
theorem dX9_changes_22 : decode cX9_changes 22 = .ok (.aload_n 0, 1) := by decide +kernel
theorem dX9_changes_23 : decode cX9_changes 23 = .ok (.iconst 1, 1) := by decide +kernel
theorem dX9_changes_24 : decode cX9_changes 24 = .ok (.invokevirtual 98, 3) := by decide +kernel
theorem dX9_changes_27 : decode cX9_changes 27 = .ok (.ireturn, 1) := by decide +kernel
theorem dX9_changes_28 : decode cX9_changes 28 = .ok (.aload_n 3, 1) := by decide +kernel
theorem dX9_changes_29 : decode cX9_changes 29 = .ok (.getfield 119, 3) := by decide +kernel
theorem dX9_changes_32 : decode cX9_changes 32 = .ok (.aload 4, 2) := by decide +kernel
theorem dX9_changes_34 : decode cX9_changes 34 = .ok (.getfield 119, 3) := by decide +kernel
theorem dX9_changes_37 : decode cX9_changes 37 = .ok (.if_icmp .eq 9, 3) := by decide +kernel
theorem dX9_changes_40 : decode cX9_changes 40 = .ok (.aload_n 0, 1) := by decide +kernel
theorem dX9_changes_41 : decode cX9_changes 41 = .ok (.iconst 5, 1) := by decide +kernel
theorem dX9_changes_42 : decode cX9_changes 42 = .ok (.invokevirtual 98, 3) := by decide +kernel
theorem dX9_changes_45 : decode cX9_changes 45 = .ok (.ireturn, 1) := by decide +kernel
theorem dX9_changes_46 : decode cX9_changes 46 = .ok (.aload_n 0, 1) := by decide +kernel
theorem dX9_changes_47 : decode cX9_changes 47 = .ok (.aload_n 0, 1) := by decide +kernel
theorem dX9_changes_48 : decode cX9_changes 48 = .ok (.getfield 61, 3) := by decide +kernel
theorem dX9_changes_51 : decode cX9_changes 51 = .ok (.aload_n 3, 1) := by decide +kernel
theorem dX9_changes_52 : decode cX9_changes 52 = .ok (.aload 4, 2) := by decide +kernel
theorem dX9_changes_54 : decode cX9_changes 54 = .ok (.invokevirtual 267, 3) := by decide +kernel
theorem dX9_changes_57 : decode cX9_changes 57 = .ok (.invokevirtual 122, 3) := by decide +kernel
theorem dX9_changes_60 : decode cX9_changes 60 = .ok (.ireturn, 1) := by decide +kernel
theorem dX9_told_0 : decode cX9_told 0 = .ok (.aload_n 0, 1) := by decide +kernel
theorem dX9_told_1 : decode cX9_told 1 = .ok (.iload_n 1, 1) := by decide +kernel
theorem dX9_told_2 : decode cX9_told 2 = .ok (.invokevirtual 94, 3) := by decide +kernel
theorem dX9_told_5 : decode cX9_told 5 = .ok (.astore_n 3, 1) := by decide +kernel
theorem dX9_told_6 : decode cX9_told 6 = .ok (.aload_n 0, 1) := by decide +kernel
theorem dX9_told_7 : decode cX9_told 7 = .ok (.iload_n 2, 1) := by decide +kernel
theorem dX9_told_8 : decode cX9_told 8 = .ok (.invokevirtual 94, 3) := by decide +kernel
theorem dX9_told_11 : decode cX9_told 11 = .ok (.astore 4, 2) := by decide +kernel
theorem dX9_told_13 : decode cX9_told 13 = .ok (.aload_n 3, 1) := by decide +kernel
theorem dX9_told_14 : decode cX9_told 14 = .ok (.ifnull 8, 3) := by decide +kernel
theorem dX9_told_17 : decode cX9_told 17 = .ok (.aload 4, 2) := by decide +kernel
theorem dX9_told_19 : decode cX9_told 19 = .ok (.ifnonnull 9, 3) := by decide +kernel
theorem dX9_told_22 : decode cX9_told 22 = .ok (.aload_n 0, 1) := by decide +kernel
theorem dX9_told_23 : decode cX9_told 23 = .ok (.iconst 1, 1) := by decide +kernel
theorem dX9_told_24 : decode cX9_told 24 = .ok (.invokevirtual 98, 3) := by decide +kernel
theorem dX9_told_27 : decode cX9_told 27 = .ok (.ireturn, 1) := by decide +kernel
theorem dX9_told_28 : decode cX9_told 28 = .ok (.aload_n 3, 1) := by decide +kernel
theorem dX9_told_29 : decode cX9_told 29 = .ok (.getfield 119, 3) := by decide +kernel
theorem dX9_told_32 : decode cX9_told 32 = .ok (.aload 4, 2) := by decide +kernel
theorem dX9_told_34 : decode cX9_told 34 = .ok (.getfield 119, 3) := by decide +kernel
theorem dX9_told_37 : decode cX9_told 37 = .ok (.if_icmp .eq 9, 3) := by decide +kernel
theorem dX9_told_40 : decode cX9_told 40 = .ok (.aload_n 0, 1) := by decide +kernel
theorem dX9_told_41 : decode cX9_told 41 = .ok (.iconst 5, 1) := by decide +kernel
theorem dX9_told_42 : decode cX9_told 42 = .ok (.invokevirtual 98, 3) := by decide +kernel
theorem dX9_told_45 : decode cX9_told 45 = .ok (.ireturn, 1) := by decide +kernel
theorem dX9_told_46 : decode cX9_told 46 = .ok (.aload_n 0, 1) := by decide +kernel
theorem dX9_told_47 : decode cX9_told 47 = .ok (.aload_n 0, 1) := by decide +kernel
theorem dX9_told_48 : decode cX9_told 48 = .ok (.aload_n 3, 1) := by decide +kernel
theorem dX9_told_49 : decode cX9_told 49 = .ok (.aload 4, 2) := by decide +kernel
theorem dX9_told_51 : decode cX9_told 51 = .ok (.invokevirtual 271, 3) := by decide +kernel
theorem dX9_told_54 : decode cX9_told 54 = .ok (.invokevirtual 122, 3) := by decide +kernel
theorem dX9_told_57 : decode cX9_told 57 = .ok (.ireturn, 1) := by decide +kernel
theorem dX9_base_0 : decode cX9_base 0 = .ok (.aload_n 0, 1) := by decide +kernel
theorem dX9_base_1 : decode cX9_base 1 = .ok (.iload_n 1, 1) := by decide +kernel
theorem dX9_base_2 : decode cX9_base 2 = .ok (.invokevirtual 94, 3) := by decide +kernel
theorem dX9_base_5 : decode cX9_base 5 = .ok (.astore_n 3, 1) := by decide +kernel
theorem dX9_base_6 : decode cX9_base 6 = .ok (.aload_n 3, 1) := by decide +kernel
theorem dX9_base_7 : decode cX9_base 7 = .ok (.ifnonnull 9, 3) := by decide +kernel
theorem dX9_base_10 : decode cX9_base 10 = .ok (.aload_n 0, 1) := by decide +kernel
theorem dX9_base_11 : decode cX9_base 11 = .ok (.iconst 1, 1) := by decide +kernel
theorem dX9_base_12 : decode cX9_base 12 = .ok (.invokevirtual 98, 3) := by decide +kernel
theorem dX9_base_15 : decode cX9_base 15 = .ok (.ireturn, 1) := by decide +kernel
theorem dX9_base_16 : decode cX9_base 16 = .ok (.aload_n 3, 1) := by decide +kernel
theorem dX9_base_17 : decode cX9_base 17 = .ok (.iload_n 2, 1) := by decide +kernel
theorem dX9_base_18 : decode cX9_base 18 = .ok (.invokevirtual 261, 3) := by decide +kernel
theorem dX9_base_21 : decode cX9_base 21 = .ok (.ifCond .ne 9, 3) := by decide +kernel
theorem dX9_base_24 : decode cX9_base 24 = .ok (.aload_n 0, 1) := by decide +kernel
theorem dX9_base_25 : decode cX9_base 25 = .ok (.iconst 2, 1) := by decide +kernel
theorem dX9_base_26 : decode cX9_base 26 = .ok (.invokevirtual 98, 3) := by decide +kernel
theorem dX9_base_29 : decode cX9_base 29 = .ok (.ireturn, 1) := by decide +kernel
theorem dX9_base_30 : decode cX9_base 30 = .ok (.aload_n 0, 1) := by decide +kernel
theorem dX9_base_31 : decode cX9_base 31 = .ok (.getfield 55, 3) := by decide +kernel
theorem dX9_base_34 : decode cX9_base 34 = .ok (.aload_n 3, 1) := by decide +kernel
theorem dX9_base_35 : decode cX9_base 35 = .ok (.invokevirtual 168, 3) := by decide +kernel
theorem dX9_base_38 : decode cX9_base 38 = .ok (.aload_n 0, 1) := by decide +kernel
theorem dX9_base_39 : decode cX9_base 39 = .ok (.aload_n 0, 1) := by decide +kernel
theorem dX9_base_40 : decode cX9_base 40 = .ok (.aload_n 3, 1) := by decide +kernel
theorem dX9_base_41 : decode cX9_base 41 = .ok (.iload_n 2, 1) := by decide +kernel
theorem dX9_base_42 : decode cX9_base 42 = .ok (.invokevirtual 286, 3) := by decide +kernel
theorem dX9_base_45 : decode cX9_base 45 = .ok (.invokevirtual 122, 3) := by decide +kernel
theorem dX9_base_48 : decode cX9_base 48 = .ok (.ireturn, 1) := by decide +kernel
theorem dX9_shuffle_0 : decode cX9_shuffle 0 = .ok (.aload_n 0, 1) := by decide +kernel
theorem dX9_shuffle_1 : decode cX9_shuffle 1 = .ok (.iload_n 1, 1) := by decide +kernel
theorem dX9_shuffle_2 : decode cX9_shuffle 2 = .ok (.invokevirtual 94, 3) := by decide +kernel
theorem dX9_shuffle_5 : decode cX9_shuffle 5 = .ok (.astore_n 3, 1) := by decide +kernel
theorem dX9_shuffle_6 : decode cX9_shuffle 6 = .ok (.aload_n 3, 1) := by decide +kernel
theorem dX9_shuffle_7 : decode cX9_shuffle 7 = .ok (.ifnonnull 9, 3) := by decide +kernel
theorem dX9_shuffle_10 : decode cX9_shuffle 10 = .ok (.aload_n 0, 1) := by decide +kernel
theorem dX9_shuffle_11 : decode cX9_shuffle 11 = .ok (.iconst 1, 1) := by decide +kernel
theorem dX9_shuffle_12 : decode cX9_shuffle 12 = .ok (.invokevirtual 98, 3) := by decide +kernel
theorem dX9_shuffle_15 : decode cX9_shuffle 15 = .ok (.ireturn, 1) := by decide +kernel
theorem dX9_shuffle_16 : decode cX9_shuffle 16 = .ok (.iload_n 2, 1) := by decide +kernel
theorem dX9_shuffle_17 : decode cX9_shuffle 17 = .ok (.iconst 1, 1) := by decide +kernel
theorem dX9_shuffle_18 : decode cX9_shuffle 18 = .ok (.if_icmp .lt 10, 3) := by decide +kernel
theorem dX9_shuffle_21 : decode cX9_shuffle 21 = .ok (.iload_n 2, 1) := by decide +kernel
theorem dX9_shuffle_22 : decode cX9_shuffle 22 = .ok (.ldc_w 302, 3) := by decide +kernel
theorem dX9_shuffle_25 : decode cX9_shuffle 25 = .ok (.if_icmp .lt 9, 3) := by decide +kernel
theorem dX9_shuffle_28 : decode cX9_shuffle 28 = .ok (.aload_n 0, 1) := by decide +kernel
theorem dX9_shuffle_29 : decode cX9_shuffle 29 = .ok (.iconst 2, 1) := by decide +kernel
theorem dX9_shuffle_30 : decode cX9_shuffle 30 = .ok (.invokevirtual 98, 3) := by decide +kernel
theorem dX9_shuffle_33 : decode cX9_shuffle 33 = .ok (.ireturn, 1) := by decide +kernel
theorem dX9_shuffle_34 : decode cX9_shuffle 34 = .ok (.aload_n 0, 1) := by decide +kernel
theorem dX9_shuffle_35 : decode cX9_shuffle 35 = .ok (.getfield 37, 3) := by decide +kernel
theorem dX9_shuffle_38 : decode cX9_shuffle 38 = .ok (.iload_n 1, 1) := by decide +kernel
theorem dX9_shuffle_39 : decode cX9_shuffle 39 = .ok (.aload_n 3, 1) := by decide +kernel
theorem dX9_shuffle_40 : decode cX9_shuffle 40 = .ok (.invokevirtual 108, 3) := by decide +kernel
theorem dX9_shuffle_43 : decode cX9_shuffle 43 = .ok (.aload_n 0, 1) := by decide +kernel
theorem dX9_shuffle_44 : decode cX9_shuffle 44 = .ok (.aload_n 3, 1) := by decide +kernel
theorem dX9_shuffle_45 : decode cX9_shuffle 45 = .ok (.iload_n 2, 1) := by decide +kernel
theorem dX9_shuffle_46 : decode cX9_shuffle 46 = .ok (.invokevirtual 303, 3) := by decide +kernel
theorem dX9_shuffle_49 : decode cX9_shuffle 49 = .ok (.invokevirtual 122, 3) := by decide +kernel
theorem dX9_shuffle_52 : decode cX9_shuffle 52 = .ok (.ireturn, 1) := by decide +kernel
theorem dX9_copy_0 : decode cX9_copy 0 = .ok (.aload_n 0, 1) := by decide +kernel
theorem dX9_copy_1 : decode cX9_copy 1 = .ok (.iload_n 1, 1) := by decide +kernel
theorem dX9_copy_2 : decode cX9_copy 2 = .ok (.invokevirtual 94, 3) := by decide +kernel
theorem dX9_copy_5 : decode cX9_copy 5 = .ok (.astore_n 3, 1) := by decide +kernel
theorem dX9_copy_6 : decode cX9_copy 6 = .ok (.aload_n 0, 1) := by decide +kernel
theorem dX9_copy_7 : decode cX9_copy 7 = .ok (.iload_n 2, 1) := by decide +kernel
theorem dX9_copy_8 : decode cX9_copy 8 = .ok (.invokevirtual 94, 3) := by decide +kernel
theorem dX9_copy_11 : decode cX9_copy 11 = .ok (.astore 4, 2) := by decide +kernel
theorem dX9_copy_13 : decode cX9_copy 13 = .ok (.aload_n 3, 1) := by decide +kernel
theorem dX9_copy_14 : decode cX9_copy 14 = .ok (.ifnull 8, 3) := by decide +kernel
theorem dX9_copy_17 : decode cX9_copy 17 = .ok (.aload 4, 2) := by decide +kernel
theorem dX9_copy_19 : decode cX9_copy 19 = .ok (.ifnonnull 9, 3) := by decide +kernel
theorem dX9_copy_22 : decode cX9_copy 22 = .ok (.aload_n 0, 1) := by decide +kernel
theorem dX9_copy_23 : decode cX9_copy 23 = .ok (.iconst 1, 1) := by decide +kernel
theorem dX9_copy_24 : decode cX9_copy 24 = .ok (.invokevirtual 98, 3) := by decide +kernel
theorem dX9_copy_27 : decode cX9_copy 27 = .ok (.ireturn, 1) := by decide +kernel
theorem dX9_copy_28 : decode cX9_copy 28 = .ok (.iload_n 1, 1) := by decide +kernel
theorem dX9_copy_29 : decode cX9_copy 29 = .ok (.iload_n 2, 1) := by decide +kernel
theorem dX9_copy_30 : decode cX9_copy 30 = .ok (.if_icmp .ne 9, 3) := by decide +kernel
theorem dX9_copy_33 : decode cX9_copy 33 = .ok (.aload_n 0, 1) := by decide +kernel
theorem dX9_copy_34 : decode cX9_copy 34 = .ok (.iconst 5, 1) := by decide +kernel
theorem dX9_copy_35 : decode cX9_copy 35 = .ok (.invokevirtual 98, 3) := by decide +kernel
theorem dX9_copy_38 : decode cX9_copy 38 = .ok (.ireturn, 1) := by decide +kernel
theorem dX9_copy_39 : decode cX9_copy 39 = .ok (.aload_n 0, 1) := by decide +kernel
theorem dX9_copy_40 : decode cX9_copy 40 = .ok (.getfield 37, 3) := by decide +kernel
theorem dX9_copy_43 : decode cX9_copy 43 = .ok (.iload_n 2, 1) := by decide +kernel
theorem dX9_copy_44 : decode cX9_copy 44 = .ok (.aload 4, 2) := by decide +kernel
theorem dX9_copy_46 : decode cX9_copy 46 = .ok (.invokevirtual 108, 3) := by decide +kernel
theorem dX9_copy_49 : decode cX9_copy 49 = .ok (.aload 4, 2) := by decide +kernel
theorem dX9_copy_51 : decode cX9_copy 51 = .ok (.aload_n 3, 1) := by decide +kernel
theorem dX9_copy_52 : decode cX9_copy 52 = .ok (.invokevirtual 115, 3) := by decide +kernel
theorem dX9_copy_55 : decode cX9_copy 55 = .ok (.aload_n 0, 1) := by decide +kernel
theorem dX9_copy_56 : decode cX9_copy 56 = .ok (.aload 4, 2) := by decide +kernel
theorem dX9_copy_58 : decode cX9_copy 58 = .ok (.getfield 119, 3) := by decide +kernel
theorem dX9_copy_61 : decode cX9_copy 61 = .ok (.invokevirtual 122, 3) := by decide +kernel
theorem dX9_copy_64 : decode cX9_copy 64 = .ok (.ireturn, 1) := by decide +kernel
theorem dX9_row_0 : decode cX9_row 0 = .ok (.aload_n 0, 1) := by decide +kernel
theorem dX9_row_1 : decode cX9_row 1 = .ok (.iload_n 1, 1) := by decide +kernel
theorem dX9_row_2 : decode cX9_row 2 = .ok (.invokevirtual 94, 3) := by decide +kernel
theorem dX9_row_5 : decode cX9_row 5 = .ok (.astore_n 3, 1) := by decide +kernel
theorem dX9_row_6 : decode cX9_row 6 = .ok (.aload_n 3, 1) := by decide +kernel
theorem dX9_row_7 : decode cX9_row 7 = .ok (.ifnull 11, 3) := by decide +kernel
theorem dX9_row_10 : decode cX9_row 10 = .ok (.aload_n 3, 1) := by decide +kernel
theorem dX9_row_11 : decode cX9_row 11 = .ok (.iload_n 2, 1) := by decide +kernel
theorem dX9_row_12 : decode cX9_row 12 = .ok (.invokevirtual 139, 3) := by decide +kernel
theorem dX9_row_15 : decode cX9_row 15 = .ok (.ifCond .ne 11, 3) := by decide +kernel
theorem dX9_row_18 : decode cX9_row 18 = .ok (.new 317, 3) := by decide +kernel
theorem dX9_row_21 : decode cX9_row 21 = .ok (.dup, 1) := by decide +kernel
theorem dX9_row_22 : decode cX9_row 22 = .ok (.invokespecial 319, 3) := by decide +kernel
theorem dX9_row_25 : decode cX9_row 25 = .ok (.athrow, 1) := by decide +kernel
theorem dX9_row_26 : decode cX9_row 26 = .ok (.aload_n 3, 1) := by decide +kernel
theorem dX9_row_27 : decode cX9_row 27 = .ok (.getfield 151, 3) := by decide +kernel
theorem dX9_row_30 : decode cX9_row 30 = .ok (.iconst 0, 1) := by decide +kernel
theorem dX9_row_31 : decode cX9_row 31 = .ok (.aaload, 1) := by decide +kernel
theorem dX9_row_32 : decode cX9_row 32 = .ok (.iload_n 2, 1) := by decide +kernel
theorem dX9_row_33 : decode cX9_row 33 = .ok (.iaload, 1) := by decide +kernel
theorem dX9_row_34 : decode cX9_row 34 = .ok (.ireturn, 1) := by decide +kernel
theorem dX9_trouble_0 : decode cX9_trouble 0 = .ok (.aload_n 0, 1) := by decide +kernel
theorem dX9_trouble_1 : decode cX9_trouble 1 = .ok (.getfield 81, 3) := by decide +kernel
theorem dX9_trouble_4 : decode cX9_trouble 4 = .ok (.ireturn, 1) := by decide +kernel
theorem dX9_refused_0 : decode cX9_refused 0 = .ok (.aload_n 0, 1) := by decide +kernel
theorem dX9_refused_1 : decode cX9_refused 1 = .ok (.iload_n 1, 1) := by decide +kernel
theorem dX9_refused_2 : decode cX9_refused 2 = .ok (.putfield 81, 3) := by decide +kernel
theorem dX9_refused_5 : decode cX9_refused 5 = .ok (.iconst (-1), 1) := by decide +kernel
theorem dX9_refused_6 : decode cX9_refused 6 = .ok (.ireturn, 1) := by decide +kernel
theorem dX9_answered_0 : decode cX9_answered 0 = .ok (.aload_n 0, 1) := by decide +kernel
theorem dX9_answered_1 : decode cX9_answered 1 = .ok (.iconst 0, 1) := by decide +kernel
theorem dX9_answered_2 : decode cX9_answered 2 = .ok (.putfield 81, 3) := by decide +kernel
theorem dX9_answered_5 : decode cX9_answered 5 = .ok (.iload_n 1, 1) := by decide +kernel
theorem dX9_answered_6 : decode cX9_answered 6 = .ok (.ireturn, 1) := by decide +kernel
theorem dX9_at_0 : decode cX9_at 0 = .ok (.iload_n 1, 1) := by decide +kernel
theorem dX9_at_1 : decode cX9_at 1 = .ok (.ifCond .lt 17, 3) := by decide +kernel
theorem dX9_at_4 : decode cX9_at 4 = .ok (.iload_n 1, 1) := by decide +kernel
theorem dX9_at_5 : decode cX9_at 5 = .ok (.iconst 3, 1) := by decide +kernel
theorem dX9_at_6 : decode cX9_at 6 = .ok (.if_icmp .ge 12, 3) := by decide +kernel
theorem dX9_at_9 : decode cX9_at 9 = .ok (.aload_n 0, 1) := by decide +kernel
theorem dX9_at_10 : decode cX9_at 10 = .ok (.getfield 11, 3) := by decide +kernel
theorem dX9_at_13 : decode cX9_at 13 = .ok (.iload_n 1, 1) := by decide +kernel
theorem dX9_at_14 : decode cX9_at 14 = .ok (.aaload, 1) := by decide +kernel
theorem dX9_at_15 : decode cX9_at 15 = .ok (.goto 4, 3) := by decide +kernel
theorem dX9_at_18 : decode cX9_at 18 = .ok (.aconst_null, 1) := by decide +kernel
theorem dX9_at_19 : decode cX9_at 19 = .ok (.areturn, 1) := by decide +kernel
theorem dX9_searchOf_0 : decode cX9_searchOf 0 = .ok (.aload_n 0, 1) := by decide +kernel
theorem dX9_searchOf_1 : decode cX9_searchOf 1 = .ok (.getfield 23, 3) := by decide +kernel
theorem dX9_searchOf_4 : decode cX9_searchOf 4 = .ok (.iload_n 1, 1) := by decide +kernel
theorem dX9_searchOf_5 : decode cX9_searchOf 5 = .ok (.aaload, 1) := by decide +kernel
theorem dX9_searchOf_6 : decode cX9_searchOf 6 = .ok (.astore_n 2, 1) := by decide +kernel
theorem dX9_searchOf_7 : decode cX9_searchOf 7 = .ok (.aload_n 2, 1) := by decide +kernel
theorem dX9_searchOf_8 : decode cX9_searchOf 8 = .ok (.aload_n 0, 1) := by decide +kernel
theorem dX9_searchOf_9 : decode cX9_searchOf 9 = .ok (.getfield 11, 3) := by decide +kernel
theorem dX9_searchOf_12 : decode cX9_searchOf 12 = .ok (.iload_n 1, 1) := by decide +kernel
theorem dX9_searchOf_13 : decode cX9_searchOf 13 = .ok (.aaload, 1) := by decide +kernel
theorem dX9_searchOf_14 : decode cX9_searchOf 14 = .ok (.invokevirtual 320, 3) := by decide +kernel
theorem dX9_searchOf_17 : decode cX9_searchOf 17 = .ok (.aload_n 2, 1) := by decide +kernel
theorem dX9_searchOf_18 : decode cX9_searchOf 18 = .ok (.areturn, 1) := by decide +kernel
theorem dX9_toldApart_0 : decode cX9_toldApart 0 = .ok (.aload_n 0, 1) := by decide +kernel
theorem dX9_toldApart_1 : decode cX9_toldApart 1 = .ok (.getfield 51, 3) := by decide +kernel
theorem dX9_toldApart_4 : decode cX9_toldApart 4 = .ok (.aload_n 1, 1) := by decide +kernel
theorem dX9_toldApart_5 : decode cX9_toldApart 5 = .ok (.invokevirtual 132, 3) := by decide +kernel
theorem dX9_toldApart_8 : decode cX9_toldApart 8 = .ok (.aload_n 0, 1) := by decide +kernel
theorem dX9_toldApart_9 : decode cX9_toldApart 9 = .ok (.getfield 55, 3) := by decide +kernel
theorem dX9_toldApart_12 : decode cX9_toldApart 12 = .ok (.aload_n 2, 1) := by decide +kernel
theorem dX9_toldApart_13 : decode cX9_toldApart 13 = .ok (.invokevirtual 132, 3) := by decide +kernel
theorem dX9_toldApart_16 : decode cX9_toldApart 16 = .ok (.aload_n 0, 1) := by decide +kernel
theorem dX9_toldApart_17 : decode cX9_toldApart 17 = .ok (.getfield 51, 3) := by decide +kernel
theorem dX9_toldApart_20 : decode cX9_toldApart 20 = .ok (.aload_n 0, 1) := by decide +kernel
theorem dX9_toldApart_21 : decode cX9_toldApart 21 = .ok (.getfield 55, 3) := by decide +kernel
theorem dX9_toldApart_24 : decode cX9_toldApart 24 = .ok (.invokevirtual 321, 3) := by decide +kernel
theorem dX9_toldApart_27 : decode cX9_toldApart 27 = .ok (.ifCond .ne 5, 3) := by decide +kernel
theorem dX9_toldApart_30 : decode cX9_toldApart 30 = .ok (.iconst 0, 1) := by decide +kernel
theorem dX9_toldApart_31 : decode cX9_toldApart 31 = .ok (.ireturn, 1) := by decide +kernel
theorem dX9_toldApart_32 : decode cX9_toldApart 32 = .ok (.iconst 1, 1) := by decide +kernel
theorem dX9_toldApart_33 : decode cX9_toldApart 33 = .ok (.istore_n 3, 1) := by decide +kernel
theorem dX9_toldApart_34 : decode cX9_toldApart 34 = .ok (.iload_n 3, 1) := by decide +kernel
theorem dX9_toldApart_35 : decode cX9_toldApart 35 = .ok (.bipush 7, 2) := by decide +kernel
theorem dX9_toldApart_37 : decode cX9_toldApart 37 = .ok (.if_icmp .gt 52, 3) := by decide +kernel
theorem dX9_toldApart_40 : decode cX9_toldApart 40 = .ok (.aload_n 0, 1) := by decide +kernel
theorem dX9_toldApart_41 : decode cX9_toldApart 41 = .ok (.getfield 51, 3) := by decide +kernel
theorem dX9_toldApart_44 : decode cX9_toldApart 44 = .ok (.aload_n 1, 1) := by decide +kernel
theorem dX9_toldApart_45 : decode cX9_toldApart 45 = .ok (.invokevirtual 325, 3) := by decide +kernel
theorem dX9_toldApart_48 : decode cX9_toldApart 48 = .ok (.istore 4, 2) := by decide +kernel
theorem dX9_toldApart_50 : decode cX9_toldApart 50 = .ok (.aload_n 0, 1) := by decide +kernel
theorem dX9_toldApart_51 : decode cX9_toldApart 51 = .ok (.getfield 55, 3) := by decide +kernel
theorem dX9_toldApart_54 : decode cX9_toldApart 54 = .ok (.aload_n 2, 1) := by decide +kernel
theorem dX9_toldApart_55 : decode cX9_toldApart 55 = .ok (.invokevirtual 325, 3) := by decide +kernel
theorem dX9_toldApart_58 : decode cX9_toldApart 58 = .ok (.pop, 1) := by decide +kernel
theorem dX9_toldApart_59 : decode cX9_toldApart 59 = .ok (.aload_n 0, 1) := by decide +kernel
theorem dX9_toldApart_60 : decode cX9_toldApart 60 = .ok (.getfield 51, 3) := by decide +kernel
theorem dX9_toldApart_63 : decode cX9_toldApart 63 = .ok (.aload_n 0, 1) := by decide +kernel
theorem dX9_toldApart_64 : decode cX9_toldApart 64 = .ok (.getfield 55, 3) := by decide +kernel
theorem dX9_toldApart_67 : decode cX9_toldApart 67 = .ok (.invokevirtual 321, 3) := by decide +kernel
theorem dX9_toldApart_70 : decode cX9_toldApart 70 = .ok (.ifCond .ne 5, 3) := by decide +kernel
theorem dX9_toldApart_73 : decode cX9_toldApart 73 = .ok (.iload_n 3, 1) := by decide +kernel
theorem dX9_toldApart_74 : decode cX9_toldApart 74 = .ok (.ireturn, 1) := by decide +kernel
theorem dX9_toldApart_75 : decode cX9_toldApart 75 = .ok (.iload 4, 2) := by decide +kernel
theorem dX9_toldApart_77 : decode cX9_toldApart 77 = .ok (.ifCond .ne 6, 3) := by decide +kernel
theorem dX9_toldApart_80 : decode cX9_toldApart 80 = .ok (.bipush (-2), 2) := by decide +kernel
theorem dX9_toldApart_82 : decode cX9_toldApart 82 = .ok (.ireturn, 1) := by decide +kernel
theorem dX9_toldApart_83 : decode cX9_toldApart 83 = .ok (.iinc 3 1, 3) := by decide +kernel
theorem dX9_toldApart_86 : decode cX9_toldApart 86 = .ok (.goto (-52), 3) := by decide +kernel
theorem dX9_toldApart_89 : decode cX9_toldApart 89 = .ok (.bipush (-2), 2) := by decide +kernel
theorem dX9_toldApart_91 : decode cX9_toldApart 91 = .ok (.ireturn, 1) := by decide +kernel
theorem dX9_cellsWith_0 : decode cX9_cellsWith 0 = .ok (.aload_n 0, 1) := by decide +kernel
theorem dX9_cellsWith_1 : decode cX9_cellsWith 1 = .ok (.getfield 51, 3) := by decide +kernel
theorem dX9_cellsWith_4 : decode cX9_cellsWith 4 = .ok (.aload_n 0, 1) := by decide +kernel
theorem dX9_cellsWith_5 : decode cX9_cellsWith 5 = .ok (.getfield 55, 3) := by decide +kernel
theorem dX9_cellsWith_8 : decode cX9_cellsWith 8 = .ok (.invokevirtual 332, 3) := by decide +kernel
theorem dX9_cellsWith_11 : decode cX9_cellsWith 11 = .ok (.iconst 0, 1) := by decide +kernel
theorem dX9_cellsWith_12 : decode cX9_cellsWith 12 = .ok (.istore_n 3, 1) := by decide +kernel
theorem dX9_cellsWith_13 : decode cX9_cellsWith 13 = .ok (.iload_n 3, 1) := by decide +kernel
theorem dX9_cellsWith_14 : decode cX9_cellsWith 14 = .ok (.aload_n 1, 1) := by decide +kernel
theorem dX9_cellsWith_15 : decode cX9_cellsWith 15 = .ok (.getfield 119, 3) := by decide +kernel
theorem dX9_cellsWith_18 : decode cX9_cellsWith 18 = .ok (.if_icmp .ge 25, 3) := by decide +kernel
theorem dX9_cellsWith_21 : decode cX9_cellsWith 21 = .ok (.iload_n 2, 1) := by decide +kernel
theorem dX9_cellsWith_22 : decode cX9_cellsWith 22 = .ok (.iload_n 3, 1) := by decide +kernel
theorem dX9_cellsWith_23 : decode cX9_cellsWith 23 = .ok (.invokestatic 174, 3) := by decide +kernel
theorem dX9_cellsWith_26 : decode cX9_cellsWith 26 = .ok (.ifCond .eq 11, 3) := by decide +kernel
theorem dX9_cellsWith_29 : decode cX9_cellsWith 29 = .ok (.aload_n 0, 1) := by decide +kernel
theorem dX9_cellsWith_30 : decode cX9_cellsWith 30 = .ok (.getfield 51, 3) := by decide +kernel
theorem dX9_cellsWith_33 : decode cX9_cellsWith 33 = .ok (.iload_n 3, 1) := by decide +kernel
theorem dX9_cellsWith_34 : decode cX9_cellsWith 34 = .ok (.invokevirtual 178, 3) := by decide +kernel
theorem dX9_cellsWith_37 : decode cX9_cellsWith 37 = .ok (.iinc 3 1, 3) := by decide +kernel
theorem dX9_cellsWith_40 : decode cX9_cellsWith 40 = .ok (.goto (-27), 3) := by decide +kernel
theorem dX9_cellsWith_43 : decode cX9_cellsWith 43 = .ok (.aload_n 0, 1) := by decide +kernel
theorem dX9_cellsWith_44 : decode cX9_cellsWith 44 = .ok (.getfield 51, 3) := by decide +kernel
theorem dX9_cellsWith_47 : decode cX9_cellsWith 47 = .ok (.aload_n 1, 1) := by decide +kernel
theorem dX9_cellsWith_48 : decode cX9_cellsWith 48 = .ok (.invokevirtual 159, 3) := by decide +kernel
theorem dX9_cellsWith_51 : decode cX9_cellsWith 51 = .ok (.aload_n 0, 1) := by decide +kernel
theorem dX9_cellsWith_52 : decode cX9_cellsWith 52 = .ok (.getfield 51, 3) := by decide +kernel
theorem dX9_cellsWith_55 : decode cX9_cellsWith 55 = .ok (.getfield 135, 3) := by decide +kernel
theorem dX9_cellsWith_58 : decode cX9_cellsWith 58 = .ok (.ireturn, 1) := by decide +kernel
theorem dX9_in_0 : decode cX9_in 0 = .ok (.iload_n 0, 1) := by decide +kernel
theorem dX9_in_1 : decode cX9_in 1 = .ok (.iload_n 1, 1) := by decide +kernel
theorem dX9_in_2 : decode cX9_in 2 = .ok (.ishr, 1) := by decide +kernel
theorem dX9_in_3 : decode cX9_in 3 = .ok (.iconst 1, 1) := by decide +kernel
theorem dX9_in_4 : decode cX9_in 4 = .ok (.iand, 1) := by decide +kernel
theorem dX9_in_5 : decode cX9_in 5 = .ok (.ifCond .eq 7, 3) := by decide +kernel
theorem dX9_in_8 : decode cX9_in 8 = .ok (.iconst 1, 1) := by decide +kernel
theorem dX9_in_9 : decode cX9_in 9 = .ok (.goto 4, 3) := by decide +kernel
theorem dX9_in_12 : decode cX9_in 12 = .ok (.iconst 0, 1) := by decide +kernel
theorem dX9_in_13 : decode cX9_in 13 = .ok (.ireturn, 1) := by decide +kernel
theorem dX9_sentTo_0 : decode cX9_sentTo 0 = .ok (.iload_n 0, 1) := by decide +kernel
theorem dX9_sentTo_1 : decode cX9_sentTo 1 = .ok (.iconst 3, 1) := by decide +kernel
theorem dX9_sentTo_2 : decode cX9_sentTo 2 = .ok (.iload_n 1, 1) := by decide +kernel
theorem dX9_sentTo_3 : decode cX9_sentTo 3 = .ok (.imul, 1) := by decide +kernel
theorem dX9_sentTo_4 : decode cX9_sentTo 4 = .ok (.ishr, 1) := by decide +kernel
theorem dX9_sentTo_5 : decode cX9_sentTo 5 = .ok (.bipush 7, 2) := by decide +kernel
theorem dX9_sentTo_7 : decode cX9_sentTo 7 = .ok (.iand, 1) := by decide +kernel
theorem dX9_sentTo_8 : decode cX9_sentTo 8 = .ok (.ireturn, 1) := by decide +kernel
theorem dX10_init_0 : decode cX10_init 0 = .ok (.aload_n 0, 1) := by decide +kernel
theorem dX10_init_1 : decode cX10_init 1 = .ok (.invokespecial 1, 3) := by decide +kernel
theorem dX10_init_4 : decode cX10_init 4 = .ok (.aload_n 0, 1) := by decide +kernel
theorem dX10_init_5 : decode cX10_init 5 = .ok (.aload_n 1, 1) := by decide +kernel
theorem dX10_init_6 : decode cX10_init 6 = .ok (.putfield 7, 3) := by decide +kernel
theorem dX10_init_9 : decode cX10_init 9 = .ok (.return_, 1) := by decide +kernel
theorem dX10_next_0 : decode cX10_next 0 = .ok (.aload_n 0, 1) := by decide +kernel
theorem dX10_next_1 : decode cX10_next 1 = .ok (.getfield 13, 3) := by decide +kernel
theorem dX10_next_4 : decode cX10_next 4 = .ok (.aload_n 0, 1) := by decide +kernel
theorem dX10_next_5 : decode cX10_next 5 = .ok (.getfield 7, 3) := by decide +kernel
theorem dX10_next_8 : decode cX10_next 8 = .ok (.arraylength, 1) := by decide +kernel
theorem dX10_next_9 : decode cX10_next 9 = .ok (.if_icmp .ge 18, 3) := by decide +kernel
theorem dX10_next_12 : decode cX10_next 12 = .ok (.aload_n 0, 1) := by decide +kernel
theorem dX10_next_13 : decode cX10_next 13 = .ok (.getfield 7, 3) := by decide +kernel
theorem dX10_next_16 : decode cX10_next 16 = .ok (.aload_n 0, 1) := by decide +kernel
theorem dX10_next_17 : decode cX10_next 17 = .ok (.getfield 13, 3) := by decide +kernel
theorem dX10_next_20 : decode cX10_next 20 = .ok (.iaload, 1) := by decide +kernel
theorem dX10_next_21 : decode cX10_next 21 = .ok (.ldc 17, 2) := by decide +kernel
theorem dX10_next_23 : decode cX10_next 23 = .ok (.iand, 1) := by decide +kernel
theorem dX10_next_24 : decode cX10_next 24 = .ok (.goto 4, 3) := by decide +kernel
theorem dX10_next_27 : decode cX10_next 27 = .ok (.iconst 0, 1) := by decide +kernel
theorem dX10_next_28 : decode cX10_next 28 = .ok (.istore_n 3, 1) := by decide +kernel
theorem dX10_next_29 : decode cX10_next 29 = .ok (.aload_n 0, 1) := by decide +kernel
theorem dX10_next_30 : decode cX10_next 30 = .ok (.dup, 1) := by decide +kernel
theorem dX10_next_31 : decode cX10_next 31 = .ok (.getfield 13, 3) := by decide +kernel
theorem dX10_next_34 : decode cX10_next 34 = .ok (.iconst 1, 1) := by decide +kernel
theorem dX10_next_35 : decode cX10_next 35 = .ok (.iadd, 1) := by decide +kernel
theorem dX10_next_36 : decode cX10_next 36 = .ok (.putfield 13, 3) := by decide +kernel
theorem dX10_next_39 : decode cX10_next 39 = .ok (.iload_n 1, 1) := by decide +kernel
theorem dX10_next_40 : decode cX10_next 40 = .ok (.iload_n 3, 1) := by decide +kernel
theorem dX10_next_41 : decode cX10_next 41 = .ok (.iload_n 2, 1) := by decide +kernel
theorem dX10_next_42 : decode cX10_next 42 = .ok (.iload_n 1, 1) := by decide +kernel
theorem dX10_next_43 : decode cX10_next 43 = .ok (.isub, 1) := by decide +kernel
theorem dX10_next_44 : decode cX10_next 44 = .ok (.iconst 1, 1) := by decide +kernel
theorem dX10_next_45 : decode cX10_next 45 = .ok (.iadd, 1) := by decide +kernel
theorem dX10_next_46 : decode cX10_next 46 = .ok (.irem, 1) := by decide +kernel
theorem dX10_next_47 : decode cX10_next 47 = .ok (.iadd, 1) := by decide +kernel
theorem dX10_next_48 : decode cX10_next 48 = .ok (.ireturn, 1) := by decide +kernel
theorem dJ5_init_d00df_0 : decode cJ5_init_d00df 0 = .ok (.aload_n 0, 1) := by decide +kernel
theorem dJ5_init_d00df_1 : decode cJ5_init_d00df 1 = .ok (.invokespecial 3, 3) := by decide +kernel
theorem dJ5_init_d00df_4 : decode cJ5_init_d00df 4 = .ok (.getstatic 18, 3) := by decide +kernel
theorem dJ5_init_d00df_7 : decode cJ5_init_d00df 7 = .ok (.ifCond .eq 18, 3) := by decide +kernel
theorem dJ5_init_d00df_10 : decode cJ5_init_d00df 10 = .ok (.aload_n 0, 1) := by decide +kernel
theorem dJ5_init_d00df_11 : decode cJ5_init_d00df 11 = .ok (.iload_n 1, 1) := by decide +kernel
theorem dJ5_init_d00df_12 : decode cJ5_init_d00df 12 = .ok (.newarray .byte, 2) := by decide +kernel
theorem dJ5_init_d00df_14 : decode cJ5_init_d00df 14 = .ok (.putfield 15, 3) := by decide +kernel
theorem dJ5_init_d00df_17 : decode cJ5_init_d00df 17 = .ok (.aload_n 0, 1) := by decide +kernel
theorem dJ5_init_d00df_18 : decode cJ5_init_d00df 18 = .ok (.iconst 0, 1) := by decide +kernel
theorem dJ5_init_d00df_19 : decode cJ5_init_d00df 19 = .ok (.putfield 22, 3) := by decide +kernel
theorem dJ5_init_d00df_22 : decode cJ5_init_d00df 22 = .ok (.goto 16, 3) := by decide +kernel
theorem dJ5_init_d00df_25 : decode cJ5_init_d00df 25 = .ok (.aload_n 0, 1) := by decide +kernel
theorem dJ5_init_d00df_26 : decode cJ5_init_d00df 26 = .ok (.iload_n 1, 1) := by decide +kernel
theorem dJ5_init_d00df_27 : decode cJ5_init_d00df 27 = .ok (.invokestatic 26, 3) := by decide +kernel
theorem dJ5_init_d00df_30 : decode cJ5_init_d00df 30 = .ok (.putfield 15, 3) := by decide +kernel
theorem dJ5_init_d00df_33 : decode cJ5_init_d00df 33 = .ok (.aload_n 0, 1) := by decide +kernel
theorem dJ5_init_d00df_34 : decode cJ5_init_d00df 34 = .ok (.iconst 1, 1) := by decide +kernel
theorem dJ5_init_d00df_35 : decode cJ5_init_d00df 35 = .ok (.putfield 22, 3) := by decide +kernel
theorem dJ5_init_d00df_38 : decode cJ5_init_d00df 38 = .ok (.return_, 1) := by decide +kernel
theorem dJ5_init_a7421_0 : decode cJ5_init_a7421 0 = .ok (.aload_n 0, 1) := by decide +kernel
theorem dJ5_init_a7421_1 : decode cJ5_init_a7421 1 = .ok (.invokespecial 3, 3) := by decide +kernel
theorem dJ5_init_a7421_4 : decode cJ5_init_a7421 4 = .ok (.aload_n 1, 1) := by decide +kernel
theorem dJ5_init_a7421_5 : decode cJ5_init_a7421 5 = .ok (.invokevirtual 32, 3) := by decide +kernel
theorem dJ5_init_a7421_8 : decode cJ5_init_a7421 8 = .ok (.istore_n 2, 1) := by decide +kernel
theorem dJ5_init_a7421_9 : decode cJ5_init_a7421 9 = .ok (.iload_n 2, 1) := by decide +kernel
theorem dJ5_init_a7421_10 : decode cJ5_init_a7421 10 = .ok (.ldc 38, 2) := by decide +kernel
theorem dJ5_init_a7421_12 : decode cJ5_init_a7421 12 = .ok (.if_icmp .ge 10, 3) := by decide +kernel
theorem dJ5_init_a7421_15 : decode cJ5_init_a7421 15 = .ok (.iload_n 2, 1) := by decide +kernel
theorem dJ5_init_a7421_16 : decode cJ5_init_a7421 16 = .ok (.bipush 16, 2) := by decide +kernel
theorem dJ5_init_a7421_18 : decode cJ5_init_a7421 18 = .ok (.iadd, 1) := by decide +kernel
theorem dJ5_init_a7421_19 : decode cJ5_init_a7421 19 = .ok (.goto 5, 3) := by decide +kernel
theorem dJ5_init_a7421_22 : decode cJ5_init_a7421 22 = .ok (.ldc 39, 2) := by decide +kernel
theorem dJ5_init_a7421_24 : decode cJ5_init_a7421 24 = .ok (.istore_n 3, 1) := by decide +kernel
theorem dJ5_init_a7421_25 : decode cJ5_init_a7421 25 = .ok (.aload_n 1, 1) := by decide +kernel
theorem dJ5_init_a7421_26 : decode cJ5_init_a7421 26 = .ok (.invokevirtual 40, 3) := by decide +kernel
theorem dJ5_init_a7421_29 : decode cJ5_init_a7421 29 = .ok (.istore 4, 2) := by decide +kernel
theorem dJ5_init_a7421_31 : decode cJ5_init_a7421 31 = .ok (.aload_n 0, 1) := by decide +kernel
theorem dJ5_init_a7421_32 : decode cJ5_init_a7421 32 = .ok (.iload 4, 2) := by decide +kernel
theorem dJ5_init_a7421_34 : decode cJ5_init_a7421 34 = .ok (.putfield 22, 3) := by decide +kernel
theorem dJ5_init_a7421_37 : decode cJ5_init_a7421 37 = .ok (.aload_n 0, 1) := by decide +kernel
theorem dJ5_init_a7421_38 : decode cJ5_init_a7421 38 = .ok (.iload 4, 2) := by decide +kernel
theorem dJ5_init_a7421_40 : decode cJ5_init_a7421 40 = .ok (.ifCond .ne 9, 3) := by decide +kernel
theorem dJ5_init_a7421_43 : decode cJ5_init_a7421 43 = .ok (.iload_n 3, 1) := by decide +kernel
theorem dJ5_init_a7421_44 : decode cJ5_init_a7421 44 = .ok (.newarray .byte, 2) := by decide +kernel
theorem dJ5_init_a7421_46 : decode cJ5_init_a7421 46 = .ok (.goto 7, 3) := by decide +kernel
theorem dJ5_init_a7421_49 : decode cJ5_init_a7421 49 = .ok (.iload_n 3, 1) := by decide +kernel
theorem dJ5_init_a7421_50 : decode cJ5_init_a7421 50 = .ok (.invokestatic 26, 3) := by decide +kernel
theorem dJ5_init_a7421_53 : decode cJ5_init_a7421 53 = .ok (.putfield 15, 3) := by decide +kernel
theorem dJ5_init_a7421_56 : decode cJ5_init_a7421 56 = .ok (.aload_n 0, 1) := by decide +kernel
theorem dJ5_init_a7421_57 : decode cJ5_init_a7421 57 = .ok (.aload_n 1, 1) := by decide +kernel
theorem dJ5_init_a7421_58 : decode cJ5_init_a7421 58 = .ok (.invokevirtual 43, 3) := by decide +kernel
theorem dJ5_init_a7421_61 : decode cJ5_init_a7421 61 = .ok (.pop, 1) := by decide +kernel
theorem dJ5_init_a7421_62 : decode cJ5_init_a7421 62 = .ok (.return_, 1) := by decide +kernel
theorem dJ5_ensureCapacityInternal_d00df_0 : decode cJ5_ensureCapacityInternal_d00df 0 = .ok (.aload_n 0, 1) := by decide +kernel
theorem dJ5_ensureCapacityInternal_d00df_1 : decode cJ5_ensureCapacityInternal_d00df 1 = .ok (.getfield 15, 3) := by decide +kernel
theorem dJ5_ensureCapacityInternal_d00df_4 : decode cJ5_ensureCapacityInternal_d00df 4 = .ok (.arraylength, 1) := by decide +kernel
theorem dJ5_ensureCapacityInternal_d00df_5 : decode cJ5_ensureCapacityInternal_d00df 5 = .ok (.aload_n 0, 1) := by decide +kernel
theorem dJ5_ensureCapacityInternal_d00df_6 : decode cJ5_ensureCapacityInternal_d00df 6 = .ok (.getfield 22, 3) := by decide +kernel
theorem dJ5_ensureCapacityInternal_d00df_9 : decode cJ5_ensureCapacityInternal_d00df 9 = .ok (.ishr, 1) := by decide +kernel
theorem dJ5_ensureCapacityInternal_d00df_10 : decode cJ5_ensureCapacityInternal_d00df 10 = .ok (.istore_n 2, 1) := by decide +kernel
theorem dJ5_ensureCapacityInternal_d00df_11 : decode cJ5_ensureCapacityInternal_d00df 11 = .ok (.iload_n 1, 1) := by decide +kernel
theorem dJ5_ensureCapacityInternal_d00df_12 : decode cJ5_ensureCapacityInternal_d00df 12 = .ok (.iload_n 2, 1) := by decide +kernel
theorem dJ5_ensureCapacityInternal_d00df_13 : decode cJ5_ensureCapacityInternal_d00df 13 = .ok (.isub, 1) := by decide +kernel
theorem dJ5_ensureCapacityInternal_d00df_14 : decode cJ5_ensureCapacityInternal_d00df 14 = .ok (.ifCond .le 24, 3) := by decide +kernel
theorem dJ5_ensureCapacityInternal_d00df_17 : decode cJ5_ensureCapacityInternal_d00df 17 = .ok (.aload_n 0, 1) := by decide +kernel
theorem dJ5_ensureCapacityInternal_d00df_18 : decode cJ5_ensureCapacityInternal_d00df 18 = .ok (.aload_n 0, 1) := by decide +kernel
theorem dJ5_ensureCapacityInternal_d00df_19 : decode cJ5_ensureCapacityInternal_d00df 19 = .ok (.getfield 15, 3) := by decide +kernel
theorem dJ5_ensureCapacityInternal_d00df_22 : decode cJ5_ensureCapacityInternal_d00df 22 = .ok (.aload_n 0, 1) := by decide +kernel
theorem dJ5_ensureCapacityInternal_d00df_23 : decode cJ5_ensureCapacityInternal_d00df 23 = .ok (.iload_n 1, 1) := by decide +kernel
theorem dJ5_ensureCapacityInternal_d00df_24 : decode cJ5_ensureCapacityInternal_d00df 24 = .ok (.invokevirtual 104, 3) := by decide +kernel
theorem dJ5_ensureCapacityInternal_d00df_27 : decode cJ5_ensureCapacityInternal_d00df 27 = .ok (.aload_n 0, 1) := by decide +kernel
theorem dJ5_ensureCapacityInternal_d00df_28 : decode cJ5_ensureCapacityInternal_d00df 28 = .ok (.getfield 22, 3) := by decide +kernel
theorem dJ5_ensureCapacityInternal_d00df_31 : decode cJ5_ensureCapacityInternal_d00df 31 = .ok (.ishl, 1) := by decide +kernel
theorem dJ5_ensureCapacityInternal_d00df_32 : decode cJ5_ensureCapacityInternal_d00df 32 = .ok (.invokestatic 108, 3) := by decide +kernel
theorem dJ5_ensureCapacityInternal_d00df_35 : decode cJ5_ensureCapacityInternal_d00df 35 = .ok (.putfield 15, 3) := by decide +kernel
theorem dJ5_ensureCapacityInternal_d00df_38 : decode cJ5_ensureCapacityInternal_d00df 38 = .ok (.return_, 1) := by decide +kernel
theorem dJ5_newCapacity_0f7a4_0 : decode cJ5_newCapacity_0f7a4 0 = .ok (.aload_n 0, 1) := by decide +kernel
theorem dJ5_newCapacity_0f7a4_1 : decode cJ5_newCapacity_0f7a4 1 = .ok (.getfield 15, 3) := by decide +kernel
theorem dJ5_newCapacity_0f7a4_4 : decode cJ5_newCapacity_0f7a4 4 = .ok (.arraylength, 1) := by decide +kernel
theorem dJ5_newCapacity_0f7a4_5 : decode cJ5_newCapacity_0f7a4 5 = .ok (.istore_n 2, 1) := by decide +kernel
theorem dJ5_newCapacity_0f7a4_6 : decode cJ5_newCapacity_0f7a4 6 = .ok (.iload_n 1, 1) := by decide +kernel
theorem dJ5_newCapacity_0f7a4_7 : decode cJ5_newCapacity_0f7a4 7 = .ok (.aload_n 0, 1) := by decide +kernel
theorem dJ5_newCapacity_0f7a4_8 : decode cJ5_newCapacity_0f7a4 8 = .ok (.getfield 22, 3) := by decide +kernel
theorem dJ5_newCapacity_0f7a4_11 : decode cJ5_newCapacity_0f7a4 11 = .ok (.ishl, 1) := by decide +kernel
theorem dJ5_newCapacity_0f7a4_12 : decode cJ5_newCapacity_0f7a4 12 = .ok (.istore_n 3, 1) := by decide +kernel
theorem dJ5_newCapacity_0f7a4_13 : decode cJ5_newCapacity_0f7a4 13 = .ok (.iload_n 3, 1) := by decide +kernel
theorem dJ5_newCapacity_0f7a4_14 : decode cJ5_newCapacity_0f7a4 14 = .ok (.iload_n 2, 1) := by decide +kernel
theorem dJ5_newCapacity_0f7a4_15 : decode cJ5_newCapacity_0f7a4 15 = .ok (.isub, 1) := by decide +kernel
theorem dJ5_newCapacity_0f7a4_16 : decode cJ5_newCapacity_0f7a4 16 = .ok (.istore 4, 2) := by decide +kernel
theorem dJ5_newCapacity_0f7a4_18 : decode cJ5_newCapacity_0f7a4 18 = .ok (.iload_n 2, 1) := by decide +kernel
theorem dJ5_newCapacity_0f7a4_19 : decode cJ5_newCapacity_0f7a4 19 = .ok (.iload 4, 2) := by decide +kernel
theorem dJ5_newCapacity_0f7a4_21 : decode cJ5_newCapacity_0f7a4 21 = .ok (.iload_n 2, 1) := by decide +kernel
theorem dJ5_newCapacity_0f7a4_22 : decode cJ5_newCapacity_0f7a4 22 = .ok (.iconst 2, 1) := by decide +kernel
theorem dJ5_newCapacity_0f7a4_23 : decode cJ5_newCapacity_0f7a4 23 = .ok (.aload_n 0, 1) := by decide +kernel
theorem dJ5_newCapacity_0f7a4_24 : decode cJ5_newCapacity_0f7a4 24 = .ok (.getfield 22, 3) := by decide +kernel
theorem dJ5_newCapacity_0f7a4_27 : decode cJ5_newCapacity_0f7a4 27 = .ok (.ishl, 1) := by decide +kernel
theorem dJ5_newCapacity_0f7a4_28 : decode cJ5_newCapacity_0f7a4 28 = .ok (.iadd, 1) := by decide +kernel
theorem dJ5_newCapacity_0f7a4_29 : decode cJ5_newCapacity_0f7a4 29 = .ok (.invokestatic 114, 3) := by decide +kernel
theorem dJ5_newCapacity_0f7a4_32 : decode cJ5_newCapacity_0f7a4 32 = .ok (.istore 5, 2) := by decide +kernel
theorem dJ5_newCapacity_0f7a4_34 : decode cJ5_newCapacity_0f7a4 34 = .ok (.iload 5, 2) := by decide +kernel
theorem dJ5_newCapacity_0f7a4_36 : decode cJ5_newCapacity_0f7a4 36 = .ok (.ldc 39, 2) := by decide +kernel
theorem dJ5_newCapacity_0f7a4_38 : decode cJ5_newCapacity_0f7a4 38 = .ok (.if_icmp .ne 13, 3) := by decide +kernel
theorem dJ5_newCapacity_0f7a4_41 : decode cJ5_newCapacity_0f7a4 41 = .ok (.new 120, 3) := by decide +kernel
theorem dJ5_newCapacity_0f7a4_44 : decode cJ5_newCapacity_0f7a4 44 = .ok (.dup, 1) := by decide +kernel
theorem dJ5_newCapacity_0f7a4_45 : decode cJ5_newCapacity_0f7a4 45 = .ok (.ldc 122, 2) := by decide +kernel
theorem dJ5_newCapacity_0f7a4_47 : decode cJ5_newCapacity_0f7a4 47 = .ok (.invokespecial 124, 3) := by decide +kernel
theorem dJ5_newCapacity_0f7a4_50 : decode cJ5_newCapacity_0f7a4 50 = .ok (.athrow, 1) := by decide +kernel
theorem dJ5_newCapacity_0f7a4_51 : decode cJ5_newCapacity_0f7a4 51 = .ok (.iload 5, 2) := by decide +kernel
theorem dJ5_newCapacity_0f7a4_53 : decode cJ5_newCapacity_0f7a4 53 = .ok (.aload_n 0, 1) := by decide +kernel
theorem dJ5_newCapacity_0f7a4_54 : decode cJ5_newCapacity_0f7a4 54 = .ok (.getfield 22, 3) := by decide +kernel
theorem dJ5_newCapacity_0f7a4_57 : decode cJ5_newCapacity_0f7a4 57 = .ok (.ishr, 1) := by decide +kernel
theorem dJ5_newCapacity_0f7a4_58 : decode cJ5_newCapacity_0f7a4 58 = .ok (.ireturn, 1) := by decide +kernel
theorem dJ5_append_cf1ce_0 : decode cJ5_append_cf1ce 0 = .ok (.aload_n 1, 1) := by decide +kernel
theorem dJ5_append_cf1ce_1 : decode cJ5_append_cf1ce 1 = .ok (.ifnonnull 8, 3) := by decide +kernel
theorem dJ5_append_cf1ce_4 : decode cJ5_append_cf1ce 4 = .ok (.aload_n 0, 1) := by decide +kernel
theorem dJ5_append_cf1ce_5 : decode cJ5_append_cf1ce 5 = .ok (.invokevirtual 204, 3) := by decide +kernel
theorem dJ5_append_cf1ce_8 : decode cJ5_append_cf1ce 8 = .ok (.areturn, 1) := by decide +kernel
theorem dJ5_append_cf1ce_9 : decode cJ5_append_cf1ce 9 = .ok (.aload_n 1, 1) := by decide +kernel
theorem dJ5_append_cf1ce_10 : decode cJ5_append_cf1ce 10 = .ok (.invokevirtual 32, 3) := by decide +kernel
theorem dJ5_append_cf1ce_13 : decode cJ5_append_cf1ce 13 = .ok (.istore_n 2, 1) := by decide +kernel
theorem dJ5_append_cf1ce_14 : decode cJ5_append_cf1ce 14 = .ok (.aload_n 0, 1) := by decide +kernel
theorem dJ5_append_cf1ce_15 : decode cJ5_append_cf1ce 15 = .ok (.aload_n 0, 1) := by decide +kernel
theorem dJ5_append_cf1ce_16 : decode cJ5_append_cf1ce 16 = .ok (.getfield 79, 3) := by decide +kernel
theorem dJ5_append_cf1ce_19 : decode cJ5_append_cf1ce 19 = .ok (.iload_n 2, 1) := by decide +kernel
theorem dJ5_append_cf1ce_20 : decode cJ5_append_cf1ce 20 = .ok (.iadd, 1) := by decide +kernel
theorem dJ5_append_cf1ce_21 : decode cJ5_append_cf1ce 21 = .ok (.invokevirtual 100, 3) := by decide +kernel
theorem dJ5_append_cf1ce_24 : decode cJ5_append_cf1ce 24 = .ok (.aload_n 0, 1) := by decide +kernel
theorem dJ5_append_cf1ce_25 : decode cJ5_append_cf1ce 25 = .ok (.aload_n 0, 1) := by decide +kernel
theorem dJ5_append_cf1ce_26 : decode cJ5_append_cf1ce 26 = .ok (.getfield 79, 3) := by decide +kernel
theorem dJ5_append_cf1ce_29 : decode cJ5_append_cf1ce 29 = .ok (.aload_n 1, 1) := by decide +kernel
theorem dJ5_append_cf1ce_30 : decode cJ5_append_cf1ce 30 = .ok (.invokevirtual 208, 3) := by decide +kernel
theorem dJ5_append_cf1ce_33 : decode cJ5_append_cf1ce 33 = .ok (.aload_n 0, 1) := by decide +kernel
theorem dJ5_append_cf1ce_34 : decode cJ5_append_cf1ce 34 = .ok (.dup, 1) := by decide +kernel
theorem dJ5_append_cf1ce_35 : decode cJ5_append_cf1ce 35 = .ok (.getfield 79, 3) := by decide +kernel
theorem dJ5_append_cf1ce_38 : decode cJ5_append_cf1ce 38 = .ok (.iload_n 2, 1) := by decide +kernel
theorem dJ5_append_cf1ce_39 : decode cJ5_append_cf1ce 39 = .ok (.iadd, 1) := by decide +kernel
theorem dJ5_append_cf1ce_40 : decode cJ5_append_cf1ce 40 = .ok (.putfield 79, 3) := by decide +kernel
theorem dJ5_append_cf1ce_43 : decode cJ5_append_cf1ce 43 = .ok (.aload_n 0, 1) := by decide +kernel
theorem dJ5_append_cf1ce_44 : decode cJ5_append_cf1ce 44 = .ok (.areturn, 1) := by decide +kernel
theorem dJ5_append_3fe6f_0 : decode cJ5_append_3fe6f 0 = .ok (.aload_n 0, 1) := by decide +kernel
theorem dJ5_append_3fe6f_1 : decode cJ5_append_3fe6f 1 = .ok (.aload_n 0, 1) := by decide +kernel
theorem dJ5_append_3fe6f_2 : decode cJ5_append_3fe6f 2 = .ok (.getfield 79, 3) := by decide +kernel
theorem dJ5_append_3fe6f_5 : decode cJ5_append_3fe6f 5 = .ok (.iconst 1, 1) := by decide +kernel
theorem dJ5_append_3fe6f_6 : decode cJ5_append_3fe6f 6 = .ok (.iadd, 1) := by decide +kernel
theorem dJ5_append_3fe6f_7 : decode cJ5_append_3fe6f 7 = .ok (.invokevirtual 100, 3) := by decide +kernel
theorem dJ5_append_3fe6f_10 : decode cJ5_append_3fe6f 10 = .ok (.aload_n 0, 1) := by decide +kernel
theorem dJ5_append_3fe6f_11 : decode cJ5_append_3fe6f 11 = .ok (.invokevirtual 83, 3) := by decide +kernel
theorem dJ5_append_3fe6f_14 : decode cJ5_append_3fe6f 14 = .ok (.ifCond .eq 31, 3) := by decide +kernel
theorem dJ5_append_3fe6f_17 : decode cJ5_append_3fe6f 17 = .ok (.iload_n 1, 1) := by decide +kernel
theorem dJ5_append_3fe6f_18 : decode cJ5_append_3fe6f 18 = .ok (.invokestatic 191, 3) := by decide +kernel
theorem dJ5_append_3fe6f_21 : decode cJ5_append_3fe6f 21 = .ok (.ifCond .eq 24, 3) := by decide +kernel
theorem dJ5_append_3fe6f_24 : decode cJ5_append_3fe6f 24 = .ok (.aload_n 0, 1) := by decide +kernel
theorem dJ5_append_3fe6f_25 : decode cJ5_append_3fe6f 25 = .ok (.getfield 15, 3) := by decide +kernel
theorem dJ5_append_3fe6f_28 : decode cJ5_append_3fe6f 28 = .ok (.aload_n 0, 1) := by decide +kernel
theorem dJ5_append_3fe6f_29 : decode cJ5_append_3fe6f 29 = .ok (.dup, 1) := by decide +kernel
theorem dJ5_append_3fe6f_30 : decode cJ5_append_3fe6f 30 = .ok (.getfield 79, 3) := by decide +kernel
theorem dJ5_append_3fe6f_33 : decode cJ5_append_3fe6f 33 = .ok (.dup_x1, 1) := by decide +kernel
theorem dJ5_append_3fe6f_34 : decode cJ5_append_3fe6f 34 = .ok (.iconst 1, 1) := by decide +kernel
theorem dJ5_append_3fe6f_35 : decode cJ5_append_3fe6f 35 = .ok (.iadd, 1) := by decide +kernel
theorem dJ5_append_3fe6f_36 : decode cJ5_append_3fe6f 36 = .ok (.putfield 79, 3) := by decide +kernel
theorem dJ5_append_3fe6f_39 : decode cJ5_append_3fe6f 39 = .ok (.iload_n 1, 1) := by decide +kernel
theorem dJ5_append_3fe6f_40 : decode cJ5_append_3fe6f 40 = .ok (.i2b, 1) := by decide +kernel
theorem dJ5_append_3fe6f_41 : decode cJ5_append_3fe6f 41 = .ok (.bastore, 1) := by decide +kernel
theorem dJ5_append_3fe6f_42 : decode cJ5_append_3fe6f 42 = .ok (.goto 33, 3) := by decide +kernel
theorem dJ5_append_3fe6f_45 : decode cJ5_append_3fe6f 45 = .ok (.aload_n 0, 1) := by decide +kernel
theorem dJ5_append_3fe6f_46 : decode cJ5_append_3fe6f 46 = .ok (.invokevirtual 83, 3) := by decide +kernel
theorem dJ5_append_3fe6f_49 : decode cJ5_append_3fe6f 49 = .ok (.ifCond .eq 7, 3) := by decide +kernel
theorem dJ5_append_3fe6f_52 : decode cJ5_append_3fe6f 52 = .ok (.aload_n 0, 1) := by decide +kernel
theorem dJ5_append_3fe6f_53 : decode cJ5_append_3fe6f 53 = .ok (.invokevirtual 195, 3) := by decide +kernel
theorem dJ5_append_3fe6f_56 : decode cJ5_append_3fe6f 56 = .ok (.aload_n 0, 1) := by decide +kernel
theorem dJ5_append_3fe6f_57 : decode cJ5_append_3fe6f 57 = .ok (.getfield 15, 3) := by decide +kernel
theorem dJ5_append_3fe6f_60 : decode cJ5_append_3fe6f 60 = .ok (.aload_n 0, 1) := by decide +kernel
theorem dJ5_append_3fe6f_61 : decode cJ5_append_3fe6f 61 = .ok (.dup, 1) := by decide +kernel
theorem dJ5_append_3fe6f_62 : decode cJ5_append_3fe6f 62 = .ok (.getfield 79, 3) := by decide +kernel
theorem dJ5_append_3fe6f_65 : decode cJ5_append_3fe6f 65 = .ok (.dup_x1, 1) := by decide +kernel
theorem dJ5_append_3fe6f_66 : decode cJ5_append_3fe6f 66 = .ok (.iconst 1, 1) := by decide +kernel
theorem dJ5_append_3fe6f_67 : decode cJ5_append_3fe6f 67 = .ok (.iadd, 1) := by decide +kernel
theorem dJ5_append_3fe6f_68 : decode cJ5_append_3fe6f 68 = .ok (.putfield 79, 3) := by decide +kernel
theorem dJ5_append_3fe6f_71 : decode cJ5_append_3fe6f 71 = .ok (.iload_n 1, 1) := by decide +kernel
theorem dJ5_append_3fe6f_72 : decode cJ5_append_3fe6f 72 = .ok (.invokestatic 197, 3) := by decide +kernel
theorem dJ5_append_3fe6f_75 : decode cJ5_append_3fe6f 75 = .ok (.aload_n 0, 1) := by decide +kernel
theorem dJ5_append_3fe6f_76 : decode cJ5_append_3fe6f 76 = .ok (.areturn, 1) := by decide +kernel
theorem dJ5_append_c97b9_0 : decode cJ5_append_c97b9 0 = .ok (.aload_n 0, 1) := by decide +kernel
theorem dJ5_append_c97b9_1 : decode cJ5_append_c97b9 1 = .ok (.getfield 79, 3) := by decide +kernel
theorem dJ5_append_c97b9_4 : decode cJ5_append_c97b9 4 = .ok (.istore_n 2, 1) := by decide +kernel
theorem dJ5_append_c97b9_5 : decode cJ5_append_c97b9 5 = .ok (.iload_n 2, 1) := by decide +kernel
theorem dJ5_append_c97b9_6 : decode cJ5_append_c97b9 6 = .ok (.iload_n 1, 1) := by decide +kernel
theorem dJ5_append_c97b9_7 : decode cJ5_append_c97b9 7 = .ok (.invokestatic 245, 3) := by decide +kernel
theorem dJ5_append_c97b9_10 : decode cJ5_append_c97b9 10 = .ok (.iadd, 1) := by decide +kernel
theorem dJ5_append_c97b9_11 : decode cJ5_append_c97b9 11 = .ok (.istore_n 3, 1) := by decide +kernel
theorem dJ5_append_c97b9_12 : decode cJ5_append_c97b9 12 = .ok (.aload_n 0, 1) := by decide +kernel
theorem dJ5_append_c97b9_13 : decode cJ5_append_c97b9 13 = .ok (.iload_n 3, 1) := by decide +kernel
theorem dJ5_append_c97b9_14 : decode cJ5_append_c97b9 14 = .ok (.invokevirtual 100, 3) := by decide +kernel
theorem dJ5_append_c97b9_17 : decode cJ5_append_c97b9 17 = .ok (.aload_n 0, 1) := by decide +kernel
theorem dJ5_append_c97b9_18 : decode cJ5_append_c97b9 18 = .ok (.invokevirtual 83, 3) := by decide +kernel
theorem dJ5_append_c97b9_21 : decode cJ5_append_c97b9 21 = .ok (.ifCond .eq 16, 3) := by decide +kernel
theorem dJ5_append_c97b9_24 : decode cJ5_append_c97b9 24 = .ok (.iload_n 1, 1) := by decide +kernel
theorem dJ5_append_c97b9_25 : decode cJ5_append_c97b9 25 = .ok (.iload_n 3, 1) := by decide +kernel
theorem dJ5_append_c97b9_26 : decode cJ5_append_c97b9 26 = .ok (.aload_n 0, 1) := by decide +kernel
theorem dJ5_append_c97b9_27 : decode cJ5_append_c97b9 27 = .ok (.getfield 15, 3) := by decide +kernel
theorem dJ5_append_c97b9_30 : decode cJ5_append_c97b9 30 = .ok (.invokestatic 248, 3) := by decide +kernel
theorem dJ5_append_c97b9_33 : decode cJ5_append_c97b9 33 = .ok (.pop, 1) := by decide +kernel
theorem dJ5_append_c97b9_34 : decode cJ5_append_c97b9 34 = .ok (.goto 14, 3) := by decide +kernel
theorem dJ5_append_c97b9_37 : decode cJ5_append_c97b9 37 = .ok (.iload_n 1, 1) := by decide +kernel
theorem dJ5_append_c97b9_38 : decode cJ5_append_c97b9 38 = .ok (.iload_n 2, 1) := by decide +kernel
theorem dJ5_append_c97b9_39 : decode cJ5_append_c97b9 39 = .ok (.iload_n 3, 1) := by decide +kernel
theorem dJ5_append_c97b9_40 : decode cJ5_append_c97b9 40 = .ok (.aload_n 0, 1) := by decide +kernel
theorem dJ5_append_c97b9_41 : decode cJ5_append_c97b9 41 = .ok (.getfield 15, 3) := by decide +kernel
theorem dJ5_append_c97b9_44 : decode cJ5_append_c97b9 44 = .ok (.invokestatic 251, 3) := by decide +kernel
theorem dJ5_append_c97b9_47 : decode cJ5_append_c97b9 47 = .ok (.pop, 1) := by decide +kernel
theorem dJ5_append_c97b9_48 : decode cJ5_append_c97b9 48 = .ok (.aload_n 0, 1) := by decide +kernel
theorem dJ5_append_c97b9_49 : decode cJ5_append_c97b9 49 = .ok (.iload_n 3, 1) := by decide +kernel
theorem dJ5_append_c97b9_50 : decode cJ5_append_c97b9 50 = .ok (.putfield 79, 3) := by decide +kernel
theorem dJ5_append_c97b9_53 : decode cJ5_append_c97b9 53 = .ok (.aload_n 0, 1) := by decide +kernel
theorem dJ5_append_c97b9_54 : decode cJ5_append_c97b9 54 = .ok (.areturn, 1) := by decide +kernel
theorem dJ5_isLatin1_aae02_0 : decode cJ5_isLatin1_aae02 0 = .ok (.getstatic 18, 3) := by decide +kernel
theorem dJ5_isLatin1_aae02_3 : decode cJ5_isLatin1_aae02 3 = .ok (.ifCond .eq 14, 3) := by decide +kernel
theorem dJ5_isLatin1_aae02_6 : decode cJ5_isLatin1_aae02 6 = .ok (.aload_n 0, 1) := by decide +kernel
theorem dJ5_isLatin1_aae02_7 : decode cJ5_isLatin1_aae02 7 = .ok (.getfield 22, 3) := by decide +kernel
theorem dJ5_isLatin1_aae02_10 : decode cJ5_isLatin1_aae02 10 = .ok (.ifCond .ne 7, 3) := by decide +kernel
theorem dJ5_isLatin1_aae02_13 : decode cJ5_isLatin1_aae02 13 = .ok (.iconst 1, 1) := by decide +kernel
theorem dJ5_isLatin1_aae02_14 : decode cJ5_isLatin1_aae02 14 = .ok (.goto 4, 3) := by decide +kernel
theorem dJ5_isLatin1_aae02_17 : decode cJ5_isLatin1_aae02 17 = .ok (.iconst 0, 1) := by decide +kernel
theorem dJ5_isLatin1_aae02_18 : decode cJ5_isLatin1_aae02 18 = .ok (.ireturn, 1) := by decide +kernel
theorem dJ5_inflateIfNeededFor_a7421_0 : decode cJ5_inflateIfNeededFor_a7421 0 = .ok (.getstatic 18, 3) := by decide +kernel
theorem dJ5_inflateIfNeededFor_a7421_3 : decode cJ5_inflateIfNeededFor_a7421 3 = .ok (.ifCond .eq 18, 3) := by decide +kernel
theorem dJ5_inflateIfNeededFor_a7421_6 : decode cJ5_inflateIfNeededFor_a7421 6 = .ok (.aload_n 0, 1) := by decide +kernel
theorem dJ5_inflateIfNeededFor_a7421_7 : decode cJ5_inflateIfNeededFor_a7421 7 = .ok (.getfield 22, 3) := by decide +kernel
theorem dJ5_inflateIfNeededFor_a7421_10 : decode cJ5_inflateIfNeededFor_a7421 10 = .ok (.aload_n 1, 1) := by decide +kernel
theorem dJ5_inflateIfNeededFor_a7421_11 : decode cJ5_inflateIfNeededFor_a7421 11 = .ok (.invokevirtual 40, 3) := by decide +kernel
theorem dJ5_inflateIfNeededFor_a7421_14 : decode cJ5_inflateIfNeededFor_a7421 14 = .ok (.if_icmp .eq 7, 3) := by decide +kernel
theorem dJ5_inflateIfNeededFor_a7421_17 : decode cJ5_inflateIfNeededFor_a7421 17 = .ok (.aload_n 0, 1) := by decide +kernel
theorem dJ5_inflateIfNeededFor_a7421_18 : decode cJ5_inflateIfNeededFor_a7421 18 = .ok (.invokevirtual 195, 3) := by decide +kernel
theorem dJ5_inflateIfNeededFor_a7421_21 : decode cJ5_inflateIfNeededFor_a7421 21 = .ok (.return_, 1) := by decide +kernel
theorem dJ5_putStringAt_47b60_0 : decode cJ5_putStringAt_47b60 0 = .ok (.aload_n 0, 1) := by decide +kernel
theorem dJ5_putStringAt_47b60_1 : decode cJ5_putStringAt_47b60 1 = .ok (.aload_n 2, 1) := by decide +kernel
theorem dJ5_putStringAt_47b60_2 : decode cJ5_putStringAt_47b60 2 = .ok (.invokevirtual 397, 3) := by decide +kernel
theorem dJ5_putStringAt_47b60_5 : decode cJ5_putStringAt_47b60 5 = .ok (.aload_n 2, 1) := by decide +kernel
theorem dJ5_putStringAt_47b60_6 : decode cJ5_putStringAt_47b60 6 = .ok (.aload_n 0, 1) := by decide +kernel
theorem dJ5_putStringAt_47b60_7 : decode cJ5_putStringAt_47b60 7 = .ok (.getfield 15, 3) := by decide +kernel
theorem dJ5_putStringAt_47b60_10 : decode cJ5_putStringAt_47b60 10 = .ok (.iload_n 1, 1) := by decide +kernel
theorem dJ5_putStringAt_47b60_11 : decode cJ5_putStringAt_47b60 11 = .ok (.aload_n 0, 1) := by decide +kernel
theorem dJ5_putStringAt_47b60_12 : decode cJ5_putStringAt_47b60 12 = .ok (.getfield 22, 3) := by decide +kernel
theorem dJ5_putStringAt_47b60_15 : decode cJ5_putStringAt_47b60 15 = .ok (.invokevirtual 399, 3) := by decide +kernel
theorem dJ5_putStringAt_47b60_18 : decode cJ5_putStringAt_47b60 18 = .ok (.return_, 1) := by decide +kernel
theorem dJ6_getChars_ba4f3_0 : decode cJ6_getChars_ba4f3 0 = .ok (.iload_n 1, 1) := by decide +kernel
theorem dJ6_getChars_ba4f3_1 : decode cJ6_getChars_ba4f3 1 = .ok (.istore 5, 2) := by decide +kernel
theorem dJ6_getChars_ba4f3_3 : decode cJ6_getChars_ba4f3 3 = .ok (.iload_n 0, 1) := by decide +kernel
theorem dJ6_getChars_ba4f3_4 : decode cJ6_getChars_ba4f3 4 = .ok (.ifCond .ge 7, 3) := by decide +kernel
theorem dJ6_getChars_ba4f3_7 : decode cJ6_getChars_ba4f3 7 = .ok (.iconst 1, 1) := by decide +kernel
theorem dJ6_getChars_ba4f3_8 : decode cJ6_getChars_ba4f3 8 = .ok (.goto 4, 3) := by decide +kernel
theorem dJ6_getChars_ba4f3_11 : decode cJ6_getChars_ba4f3 11 = .ok (.iconst 0, 1) := by decide +kernel
theorem dJ6_getChars_ba4f3_12 : decode cJ6_getChars_ba4f3 12 = .ok (.istore 6, 2) := by decide +kernel
theorem dJ6_getChars_ba4f3_14 : decode cJ6_getChars_ba4f3 14 = .ok (.iload 6, 2) := by decide +kernel
theorem dJ6_getChars_ba4f3_16 : decode cJ6_getChars_ba4f3 16 = .ok (.ifCond .ne 6, 3) := by decide +kernel
theorem dJ6_getChars_ba4f3_19 : decode cJ6_getChars_ba4f3 19 = .ok (.iload_n 0, 1) := by decide +kernel
theorem dJ6_getChars_ba4f3_20 : decode cJ6_getChars_ba4f3 20 = .ok (.ineg, 1) := by decide +kernel
theorem dJ6_getChars_ba4f3_21 : decode cJ6_getChars_ba4f3 21 = .ok (.istore_n 0, 1) := by decide +kernel
theorem dJ6_getChars_ba4f3_22 : decode cJ6_getChars_ba4f3 22 = .ok (.iload_n 0, 1) := by decide +kernel
theorem dJ6_getChars_ba4f3_23 : decode cJ6_getChars_ba4f3 23 = .ok (.bipush (-100), 2) := by decide +kernel
theorem dJ6_getChars_ba4f3_25 : decode cJ6_getChars_ba4f3 25 = .ok (.if_icmp .gt 47, 3) := by decide +kernel
theorem dJ6_getChars_ba4f3_28 : decode cJ6_getChars_ba4f3 28 = .ok (.iload_n 0, 1) := by decide +kernel
theorem dJ6_getChars_ba4f3_29 : decode cJ6_getChars_ba4f3 29 = .ok (.bipush 100, 2) := by decide +kernel
theorem dJ6_getChars_ba4f3_31 : decode cJ6_getChars_ba4f3 31 = .ok (.idiv, 1) := by decide +kernel
theorem dJ6_getChars_ba4f3_32 : decode cJ6_getChars_ba4f3 32 = .ok (.istore_n 3, 1) := by decide +kernel
theorem dJ6_getChars_ba4f3_33 : decode cJ6_getChars_ba4f3 33 = .ok (.iload_n 3, 1) := by decide +kernel
theorem dJ6_getChars_ba4f3_34 : decode cJ6_getChars_ba4f3 34 = .ok (.bipush 100, 2) := by decide +kernel
theorem dJ6_getChars_ba4f3_36 : decode cJ6_getChars_ba4f3 36 = .ok (.imul, 1) := by decide +kernel
theorem dJ6_getChars_ba4f3_37 : decode cJ6_getChars_ba4f3 37 = .ok (.iload_n 0, 1) := by decide +kernel
theorem dJ6_getChars_ba4f3_38 : decode cJ6_getChars_ba4f3 38 = .ok (.isub, 1) := by decide +kernel
theorem dJ6_getChars_ba4f3_39 : decode cJ6_getChars_ba4f3 39 = .ok (.istore 4, 2) := by decide +kernel
theorem dJ6_getChars_ba4f3_41 : decode cJ6_getChars_ba4f3 41 = .ok (.iload_n 3, 1) := by decide +kernel
theorem dJ6_getChars_ba4f3_42 : decode cJ6_getChars_ba4f3 42 = .ok (.istore_n 0, 1) := by decide +kernel
theorem dJ6_getChars_ba4f3_43 : decode cJ6_getChars_ba4f3 43 = .ok (.aload_n 2, 1) := by decide +kernel
theorem dJ6_getChars_ba4f3_44 : decode cJ6_getChars_ba4f3 44 = .ok (.iinc 5 (-1), 3) := by decide +kernel
theorem dJ6_getChars_ba4f3_47 : decode cJ6_getChars_ba4f3 47 = .ok (.iload 5, 2) := by decide +kernel
theorem dJ6_getChars_ba4f3_49 : decode cJ6_getChars_ba4f3 49 = .ok (.getstatic 83, 3) := by decide +kernel
theorem dJ6_getChars_ba4f3_52 : decode cJ6_getChars_ba4f3 52 = .ok (.iload 4, 2) := by decide +kernel
theorem dJ6_getChars_ba4f3_54 : decode cJ6_getChars_ba4f3 54 = .ok (.baload, 1) := by decide +kernel
theorem dJ6_getChars_ba4f3_55 : decode cJ6_getChars_ba4f3 55 = .ok (.bastore, 1) := by decide +kernel
theorem dJ6_getChars_ba4f3_56 : decode cJ6_getChars_ba4f3 56 = .ok (.aload_n 2, 1) := by decide +kernel
theorem dJ6_getChars_ba4f3_57 : decode cJ6_getChars_ba4f3 57 = .ok (.iinc 5 (-1), 3) := by decide +kernel
theorem dJ6_getChars_ba4f3_60 : decode cJ6_getChars_ba4f3 60 = .ok (.iload 5, 2) := by decide +kernel
theorem dJ6_getChars_ba4f3_62 : decode cJ6_getChars_ba4f3 62 = .ok (.getstatic 87, 3) := by decide +kernel
theorem dJ6_getChars_ba4f3_65 : decode cJ6_getChars_ba4f3 65 = .ok (.iload 4, 2) := by decide +kernel
theorem dJ6_getChars_ba4f3_67 : decode cJ6_getChars_ba4f3 67 = .ok (.baload, 1) := by decide +kernel
theorem dJ6_getChars_ba4f3_68 : decode cJ6_getChars_ba4f3 68 = .ok (.bastore, 1) := by decide +kernel
theorem dJ6_getChars_ba4f3_69 : decode cJ6_getChars_ba4f3 69 = .ok (.goto (-47), 3) := by decide +kernel
theorem dJ6_getChars_ba4f3_72 : decode cJ6_getChars_ba4f3 72 = .ok (.aload_n 2, 1) := by decide +kernel
theorem dJ6_getChars_ba4f3_73 : decode cJ6_getChars_ba4f3 73 = .ok (.iinc 5 (-1), 3) := by decide +kernel
theorem dJ6_getChars_ba4f3_76 : decode cJ6_getChars_ba4f3 76 = .ok (.iload 5, 2) := by decide +kernel
theorem dJ6_getChars_ba4f3_78 : decode cJ6_getChars_ba4f3 78 = .ok (.getstatic 83, 3) := by decide +kernel
theorem dJ6_getChars_ba4f3_81 : decode cJ6_getChars_ba4f3 81 = .ok (.iload_n 0, 1) := by decide +kernel
theorem dJ6_getChars_ba4f3_82 : decode cJ6_getChars_ba4f3 82 = .ok (.ineg, 1) := by decide +kernel
theorem dJ6_getChars_ba4f3_83 : decode cJ6_getChars_ba4f3 83 = .ok (.baload, 1) := by decide +kernel
theorem dJ6_getChars_ba4f3_84 : decode cJ6_getChars_ba4f3 84 = .ok (.bastore, 1) := by decide +kernel
theorem dJ6_getChars_ba4f3_85 : decode cJ6_getChars_ba4f3 85 = .ok (.iload_n 0, 1) := by decide +kernel
theorem dJ6_getChars_ba4f3_86 : decode cJ6_getChars_ba4f3 86 = .ok (.bipush (-9), 2) := by decide +kernel
theorem dJ6_getChars_ba4f3_88 : decode cJ6_getChars_ba4f3 88 = .ok (.if_icmp .ge 16, 3) := by decide +kernel
theorem dJ6_getChars_ba4f3_91 : decode cJ6_getChars_ba4f3 91 = .ok (.aload_n 2, 1) := by decide +kernel
theorem dJ6_getChars_ba4f3_92 : decode cJ6_getChars_ba4f3 92 = .ok (.iinc 5 (-1), 3) := by decide +kernel
theorem dJ6_getChars_ba4f3_95 : decode cJ6_getChars_ba4f3 95 = .ok (.iload 5, 2) := by decide +kernel
theorem dJ6_getChars_ba4f3_97 : decode cJ6_getChars_ba4f3 97 = .ok (.getstatic 87, 3) := by decide +kernel
theorem dJ6_getChars_ba4f3_100 : decode cJ6_getChars_ba4f3 100 = .ok (.iload_n 0, 1) := by decide +kernel
theorem dJ6_getChars_ba4f3_101 : decode cJ6_getChars_ba4f3 101 = .ok (.ineg, 1) := by decide +kernel
theorem dJ6_getChars_ba4f3_102 : decode cJ6_getChars_ba4f3 102 = .ok (.baload, 1) := by decide +kernel
theorem dJ6_getChars_ba4f3_103 : decode cJ6_getChars_ba4f3 103 = .ok (.bastore, 1) := by decide +kernel
theorem dJ6_getChars_ba4f3_104 : decode cJ6_getChars_ba4f3 104 = .ok (.iload 6, 2) := by decide +kernel
theorem dJ6_getChars_ba4f3_106 : decode cJ6_getChars_ba4f3 106 = .ok (.ifCond .eq 12, 3) := by decide +kernel
theorem dJ6_getChars_ba4f3_109 : decode cJ6_getChars_ba4f3 109 = .ok (.aload_n 2, 1) := by decide +kernel
theorem dJ6_getChars_ba4f3_110 : decode cJ6_getChars_ba4f3 110 = .ok (.iinc 5 (-1), 3) := by decide +kernel
theorem dJ6_getChars_ba4f3_113 : decode cJ6_getChars_ba4f3 113 = .ok (.iload 5, 2) := by decide +kernel
theorem dJ6_getChars_ba4f3_115 : decode cJ6_getChars_ba4f3 115 = .ok (.bipush 45, 2) := by decide +kernel
theorem dJ6_getChars_ba4f3_117 : decode cJ6_getChars_ba4f3 117 = .ok (.bastore, 1) := by decide +kernel
theorem dJ6_getChars_ba4f3_118 : decode cJ6_getChars_ba4f3 118 = .ok (.iload 5, 2) := by decide +kernel
theorem dJ6_getChars_ba4f3_120 : decode cJ6_getChars_ba4f3 120 = .ok (.ireturn, 1) := by decide +kernel
theorem dJ6_stringSize_0f7a4_0 : decode cJ6_stringSize_0f7a4 0 = .ok (.iconst 1, 1) := by decide +kernel
theorem dJ6_stringSize_0f7a4_1 : decode cJ6_stringSize_0f7a4 1 = .ok (.istore_n 1, 1) := by decide +kernel
theorem dJ6_stringSize_0f7a4_2 : decode cJ6_stringSize_0f7a4 2 = .ok (.iload_n 0, 1) := by decide +kernel
theorem dJ6_stringSize_0f7a4_3 : decode cJ6_stringSize_0f7a4 3 = .ok (.ifCond .lt 8, 3) := by decide +kernel
theorem dJ6_stringSize_0f7a4_6 : decode cJ6_stringSize_0f7a4 6 = .ok (.iconst 0, 1) := by decide +kernel
theorem dJ6_stringSize_0f7a4_7 : decode cJ6_stringSize_0f7a4 7 = .ok (.istore_n 1, 1) := by decide +kernel
theorem dJ6_stringSize_0f7a4_8 : decode cJ6_stringSize_0f7a4 8 = .ok (.iload_n 0, 1) := by decide +kernel
theorem dJ6_stringSize_0f7a4_9 : decode cJ6_stringSize_0f7a4 9 = .ok (.ineg, 1) := by decide +kernel
theorem dJ6_stringSize_0f7a4_10 : decode cJ6_stringSize_0f7a4 10 = .ok (.istore_n 0, 1) := by decide +kernel
theorem dJ6_stringSize_0f7a4_11 : decode cJ6_stringSize_0f7a4 11 = .ok (.bipush (-10), 2) := by decide +kernel
theorem dJ6_stringSize_0f7a4_13 : decode cJ6_stringSize_0f7a4 13 = .ok (.istore_n 2, 1) := by decide +kernel
theorem dJ6_stringSize_0f7a4_14 : decode cJ6_stringSize_0f7a4 14 = .ok (.iconst 1, 1) := by decide +kernel
theorem dJ6_stringSize_0f7a4_15 : decode cJ6_stringSize_0f7a4 15 = .ok (.istore_n 3, 1) := by decide +kernel
theorem dJ6_stringSize_0f7a4_16 : decode cJ6_stringSize_0f7a4 16 = .ok (.iload_n 3, 1) := by decide +kernel
theorem dJ6_stringSize_0f7a4_17 : decode cJ6_stringSize_0f7a4 17 = .ok (.bipush 10, 2) := by decide +kernel
theorem dJ6_stringSize_0f7a4_19 : decode cJ6_stringSize_0f7a4 19 = .ok (.if_icmp .ge 23, 3) := by decide +kernel
theorem dJ6_stringSize_0f7a4_22 : decode cJ6_stringSize_0f7a4 22 = .ok (.iload_n 0, 1) := by decide +kernel
theorem dJ6_stringSize_0f7a4_23 : decode cJ6_stringSize_0f7a4 23 = .ok (.iload_n 2, 1) := by decide +kernel
theorem dJ6_stringSize_0f7a4_24 : decode cJ6_stringSize_0f7a4 24 = .ok (.if_icmp .le 7, 3) := by decide +kernel
theorem dJ6_stringSize_0f7a4_27 : decode cJ6_stringSize_0f7a4 27 = .ok (.iload_n 3, 1) := by decide +kernel
theorem dJ6_stringSize_0f7a4_28 : decode cJ6_stringSize_0f7a4 28 = .ok (.iload_n 1, 1) := by decide +kernel
theorem dJ6_stringSize_0f7a4_29 : decode cJ6_stringSize_0f7a4 29 = .ok (.iadd, 1) := by decide +kernel
theorem dJ6_stringSize_0f7a4_30 : decode cJ6_stringSize_0f7a4 30 = .ok (.ireturn, 1) := by decide +kernel
theorem dJ6_stringSize_0f7a4_31 : decode cJ6_stringSize_0f7a4 31 = .ok (.bipush 10, 2) := by decide +kernel
theorem dJ6_stringSize_0f7a4_33 : decode cJ6_stringSize_0f7a4 33 = .ok (.iload_n 2, 1) := by decide +kernel
theorem dJ6_stringSize_0f7a4_34 : decode cJ6_stringSize_0f7a4 34 = .ok (.imul, 1) := by decide +kernel
theorem dJ6_stringSize_0f7a4_35 : decode cJ6_stringSize_0f7a4 35 = .ok (.istore_n 2, 1) := by decide +kernel
theorem dJ6_stringSize_0f7a4_36 : decode cJ6_stringSize_0f7a4 36 = .ok (.iinc 3 1, 3) := by decide +kernel
theorem dJ6_stringSize_0f7a4_39 : decode cJ6_stringSize_0f7a4 39 = .ok (.goto (-23), 3) := by decide +kernel
theorem dJ6_stringSize_0f7a4_42 : decode cJ6_stringSize_0f7a4 42 = .ok (.bipush 10, 2) := by decide +kernel
theorem dJ6_stringSize_0f7a4_44 : decode cJ6_stringSize_0f7a4 44 = .ok (.iload_n 1, 1) := by decide +kernel
theorem dJ6_stringSize_0f7a4_45 : decode cJ6_stringSize_0f7a4 45 = .ok (.iadd, 1) := by decide +kernel
theorem dJ6_stringSize_0f7a4_46 : decode cJ6_stringSize_0f7a4 46 = .ok (.ireturn, 1) := by decide +kernel
theorem dJ6_numberOfTrailingZeros_0f7a4_0 : decode cJ6_numberOfTrailingZeros_0f7a4 0 = .ok (.iload_n 0, 1) := by decide +kernel
theorem dJ6_numberOfTrailingZeros_0f7a4_1 : decode cJ6_numberOfTrailingZeros_0f7a4 1 = .ok (.iconst (-1), 1) := by decide +kernel
theorem dJ6_numberOfTrailingZeros_0f7a4_2 : decode cJ6_numberOfTrailingZeros_0f7a4 2 = .ok (.ixor, 1) := by decide +kernel
theorem dJ6_numberOfTrailingZeros_0f7a4_3 : decode cJ6_numberOfTrailingZeros_0f7a4 3 = .ok (.iload_n 0, 1) := by decide +kernel
theorem dJ6_numberOfTrailingZeros_0f7a4_4 : decode cJ6_numberOfTrailingZeros_0f7a4 4 = .ok (.iconst 1, 1) := by decide +kernel
theorem dJ6_numberOfTrailingZeros_0f7a4_5 : decode cJ6_numberOfTrailingZeros_0f7a4 5 = .ok (.isub, 1) := by decide +kernel
theorem dJ6_numberOfTrailingZeros_0f7a4_6 : decode cJ6_numberOfTrailingZeros_0f7a4 6 = .ok (.iand, 1) := by decide +kernel
theorem dJ6_numberOfTrailingZeros_0f7a4_7 : decode cJ6_numberOfTrailingZeros_0f7a4 7 = .ok (.istore_n 0, 1) := by decide +kernel
theorem dJ6_numberOfTrailingZeros_0f7a4_8 : decode cJ6_numberOfTrailingZeros_0f7a4 8 = .ok (.iload_n 0, 1) := by decide +kernel
theorem dJ6_numberOfTrailingZeros_0f7a4_9 : decode cJ6_numberOfTrailingZeros_0f7a4 9 = .ok (.ifCond .gt 8, 3) := by decide +kernel
theorem dJ6_numberOfTrailingZeros_0f7a4_12 : decode cJ6_numberOfTrailingZeros_0f7a4 12 = .ok (.iload_n 0, 1) := by decide +kernel
theorem dJ6_numberOfTrailingZeros_0f7a4_13 : decode cJ6_numberOfTrailingZeros_0f7a4 13 = .ok (.bipush 32, 2) := by decide +kernel
theorem dJ6_numberOfTrailingZeros_0f7a4_15 : decode cJ6_numberOfTrailingZeros_0f7a4 15 = .ok (.iand, 1) := by decide +kernel
theorem dJ6_numberOfTrailingZeros_0f7a4_16 : decode cJ6_numberOfTrailingZeros_0f7a4 16 = .ok (.ireturn, 1) := by decide +kernel
theorem dJ6_numberOfTrailingZeros_0f7a4_17 : decode cJ6_numberOfTrailingZeros_0f7a4 17 = .ok (.iconst 1, 1) := by decide +kernel
theorem dJ6_numberOfTrailingZeros_0f7a4_18 : decode cJ6_numberOfTrailingZeros_0f7a4 18 = .ok (.istore_n 1, 1) := by decide +kernel
theorem dJ6_numberOfTrailingZeros_0f7a4_19 : decode cJ6_numberOfTrailingZeros_0f7a4 19 = .ok (.iload_n 0, 1) := by decide +kernel
theorem dJ6_numberOfTrailingZeros_0f7a4_20 : decode cJ6_numberOfTrailingZeros_0f7a4 20 = .ok (.ldc_w 264, 3) := by decide +kernel
theorem dJ6_numberOfTrailingZeros_0f7a4_23 : decode cJ6_numberOfTrailingZeros_0f7a4 23 = .ok (.if_icmp .le 11, 3) := by decide +kernel
theorem dJ6_numberOfTrailingZeros_0f7a4_26 : decode cJ6_numberOfTrailingZeros_0f7a4 26 = .ok (.iinc 1 16, 3) := by decide +kernel
theorem dJ6_numberOfTrailingZeros_0f7a4_29 : decode cJ6_numberOfTrailingZeros_0f7a4 29 = .ok (.iload_n 0, 1) := by decide +kernel
theorem dJ6_numberOfTrailingZeros_0f7a4_30 : decode cJ6_numberOfTrailingZeros_0f7a4 30 = .ok (.bipush 16, 2) := by decide +kernel
theorem dJ6_numberOfTrailingZeros_0f7a4_32 : decode cJ6_numberOfTrailingZeros_0f7a4 32 = .ok (.iushr, 1) := by decide +kernel
theorem dJ6_numberOfTrailingZeros_0f7a4_33 : decode cJ6_numberOfTrailingZeros_0f7a4 33 = .ok (.istore_n 0, 1) := by decide +kernel
theorem dJ6_numberOfTrailingZeros_0f7a4_34 : decode cJ6_numberOfTrailingZeros_0f7a4 34 = .ok (.iload_n 0, 1) := by decide +kernel
theorem dJ6_numberOfTrailingZeros_0f7a4_35 : decode cJ6_numberOfTrailingZeros_0f7a4 35 = .ok (.sipush 256, 3) := by decide +kernel
theorem dJ6_numberOfTrailingZeros_0f7a4_38 : decode cJ6_numberOfTrailingZeros_0f7a4 38 = .ok (.if_icmp .le 11, 3) := by decide +kernel
theorem dJ6_numberOfTrailingZeros_0f7a4_41 : decode cJ6_numberOfTrailingZeros_0f7a4 41 = .ok (.iinc 1 8, 3) := by decide +kernel
theorem dJ6_numberOfTrailingZeros_0f7a4_44 : decode cJ6_numberOfTrailingZeros_0f7a4 44 = .ok (.iload_n 0, 1) := by decide +kernel
theorem dJ6_numberOfTrailingZeros_0f7a4_45 : decode cJ6_numberOfTrailingZeros_0f7a4 45 = .ok (.bipush 8, 2) := by decide +kernel
theorem dJ6_numberOfTrailingZeros_0f7a4_47 : decode cJ6_numberOfTrailingZeros_0f7a4 47 = .ok (.iushr, 1) := by decide +kernel
theorem dJ6_numberOfTrailingZeros_0f7a4_48 : decode cJ6_numberOfTrailingZeros_0f7a4 48 = .ok (.istore_n 0, 1) := by decide +kernel
theorem dJ6_numberOfTrailingZeros_0f7a4_49 : decode cJ6_numberOfTrailingZeros_0f7a4 49 = .ok (.iload_n 0, 1) := by decide +kernel
theorem dJ6_numberOfTrailingZeros_0f7a4_50 : decode cJ6_numberOfTrailingZeros_0f7a4 50 = .ok (.bipush 16, 2) := by decide +kernel
theorem dJ6_numberOfTrailingZeros_0f7a4_52 : decode cJ6_numberOfTrailingZeros_0f7a4 52 = .ok (.if_icmp .le 10, 3) := by decide +kernel
theorem dJ6_numberOfTrailingZeros_0f7a4_55 : decode cJ6_numberOfTrailingZeros_0f7a4 55 = .ok (.iinc 1 4, 3) := by decide +kernel
theorem dJ6_numberOfTrailingZeros_0f7a4_58 : decode cJ6_numberOfTrailingZeros_0f7a4 58 = .ok (.iload_n 0, 1) := by decide +kernel
theorem dJ6_numberOfTrailingZeros_0f7a4_59 : decode cJ6_numberOfTrailingZeros_0f7a4 59 = .ok (.iconst 4, 1) := by decide +kernel
theorem dJ6_numberOfTrailingZeros_0f7a4_60 : decode cJ6_numberOfTrailingZeros_0f7a4 60 = .ok (.iushr, 1) := by decide +kernel
theorem dJ6_numberOfTrailingZeros_0f7a4_61 : decode cJ6_numberOfTrailingZeros_0f7a4 61 = .ok (.istore_n 0, 1) := by decide +kernel
theorem dJ6_numberOfTrailingZeros_0f7a4_62 : decode cJ6_numberOfTrailingZeros_0f7a4 62 = .ok (.iload_n 0, 1) := by decide +kernel
theorem dJ6_numberOfTrailingZeros_0f7a4_63 : decode cJ6_numberOfTrailingZeros_0f7a4 63 = .ok (.iconst 4, 1) := by decide +kernel
theorem dJ6_numberOfTrailingZeros_0f7a4_64 : decode cJ6_numberOfTrailingZeros_0f7a4 64 = .ok (.if_icmp .le 10, 3) := by decide +kernel
theorem dJ6_numberOfTrailingZeros_0f7a4_67 : decode cJ6_numberOfTrailingZeros_0f7a4 67 = .ok (.iinc 1 2, 3) := by decide +kernel
theorem dJ6_numberOfTrailingZeros_0f7a4_70 : decode cJ6_numberOfTrailingZeros_0f7a4 70 = .ok (.iload_n 0, 1) := by decide +kernel
theorem dJ6_numberOfTrailingZeros_0f7a4_71 : decode cJ6_numberOfTrailingZeros_0f7a4 71 = .ok (.iconst 2, 1) := by decide +kernel
theorem dJ6_numberOfTrailingZeros_0f7a4_72 : decode cJ6_numberOfTrailingZeros_0f7a4 72 = .ok (.iushr, 1) := by decide +kernel
theorem dJ6_numberOfTrailingZeros_0f7a4_73 : decode cJ6_numberOfTrailingZeros_0f7a4 73 = .ok (.istore_n 0, 1) := by decide +kernel
theorem dJ6_numberOfTrailingZeros_0f7a4_74 : decode cJ6_numberOfTrailingZeros_0f7a4 74 = .ok (.iload_n 1, 1) := by decide +kernel
theorem dJ6_numberOfTrailingZeros_0f7a4_75 : decode cJ6_numberOfTrailingZeros_0f7a4 75 = .ok (.iload_n 0, 1) := by decide +kernel
theorem dJ6_numberOfTrailingZeros_0f7a4_76 : decode cJ6_numberOfTrailingZeros_0f7a4 76 = .ok (.iconst 1, 1) := by decide +kernel
theorem dJ6_numberOfTrailingZeros_0f7a4_77 : decode cJ6_numberOfTrailingZeros_0f7a4 77 = .ok (.iushr, 1) := by decide +kernel
theorem dJ6_numberOfTrailingZeros_0f7a4_78 : decode cJ6_numberOfTrailingZeros_0f7a4 78 = .ok (.iadd, 1) := by decide +kernel
theorem dJ6_numberOfTrailingZeros_0f7a4_79 : decode cJ6_numberOfTrailingZeros_0f7a4 79 = .ok (.ireturn, 1) := by decide +kernel
theorem dJ6_bitCount_0f7a4_0 : decode cJ6_bitCount_0f7a4 0 = .ok (.iload_n 0, 1) := by decide +kernel
theorem dJ6_bitCount_0f7a4_1 : decode cJ6_bitCount_0f7a4 1 = .ok (.iload_n 0, 1) := by decide +kernel
theorem dJ6_bitCount_0f7a4_2 : decode cJ6_bitCount_0f7a4 2 = .ok (.iconst 1, 1) := by decide +kernel
theorem dJ6_bitCount_0f7a4_3 : decode cJ6_bitCount_0f7a4 3 = .ok (.iushr, 1) := by decide +kernel
theorem dJ6_bitCount_0f7a4_4 : decode cJ6_bitCount_0f7a4 4 = .ok (.ldc_w 265, 3) := by decide +kernel
theorem dJ6_bitCount_0f7a4_7 : decode cJ6_bitCount_0f7a4 7 = .ok (.iand, 1) := by decide +kernel
theorem dJ6_bitCount_0f7a4_8 : decode cJ6_bitCount_0f7a4 8 = .ok (.isub, 1) := by decide +kernel
theorem dJ6_bitCount_0f7a4_9 : decode cJ6_bitCount_0f7a4 9 = .ok (.istore_n 0, 1) := by decide +kernel
theorem dJ6_bitCount_0f7a4_10 : decode cJ6_bitCount_0f7a4 10 = .ok (.iload_n 0, 1) := by decide +kernel
theorem dJ6_bitCount_0f7a4_11 : decode cJ6_bitCount_0f7a4 11 = .ok (.ldc_w 266, 3) := by decide +kernel
theorem dJ6_bitCount_0f7a4_14 : decode cJ6_bitCount_0f7a4 14 = .ok (.iand, 1) := by decide +kernel
theorem dJ6_bitCount_0f7a4_15 : decode cJ6_bitCount_0f7a4 15 = .ok (.iload_n 0, 1) := by decide +kernel
theorem dJ6_bitCount_0f7a4_16 : decode cJ6_bitCount_0f7a4 16 = .ok (.iconst 2, 1) := by decide +kernel
theorem dJ6_bitCount_0f7a4_17 : decode cJ6_bitCount_0f7a4 17 = .ok (.iushr, 1) := by decide +kernel
theorem dJ6_bitCount_0f7a4_18 : decode cJ6_bitCount_0f7a4 18 = .ok (.ldc_w 266, 3) := by decide +kernel
theorem dJ6_bitCount_0f7a4_21 : decode cJ6_bitCount_0f7a4 21 = .ok (.iand, 1) := by decide +kernel
theorem dJ6_bitCount_0f7a4_22 : decode cJ6_bitCount_0f7a4 22 = .ok (.iadd, 1) := by decide +kernel
theorem dJ6_bitCount_0f7a4_23 : decode cJ6_bitCount_0f7a4 23 = .ok (.istore_n 0, 1) := by decide +kernel
theorem dJ6_bitCount_0f7a4_24 : decode cJ6_bitCount_0f7a4 24 = .ok (.iload_n 0, 1) := by decide +kernel
theorem dJ6_bitCount_0f7a4_25 : decode cJ6_bitCount_0f7a4 25 = .ok (.iload_n 0, 1) := by decide +kernel
theorem dJ6_bitCount_0f7a4_26 : decode cJ6_bitCount_0f7a4 26 = .ok (.iconst 4, 1) := by decide +kernel
theorem dJ6_bitCount_0f7a4_27 : decode cJ6_bitCount_0f7a4 27 = .ok (.iushr, 1) := by decide +kernel
theorem dJ6_bitCount_0f7a4_28 : decode cJ6_bitCount_0f7a4 28 = .ok (.iadd, 1) := by decide +kernel
theorem dJ6_bitCount_0f7a4_29 : decode cJ6_bitCount_0f7a4 29 = .ok (.ldc_w 267, 3) := by decide +kernel
theorem dJ6_bitCount_0f7a4_32 : decode cJ6_bitCount_0f7a4 32 = .ok (.iand, 1) := by decide +kernel
theorem dJ6_bitCount_0f7a4_33 : decode cJ6_bitCount_0f7a4 33 = .ok (.istore_n 0, 1) := by decide +kernel
theorem dJ6_bitCount_0f7a4_34 : decode cJ6_bitCount_0f7a4 34 = .ok (.iload_n 0, 1) := by decide +kernel
theorem dJ6_bitCount_0f7a4_35 : decode cJ6_bitCount_0f7a4 35 = .ok (.iload_n 0, 1) := by decide +kernel
theorem dJ6_bitCount_0f7a4_36 : decode cJ6_bitCount_0f7a4 36 = .ok (.bipush 8, 2) := by decide +kernel
theorem dJ6_bitCount_0f7a4_38 : decode cJ6_bitCount_0f7a4 38 = .ok (.iushr, 1) := by decide +kernel
theorem dJ6_bitCount_0f7a4_39 : decode cJ6_bitCount_0f7a4 39 = .ok (.iadd, 1) := by decide +kernel
theorem dJ6_bitCount_0f7a4_40 : decode cJ6_bitCount_0f7a4 40 = .ok (.istore_n 0, 1) := by decide +kernel
theorem dJ6_bitCount_0f7a4_41 : decode cJ6_bitCount_0f7a4 41 = .ok (.iload_n 0, 1) := by decide +kernel
theorem dJ6_bitCount_0f7a4_42 : decode cJ6_bitCount_0f7a4 42 = .ok (.iload_n 0, 1) := by decide +kernel
theorem dJ6_bitCount_0f7a4_43 : decode cJ6_bitCount_0f7a4 43 = .ok (.bipush 16, 2) := by decide +kernel
theorem dJ6_bitCount_0f7a4_45 : decode cJ6_bitCount_0f7a4 45 = .ok (.iushr, 1) := by decide +kernel
theorem dJ6_bitCount_0f7a4_46 : decode cJ6_bitCount_0f7a4 46 = .ok (.iadd, 1) := by decide +kernel
theorem dJ6_bitCount_0f7a4_47 : decode cJ6_bitCount_0f7a4 47 = .ok (.istore_n 0, 1) := by decide +kernel
theorem dJ6_bitCount_0f7a4_48 : decode cJ6_bitCount_0f7a4 48 = .ok (.iload_n 0, 1) := by decide +kernel
theorem dJ6_bitCount_0f7a4_49 : decode cJ6_bitCount_0f7a4 49 = .ok (.bipush 63, 2) := by decide +kernel
theorem dJ6_bitCount_0f7a4_51 : decode cJ6_bitCount_0f7a4 51 = .ok (.iand, 1) := by decide +kernel
theorem dJ6_bitCount_0f7a4_52 : decode cJ6_bitCount_0f7a4 52 = .ok (.ireturn, 1) := by decide +kernel
theorem dJ0_init_81219_0 : decode cJ0_init_81219 0 = .ok (.aload_n 0, 1) := by decide +kernel
theorem dJ0_init_81219_1 : decode cJ0_init_81219 1 = .ok (.aload_n 1, 1) := by decide +kernel
theorem dJ0_init_81219_2 : decode cJ0_init_81219 2 = .ok (.aconst_null, 1) := by decide +kernel
theorem dJ0_init_81219_3 : decode cJ0_init_81219 3 = .ok (.invokespecial 489, 3) := by decide +kernel
theorem dJ0_init_81219_6 : decode cJ0_init_81219 6 = .ok (.return_, 1) := by decide +kernel
theorem dJ0_length_8abf5_0 : decode cJ0_length_8abf5 0 = .ok (.aload_n 0, 1) := by decide +kernel
theorem dJ0_length_8abf5_1 : decode cJ0_length_8abf5 1 = .ok (.getfield 9, 3) := by decide +kernel
theorem dJ0_length_8abf5_4 : decode cJ0_length_8abf5 4 = .ok (.arraylength, 1) := by decide +kernel
theorem dJ0_length_8abf5_5 : decode cJ0_length_8abf5 5 = .ok (.aload_n 0, 1) := by decide +kernel
theorem dJ0_length_8abf5_6 : decode cJ0_length_8abf5 6 = .ok (.invokevirtual 335, 3) := by decide +kernel
theorem dJ0_length_8abf5_9 : decode cJ0_length_8abf5 9 = .ok (.ishr, 1) := by decide +kernel
theorem dJ0_length_8abf5_10 : decode cJ0_length_8abf5 10 = .ok (.ireturn, 1) := by decide +kernel
theorem dJ0_charAt_5068e_0 : decode cJ0_charAt_5068e 0 = .ok (.aload_n 0, 1) := by decide +kernel
theorem dJ0_charAt_5068e_1 : decode cJ0_charAt_5068e 1 = .ok (.invokevirtual 492, 3) := by decide +kernel
theorem dJ0_charAt_5068e_4 : decode cJ0_charAt_5068e 4 = .ok (.ifCond .eq 12, 3) := by decide +kernel
theorem dJ0_charAt_5068e_7 : decode cJ0_charAt_5068e 7 = .ok (.aload_n 0, 1) := by decide +kernel
theorem dJ0_charAt_5068e_8 : decode cJ0_charAt_5068e 8 = .ok (.getfield 9, 3) := by decide +kernel
theorem dJ0_charAt_5068e_11 : decode cJ0_charAt_5068e 11 = .ok (.iload_n 1, 1) := by decide +kernel
theorem dJ0_charAt_5068e_12 : decode cJ0_charAt_5068e 12 = .ok (.invokestatic 495, 3) := by decide +kernel
theorem dJ0_charAt_5068e_15 : decode cJ0_charAt_5068e 15 = .ok (.ireturn, 1) := by decide +kernel
theorem dJ0_charAt_5068e_16 : decode cJ0_charAt_5068e 16 = .ok (.aload_n 0, 1) := by decide +kernel
theorem dJ0_charAt_5068e_17 : decode cJ0_charAt_5068e 17 = .ok (.getfield 9, 3) := by decide +kernel
theorem dJ0_charAt_5068e_20 : decode cJ0_charAt_5068e 20 = .ok (.iload_n 1, 1) := by decide +kernel
theorem dJ0_charAt_5068e_21 : decode cJ0_charAt_5068e 21 = .ok (.invokestatic 498, 3) := by decide +kernel
theorem dJ0_charAt_5068e_24 : decode cJ0_charAt_5068e 24 = .ok (.ireturn, 1) := by decide +kernel
theorem dJ0_getBytes_840e7_0 : decode cJ0_getBytes_840e7 0 = .ok (.aload_n 0, 1) := by decide +kernel
theorem dJ0_getBytes_840e7_1 : decode cJ0_getBytes_840e7 1 = .ok (.invokevirtual 335, 3) := by decide +kernel
theorem dJ0_getBytes_840e7_4 : decode cJ0_getBytes_840e7 4 = .ok (.iload_n 3, 1) := by decide +kernel
theorem dJ0_getBytes_840e7_5 : decode cJ0_getBytes_840e7 5 = .ok (.if_icmp .ne 23, 3) := by decide +kernel
theorem dJ0_getBytes_840e7_8 : decode cJ0_getBytes_840e7 8 = .ok (.aload_n 0, 1) := by decide +kernel
theorem dJ0_getBytes_840e7_9 : decode cJ0_getBytes_840e7 9 = .ok (.getfield 9, 3) := by decide +kernel
theorem dJ0_getBytes_840e7_12 : decode cJ0_getBytes_840e7 12 = .ok (.iconst 0, 1) := by decide +kernel
theorem dJ0_getBytes_840e7_13 : decode cJ0_getBytes_840e7 13 = .ok (.aload_n 1, 1) := by decide +kernel
theorem dJ0_getBytes_840e7_14 : decode cJ0_getBytes_840e7 14 = .ok (.iload_n 2, 1) := by decide +kernel
theorem dJ0_getBytes_840e7_15 : decode cJ0_getBytes_840e7 15 = .ok (.iload_n 3, 1) := by decide +kernel
theorem dJ0_getBytes_840e7_16 : decode cJ0_getBytes_840e7 16 = .ok (.ishl, 1) := by decide +kernel
theorem dJ0_getBytes_840e7_17 : decode cJ0_getBytes_840e7 17 = .ok (.aload_n 0, 1) := by decide +kernel
theorem dJ0_getBytes_840e7_18 : decode cJ0_getBytes_840e7 18 = .ok (.getfield 9, 3) := by decide +kernel
theorem dJ0_getBytes_840e7_21 : decode cJ0_getBytes_840e7 21 = .ok (.arraylength, 1) := by decide +kernel
theorem dJ0_getBytes_840e7_22 : decode cJ0_getBytes_840e7 22 = .ok (.invokestatic 212, 3) := by decide +kernel
theorem dJ0_getBytes_840e7_25 : decode cJ0_getBytes_840e7 25 = .ok (.goto 18, 3) := by decide +kernel
theorem dJ0_getBytes_840e7_28 : decode cJ0_getBytes_840e7 28 = .ok (.aload_n 0, 1) := by decide +kernel
theorem dJ0_getBytes_840e7_29 : decode cJ0_getBytes_840e7 29 = .ok (.getfield 9, 3) := by decide +kernel
theorem dJ0_getBytes_840e7_32 : decode cJ0_getBytes_840e7 32 = .ok (.iconst 0, 1) := by decide +kernel
theorem dJ0_getBytes_840e7_33 : decode cJ0_getBytes_840e7 33 = .ok (.aload_n 1, 1) := by decide +kernel
theorem dJ0_getBytes_840e7_34 : decode cJ0_getBytes_840e7 34 = .ok (.iload_n 2, 1) := by decide +kernel
theorem dJ0_getBytes_840e7_35 : decode cJ0_getBytes_840e7 35 = .ok (.aload_n 0, 1) := by decide +kernel
theorem dJ0_getBytes_840e7_36 : decode cJ0_getBytes_840e7 36 = .ok (.getfield 9, 3) := by decide +kernel
theorem dJ0_getBytes_840e7_39 : decode cJ0_getBytes_840e7 39 = .ok (.arraylength, 1) := by decide +kernel
theorem dJ0_getBytes_840e7_40 : decode cJ0_getBytes_840e7 40 = .ok (.invokestatic 106, 3) := by decide +kernel
theorem dJ0_getBytes_840e7_43 : decode cJ0_getBytes_840e7 43 = .ok (.return_, 1) := by decide +kernel
theorem dJ0_init_db425_0 : decode cJ0_init_db425 0 = .ok (.aload_n 0, 1) := by decide +kernel
theorem dJ0_init_db425_1 : decode cJ0_init_db425 1 = .ok (.invokespecial 1, 3) := by decide +kernel
theorem dJ0_init_db425_4 : decode cJ0_init_db425 4 = .ok (.aload_n 1, 1) := by decide +kernel
theorem dJ0_init_db425_5 : decode cJ0_init_db425 5 = .ok (.invokevirtual 552, 3) := by decide +kernel
theorem dJ0_init_db425_8 : decode cJ0_init_db425 8 = .ok (.astore_n 3, 1) := by decide +kernel
theorem dJ0_init_db425_9 : decode cJ0_init_db425 9 = .ok (.aload_n 1, 1) := by decide +kernel
theorem dJ0_init_db425_10 : decode cJ0_init_db425 10 = .ok (.invokevirtual 549, 3) := by decide +kernel
theorem dJ0_init_db425_13 : decode cJ0_init_db425 13 = .ok (.istore 4, 2) := by decide +kernel
theorem dJ0_init_db425_15 : decode cJ0_init_db425 15 = .ok (.aload_n 1, 1) := by decide +kernel
theorem dJ0_init_db425_16 : decode cJ0_init_db425 16 = .ok (.invokevirtual 1047, 3) := by decide +kernel
theorem dJ0_init_db425_19 : decode cJ0_init_db425 19 = .ok (.ifCond .eq 22, 3) := by decide +kernel
theorem dJ0_init_db425_22 : decode cJ0_init_db425 22 = .ok (.aload_n 0, 1) := by decide +kernel
theorem dJ0_init_db425_23 : decode cJ0_init_db425 23 = .ok (.iconst 0, 1) := by decide +kernel
theorem dJ0_init_db425_24 : decode cJ0_init_db425 24 = .ok (.putfield 15, 3) := by decide +kernel
theorem dJ0_init_db425_27 : decode cJ0_init_db425 27 = .ok (.aload_n 0, 1) := by decide +kernel
theorem dJ0_init_db425_28 : decode cJ0_init_db425 28 = .ok (.aload_n 3, 1) := by decide +kernel
theorem dJ0_init_db425_29 : decode cJ0_init_db425 29 = .ok (.iconst 0, 1) := by decide +kernel
theorem dJ0_init_db425_30 : decode cJ0_init_db425 30 = .ok (.iload 4, 2) := by decide +kernel
theorem dJ0_init_db425_32 : decode cJ0_init_db425 32 = .ok (.invokestatic 54, 3) := by decide +kernel
theorem dJ0_init_db425_35 : decode cJ0_init_db425 35 = .ok (.putfield 9, 3) := by decide +kernel
theorem dJ0_init_db425_38 : decode cJ0_init_db425 38 = .ok (.goto 59, 3) := by decide +kernel
theorem dJ0_init_db425_41 : decode cJ0_init_db425 41 = .ok (.getstatic 38, 3) := by decide +kernel
theorem dJ0_init_db425_44 : decode cJ0_init_db425 44 = .ok (.ifCond .eq 35, 3) := by decide +kernel
theorem dJ0_init_db425_47 : decode cJ0_init_db425 47 = .ok (.aload_n 1, 1) := by decide +kernel
theorem dJ0_init_db425_48 : decode cJ0_init_db425 48 = .ok (.getfield 1048, 3) := by decide +kernel
theorem dJ0_init_db425_51 : decode cJ0_init_db425 51 = .ok (.ifCond .eq 28, 3) := by decide +kernel
theorem dJ0_init_db425_54 : decode cJ0_init_db425 54 = .ok (.aload_n 0, 1) := by decide +kernel
theorem dJ0_init_db425_55 : decode cJ0_init_db425 55 = .ok (.aload_n 3, 1) := by decide +kernel
theorem dJ0_init_db425_56 : decode cJ0_init_db425 56 = .ok (.iconst 0, 1) := by decide +kernel
theorem dJ0_init_db425_57 : decode cJ0_init_db425 57 = .ok (.iload 4, 2) := by decide +kernel
theorem dJ0_init_db425_59 : decode cJ0_init_db425 59 = .ok (.invokestatic 1051, 3) := by decide +kernel
theorem dJ0_init_db425_62 : decode cJ0_init_db425 62 = .ok (.putfield 9, 3) := by decide +kernel
theorem dJ0_init_db425_65 : decode cJ0_init_db425 65 = .ok (.aload_n 0, 1) := by decide +kernel
theorem dJ0_init_db425_66 : decode cJ0_init_db425 66 = .ok (.aload_n 0, 1) := by decide +kernel
theorem dJ0_init_db425_67 : decode cJ0_init_db425 67 = .ok (.getfield 9, 3) := by decide +kernel
theorem dJ0_init_db425_70 : decode cJ0_init_db425 70 = .ok (.iload 4, 2) := by decide +kernel
theorem dJ0_init_db425_72 : decode cJ0_init_db425 72 = .ok (.invokestatic 47, 3) := by decide +kernel
theorem dJ0_init_db425_75 : decode cJ0_init_db425 75 = .ok (.putfield 15, 3) := by decide +kernel
theorem dJ0_init_db425_78 : decode cJ0_init_db425 78 = .ok (.return_, 1) := by decide +kernel
theorem dJ0_init_db425_79 : decode cJ0_init_db425 79 = .ok (.aload_n 0, 1) := by decide +kernel
theorem dJ0_init_db425_80 : decode cJ0_init_db425 80 = .ok (.iconst 1, 1) := by decide +kernel
theorem dJ0_init_db425_81 : decode cJ0_init_db425 81 = .ok (.putfield 15, 3) := by decide +kernel
theorem dJ0_init_db425_84 : decode cJ0_init_db425 84 = .ok (.aload_n 0, 1) := by decide +kernel
theorem dJ0_init_db425_85 : decode cJ0_init_db425 85 = .ok (.aload_n 3, 1) := by decide +kernel
theorem dJ0_init_db425_86 : decode cJ0_init_db425 86 = .ok (.iconst 0, 1) := by decide +kernel
theorem dJ0_init_db425_87 : decode cJ0_init_db425 87 = .ok (.iload 4, 2) := by decide +kernel
theorem dJ0_init_db425_89 : decode cJ0_init_db425 89 = .ok (.iconst 1, 1) := by decide +kernel
theorem dJ0_init_db425_90 : decode cJ0_init_db425 90 = .ok (.ishl, 1) := by decide +kernel
theorem dJ0_init_db425_91 : decode cJ0_init_db425 91 = .ok (.invokestatic 54, 3) := by decide +kernel
theorem dJ0_init_db425_94 : decode cJ0_init_db425 94 = .ok (.putfield 9, 3) := by decide +kernel
theorem dJ0_init_db425_97 : decode cJ0_init_db425 97 = .ok (.return_, 1) := by decide +kernel
theorem dJ0_coder_7d493_0 : decode cJ0_coder_7d493 0 = .ok (.getstatic 38, 3) := by decide +kernel
theorem dJ0_coder_7d493_3 : decode cJ0_coder_7d493 3 = .ok (.ifCond .eq 10, 3) := by decide +kernel
theorem dJ0_coder_7d493_6 : decode cJ0_coder_7d493 6 = .ok (.aload_n 0, 1) := by decide +kernel
theorem dJ0_coder_7d493_7 : decode cJ0_coder_7d493 7 = .ok (.getfield 15, 3) := by decide +kernel
theorem dJ0_coder_7d493_10 : decode cJ0_coder_7d493 10 = .ok (.goto 4, 3) := by decide +kernel
theorem dJ0_coder_7d493_13 : decode cJ0_coder_7d493 13 = .ok (.iconst 1, 1) := by decide +kernel
theorem dJ0_coder_7d493_14 : decode cJ0_coder_7d493 14 = .ok (.ireturn, 1) := by decide +kernel
theorem dJ0_isLatin1_aae02_0 : decode cJ0_isLatin1_aae02 0 = .ok (.getstatic 38, 3) := by decide +kernel
theorem dJ0_isLatin1_aae02_3 : decode cJ0_isLatin1_aae02 3 = .ok (.ifCond .eq 14, 3) := by decide +kernel
theorem dJ0_isLatin1_aae02_6 : decode cJ0_isLatin1_aae02 6 = .ok (.aload_n 0, 1) := by decide +kernel
theorem dJ0_isLatin1_aae02_7 : decode cJ0_isLatin1_aae02 7 = .ok (.getfield 15, 3) := by decide +kernel
theorem dJ0_isLatin1_aae02_10 : decode cJ0_isLatin1_aae02 10 = .ok (.ifCond .ne 7, 3) := by decide +kernel
theorem dJ0_isLatin1_aae02_13 : decode cJ0_isLatin1_aae02 13 = .ok (.iconst 1, 1) := by decide +kernel
theorem dJ0_isLatin1_aae02_14 : decode cJ0_isLatin1_aae02 14 = .ok (.goto 4, 3) := by decide +kernel
theorem dJ0_isLatin1_aae02_17 : decode cJ0_isLatin1_aae02 17 = .ok (.iconst 0, 1) := by decide +kernel
theorem dJ0_isLatin1_aae02_18 : decode cJ0_isLatin1_aae02 18 = .ok (.ireturn, 1) := by decide +kernel
theorem dJ0_checkIndex_df160_0 : decode cJ0_checkIndex_df160 0 = .ok (.iload_n 0, 1) := by decide +kernel
theorem dJ0_checkIndex_df160_1 : decode cJ0_checkIndex_df160 1 = .ok (.iload_n 1, 1) := by decide +kernel
theorem dJ0_checkIndex_df160_2 : decode cJ0_checkIndex_df160 2 = .ok (.getstatic 1053, 3) := by decide +kernel
theorem dJ0_checkIndex_df160_5 : decode cJ0_checkIndex_df160 5 = .ok (.invokestatic 1059, 3) := by decide +kernel
theorem dJ0_checkIndex_df160_8 : decode cJ0_checkIndex_df160 8 = .ok (.pop, 1) := by decide +kernel
theorem dJ0_checkIndex_df160_9 : decode cJ0_checkIndex_df160 9 = .ok (.return_, 1) := by decide +kernel
theorem dJ4_init_da8c8_0 : decode cJ4_init_da8c8 0 = .ok (.aload_n 0, 1) := by decide +kernel
theorem dJ4_init_da8c8_1 : decode cJ4_init_da8c8 1 = .ok (.bipush 16, 2) := by decide +kernel
theorem dJ4_init_da8c8_3 : decode cJ4_init_da8c8 3 = .ok (.invokespecial 1, 3) := by decide +kernel
theorem dJ4_init_da8c8_6 : decode cJ4_init_da8c8 6 = .ok (.return_, 1) := by decide +kernel
theorem dJ4_init_a7421_0 : decode cJ4_init_a7421 0 = .ok (.aload_n 0, 1) := by decide +kernel
theorem dJ4_init_a7421_1 : decode cJ4_init_a7421 1 = .ok (.aload_n 1, 1) := by decide +kernel
theorem dJ4_init_a7421_2 : decode cJ4_init_a7421 2 = .ok (.invokespecial 7, 3) := by decide +kernel
theorem dJ4_init_a7421_5 : decode cJ4_init_a7421 5 = .ok (.return_, 1) := by decide +kernel
theorem dJ4_append_15ec4_0 : decode cJ4_append_15ec4 0 = .ok (.aload_n 0, 1) := by decide +kernel
theorem dJ4_append_15ec4_1 : decode cJ4_append_15ec4 1 = .ok (.aload_n 1, 1) := by decide +kernel
theorem dJ4_append_15ec4_2 : decode cJ4_append_15ec4 2 = .ok (.invokespecial 29, 3) := by decide +kernel
theorem dJ4_append_15ec4_5 : decode cJ4_append_15ec4 5 = .ok (.pop, 1) := by decide +kernel
theorem dJ4_append_15ec4_6 : decode cJ4_append_15ec4 6 = .ok (.aload_n 0, 1) := by decide +kernel
theorem dJ4_append_15ec4_7 : decode cJ4_append_15ec4 7 = .ok (.areturn, 1) := by decide +kernel
theorem dJ4_append_cf468_0 : decode cJ4_append_cf468 0 = .ok (.aload_n 0, 1) := by decide +kernel
theorem dJ4_append_cf468_1 : decode cJ4_append_cf468 1 = .ok (.iload_n 1, 1) := by decide +kernel
theorem dJ4_append_cf468_2 : decode cJ4_append_cf468 2 = .ok (.invokespecial 50, 3) := by decide +kernel
theorem dJ4_append_cf468_5 : decode cJ4_append_cf468 5 = .ok (.pop, 1) := by decide +kernel
theorem dJ4_append_cf468_6 : decode cJ4_append_cf468 6 = .ok (.aload_n 0, 1) := by decide +kernel
theorem dJ4_append_cf468_7 : decode cJ4_append_cf468 7 = .ok (.areturn, 1) := by decide +kernel
theorem dJ4_append_bf812_0 : decode cJ4_append_bf812 0 = .ok (.aload_n 0, 1) := by decide +kernel
theorem dJ4_append_bf812_1 : decode cJ4_append_bf812 1 = .ok (.iload_n 1, 1) := by decide +kernel
theorem dJ4_append_bf812_2 : decode cJ4_append_bf812 2 = .ok (.invokespecial 53, 3) := by decide +kernel
theorem dJ4_append_bf812_5 : decode cJ4_append_bf812 5 = .ok (.pop, 1) := by decide +kernel
theorem dJ4_append_bf812_6 : decode cJ4_append_bf812 6 = .ok (.aload_n 0, 1) := by decide +kernel
theorem dJ4_append_bf812_7 : decode cJ4_append_bf812 7 = .ok (.areturn, 1) := by decide +kernel
theorem dJ4_toString_0e30d_0 : decode cJ4_toString_0e30d 0 = .ok (.new 18, 3) := by decide +kernel
theorem dJ4_toString_0e30d_3 : decode cJ4_toString_0e30d 3 = .ok (.dup, 1) := by decide +kernel
theorem dJ4_toString_0e30d_4 : decode cJ4_toString_0e30d 4 = .ok (.aload_n 0, 1) := by decide +kernel
theorem dJ4_toString_0e30d_5 : decode cJ4_toString_0e30d 5 = .ok (.invokespecial 137, 3) := by decide +kernel
theorem dJ4_toString_0e30d_8 : decode cJ4_toString_0e30d 8 = .ok (.areturn, 1) := by decide +kernel
theorem dJ4_append_cf1ce_0 : decode cJ4_append_cf1ce 0 = .ok (.aload_n 0, 1) := by decide +kernel
theorem dJ4_append_cf1ce_1 : decode cJ4_append_cf1ce 1 = .ok (.aload_n 1, 1) := by decide +kernel
theorem dJ4_append_cf1ce_2 : decode cJ4_append_cf1ce 2 = .ok (.invokevirtual 23, 3) := by decide +kernel
theorem dJ4_append_cf1ce_5 : decode cJ4_append_cf1ce 5 = .ok (.areturn, 1) := by decide +kernel
theorem dJ1_charAt_3b067_0 : decode cJ1_charAt_3b067 0 = .ok (.iload_n 1, 1) := by decide +kernel
theorem dJ1_charAt_3b067_1 : decode cJ1_charAt_3b067 1 = .ok (.aload_n 0, 1) := by decide +kernel
theorem dJ1_charAt_3b067_2 : decode cJ1_charAt_3b067 2 = .ok (.arraylength, 1) := by decide +kernel
theorem dJ1_charAt_3b067_3 : decode cJ1_charAt_3b067 3 = .ok (.invokestatic 9, 3) := by decide +kernel
theorem dJ1_charAt_3b067_6 : decode cJ1_charAt_3b067 6 = .ok (.aload_n 0, 1) := by decide +kernel
theorem dJ1_charAt_3b067_7 : decode cJ1_charAt_3b067 7 = .ok (.iload_n 1, 1) := by decide +kernel
theorem dJ1_charAt_3b067_8 : decode cJ1_charAt_3b067 8 = .ok (.baload, 1) := by decide +kernel
theorem dJ1_charAt_3b067_9 : decode cJ1_charAt_3b067 9 = .ok (.sipush 255, 3) := by decide +kernel
theorem dJ1_charAt_3b067_12 : decode cJ1_charAt_3b067 12 = .ok (.iand, 1) := by decide +kernel
theorem dJ1_charAt_3b067_13 : decode cJ1_charAt_3b067 13 = .ok (.i2c, 1) := by decide +kernel
theorem dJ1_charAt_3b067_14 : decode cJ1_charAt_3b067 14 = .ok (.ireturn, 1) := by decide +kernel
theorem dJ1_canEncode_fc78d_0 : decode cJ1_canEncode_fc78d 0 = .ok (.iload_n 0, 1) := by decide +kernel
theorem dJ1_canEncode_fc78d_1 : decode cJ1_canEncode_fc78d 1 = .ok (.sipush 255, 3) := by decide +kernel
theorem dJ1_canEncode_fc78d_4 : decode cJ1_canEncode_fc78d 4 = .ok (.if_icmp .gt 7, 3) := by decide +kernel
theorem dJ1_canEncode_fc78d_7 : decode cJ1_canEncode_fc78d 7 = .ok (.iconst 1, 1) := by decide +kernel
theorem dJ1_canEncode_fc78d_8 : decode cJ1_canEncode_fc78d 8 = .ok (.goto 4, 3) := by decide +kernel
theorem dJ1_canEncode_fc78d_11 : decode cJ1_canEncode_fc78d 11 = .ok (.iconst 0, 1) := by decide +kernel
theorem dJ1_canEncode_fc78d_12 : decode cJ1_canEncode_fc78d 12 = .ok (.ireturn, 1) := by decide +kernel
theorem dJ7_copyOf_9075b_0 : decode cJ7_copyOf_9075b 0 = .ok (.iload_n 1, 1) := by decide +kernel
theorem dJ7_copyOf_9075b_1 : decode cJ7_copyOf_9075b 1 = .ok (.aload_n 0, 1) := by decide +kernel
theorem dJ7_copyOf_9075b_2 : decode cJ7_copyOf_9075b 2 = .ok (.arraylength, 1) := by decide +kernel
theorem dJ7_copyOf_9075b_3 : decode cJ7_copyOf_9075b 3 = .ok (.if_icmp .ne 11, 3) := by decide +kernel
theorem dJ7_copyOf_9075b_6 : decode cJ7_copyOf_9075b 6 = .ok (.aload_n 0, 1) := by decide +kernel
theorem dJ7_copyOf_9075b_7 : decode cJ7_copyOf_9075b 7 = .ok (.invokevirtual 310, 3) := by decide +kernel
theorem dJ7_copyOf_9075b_10 : decode cJ7_copyOf_9075b 10 = .ok (.checkcast 311, 3) := by decide +kernel
theorem dJ7_copyOf_9075b_13 : decode cJ7_copyOf_9075b 13 = .ok (.areturn, 1) := by decide +kernel
theorem dJ7_copyOf_9075b_14 : decode cJ7_copyOf_9075b 14 = .ok (.iload_n 1, 1) := by decide +kernel
theorem dJ7_copyOf_9075b_15 : decode cJ7_copyOf_9075b 15 = .ok (.newarray .byte, 2) := by decide +kernel
theorem dJ7_copyOf_9075b_17 : decode cJ7_copyOf_9075b 17 = .ok (.astore_n 2, 1) := by decide +kernel
theorem dJ7_copyOf_9075b_18 : decode cJ7_copyOf_9075b 18 = .ok (.aload_n 0, 1) := by decide +kernel
theorem dJ7_copyOf_9075b_19 : decode cJ7_copyOf_9075b 19 = .ok (.iconst 0, 1) := by decide +kernel
theorem dJ7_copyOf_9075b_20 : decode cJ7_copyOf_9075b 20 = .ok (.aload_n 2, 1) := by decide +kernel
theorem dJ7_copyOf_9075b_21 : decode cJ7_copyOf_9075b 21 = .ok (.iconst 0, 1) := by decide +kernel
theorem dJ7_copyOf_9075b_22 : decode cJ7_copyOf_9075b 22 = .ok (.aload_n 0, 1) := by decide +kernel
theorem dJ7_copyOf_9075b_23 : decode cJ7_copyOf_9075b 23 = .ok (.arraylength, 1) := by decide +kernel
theorem dJ7_copyOf_9075b_24 : decode cJ7_copyOf_9075b 24 = .ok (.iload_n 1, 1) := by decide +kernel
theorem dJ7_copyOf_9075b_25 : decode cJ7_copyOf_9075b 25 = .ok (.invokestatic 304, 3) := by decide +kernel
theorem dJ7_copyOf_9075b_28 : decode cJ7_copyOf_9075b 28 = .ok (.invokestatic 150, 3) := by decide +kernel
theorem dJ7_copyOf_9075b_31 : decode cJ7_copyOf_9075b 31 = .ok (.aload_n 2, 1) := by decide +kernel
theorem dJ7_copyOf_9075b_32 : decode cJ7_copyOf_9075b 32 = .ok (.areturn, 1) := by decide +kernel
theorem dJ7_checkLength_df160_0 : decode cJ7_checkLength_df160 0 = .ok (.iload_n 1, 1) := by decide +kernel
theorem dJ7_checkLength_df160_1 : decode cJ7_checkLength_df160 1 = .ok (.iload_n 0, 1) := by decide +kernel
theorem dJ7_checkLength_df160_2 : decode cJ7_checkLength_df160 2 = .ok (.if_icmp .ge 35, 3) := by decide +kernel
theorem dJ7_checkLength_df160_5 : decode cJ7_checkLength_df160 5 = .ok (.new 43, 3) := by decide +kernel
theorem dJ7_checkLength_df160_8 : decode cJ7_checkLength_df160 8 = .ok (.dup, 1) := by decide +kernel
theorem dJ7_checkLength_df160_9 : decode cJ7_checkLength_df160 9 = .ok (.new 45, 3) := by decide +kernel
theorem dJ7_checkLength_df160_12 : decode cJ7_checkLength_df160 12 = .ok (.dup, 1) := by decide +kernel
theorem dJ7_checkLength_df160_13 : decode cJ7_checkLength_df160 13 = .ok (.invokespecial 47, 3) := by decide +kernel
theorem dJ7_checkLength_df160_16 : decode cJ7_checkLength_df160 16 = .ok (.iload_n 0, 1) := by decide +kernel
theorem dJ7_checkLength_df160_17 : decode cJ7_checkLength_df160 17 = .ok (.invokevirtual 54, 3) := by decide +kernel
theorem dJ7_checkLength_df160_20 : decode cJ7_checkLength_df160 20 = .ok (.ldc_w 337, 3) := by decide +kernel
theorem dJ7_checkLength_df160_23 : decode cJ7_checkLength_df160 23 = .ok (.invokevirtual 50, 3) := by decide +kernel
theorem dJ7_checkLength_df160_26 : decode cJ7_checkLength_df160 26 = .ok (.iload_n 1, 1) := by decide +kernel
theorem dJ7_checkLength_df160_27 : decode cJ7_checkLength_df160 27 = .ok (.invokevirtual 54, 3) := by decide +kernel
theorem dJ7_checkLength_df160_30 : decode cJ7_checkLength_df160 30 = .ok (.invokevirtual 61, 3) := by decide +kernel
theorem dJ7_checkLength_df160_33 : decode cJ7_checkLength_df160 33 = .ok (.invokespecial 65, 3) := by decide +kernel
theorem dJ7_checkLength_df160_36 : decode cJ7_checkLength_df160 36 = .ok (.athrow, 1) := by decide +kernel
theorem dJ7_checkLength_df160_37 : decode cJ7_checkLength_df160 37 = .ok (.return_, 1) := by decide +kernel
theorem dJ7_copyOfRange_39247_0 : decode cJ7_copyOfRange_39247 0 = .ok (.iload_n 1, 1) := by decide +kernel
theorem dJ7_copyOfRange_39247_1 : decode cJ7_copyOfRange_39247 1 = .ok (.ifCond .ne 9, 3) := by decide +kernel
theorem dJ7_copyOfRange_39247_4 : decode cJ7_copyOfRange_39247 4 = .ok (.iload_n 2, 1) := by decide +kernel
theorem dJ7_copyOfRange_39247_5 : decode cJ7_copyOfRange_39247 5 = .ok (.aload_n 0, 1) := by decide +kernel
theorem dJ7_copyOfRange_39247_6 : decode cJ7_copyOfRange_39247 6 = .ok (.arraylength, 1) := by decide +kernel
theorem dJ7_copyOfRange_39247_7 : decode cJ7_copyOfRange_39247 7 = .ok (.if_icmp .eq 10, 3) := by decide +kernel
theorem dJ7_copyOfRange_39247_10 : decode cJ7_copyOfRange_39247 10 = .ok (.aload_n 0, 1) := by decide +kernel
theorem dJ7_copyOfRange_39247_11 : decode cJ7_copyOfRange_39247 11 = .ok (.iload_n 1, 1) := by decide +kernel
theorem dJ7_copyOfRange_39247_12 : decode cJ7_copyOfRange_39247 12 = .ok (.iload_n 2, 1) := by decide +kernel
theorem dJ7_copyOfRange_39247_13 : decode cJ7_copyOfRange_39247 13 = .ok (.invokestatic 339, 3) := by decide +kernel
theorem dJ7_copyOfRange_39247_16 : decode cJ7_copyOfRange_39247 16 = .ok (.areturn, 1) := by decide +kernel
theorem dJ7_copyOfRange_39247_17 : decode cJ7_copyOfRange_39247 17 = .ok (.aload_n 0, 1) := by decide +kernel
theorem dJ7_copyOfRange_39247_18 : decode cJ7_copyOfRange_39247 18 = .ok (.invokevirtual 310, 3) := by decide +kernel
theorem dJ7_copyOfRange_39247_21 : decode cJ7_copyOfRange_39247 21 = .ok (.checkcast 311, 3) := by decide +kernel
theorem dJ7_copyOfRange_39247_24 : decode cJ7_copyOfRange_39247 24 = .ok (.areturn, 1) := by decide +kernel
theorem dJ7_copyOfRangeByte_39247_0 : decode cJ7_copyOfRangeByte_39247 0 = .ok (.iload_n 1, 1) := by decide +kernel
theorem dJ7_copyOfRangeByte_39247_1 : decode cJ7_copyOfRangeByte_39247 1 = .ok (.iload_n 2, 1) := by decide +kernel
theorem dJ7_copyOfRangeByte_39247_2 : decode cJ7_copyOfRangeByte_39247 2 = .ok (.invokestatic 343, 3) := by decide +kernel
theorem dJ7_copyOfRangeByte_39247_5 : decode cJ7_copyOfRangeByte_39247 5 = .ok (.iload_n 2, 1) := by decide +kernel
theorem dJ7_copyOfRangeByte_39247_6 : decode cJ7_copyOfRangeByte_39247 6 = .ok (.iload_n 1, 1) := by decide +kernel
theorem dJ7_copyOfRangeByte_39247_7 : decode cJ7_copyOfRangeByte_39247 7 = .ok (.isub, 1) := by decide +kernel
theorem dJ7_copyOfRangeByte_39247_8 : decode cJ7_copyOfRangeByte_39247 8 = .ok (.istore_n 3, 1) := by decide +kernel
theorem dJ7_copyOfRangeByte_39247_9 : decode cJ7_copyOfRangeByte_39247 9 = .ok (.iload_n 3, 1) := by decide +kernel
theorem dJ7_copyOfRangeByte_39247_10 : decode cJ7_copyOfRangeByte_39247 10 = .ok (.newarray .byte, 2) := by decide +kernel
theorem dJ7_copyOfRangeByte_39247_12 : decode cJ7_copyOfRangeByte_39247 12 = .ok (.astore 4, 2) := by decide +kernel
theorem dJ7_copyOfRangeByte_39247_14 : decode cJ7_copyOfRangeByte_39247 14 = .ok (.aload_n 0, 1) := by decide +kernel
theorem dJ7_copyOfRangeByte_39247_15 : decode cJ7_copyOfRangeByte_39247 15 = .ok (.iload_n 1, 1) := by decide +kernel
theorem dJ7_copyOfRangeByte_39247_16 : decode cJ7_copyOfRangeByte_39247 16 = .ok (.aload 4, 2) := by decide +kernel
theorem dJ7_copyOfRangeByte_39247_18 : decode cJ7_copyOfRangeByte_39247 18 = .ok (.iconst 0, 1) := by decide +kernel
theorem dJ7_copyOfRangeByte_39247_19 : decode cJ7_copyOfRangeByte_39247 19 = .ok (.aload_n 0, 1) := by decide +kernel
theorem dJ7_copyOfRangeByte_39247_20 : decode cJ7_copyOfRangeByte_39247 20 = .ok (.arraylength, 1) := by decide +kernel
theorem dJ7_copyOfRangeByte_39247_21 : decode cJ7_copyOfRangeByte_39247 21 = .ok (.iload_n 1, 1) := by decide +kernel
theorem dJ7_copyOfRangeByte_39247_22 : decode cJ7_copyOfRangeByte_39247 22 = .ok (.isub, 1) := by decide +kernel
theorem dJ7_copyOfRangeByte_39247_23 : decode cJ7_copyOfRangeByte_39247 23 = .ok (.iload_n 3, 1) := by decide +kernel
theorem dJ7_copyOfRangeByte_39247_24 : decode cJ7_copyOfRangeByte_39247 24 = .ok (.invokestatic 304, 3) := by decide +kernel
theorem dJ7_copyOfRangeByte_39247_27 : decode cJ7_copyOfRangeByte_39247 27 = .ok (.invokestatic 150, 3) := by decide +kernel
theorem dJ7_copyOfRangeByte_39247_30 : decode cJ7_copyOfRangeByte_39247 30 = .ok (.aload 4, 2) := by decide +kernel
theorem dJ7_copyOfRangeByte_39247_32 : decode cJ7_copyOfRangeByte_39247 32 = .ok (.areturn, 1) := by decide +kernel
theorem dJ8_newLength_cabcc_0 : decode cJ8_newLength_cabcc 0 = .ok (.iload_n 0, 1) := by decide +kernel
theorem dJ8_newLength_cabcc_1 : decode cJ8_newLength_cabcc 1 = .ok (.iload_n 1, 1) := by decide +kernel
theorem dJ8_newLength_cabcc_2 : decode cJ8_newLength_cabcc 2 = .ok (.iload_n 2, 1) := by decide +kernel
theorem dJ8_newLength_cabcc_3 : decode cJ8_newLength_cabcc 3 = .ok (.invokestatic 194, 3) := by decide +kernel
theorem dJ8_newLength_cabcc_6 : decode cJ8_newLength_cabcc 6 = .ok (.iadd, 1) := by decide +kernel
theorem dJ8_newLength_cabcc_7 : decode cJ8_newLength_cabcc 7 = .ok (.istore_n 3, 1) := by decide +kernel
theorem dJ8_newLength_cabcc_8 : decode cJ8_newLength_cabcc 8 = .ok (.iconst 0, 1) := by decide +kernel
theorem dJ8_newLength_cabcc_9 : decode cJ8_newLength_cabcc 9 = .ok (.iload_n 3, 1) := by decide +kernel
theorem dJ8_newLength_cabcc_10 : decode cJ8_newLength_cabcc 10 = .ok (.if_icmp .ge 11, 3) := by decide +kernel
theorem dJ8_newLength_cabcc_13 : decode cJ8_newLength_cabcc 13 = .ok (.iload_n 3, 1) := by decide +kernel
theorem dJ8_newLength_cabcc_14 : decode cJ8_newLength_cabcc 14 = .ok (.ldc 200, 2) := by decide +kernel
theorem dJ8_newLength_cabcc_16 : decode cJ8_newLength_cabcc 16 = .ok (.if_icmp .gt 5, 3) := by decide +kernel
theorem dJ8_newLength_cabcc_19 : decode cJ8_newLength_cabcc 19 = .ok (.iload_n 3, 1) := by decide +kernel
theorem dJ8_newLength_cabcc_20 : decode cJ8_newLength_cabcc 20 = .ok (.ireturn, 1) := by decide +kernel
theorem dJ8_newLength_cabcc_21 : decode cJ8_newLength_cabcc 21 = .ok (.iload_n 0, 1) := by decide +kernel
theorem dJ8_newLength_cabcc_22 : decode cJ8_newLength_cabcc 22 = .ok (.iload_n 1, 1) := by decide +kernel
theorem dJ8_newLength_cabcc_23 : decode cJ8_newLength_cabcc 23 = .ok (.invokestatic 201, 3) := by decide +kernel
theorem dJ8_newLength_cabcc_26 : decode cJ8_newLength_cabcc 26 = .ok (.ireturn, 1) := by decide +kernel
theorem dJ3_checkIndex_8e157_0 : decode cJ3_checkIndex_8e157 0 = .ok (.iload_n 0, 1) := by decide +kernel
theorem dJ3_checkIndex_8e157_1 : decode cJ3_checkIndex_8e157 1 = .ok (.ifCond .lt 8, 3) := by decide +kernel
theorem dJ3_checkIndex_8e157_4 : decode cJ3_checkIndex_8e157 4 = .ok (.iload_n 0, 1) := by decide +kernel
theorem dJ3_checkIndex_8e157_5 : decode cJ3_checkIndex_8e157 5 = .ok (.iload_n 1, 1) := by decide +kernel
theorem dJ3_checkIndex_8e157_6 : decode cJ3_checkIndex_8e157 6 = .ok (.if_icmp .lt 10, 3) := by decide +kernel
theorem dJ3_checkIndex_8e157_9 : decode cJ3_checkIndex_8e157 9 = .ok (.aload_n 2, 1) := by decide +kernel
theorem dJ3_checkIndex_8e157_10 : decode cJ3_checkIndex_8e157 10 = .ok (.iload_n 0, 1) := by decide +kernel
theorem dJ3_checkIndex_8e157_11 : decode cJ3_checkIndex_8e157 11 = .ok (.iload_n 1, 1) := by decide +kernel
theorem dJ3_checkIndex_8e157_12 : decode cJ3_checkIndex_8e157 12 = .ok (.invokestatic 95, 3) := by decide +kernel
theorem dJ3_checkIndex_8e157_15 : decode cJ3_checkIndex_8e157 15 = .ok (.athrow, 1) := by decide +kernel
theorem dJ3_checkIndex_8e157_16 : decode cJ3_checkIndex_8e157 16 = .ok (.iload_n 0, 1) := by decide +kernel
theorem dJ3_checkIndex_8e157_17 : decode cJ3_checkIndex_8e157 17 = .ok (.ireturn, 1) := by decide +kernel
theorem dL_tell_0 : decode cL_tell 0 = .ok (.iconst 0, 1) := by decide +kernel
theorem dL_tell_1 : decode cL_tell 1 = .ok (.istore_n 3, 1) := by decide +kernel
theorem dL_tell_2 : decode cL_tell 2 = .ok (.iload_n 3, 1) := by decide +kernel
theorem dL_tell_3 : decode cL_tell 3 = .ok (.aload_n 2, 1) := by decide +kernel
theorem dL_tell_4 : decode cL_tell 4 = .ok (.invokevirtual 7, 3) := by decide +kernel
theorem dL_tell_7 : decode cL_tell 7 = .ok (.if_icmp .ge 106, 3) := by decide +kernel
theorem dL_tell_10 : decode cL_tell 10 = .ok (.iconst 5, 1) := by decide +kernel
theorem dL_tell_11 : decode cL_tell 11 = .ok (.newarray .int, 2) := by decide +kernel
theorem dL_tell_13 : decode cL_tell 13 = .ok (.astore 4, 2) := by decide +kernel
theorem dL_tell_15 : decode cL_tell 15 = .ok (.iconst 0, 1) := by decide +kernel
theorem dL_tell_16 : decode cL_tell 16 = .ok (.istore 5, 2) := by decide +kernel
theorem dL_tell_18 : decode cL_tell 18 = .ok (.iload 5, 2) := by decide +kernel
theorem dL_tell_20 : decode cL_tell 20 = .ok (.bipush 20, 2) := by decide +kernel
theorem dL_tell_22 : decode cL_tell 22 = .ok (.if_icmp .ge 51, 3) := by decide +kernel
theorem dL_tell_25 : decode cL_tell 25 = .ok (.aload 4, 2) := by decide +kernel
theorem dL_tell_27 : decode cL_tell 27 = .ok (.iload 5, 2) := by decide +kernel
theorem dL_tell_29 : decode cL_tell 29 = .ok (.iconst 4, 1) := by decide +kernel
theorem dL_tell_30 : decode cL_tell 30 = .ok (.idiv, 1) := by decide +kernel
theorem dL_tell_31 : decode cL_tell 31 = .ok (.aload 4, 2) := by decide +kernel
theorem dL_tell_33 : decode cL_tell 33 = .ok (.iload 5, 2) := by decide +kernel
theorem dL_tell_35 : decode cL_tell 35 = .ok (.iconst 4, 1) := by decide +kernel
theorem dL_tell_36 : decode cL_tell 36 = .ok (.idiv, 1) := by decide +kernel
theorem dL_tell_37 : decode cL_tell 37 = .ok (.iaload, 1) := by decide +kernel
theorem dL_tell_38 : decode cL_tell 38 = .ok (.bipush 8, 2) := by decide +kernel
theorem dL_tell_40 : decode cL_tell 40 = .ok (.ishl, 1) := by decide +kernel
theorem dL_tell_41 : decode cL_tell 41 = .ok (.iload_n 3, 1) := by decide +kernel
theorem dL_tell_42 : decode cL_tell 42 = .ok (.iload 5, 2) := by decide +kernel
theorem dL_tell_44 : decode cL_tell 44 = .ok (.iadd, 1) := by decide +kernel
theorem dL_tell_45 : decode cL_tell 45 = .ok (.aload_n 2, 1) := by decide +kernel
theorem dL_tell_46 : decode cL_tell 46 = .ok (.invokevirtual 7, 3) := by decide +kernel
theorem dL_tell_49 : decode cL_tell 49 = .ok (.if_icmp .ge 14, 3) := by decide +kernel
theorem dL_tell_52 : decode cL_tell 52 = .ok (.aload_n 2, 1) := by decide +kernel
theorem dL_tell_53 : decode cL_tell 53 = .ok (.iload_n 3, 1) := by decide +kernel
theorem dL_tell_54 : decode cL_tell 54 = .ok (.iload 5, 2) := by decide +kernel
theorem dL_tell_56 : decode cL_tell 56 = .ok (.iadd, 1) := by decide +kernel
theorem dL_tell_57 : decode cL_tell 57 = .ok (.invokevirtual 13, 3) := by decide +kernel
theorem dL_tell_60 : decode cL_tell 60 = .ok (.goto 5, 3) := by decide +kernel
theorem dL_tell_63 : decode cL_tell 63 = .ok (.bipush 32, 2) := by decide +kernel
theorem dL_tell_65 : decode cL_tell 65 = .ok (.ior, 1) := by decide +kernel
theorem dL_tell_66 : decode cL_tell 66 = .ok (.iastore, 1) := by decide +kernel
theorem dL_tell_67 : decode cL_tell 67 = .ok (.iinc 5 1, 3) := by decide +kernel
theorem dL_tell_70 : decode cL_tell 70 = .ok (.goto (-52), 3) := by decide +kernel
theorem dL_tell_73 : decode cL_tell 73 = .ok (.aload_n 0, 1) := by decide +kernel
theorem dL_tell_74 : decode cL_tell 74 = .ok (.aload 4, 2) := by decide +kernel
theorem dL_tell_76 : decode cL_tell 76 = .ok (.iconst 0, 1) := by decide +kernel
theorem dL_tell_77 : decode cL_tell 77 = .ok (.iaload, 1) := by decide +kernel
theorem dL_tell_78 : decode cL_tell 78 = .ok (.aload 4, 2) := by decide +kernel
theorem dL_tell_80 : decode cL_tell 80 = .ok (.iconst 1, 1) := by decide +kernel
theorem dL_tell_81 : decode cL_tell 81 = .ok (.iaload, 1) := by decide +kernel
theorem dL_tell_82 : decode cL_tell 82 = .ok (.aload 4, 2) := by decide +kernel
theorem dL_tell_84 : decode cL_tell 84 = .ok (.iconst 2, 1) := by decide +kernel
theorem dL_tell_85 : decode cL_tell 85 = .ok (.iaload, 1) := by decide +kernel
theorem dL_tell_86 : decode cL_tell 86 = .ok (.aload 4, 2) := by decide +kernel
theorem dL_tell_88 : decode cL_tell 88 = .ok (.iconst 3, 1) := by decide +kernel
theorem dL_tell_89 : decode cL_tell 89 = .ok (.iaload, 1) := by decide +kernel
theorem dL_tell_90 : decode cL_tell 90 = .ok (.aload 4, 2) := by decide +kernel
theorem dL_tell_92 : decode cL_tell 92 = .ok (.iconst 4, 1) := by decide +kernel
theorem dL_tell_93 : decode cL_tell 93 = .ok (.iaload, 1) := by decide +kernel
theorem dL_tell_94 : decode cL_tell 94 = .ok (.invokevirtual 17, 3) := by decide +kernel
theorem dL_tell_97 : decode cL_tell 97 = .ok (.iload_n 3, 1) := by decide +kernel
theorem dL_tell_98 : decode cL_tell 98 = .ok (.bipush 20, 2) := by decide +kernel
theorem dL_tell_100 : decode cL_tell 100 = .ok (.iadd, 1) := by decide +kernel
theorem dL_tell_101 : decode cL_tell 101 = .ok (.if_icmp .eq 6, 3) := by decide +kernel
theorem dL_tell_104 : decode cL_tell 104 = .ok (.bipush (-9), 2) := by decide +kernel
theorem dL_tell_106 : decode cL_tell 106 = .ok (.ireturn, 1) := by decide +kernel
theorem dL_tell_107 : decode cL_tell 107 = .ok (.iinc 3 20, 3) := by decide +kernel
theorem dL_tell_110 : decode cL_tell 110 = .ok (.goto (-108), 3) := by decide +kernel
theorem dL_tell_113 : decode cL_tell 113 = .ok (.aload_n 0, 1) := by decide +kernel
theorem dL_tell_114 : decode cL_tell 114 = .ok (.iload_n 1, 1) := by decide +kernel
theorem dL_tell_115 : decode cL_tell 115 = .ok (.aload_n 2, 1) := by decide +kernel
theorem dL_tell_116 : decode cL_tell 116 = .ok (.invokevirtual 7, 3) := by decide +kernel
theorem dL_tell_119 : decode cL_tell 119 = .ok (.invokevirtual 23, 3) := by decide +kernel
theorem dL_tell_122 : decode cL_tell 122 = .ok (.ireturn, 1) := by decide +kernel
theorem dL_text_0 : decode cL_text 0 = .ok (.aload_n 0, 1) := by decide +kernel
theorem dL_text_1 : decode cL_text 1 = .ok (.iconst 2, 1) := by decide +kernel
theorem dL_text_2 : decode cL_text 2 = .ok (.iload_n 1, 1) := by decide +kernel
theorem dL_text_3 : decode cL_text 3 = .ok (.invokevirtual 27, 3) := by decide +kernel
theorem dL_text_6 : decode cL_text 6 = .ok (.istore_n 2, 1) := by decide +kernel
theorem dL_text_7 : decode cL_text 7 = .ok (.aload_n 0, 1) := by decide +kernel
theorem dL_text_8 : decode cL_text 8 = .ok (.iconst 1, 1) := by decide +kernel
theorem dL_text_9 : decode cL_text 9 = .ok (.iconst 3, 1) := by decide +kernel
theorem dL_text_10 : decode cL_text 10 = .ok (.invokevirtual 27, 3) := by decide +kernel
theorem dL_text_13 : decode cL_text 13 = .ok (.istore_n 3, 1) := by decide +kernel
theorem dL_text_14 : decode cL_text 14 = .ok (.aload_n 0, 1) := by decide +kernel
theorem dL_text_15 : decode cL_text 15 = .ok (.iconst 1, 1) := by decide +kernel
theorem dL_text_16 : decode cL_text 16 = .ok (.iconst 3, 1) := by decide +kernel
theorem dL_text_17 : decode cL_text 17 = .ok (.invokevirtual 27, 3) := by decide +kernel
theorem dL_text_20 : decode cL_text 20 = .ok (.istore 4, 2) := by decide +kernel
theorem dL_text_22 : decode cL_text 22 = .ok (.aload_n 0, 1) := by decide +kernel
theorem dL_text_23 : decode cL_text 23 = .ok (.iconst 0, 1) := by decide +kernel
theorem dL_text_24 : decode cL_text 24 = .ok (.iconst 2, 1) := by decide +kernel
theorem dL_text_25 : decode cL_text 25 = .ok (.invokevirtual 27, 3) := by decide +kernel
theorem dL_text_28 : decode cL_text 28 = .ok (.istore 5, 2) := by decide +kernel
theorem dL_text_30 : decode cL_text 30 = .ok (.new 32, 3) := by decide +kernel
theorem dL_text_33 : decode cL_text 33 = .ok (.dup, 1) := by decide +kernel
theorem dL_text_34 : decode cL_text 34 = .ok (.ldc 34, 2) := by decide +kernel
theorem dL_text_36 : decode cL_text 36 = .ok (.invokespecial 36, 3) := by decide +kernel
theorem dL_text_39 : decode cL_text 39 = .ok (.iload_n 2, 1) := by decide +kernel
theorem dL_text_40 : decode cL_text 40 = .ok (.invokevirtual 39, 3) := by decide +kernel
theorem dL_text_43 : decode cL_text 43 = .ok (.astore 6, 2) := by decide +kernel
theorem dL_text_45 : decode cL_text 45 = .ok (.iconst 0, 1) := by decide +kernel
theorem dL_text_46 : decode cL_text 46 = .ok (.istore 7, 2) := by decide +kernel
theorem dL_text_48 : decode cL_text 48 = .ok (.iload 7, 2) := by decide +kernel
theorem dL_text_50 : decode cL_text 50 = .ok (.iload_n 2, 1) := by decide +kernel
theorem dL_text_51 : decode cL_text 51 = .ok (.if_icmp .ge 46, 3) := by decide +kernel
theorem dL_text_54 : decode cL_text 54 = .ok (.aload_n 0, 1) := by decide +kernel
theorem dL_text_55 : decode cL_text 55 = .ok (.iconst 0, 1) := by decide +kernel
theorem dL_text_56 : decode cL_text 56 = .ok (.iconst 2, 1) := by decide +kernel
theorem dL_text_57 : decode cL_text 57 = .ok (.invokevirtual 27, 3) := by decide +kernel
theorem dL_text_60 : decode cL_text 60 = .ok (.ifCond .ne 31, 3) := by decide +kernel
theorem dL_text_63 : decode cL_text 63 = .ok (.aload 6, 2) := by decide +kernel
theorem dL_text_65 : decode cL_text 65 = .ok (.ldc 43, 2) := by decide +kernel
theorem dL_text_67 : decode cL_text 67 = .ok (.invokevirtual 45, 3) := by decide +kernel
theorem dL_text_70 : decode cL_text 70 = .ok (.iload 7, 2) := by decide +kernel
theorem dL_text_72 : decode cL_text 72 = .ok (.invokevirtual 39, 3) := by decide +kernel
theorem dL_text_75 : decode cL_text 75 = .ok (.bipush 32, 2) := by decide +kernel
theorem dL_text_77 : decode cL_text 77 = .ok (.invokevirtual 48, 3) := by decide +kernel
theorem dL_text_80 : decode cL_text 80 = .ok (.aload_n 0, 1) := by decide +kernel
theorem dL_text_81 : decode cL_text 81 = .ok (.iconst 0, 1) := by decide +kernel
theorem dL_text_82 : decode cL_text 82 = .ok (.iload 5, 2) := by decide +kernel
theorem dL_text_84 : decode cL_text 84 = .ok (.invokevirtual 27, 3) := by decide +kernel
theorem dL_text_87 : decode cL_text 87 = .ok (.invokevirtual 39, 3) := by decide +kernel
theorem dL_text_90 : decode cL_text 90 = .ok (.pop, 1) := by decide +kernel
theorem dL_text_91 : decode cL_text 91 = .ok (.iinc 7 1, 3) := by decide +kernel
theorem dL_text_94 : decode cL_text 94 = .ok (.goto (-46), 3) := by decide +kernel
theorem dL_text_97 : decode cL_text 97 = .ok (.iload_n 2, 1) := by decide +kernel
theorem dL_text_98 : decode cL_text 98 = .ok (.iconst 2, 1) := by decide +kernel
theorem dL_text_99 : decode cL_text 99 = .ok (.if_icmp .le 54, 3) := by decide +kernel
theorem dL_text_102 : decode cL_text 102 = .ok (.aload_n 0, 1) := by decide +kernel
theorem dL_text_103 : decode cL_text 103 = .ok (.iconst 0, 1) := by decide +kernel
theorem dL_text_104 : decode cL_text 104 = .ok (.iconst 3, 1) := by decide +kernel
theorem dL_text_105 : decode cL_text 105 = .ok (.invokevirtual 27, 3) := by decide +kernel
theorem dL_text_108 : decode cL_text 108 = .ok (.ifCond .ne 45, 3) := by decide +kernel
theorem dL_text_111 : decode cL_text 111 = .ok (.aload 6, 2) := by decide +kernel
theorem dL_text_113 : decode cL_text 113 = .ok (.ldc 51, 2) := by decide +kernel
theorem dL_text_115 : decode cL_text 115 = .ok (.invokevirtual 45, 3) := by decide +kernel
theorem dL_text_118 : decode cL_text 118 = .ok (.pop, 1) := by decide +kernel
theorem dL_text_119 : decode cL_text 119 = .ok (.iconst 0, 1) := by decide +kernel
theorem dL_text_120 : decode cL_text 120 = .ok (.istore 7, 2) := by decide +kernel
theorem dL_text_122 : decode cL_text 122 = .ok (.iload 7, 2) := by decide +kernel
theorem dL_text_124 : decode cL_text 124 = .ok (.iload_n 2, 1) := by decide +kernel
theorem dL_text_125 : decode cL_text 125 = .ok (.if_icmp .ge 22, 3) := by decide +kernel
theorem dL_text_128 : decode cL_text 128 = .ok (.aload 6, 2) := by decide +kernel
theorem dL_text_130 : decode cL_text 130 = .ok (.bipush 32, 2) := by decide +kernel
theorem dL_text_132 : decode cL_text 132 = .ok (.invokevirtual 48, 3) := by decide +kernel
theorem dL_text_135 : decode cL_text 135 = .ok (.iload 7, 2) := by decide +kernel
theorem dL_text_137 : decode cL_text 137 = .ok (.invokevirtual 39, 3) := by decide +kernel
theorem dL_text_140 : decode cL_text 140 = .ok (.pop, 1) := by decide +kernel
theorem dL_text_141 : decode cL_text 141 = .ok (.iinc 7 1, 3) := by decide +kernel
theorem dL_text_144 : decode cL_text 144 = .ok (.goto (-22), 3) := by decide +kernel
theorem dL_text_147 : decode cL_text 147 = .ok (.aload 6, 2) := by decide +kernel
theorem dL_text_149 : decode cL_text 149 = .ok (.invokevirtual 53, 3) := by decide +kernel
theorem dL_text_152 : decode cL_text 152 = .ok (.areturn, 1) := by decide +kernel
theorem dL_text_153 : decode cL_text 153 = .ok (.iconst 0, 1) := by decide +kernel
theorem dL_text_154 : decode cL_text 154 = .ok (.istore 7, 2) := by decide +kernel
theorem dL_text_156 : decode cL_text 156 = .ok (.iload 7, 2) := by decide +kernel
theorem dL_text_158 : decode cL_text 158 = .ok (.iload_n 2, 1) := by decide +kernel
theorem dL_text_159 : decode cL_text 159 = .ok (.if_icmp .ge 102, 3) := by decide +kernel
theorem dL_text_162 : decode cL_text 162 = .ok (.iload 7, 2) := by decide +kernel
theorem dL_text_164 : decode cL_text 164 = .ok (.iconst 1, 1) := by decide +kernel
theorem dL_text_165 : decode cL_text 165 = .ok (.iadd, 1) := by decide +kernel
theorem dL_text_166 : decode cL_text 166 = .ok (.istore 8, 2) := by decide +kernel
theorem dL_text_168 : decode cL_text 168 = .ok (.iload 8, 2) := by decide +kernel
theorem dL_text_170 : decode cL_text 170 = .ok (.iload_n 2, 1) := by decide +kernel
theorem dL_text_171 : decode cL_text 171 = .ok (.if_icmp .ge 84, 3) := by decide +kernel
theorem dL_text_174 : decode cL_text 174 = .ok (.aload_n 0, 1) := by decide +kernel
theorem dL_text_175 : decode cL_text 175 = .ok (.iconst 1, 1) := by decide +kernel
theorem dL_text_176 : decode cL_text 176 = .ok (.iload 4, 2) := by decide +kernel
theorem dL_text_178 : decode cL_text 178 = .ok (.invokevirtual 27, 3) := by decide +kernel
theorem dL_text_181 : decode cL_text 181 = .ok (.istore 9, 2) := by decide +kernel
theorem dL_text_183 : decode cL_text 183 = .ok (.aload_n 0, 1) := by decide +kernel
theorem dL_text_184 : decode cL_text 184 = .ok (.iconst 0, 1) := by decide +kernel
theorem dL_text_185 : decode cL_text 185 = .ok (.iload_n 3, 1) := by decide +kernel
theorem dL_text_186 : decode cL_text 186 = .ok (.invokevirtual 27, 3) := by decide +kernel
theorem dL_text_189 : decode cL_text 189 = .ok (.ifCond .ne 60, 3) := by decide +kernel
theorem dL_text_192 : decode cL_text 192 = .ok (.aload 6, 2) := by decide +kernel
theorem dL_text_194 : decode cL_text 194 = .ok (.ldc 57, 2) := by decide +kernel
theorem dL_text_196 : decode cL_text 196 = .ok (.invokevirtual 45, 3) := by decide +kernel
theorem dL_text_199 : decode cL_text 199 = .ok (.iload 7, 2) := by decide +kernel
theorem dL_text_201 : decode cL_text 201 = .ok (.invokevirtual 39, 3) := by decide +kernel
theorem dL_text_204 : decode cL_text 204 = .ok (.bipush 32, 2) := by decide +kernel
theorem dL_text_206 : decode cL_text 206 = .ok (.invokevirtual 48, 3) := by decide +kernel
theorem dL_text_209 : decode cL_text 209 = .ok (.iload 8, 2) := by decide +kernel
theorem dL_text_211 : decode cL_text 211 = .ok (.invokevirtual 39, 3) := by decide +kernel
theorem dL_text_214 : decode cL_text 214 = .ok (.iload 9, 2) := by decide +kernel
theorem dL_text_216 : decode cL_text 216 = .ok (.iconst 1, 1) := by decide +kernel
theorem dL_text_217 : decode cL_text 217 = .ok (.if_icmp .ne 8, 3) := by decide +kernel
theorem dL_text_220 : decode cL_text 220 = .ok (.ldc 59, 2) := by decide +kernel
theorem dL_text_222 : decode cL_text 222 = .ok (.goto 23, 3) := by decide +kernel
theorem dL_text_225 : decode cL_text 225 = .ok (.new 32, 3) := by decide +kernel
theorem dL_text_228 : decode cL_text 228 = .ok (.dup, 1) := by decide +kernel
theorem dL_text_229 : decode cL_text 229 = .ok (.invokespecial 61, 3) := by decide +kernel
theorem dL_text_232 : decode cL_text 232 = .ok (.ldc 62, 2) := by decide +kernel
theorem dL_text_234 : decode cL_text 234 = .ok (.invokevirtual 45, 3) := by decide +kernel
theorem dL_text_237 : decode cL_text 237 = .ok (.iload 9, 2) := by decide +kernel
theorem dL_text_239 : decode cL_text 239 = .ok (.invokevirtual 39, 3) := by decide +kernel
theorem dL_text_242 : decode cL_text 242 = .ok (.invokevirtual 53, 3) := by decide +kernel
theorem dL_text_245 : decode cL_text 245 = .ok (.invokevirtual 45, 3) := by decide +kernel
theorem dL_text_248 : decode cL_text 248 = .ok (.pop, 1) := by decide +kernel
theorem dL_text_249 : decode cL_text 249 = .ok (.iinc 8 1, 3) := by decide +kernel
theorem dL_text_252 : decode cL_text 252 = .ok (.goto (-84), 3) := by decide +kernel
theorem dL_text_255 : decode cL_text 255 = .ok (.iinc 7 1, 3) := by decide +kernel
theorem dL_text_258 : decode cL_text 258 = .ok (.goto (-102), 3) := by decide +kernel
theorem dL_text_261 : decode cL_text 261 = .ok (.aload 6, 2) := by decide +kernel
theorem dL_text_263 : decode cL_text 263 = .ok (.invokevirtual 53, 3) := by decide +kernel
theorem dL_text_266 : decode cL_text 266 = .ok (.areturn, 1) := by decide +kernel
theorem dL_seen_0 : decode cL_seen 0 = .ok (.iconst 0, 1) := by decide +kernel
theorem dL_seen_1 : decode cL_seen 1 = .ok (.istore 5, 2) := by decide +kernel
theorem dL_seen_3 : decode cL_seen 3 = .ok (.iconst 0, 1) := by decide +kernel
theorem dL_seen_4 : decode cL_seen 4 = .ok (.istore 6, 2) := by decide +kernel
theorem dL_seen_6 : decode cL_seen 6 = .ok (.iload 6, 2) := by decide +kernel
theorem dL_seen_8 : decode cL_seen 8 = .ok (.aload_n 0, 1) := by decide +kernel
theorem dL_seen_9 : decode cL_seen 9 = .ok (.iload_n 1, 1) := by decide +kernel
theorem dL_seen_10 : decode cL_seen 10 = .ok (.iconst 0, 1) := by decide +kernel
theorem dL_seen_11 : decode cL_seen 11 = .ok (.invokevirtual 64, 3) := by decide +kernel
theorem dL_seen_14 : decode cL_seen 14 = .ok (.if_icmp .ge 48, 3) := by decide +kernel
theorem dL_seen_17 : decode cL_seen 17 = .ok (.iload 5, 2) := by decide +kernel
theorem dL_seen_19 : decode cL_seen 19 = .ok (.iload 6, 2) := by decide +kernel
theorem dL_seen_21 : decode cL_seen 21 = .ok (.iload_n 2, 1) := by decide +kernel
theorem dL_seen_22 : decode cL_seen 22 = .ok (.if_icmp .eq 30, 3) := by decide +kernel
theorem dL_seen_25 : decode cL_seen 25 = .ok (.iload_n 3, 1) := by decide +kernel
theorem dL_seen_26 : decode cL_seen 26 = .ok (.iload 6, 2) := by decide +kernel
theorem dL_seen_28 : decode cL_seen 28 = .ok (.ishr, 1) := by decide +kernel
theorem dL_seen_29 : decode cL_seen 29 = .ok (.iconst 1, 1) := by decide +kernel
theorem dL_seen_30 : decode cL_seen 30 = .ok (.iand, 1) := by decide +kernel
theorem dL_seen_31 : decode cL_seen 31 = .ok (.iconst 1, 1) := by decide +kernel
theorem dL_seen_32 : decode cL_seen 32 = .ok (.if_icmp .ne 20, 3) := by decide +kernel
theorem dL_seen_35 : decode cL_seen 35 = .ok (.aload_n 0, 1) := by decide +kernel
theorem dL_seen_36 : decode cL_seen 36 = .ok (.iload_n 1, 1) := by decide +kernel
theorem dL_seen_37 : decode cL_seen 37 = .ok (.iload_n 2, 1) := by decide +kernel
theorem dL_seen_38 : decode cL_seen 38 = .ok (.iload 6, 2) := by decide +kernel
theorem dL_seen_40 : decode cL_seen 40 = .ok (.invokevirtual 67, 3) := by decide +kernel
theorem dL_seen_43 : decode cL_seen 43 = .ok (.iload 4, 2) := by decide +kernel
theorem dL_seen_45 : decode cL_seen 45 = .ok (.if_icmp .ne 7, 3) := by decide +kernel
theorem dL_seen_48 : decode cL_seen 48 = .ok (.iconst 1, 1) := by decide +kernel
theorem dL_seen_49 : decode cL_seen 49 = .ok (.goto 4, 3) := by decide +kernel
theorem dL_seen_52 : decode cL_seen 52 = .ok (.iconst 0, 1) := by decide +kernel
theorem dL_seen_53 : decode cL_seen 53 = .ok (.iadd, 1) := by decide +kernel
theorem dL_seen_54 : decode cL_seen 54 = .ok (.istore 5, 2) := by decide +kernel
theorem dL_seen_56 : decode cL_seen 56 = .ok (.iinc 6 1, 3) := by decide +kernel
theorem dL_seen_59 : decode cL_seen 59 = .ok (.goto (-53), 3) := by decide +kernel
theorem dL_seen_62 : decode cL_seen 62 = .ok (.iload 5, 2) := by decide +kernel
theorem dL_seen_64 : decode cL_seen 64 = .ok (.ireturn, 1) := by decide +kernel
theorem dL_cells_0 : decode cL_cells 0 = .ok (.aload_n 0, 1) := by decide +kernel
theorem dL_cells_1 : decode cL_cells 1 = .ok (.iload_n 1, 1) := by decide +kernel
theorem dL_cells_2 : decode cL_cells 2 = .ok (.iconst 0, 1) := by decide +kernel
theorem dL_cells_3 : decode cL_cells 3 = .ok (.invokevirtual 64, 3) := by decide +kernel
theorem dL_cells_6 : decode cL_cells 6 = .ok (.istore_n 2, 1) := by decide +kernel
theorem dL_cells_7 : decode cL_cells 7 = .ok (.iconst 0, 1) := by decide +kernel
theorem dL_cells_8 : decode cL_cells 8 = .ok (.istore_n 3, 1) := by decide +kernel
theorem dL_cells_9 : decode cL_cells 9 = .ok (.aload_n 0, 1) := by decide +kernel
theorem dL_cells_10 : decode cL_cells 10 = .ok (.iload_n 1, 1) := by decide +kernel
theorem dL_cells_11 : decode cL_cells 11 = .ok (.iconst 0, 1) := by decide +kernel
theorem dL_cells_12 : decode cL_cells 12 = .ok (.invokevirtual 71, 3) := by decide +kernel
theorem dL_cells_15 : decode cL_cells 15 = .ok (.istore 4, 2) := by decide +kernel
theorem dL_cells_17 : decode cL_cells 17 = .ok (.iconst (-1), 1) := by decide +kernel
theorem dL_cells_18 : decode cL_cells 18 = .ok (.istore 5, 2) := by decide +kernel
theorem dL_cells_20 : decode cL_cells 20 = .ok (.iconst 0, 1) := by decide +kernel
theorem dL_cells_21 : decode cL_cells 21 = .ok (.istore 6, 2) := by decide +kernel
theorem dL_cells_23 : decode cL_cells 23 = .ok (.iconst 0, 1) := by decide +kernel
theorem dL_cells_24 : decode cL_cells 24 = .ok (.istore 7, 2) := by decide +kernel
theorem dL_cells_26 : decode cL_cells 26 = .ok (.iload 7, 2) := by decide +kernel
theorem dL_cells_28 : decode cL_cells 28 = .ok (.iload 4, 2) := by decide +kernel
theorem dL_cells_30 : decode cL_cells 30 = .ok (.if_icmp .ge 224, 3) := by decide +kernel
theorem dL_cells_33 : decode cL_cells 33 = .ok (.aload_n 0, 1) := by decide +kernel
theorem dL_cells_34 : decode cL_cells 34 = .ok (.iload_n 1, 1) := by decide +kernel
theorem dL_cells_35 : decode cL_cells 35 = .ok (.iload 7, 2) := by decide +kernel
theorem dL_cells_37 : decode cL_cells 37 = .ok (.invokevirtual 74, 3) := by decide +kernel
theorem dL_cells_40 : decode cL_cells 40 = .ok (.istore 8, 2) := by decide +kernel
theorem dL_cells_42 : decode cL_cells 42 = .ok (.iload 8, 2) := by decide +kernel
theorem dL_cells_44 : decode cL_cells 44 = .ok (.invokestatic 77, 3) := by decide +kernel
theorem dL_cells_47 : decode cL_cells 47 = .ok (.istore 9, 2) := by decide +kernel
theorem dL_cells_49 : decode cL_cells 49 = .ok (.iload 8, 2) := by decide +kernel
theorem dL_cells_51 : decode cL_cells 51 = .ok (.ifCond .eq 22, 3) := by decide +kernel
theorem dL_cells_54 : decode cL_cells 54 = .ok (.iload_n 3, 1) := by decide +kernel
theorem dL_cells_55 : decode cL_cells 55 = .ok (.iload 8, 2) := by decide +kernel
theorem dL_cells_57 : decode cL_cells 57 = .ok (.iand, 1) := by decide +kernel
theorem dL_cells_58 : decode cL_cells 58 = .ok (.ifCond .ne 15, 3) := by decide +kernel
theorem dL_cells_61 : decode cL_cells 61 = .ok (.aload_n 0, 1) := by decide +kernel
theorem dL_cells_62 : decode cL_cells 62 = .ok (.iload_n 1, 1) := by decide +kernel
theorem dL_cells_63 : decode cL_cells 63 = .ok (.iload 9, 2) := by decide +kernel
theorem dL_cells_65 : decode cL_cells 65 = .ok (.invokevirtual 83, 3) := by decide +kernel
theorem dL_cells_68 : decode cL_cells 68 = .ok (.iload 5, 2) := by decide +kernel
theorem dL_cells_70 : decode cL_cells 70 = .ok (.if_icmp .ge 5, 3) := by decide +kernel
theorem dL_cells_73 : decode cL_cells 73 = .ok (.iconst 0, 1) := by decide +kernel
theorem dL_cells_74 : decode cL_cells 74 = .ok (.ireturn, 1) := by decide +kernel
theorem dL_cells_75 : decode cL_cells 75 = .ok (.aload_n 0, 1) := by decide +kernel
theorem dL_cells_76 : decode cL_cells 76 = .ok (.iload_n 1, 1) := by decide +kernel
theorem dL_cells_77 : decode cL_cells 77 = .ok (.iload 9, 2) := by decide +kernel
theorem dL_cells_79 : decode cL_cells 79 = .ok (.invokevirtual 83, 3) := by decide +kernel
theorem dL_cells_82 : decode cL_cells 82 = .ok (.istore 5, 2) := by decide +kernel
theorem dL_cells_84 : decode cL_cells 84 = .ok (.iload_n 3, 1) := by decide +kernel
theorem dL_cells_85 : decode cL_cells 85 = .ok (.iload 8, 2) := by decide +kernel
theorem dL_cells_87 : decode cL_cells 87 = .ok (.ior, 1) := by decide +kernel
theorem dL_cells_88 : decode cL_cells 88 = .ok (.istore_n 3, 1) := by decide +kernel
theorem dL_cells_89 : decode cL_cells 89 = .ok (.iload 8, 2) := by decide +kernel
theorem dL_cells_91 : decode cL_cells 91 = .ok (.invokestatic 86, 3) := by decide +kernel
theorem dL_cells_94 : decode cL_cells 94 = .ok (.iconst 1, 1) := by decide +kernel
theorem dL_cells_95 : decode cL_cells 95 = .ok (.if_icmp .le 25, 3) := by decide +kernel
theorem dL_cells_98 : decode cL_cells 98 = .ok (.iload 6, 2) := by decide +kernel
theorem dL_cells_100 : decode cL_cells 100 = .ok (.ifCond .eq 16, 3) := by decide +kernel
theorem dL_cells_103 : decode cL_cells 103 = .ok (.iload 8, 2) := by decide +kernel
theorem dL_cells_105 : decode cL_cells 105 = .ok (.invokestatic 86, 3) := by decide +kernel
theorem dL_cells_108 : decode cL_cells 108 = .ok (.iload 6, 2) := by decide +kernel
theorem dL_cells_110 : decode cL_cells 110 = .ok (.invokestatic 86, 3) := by decide +kernel
theorem dL_cells_113 : decode cL_cells 113 = .ok (.if_icmp .ge 7, 3) := by decide +kernel
theorem dL_cells_116 : decode cL_cells 116 = .ok (.iload 8, 2) := by decide +kernel
theorem dL_cells_118 : decode cL_cells 118 = .ok (.istore 6, 2) := by decide +kernel
theorem dL_cells_120 : decode cL_cells 120 = .ok (.iload 9, 2) := by decide +kernel
theorem dL_cells_122 : decode cL_cells 122 = .ok (.iconst 1, 1) := by decide +kernel
theorem dL_cells_123 : decode cL_cells 123 = .ok (.iadd, 1) := by decide +kernel
theorem dL_cells_124 : decode cL_cells 124 = .ok (.istore 10, 2) := by decide +kernel
theorem dL_cells_126 : decode cL_cells 126 = .ok (.iload 10, 2) := by decide +kernel
theorem dL_cells_128 : decode cL_cells 128 = .ok (.iload_n 2, 1) := by decide +kernel
theorem dL_cells_129 : decode cL_cells 129 = .ok (.if_icmp .ge 119, 3) := by decide +kernel
theorem dL_cells_132 : decode cL_cells 132 = .ok (.iload 8, 2) := by decide +kernel
theorem dL_cells_134 : decode cL_cells 134 = .ok (.iload 10, 2) := by decide +kernel
theorem dL_cells_136 : decode cL_cells 136 = .ok (.ishr, 1) := by decide +kernel
theorem dL_cells_137 : decode cL_cells 137 = .ok (.iconst 1, 1) := by decide +kernel
theorem dL_cells_138 : decode cL_cells 138 = .ok (.iand, 1) := by decide +kernel
theorem dL_cells_139 : decode cL_cells 139 = .ok (.ifCond .ne 6, 3) := by decide +kernel
theorem dL_cells_142 : decode cL_cells 142 = .ok (.goto 100, 3) := by decide +kernel
theorem dL_cells_145 : decode cL_cells 145 = .ok (.aload_n 0, 1) := by decide +kernel
theorem dL_cells_146 : decode cL_cells 146 = .ok (.iload_n 1, 1) := by decide +kernel
theorem dL_cells_147 : decode cL_cells 147 = .ok (.iload 10, 2) := by decide +kernel
theorem dL_cells_149 : decode cL_cells 149 = .ok (.invokevirtual 83, 3) := by decide +kernel
theorem dL_cells_152 : decode cL_cells 152 = .ok (.iload 5, 2) := by decide +kernel
theorem dL_cells_154 : decode cL_cells 154 = .ok (.if_icmp .ne 18, 3) := by decide +kernel
theorem dL_cells_157 : decode cL_cells 157 = .ok (.aload_n 0, 1) := by decide +kernel
theorem dL_cells_158 : decode cL_cells 158 = .ok (.iload_n 1, 1) := by decide +kernel
theorem dL_cells_159 : decode cL_cells 159 = .ok (.iload 10, 2) := by decide +kernel
theorem dL_cells_161 : decode cL_cells 161 = .ok (.invokevirtual 89, 3) := by decide +kernel
theorem dL_cells_164 : decode cL_cells 164 = .ok (.iload 8, 2) := by decide +kernel
theorem dL_cells_166 : decode cL_cells 166 = .ok (.iconst (-1), 1) := by decide +kernel
theorem dL_cells_167 : decode cL_cells 167 = .ok (.ixor, 1) := by decide +kernel
theorem dL_cells_168 : decode cL_cells 168 = .ok (.iand, 1) := by decide +kernel
theorem dL_cells_169 : decode cL_cells 169 = .ok (.ifCond .eq 5, 3) := by decide +kernel
theorem dL_cells_172 : decode cL_cells 172 = .ok (.iconst 0, 1) := by decide +kernel
theorem dL_cells_173 : decode cL_cells 173 = .ok (.ireturn, 1) := by decide +kernel
theorem dL_cells_174 : decode cL_cells 174 = .ok (.iconst 0, 1) := by decide +kernel
theorem dL_cells_175 : decode cL_cells 175 = .ok (.istore 11, 2) := by decide +kernel
theorem dL_cells_177 : decode cL_cells 177 = .ok (.iload 11, 2) := by decide +kernel
theorem dL_cells_179 : decode cL_cells 179 = .ok (.iload 4, 2) := by decide +kernel
theorem dL_cells_181 : decode cL_cells 181 = .ok (.if_icmp .ge 61, 3) := by decide +kernel
theorem dL_cells_184 : decode cL_cells 184 = .ok (.iconst 1, 1) := by decide +kernel
theorem dL_cells_185 : decode cL_cells 185 = .ok (.istore 12, 2) := by decide +kernel
theorem dL_cells_187 : decode cL_cells 187 = .ok (.iload 12, 2) := by decide +kernel
theorem dL_cells_189 : decode cL_cells 189 = .ok (.iconst 4, 1) := by decide +kernel
theorem dL_cells_190 : decode cL_cells 190 = .ok (.if_icmp .ge 46, 3) := by decide +kernel
theorem dL_cells_193 : decode cL_cells 193 = .ok (.aload_n 0, 1) := by decide +kernel
theorem dL_cells_194 : decode cL_cells 194 = .ok (.iload_n 1, 1) := by decide +kernel
theorem dL_cells_195 : decode cL_cells 195 = .ok (.iload 10, 2) := by decide +kernel
theorem dL_cells_197 : decode cL_cells 197 = .ok (.aload_n 0, 1) := by decide +kernel
theorem dL_cells_198 : decode cL_cells 198 = .ok (.iload_n 1, 1) := by decide +kernel
theorem dL_cells_199 : decode cL_cells 199 = .ok (.iload 11, 2) := by decide +kernel
theorem dL_cells_201 : decode cL_cells 201 = .ok (.invokevirtual 74, 3) := by decide +kernel
theorem dL_cells_204 : decode cL_cells 204 = .ok (.iload 12, 2) := by decide +kernel
theorem dL_cells_206 : decode cL_cells 206 = .ok (.invokestatic 92, 3) := by decide +kernel
theorem dL_cells_209 : decode cL_cells 209 = .ok (.aload_n 0, 1) := by decide +kernel
theorem dL_cells_210 : decode cL_cells 210 = .ok (.iload_n 1, 1) := by decide +kernel
theorem dL_cells_211 : decode cL_cells 211 = .ok (.iload 9, 2) := by decide +kernel
theorem dL_cells_213 : decode cL_cells 213 = .ok (.aload_n 0, 1) := by decide +kernel
theorem dL_cells_214 : decode cL_cells 214 = .ok (.iload_n 1, 1) := by decide +kernel
theorem dL_cells_215 : decode cL_cells 215 = .ok (.iload 11, 2) := by decide +kernel
theorem dL_cells_217 : decode cL_cells 217 = .ok (.invokevirtual 74, 3) := by decide +kernel
theorem dL_cells_220 : decode cL_cells 220 = .ok (.iload 12, 2) := by decide +kernel
theorem dL_cells_222 : decode cL_cells 222 = .ok (.invokestatic 92, 3) := by decide +kernel
theorem dL_cells_225 : decode cL_cells 225 = .ok (.if_icmp .eq 5, 3) := by decide +kernel
theorem dL_cells_228 : decode cL_cells 228 = .ok (.iconst 0, 1) := by decide +kernel
theorem dL_cells_229 : decode cL_cells 229 = .ok (.ireturn, 1) := by decide +kernel
theorem dL_cells_230 : decode cL_cells 230 = .ok (.iinc 12 1, 3) := by decide +kernel
theorem dL_cells_233 : decode cL_cells 233 = .ok (.goto (-46), 3) := by decide +kernel
theorem dL_cells_236 : decode cL_cells 236 = .ok (.iinc 11 1, 3) := by decide +kernel
theorem dL_cells_239 : decode cL_cells 239 = .ok (.goto (-62), 3) := by decide +kernel
theorem dL_cells_242 : decode cL_cells 242 = .ok (.iinc 10 1, 3) := by decide +kernel
theorem dL_cells_245 : decode cL_cells 245 = .ok (.goto (-119), 3) := by decide +kernel
theorem dL_cells_248 : decode cL_cells 248 = .ok (.iinc 7 1, 3) := by decide +kernel
theorem dL_cells_251 : decode cL_cells 251 = .ok (.goto (-225), 3) := by decide +kernel
theorem dL_cells_254 : decode cL_cells 254 = .ok (.iload_n 3, 1) := by decide +kernel
theorem dL_cells_255 : decode cL_cells 255 = .ok (.iconst 1, 1) := by decide +kernel
theorem dL_cells_256 : decode cL_cells 256 = .ok (.iload_n 2, 1) := by decide +kernel
theorem dL_cells_257 : decode cL_cells 257 = .ok (.ishl, 1) := by decide +kernel
theorem dL_cells_258 : decode cL_cells 258 = .ok (.iconst 1, 1) := by decide +kernel
theorem dL_cells_259 : decode cL_cells 259 = .ok (.isub, 1) := by decide +kernel
theorem dL_cells_260 : decode cL_cells 260 = .ok (.if_icmp .ne 63, 3) := by decide +kernel
theorem dL_cells_263 : decode cL_cells 263 = .ok (.aload_n 0, 1) := by decide +kernel
theorem dL_cells_264 : decode cL_cells 264 = .ok (.iload_n 1, 1) := by decide +kernel
theorem dL_cells_265 : decode cL_cells 265 = .ok (.iconst 3, 1) := by decide +kernel
theorem dL_cells_266 : decode cL_cells 266 = .ok (.invokevirtual 71, 3) := by decide +kernel
theorem dL_cells_269 : decode cL_cells 269 = .ok (.iload 6, 2) := by decide +kernel
theorem dL_cells_271 : decode cL_cells 271 = .ok (.if_icmp .ne 52, 3) := by decide +kernel
theorem dL_cells_274 : decode cL_cells 274 = .ok (.aload_n 0, 1) := by decide +kernel
theorem dL_cells_275 : decode cL_cells 275 = .ok (.iload_n 1, 1) := by decide +kernel
theorem dL_cells_276 : decode cL_cells 276 = .ok (.iload 4, 2) := by decide +kernel
theorem dL_cells_278 : decode cL_cells 278 = .ok (.invokevirtual 74, 3) := by decide +kernel
theorem dL_cells_281 : decode cL_cells 281 = .ok (.iconst (-1), 1) := by decide +kernel
theorem dL_cells_282 : decode cL_cells 282 = .ok (.if_icmp .ne 41, 3) := by decide +kernel
theorem dL_cells_285 : decode cL_cells 285 = .ok (.aload_n 0, 1) := by decide +kernel
theorem dL_cells_286 : decode cL_cells 286 = .ok (.invokevirtual 98, 3) := by decide +kernel
theorem dL_cells_289 : decode cL_cells 289 = .ok (.iconst 1, 1) := by decide +kernel
theorem dL_cells_290 : decode cL_cells 290 = .ok (.if_icmp .ne 33, 3) := by decide +kernel
theorem dL_cells_293 : decode cL_cells 293 = .ok (.aload_n 0, 1) := by decide +kernel
theorem dL_cells_294 : decode cL_cells 294 = .ok (.iload_n 1, 1) := by decide +kernel
theorem dL_cells_295 : decode cL_cells 295 = .ok (.iconst 2, 1) := by decide +kernel
theorem dL_cells_296 : decode cL_cells 296 = .ok (.invokevirtual 71, 3) := by decide +kernel
theorem dL_cells_299 : decode cL_cells 299 = .ok (.aload_n 0, 1) := by decide +kernel
theorem dL_cells_300 : decode cL_cells 300 = .ok (.iload_n 1, 1) := by decide +kernel
theorem dL_cells_301 : decode cL_cells 301 = .ok (.iconst 2, 1) := by decide +kernel
theorem dL_cells_302 : decode cL_cells 302 = .ok (.invokevirtual 64, 3) := by decide +kernel
theorem dL_cells_305 : decode cL_cells 305 = .ok (.if_icmp .ne 18, 3) := by decide +kernel
theorem dL_cells_308 : decode cL_cells 308 = .ok (.aload_n 0, 1) := by decide +kernel
theorem dL_cells_309 : decode cL_cells 309 = .ok (.iload_n 1, 1) := by decide +kernel
theorem dL_cells_310 : decode cL_cells 310 = .ok (.iconst 0, 1) := by decide +kernel
theorem dL_cells_311 : decode cL_cells 311 = .ok (.invokevirtual 101, 3) := by decide +kernel
theorem dL_cells_314 : decode cL_cells 314 = .ok (.iload 4, 2) := by decide +kernel
theorem dL_cells_316 : decode cL_cells 316 = .ok (.if_icmp .ne 7, 3) := by decide +kernel
theorem dL_cells_319 : decode cL_cells 319 = .ok (.iconst 1, 1) := by decide +kernel
theorem dL_cells_320 : decode cL_cells 320 = .ok (.goto 4, 3) := by decide +kernel
theorem dL_cells_323 : decode cL_cells 323 = .ok (.iconst 0, 1) := by decide +kernel
theorem dL_cells_324 : decode cL_cells 324 = .ok (.ireturn, 1) := by decide +kernel
theorem dL_name_0 : decode cL_name 0 = .ok (.aload_n 0, 1) := by decide +kernel
theorem dL_name_1 : decode cL_name 1 = .ok (.iload_n 1, 1) := by decide +kernel
theorem dL_name_2 : decode cL_name 2 = .ok (.iconst 0, 1) := by decide +kernel
theorem dL_name_3 : decode cL_name 3 = .ok (.invokevirtual 64, 3) := by decide +kernel
theorem dL_name_6 : decode cL_name 6 = .ok (.istore_n 2, 1) := by decide +kernel
theorem dL_name_7 : decode cL_name 7 = .ok (.iload_n 2, 1) := by decide +kernel
theorem dL_name_8 : decode cL_name 8 = .ok (.istore_n 3, 1) := by decide +kernel
theorem dL_name_9 : decode cL_name 9 = .ok (.iconst 0, 1) := by decide +kernel
theorem dL_name_10 : decode cL_name 10 = .ok (.istore 4, 2) := by decide +kernel
theorem dL_name_12 : decode cL_name 12 = .ok (.iconst 0, 1) := by decide +kernel
theorem dL_name_13 : decode cL_name 13 = .ok (.istore 5, 2) := by decide +kernel
theorem dL_name_15 : decode cL_name 15 = .ok (.iload 5, 2) := by decide +kernel
theorem dL_name_17 : decode cL_name 17 = .ok (.iload_n 2, 1) := by decide +kernel
theorem dL_name_18 : decode cL_name 18 = .ok (.if_icmp .ge 98, 3) := by decide +kernel
theorem dL_name_21 : decode cL_name 21 = .ok (.iload 4, 2) := by decide +kernel
theorem dL_name_23 : decode cL_name 23 = .ok (.iconst 1, 1) := by decide +kernel
theorem dL_name_24 : decode cL_name 24 = .ok (.aload_n 0, 1) := by decide +kernel
theorem dL_name_25 : decode cL_name 25 = .ok (.iload_n 1, 1) := by decide +kernel
theorem dL_name_26 : decode cL_name 26 = .ok (.iload 5, 2) := by decide +kernel
theorem dL_name_28 : decode cL_name 28 = .ok (.invokevirtual 104, 3) := by decide +kernel
theorem dL_name_31 : decode cL_name 31 = .ok (.ishl, 1) := by decide +kernel
theorem dL_name_32 : decode cL_name 32 = .ok (.ior, 1) := by decide +kernel
theorem dL_name_33 : decode cL_name 33 = .ok (.istore 4, 2) := by decide +kernel
theorem dL_name_35 : decode cL_name 35 = .ok (.aload_n 0, 1) := by decide +kernel
theorem dL_name_36 : decode cL_name 36 = .ok (.iload_n 1, 1) := by decide +kernel
theorem dL_name_37 : decode cL_name 37 = .ok (.iload 5, 2) := by decide +kernel
theorem dL_name_39 : decode cL_name 39 = .ok (.invokevirtual 107, 3) := by decide +kernel
theorem dL_name_42 : decode cL_name 42 = .ok (.aload_n 0, 1) := by decide +kernel
theorem dL_name_43 : decode cL_name 43 = .ok (.iload_n 1, 1) := by decide +kernel
theorem dL_name_44 : decode cL_name 44 = .ok (.aload_n 0, 1) := by decide +kernel
theorem dL_name_45 : decode cL_name 45 = .ok (.iload_n 1, 1) := by decide +kernel
theorem dL_name_46 : decode cL_name 46 = .ok (.iload 5, 2) := by decide +kernel
theorem dL_name_48 : decode cL_name 48 = .ok (.invokevirtual 104, 3) := by decide +kernel
theorem dL_name_51 : decode cL_name 51 = .ok (.invokevirtual 83, 3) := by decide +kernel
theorem dL_name_54 : decode cL_name 54 = .ok (.if_icmp .eq 5, 3) := by decide +kernel
theorem dL_name_57 : decode cL_name 57 = .ok (.iconst 0, 1) := by decide +kernel
theorem dL_name_58 : decode cL_name 58 = .ok (.ireturn, 1) := by decide +kernel
theorem dL_name_59 : decode cL_name 59 = .ok (.iload 5, 2) := by decide +kernel
theorem dL_name_61 : decode cL_name 61 = .ok (.iconst 1, 1) := by decide +kernel
theorem dL_name_62 : decode cL_name 62 = .ok (.iadd, 1) := by decide +kernel
theorem dL_name_63 : decode cL_name 63 = .ok (.istore 6, 2) := by decide +kernel
theorem dL_name_65 : decode cL_name 65 = .ok (.iload 6, 2) := by decide +kernel
theorem dL_name_67 : decode cL_name 67 = .ok (.iload_n 2, 1) := by decide +kernel
theorem dL_name_68 : decode cL_name 68 = .ok (.if_icmp .ge 42, 3) := by decide +kernel
theorem dL_name_71 : decode cL_name 71 = .ok (.aload_n 0, 1) := by decide +kernel
theorem dL_name_72 : decode cL_name 72 = .ok (.iload_n 1, 1) := by decide +kernel
theorem dL_name_73 : decode cL_name 73 = .ok (.iload_n 3, 1) := by decide +kernel
theorem dL_name_74 : decode cL_name 74 = .ok (.invokevirtual 107, 3) := by decide +kernel
theorem dL_name_77 : decode cL_name 77 = .ok (.aload_n 0, 1) := by decide +kernel
theorem dL_name_78 : decode cL_name 78 = .ok (.iload_n 1, 1) := by decide +kernel
theorem dL_name_79 : decode cL_name 79 = .ok (.aload_n 0, 1) := by decide +kernel
theorem dL_name_80 : decode cL_name 80 = .ok (.iload_n 1, 1) := by decide +kernel
theorem dL_name_81 : decode cL_name 81 = .ok (.iload 5, 2) := by decide +kernel
theorem dL_name_83 : decode cL_name 83 = .ok (.invokevirtual 104, 3) := by decide +kernel
theorem dL_name_86 : decode cL_name 86 = .ok (.aload_n 0, 1) := by decide +kernel
theorem dL_name_87 : decode cL_name 87 = .ok (.iload_n 1, 1) := by decide +kernel
theorem dL_name_88 : decode cL_name 88 = .ok (.iload 6, 2) := by decide +kernel
theorem dL_name_90 : decode cL_name 90 = .ok (.invokevirtual 104, 3) := by decide +kernel
theorem dL_name_93 : decode cL_name 93 = .ok (.invokevirtual 67, 3) := by decide +kernel
theorem dL_name_96 : decode cL_name 96 = .ok (.if_icmp .eq 5, 3) := by decide +kernel
theorem dL_name_99 : decode cL_name 99 = .ok (.iconst 0, 1) := by decide +kernel
theorem dL_name_100 : decode cL_name 100 = .ok (.ireturn, 1) := by decide +kernel
theorem dL_name_101 : decode cL_name 101 = .ok (.iinc 3 1, 3) := by decide +kernel
theorem dL_name_104 : decode cL_name 104 = .ok (.iinc 6 1, 3) := by decide +kernel
theorem dL_name_107 : decode cL_name 107 = .ok (.goto (-42), 3) := by decide +kernel
theorem dL_name_110 : decode cL_name 110 = .ok (.iinc 5 1, 3) := by decide +kernel
theorem dL_name_113 : decode cL_name 113 = .ok (.goto (-98), 3) := by decide +kernel
theorem dL_name_116 : decode cL_name 116 = .ok (.iload 4, 2) := by decide +kernel
theorem dL_name_118 : decode cL_name 118 = .ok (.iconst 1, 1) := by decide +kernel
theorem dL_name_119 : decode cL_name 119 = .ok (.iload_n 2, 1) := by decide +kernel
theorem dL_name_120 : decode cL_name 120 = .ok (.ishl, 1) := by decide +kernel
theorem dL_name_121 : decode cL_name 121 = .ok (.iconst 1, 1) := by decide +kernel
theorem dL_name_122 : decode cL_name 122 = .ok (.isub, 1) := by decide +kernel
theorem dL_name_123 : decode cL_name 123 = .ok (.if_icmp .ne 26, 3) := by decide +kernel
theorem dL_name_126 : decode cL_name 126 = .ok (.aload_n 0, 1) := by decide +kernel
theorem dL_name_127 : decode cL_name 127 = .ok (.iload_n 1, 1) := by decide +kernel
theorem dL_name_128 : decode cL_name 128 = .ok (.iload_n 3, 1) := by decide +kernel
theorem dL_name_129 : decode cL_name 129 = .ok (.invokevirtual 107, 3) := by decide +kernel
theorem dL_name_132 : decode cL_name 132 = .ok (.iconst (-1), 1) := by decide +kernel
theorem dL_name_133 : decode cL_name 133 = .ok (.if_icmp .ne 16, 3) := by decide +kernel
theorem dL_name_136 : decode cL_name 136 = .ok (.aload_n 0, 1) := by decide +kernel
theorem dL_name_137 : decode cL_name 137 = .ok (.invokevirtual 98, 3) := by decide +kernel
theorem dL_name_140 : decode cL_name 140 = .ok (.bipush 6, 2) := by decide +kernel
theorem dL_name_142 : decode cL_name 142 = .ok (.if_icmp .ne 7, 3) := by decide +kernel
theorem dL_name_145 : decode cL_name 145 = .ok (.iconst 1, 1) := by decide +kernel
theorem dL_name_146 : decode cL_name 146 = .ok (.goto 4, 3) := by decide +kernel
theorem dL_name_149 : decode cL_name 149 = .ok (.iconst 0, 1) := by decide +kernel
theorem dL_name_150 : decode cL_name 150 = .ok (.ireturn, 1) := by decide +kernel
theorem dL_law_0 : decode cL_law 0 = .ok (.new 28, 3) := by decide +kernel
theorem dL_law_3 : decode cL_law 3 = .ok (.dup, 1) := by decide +kernel
theorem dL_law_4 : decode cL_law 4 = .ok (.aload_n 0, 1) := by decide +kernel
theorem dL_law_5 : decode cL_law 5 = .ok (.invokespecial 110, 3) := by decide +kernel
theorem dL_law_8 : decode cL_law 8 = .ok (.astore_n 1, 1) := by decide +kernel
theorem dL_law_9 : decode cL_law 9 = .ok (.new 18, 3) := by decide +kernel
theorem dL_law_12 : decode cL_law 12 = .ok (.dup, 1) := by decide +kernel
theorem dL_law_13 : decode cL_law 13 = .ok (.invokespecial 113, 3) := by decide +kernel
theorem dL_law_16 : decode cL_law 16 = .ok (.astore_n 2, 1) := by decide +kernel
theorem dL_law_17 : decode cL_law 17 = .ok (.aload_n 2, 1) := by decide +kernel
theorem dL_law_18 : decode cL_law 18 = .ok (.iconst 0, 1) := by decide +kernel
theorem dL_law_19 : decode cL_law 19 = .ok (.iconst 0, 1) := by decide +kernel
theorem dL_law_20 : decode cL_law 20 = .ok (.invokevirtual 64, 3) := by decide +kernel
theorem dL_law_23 : decode cL_law 23 = .ok (.iconst 1, 1) := by decide +kernel
theorem dL_law_24 : decode cL_law 24 = .ok (.if_icmp .ne 22, 3) := by decide +kernel
theorem dL_law_27 : decode cL_law 27 = .ok (.aload_n 2, 1) := by decide +kernel
theorem dL_law_28 : decode cL_law 28 = .ok (.iconst 1, 1) := by decide +kernel
theorem dL_law_29 : decode cL_law 29 = .ok (.iconst 0, 1) := by decide +kernel
theorem dL_law_30 : decode cL_law 30 = .ok (.invokevirtual 114, 3) := by decide +kernel
theorem dL_law_33 : decode cL_law 33 = .ok (.iconst 1, 1) := by decide +kernel
theorem dL_law_34 : decode cL_law 34 = .ok (.if_icmp .ne 12, 3) := by decide +kernel
theorem dL_law_37 : decode cL_law 37 = .ok (.aload_n 2, 1) := by decide +kernel
theorem dL_law_38 : decode cL_law 38 = .ok (.iconst 2, 1) := by decide +kernel
theorem dL_law_39 : decode cL_law 39 = .ok (.iconst 0, 1) := by decide +kernel
theorem dL_law_40 : decode cL_law 40 = .ok (.invokevirtual 107, 3) := by decide +kernel
theorem dL_law_43 : decode cL_law 43 = .ok (.ifCond .eq 5, 3) := by decide +kernel
theorem dL_law_46 : decode cL_law 46 = .ok (.iconst 0, 1) := by decide +kernel
theorem dL_law_47 : decode cL_law 47 = .ok (.ireturn, 1) := by decide +kernel
theorem dL_law_48 : decode cL_law 48 = .ok (.aload_n 2, 1) := by decide +kernel
theorem dL_law_49 : decode cL_law 49 = .ok (.iconst 0, 1) := by decide +kernel
theorem dL_law_50 : decode cL_law 50 = .ok (.aload_n 1, 1) := by decide +kernel
theorem dL_law_51 : decode cL_law 51 = .ok (.bipush 6, 2) := by decide +kernel
theorem dL_law_53 : decode cL_law 53 = .ok (.invokestatic 117, 3) := by decide +kernel
theorem dL_law_56 : decode cL_law 56 = .ok (.invokestatic 120, 3) := by decide +kernel
theorem dL_law_59 : decode cL_law 59 = .ok (.istore_n 3, 1) := by decide +kernel
theorem dL_law_60 : decode cL_law 60 = .ok (.iconst 0, 1) := by decide +kernel
theorem dL_law_61 : decode cL_law 61 = .ok (.istore 4, 2) := by decide +kernel
theorem dL_law_63 : decode cL_law 63 = .ok (.iconst 0, 1) := by decide +kernel
theorem dL_law_64 : decode cL_law 64 = .ok (.istore 5, 2) := by decide +kernel
theorem dL_law_66 : decode cL_law 66 = .ok (.iconst 0, 1) := by decide +kernel
theorem dL_law_67 : decode cL_law 67 = .ok (.istore 6, 2) := by decide +kernel
theorem dL_law_69 : decode cL_law 69 = .ok (.iload_n 3, 1) := by decide +kernel
theorem dL_law_70 : decode cL_law 70 = .ok (.iconst 2, 1) := by decide +kernel
theorem dL_law_71 : decode cL_law 71 = .ok (.if_icmp .lt 20, 3) := by decide +kernel
theorem dL_law_74 : decode cL_law 74 = .ok (.aload_n 2, 1) := by decide +kernel
theorem dL_law_75 : decode cL_law 75 = .ok (.invokevirtual 98, 3) := by decide +kernel
theorem dL_law_78 : decode cL_law 78 = .ok (.ifCond .ne 13, 3) := by decide +kernel
theorem dL_law_81 : decode cL_law 81 = .ok (.aload_n 2, 1) := by decide +kernel
theorem dL_law_82 : decode cL_law 82 = .ok (.iconst 0, 1) := by decide +kernel
theorem dL_law_83 : decode cL_law 83 = .ok (.iconst 0, 1) := by decide +kernel
theorem dL_law_84 : decode cL_law 84 = .ok (.invokevirtual 64, 3) := by decide +kernel
theorem dL_law_87 : decode cL_law 87 = .ok (.iload_n 3, 1) := by decide +kernel
theorem dL_law_88 : decode cL_law 88 = .ok (.if_icmp .eq 5, 3) := by decide +kernel
theorem dL_law_91 : decode cL_law 91 = .ok (.iconst 0, 1) := by decide +kernel
theorem dL_law_92 : decode cL_law 92 = .ok (.ireturn, 1) := by decide +kernel
theorem dL_law_93 : decode cL_law 93 = .ok (.iconst 0, 1) := by decide +kernel
theorem dL_law_94 : decode cL_law 94 = .ok (.istore 7, 2) := by decide +kernel
theorem dL_law_96 : decode cL_law 96 = .ok (.iload 7, 2) := by decide +kernel
theorem dL_law_98 : decode cL_law 98 = .ok (.iload_n 3, 1) := by decide +kernel
theorem dL_law_99 : decode cL_law 99 = .ok (.if_icmp .ge 184, 3) := by decide +kernel
theorem dL_law_102 : decode cL_law 102 = .ok (.iconst 0, 1) := by decide +kernel
theorem dL_law_103 : decode cL_law 103 = .ok (.istore 8, 2) := by decide +kernel
theorem dL_law_105 : decode cL_law 105 = .ok (.iconst 0, 1) := by decide +kernel
theorem dL_law_106 : decode cL_law 106 = .ok (.istore 9, 2) := by decide +kernel
theorem dL_law_108 : decode cL_law 108 = .ok (.iconst 0, 1) := by decide +kernel
theorem dL_law_109 : decode cL_law 109 = .ok (.istore 10, 2) := by decide +kernel
theorem dL_law_111 : decode cL_law 111 = .ok (.iload 10, 2) := by decide +kernel
theorem dL_law_113 : decode cL_law 113 = .ok (.iload_n 3, 1) := by decide +kernel
theorem dL_law_114 : decode cL_law 114 = .ok (.if_icmp .ge 67, 3) := by decide +kernel
theorem dL_law_117 : decode cL_law 117 = .ok (.iload 10, 2) := by decide +kernel
theorem dL_law_119 : decode cL_law 119 = .ok (.iload 7, 2) := by decide +kernel
theorem dL_law_121 : decode cL_law 121 = .ok (.if_icmp .ne 6, 3) := by decide +kernel
theorem dL_law_124 : decode cL_law 124 = .ok (.goto 51, 3) := by decide +kernel
theorem dL_law_127 : decode cL_law 127 = .ok (.aload_n 2, 1) := by decide +kernel
theorem dL_law_128 : decode cL_law 128 = .ok (.iconst 0, 1) := by decide +kernel
theorem dL_law_129 : decode cL_law 129 = .ok (.iload 7, 2) := by decide +kernel
theorem dL_law_131 : decode cL_law 131 = .ok (.iload 10, 2) := by decide +kernel
theorem dL_law_133 : decode cL_law 133 = .ok (.invokevirtual 67, 3) := by decide +kernel
theorem dL_law_136 : decode cL_law 136 = .ok (.aload_n 2, 1) := by decide +kernel
theorem dL_law_137 : decode cL_law 137 = .ok (.iconst 0, 1) := by decide +kernel
theorem dL_law_138 : decode cL_law 138 = .ok (.iload 10, 2) := by decide +kernel
theorem dL_law_140 : decode cL_law 140 = .ok (.iload 7, 2) := by decide +kernel
theorem dL_law_142 : decode cL_law 142 = .ok (.invokevirtual 67, 3) := by decide +kernel
theorem dL_law_145 : decode cL_law 145 = .ok (.if_icmp .eq 5, 3) := by decide +kernel
theorem dL_law_148 : decode cL_law 148 = .ok (.iconst 0, 1) := by decide +kernel
theorem dL_law_149 : decode cL_law 149 = .ok (.ireturn, 1) := by decide +kernel
theorem dL_law_150 : decode cL_law 150 = .ok (.iload 8, 2) := by decide +kernel
theorem dL_law_152 : decode cL_law 152 = .ok (.aload_n 2, 1) := by decide +kernel
theorem dL_law_153 : decode cL_law 153 = .ok (.iconst 0, 1) := by decide +kernel
theorem dL_law_154 : decode cL_law 154 = .ok (.iload 7, 2) := by decide +kernel
theorem dL_law_156 : decode cL_law 156 = .ok (.iload 10, 2) := by decide +kernel
theorem dL_law_158 : decode cL_law 158 = .ok (.invokevirtual 67, 3) := by decide +kernel
theorem dL_law_161 : decode cL_law 161 = .ok (.ifCond .eq 10, 3) := by decide +kernel
theorem dL_law_164 : decode cL_law 164 = .ok (.iconst 1, 1) := by decide +kernel
theorem dL_law_165 : decode cL_law 165 = .ok (.iload 10, 2) := by decide +kernel
theorem dL_law_167 : decode cL_law 167 = .ok (.ishl, 1) := by decide +kernel
theorem dL_law_168 : decode cL_law 168 = .ok (.goto 4, 3) := by decide +kernel
theorem dL_law_171 : decode cL_law 171 = .ok (.iconst 0, 1) := by decide +kernel
theorem dL_law_172 : decode cL_law 172 = .ok (.ior, 1) := by decide +kernel
theorem dL_law_173 : decode cL_law 173 = .ok (.istore 8, 2) := by decide +kernel
theorem dL_law_175 : decode cL_law 175 = .ok (.iinc 10 1, 3) := by decide +kernel
theorem dL_law_178 : decode cL_law 178 = .ok (.goto (-67), 3) := by decide +kernel
theorem dL_law_181 : decode cL_law 181 = .ok (.iconst 1, 1) := by decide +kernel
theorem dL_law_182 : decode cL_law 182 = .ok (.istore 10, 2) := by decide +kernel
theorem dL_law_184 : decode cL_law 184 = .ok (.iload 10, 2) := by decide +kernel
theorem dL_law_186 : decode cL_law 186 = .ok (.iconst 4, 1) := by decide +kernel
theorem dL_law_187 : decode cL_law 187 = .ok (.if_icmp .ge 23, 3) := by decide +kernel
theorem dL_law_190 : decode cL_law 190 = .ok (.iload 9, 2) := by decide +kernel
theorem dL_law_192 : decode cL_law 192 = .ok (.aload_n 2, 1) := by decide +kernel
theorem dL_law_193 : decode cL_law 193 = .ok (.iconst 0, 1) := by decide +kernel
theorem dL_law_194 : decode cL_law 194 = .ok (.iload 7, 2) := by decide +kernel
theorem dL_law_196 : decode cL_law 196 = .ok (.iload 10, 2) := by decide +kernel
theorem dL_law_198 : decode cL_law 198 = .ok (.invokevirtual 124, 3) := by decide +kernel
theorem dL_law_201 : decode cL_law 201 = .ok (.iadd, 1) := by decide +kernel
theorem dL_law_202 : decode cL_law 202 = .ok (.istore 9, 2) := by decide +kernel
theorem dL_law_204 : decode cL_law 204 = .ok (.iinc 10 1, 3) := by decide +kernel
theorem dL_law_207 : decode cL_law 207 = .ok (.goto (-23), 3) := by decide +kernel
theorem dL_law_210 : decode cL_law 210 = .ok (.aload_n 2, 1) := by decide +kernel
theorem dL_law_211 : decode cL_law 211 = .ok (.iconst 0, 1) := by decide +kernel
theorem dL_law_212 : decode cL_law 212 = .ok (.iload 7, 2) := by decide +kernel
theorem dL_law_214 : decode cL_law 214 = .ok (.invokevirtual 127, 3) := by decide +kernel
theorem dL_law_217 : decode cL_law 217 = .ok (.iload 8, 2) := by decide +kernel
theorem dL_law_219 : decode cL_law 219 = .ok (.if_icmp .ne 26, 3) := by decide +kernel
theorem dL_law_222 : decode cL_law 222 = .ok (.aload_n 2, 1) := by decide +kernel
theorem dL_law_223 : decode cL_law 223 = .ok (.iconst 0, 1) := by decide +kernel
theorem dL_law_224 : decode cL_law 224 = .ok (.iload 7, 2) := by decide +kernel
theorem dL_law_226 : decode cL_law 226 = .ok (.iconst 0, 1) := by decide +kernel
theorem dL_law_227 : decode cL_law 227 = .ok (.invokevirtual 124, 3) := by decide +kernel
theorem dL_law_230 : decode cL_law 230 = .ok (.iload 9, 2) := by decide +kernel
theorem dL_law_232 : decode cL_law 232 = .ok (.if_icmp .ne 13, 3) := by decide +kernel
theorem dL_law_235 : decode cL_law 235 = .ok (.iload 9, 2) := by decide +kernel
theorem dL_law_237 : decode cL_law 237 = .ok (.iload 8, 2) := by decide +kernel
theorem dL_law_239 : decode cL_law 239 = .ok (.invokestatic 86, 3) := by decide +kernel
theorem dL_law_242 : decode cL_law 242 = .ok (.if_icmp .eq 5, 3) := by decide +kernel
theorem dL_law_245 : decode cL_law 245 = .ok (.iconst 0, 1) := by decide +kernel
theorem dL_law_246 : decode cL_law 246 = .ok (.ireturn, 1) := by decide +kernel
theorem dL_law_247 : decode cL_law 247 = .ok (.iload 4, 2) := by decide +kernel
theorem dL_law_249 : decode cL_law 249 = .ok (.iload 9, 2) := by decide +kernel
theorem dL_law_251 : decode cL_law 251 = .ok (.iadd, 1) := by decide +kernel
theorem dL_law_252 : decode cL_law 252 = .ok (.istore 4, 2) := by decide +kernel
theorem dL_law_254 : decode cL_law 254 = .ok (.iload 6, 2) := by decide +kernel
theorem dL_law_256 : decode cL_law 256 = .ok (.iload 9, 2) := by decide +kernel
theorem dL_law_258 : decode cL_law 258 = .ok (.invokestatic 130, 3) := by decide +kernel
theorem dL_law_261 : decode cL_law 261 = .ok (.istore 6, 2) := by decide +kernel
theorem dL_law_263 : decode cL_law 263 = .ok (.iload 5, 2) := by decide +kernel
theorem dL_law_265 : decode cL_law 265 = .ok (.iconst 1, 1) := by decide +kernel
theorem dL_law_266 : decode cL_law 266 = .ok (.aload_n 2, 1) := by decide +kernel
theorem dL_law_267 : decode cL_law 267 = .ok (.iconst 0, 1) := by decide +kernel
theorem dL_law_268 : decode cL_law 268 = .ok (.iload 7, 2) := by decide +kernel
theorem dL_law_270 : decode cL_law 270 = .ok (.invokevirtual 83, 3) := by decide +kernel
theorem dL_law_273 : decode cL_law 273 = .ok (.ishl, 1) := by decide +kernel
theorem dL_law_274 : decode cL_law 274 = .ok (.ior, 1) := by decide +kernel
theorem dL_law_275 : decode cL_law 275 = .ok (.istore 5, 2) := by decide +kernel
theorem dL_law_277 : decode cL_law 277 = .ok (.iinc 7 1, 3) := by decide +kernel
theorem dL_law_280 : decode cL_law 280 = .ok (.goto (-184), 3) := by decide +kernel
theorem dL_law_283 : decode cL_law 283 = .ok (.aload_n 2, 1) := by decide +kernel
theorem dL_law_284 : decode cL_law 284 = .ok (.iconst 0, 1) := by decide +kernel
theorem dL_law_285 : decode cL_law 285 = .ok (.iconst 1, 1) := by decide +kernel
theorem dL_law_286 : decode cL_law 286 = .ok (.invokevirtual 64, 3) := by decide +kernel
theorem dL_law_289 : decode cL_law 289 = .ok (.iload 4, 2) := by decide +kernel
theorem dL_law_291 : decode cL_law 291 = .ok (.iconst 2, 1) := by decide +kernel
theorem dL_law_292 : decode cL_law 292 = .ok (.idiv, 1) := by decide +kernel
theorem dL_law_293 : decode cL_law 293 = .ok (.if_icmp .ne 44, 3) := by decide +kernel
theorem dL_law_296 : decode cL_law 296 = .ok (.aload_n 2, 1) := by decide +kernel
theorem dL_law_297 : decode cL_law 297 = .ok (.iconst 0, 1) := by decide +kernel
theorem dL_law_298 : decode cL_law 298 = .ok (.iconst 2, 1) := by decide +kernel
theorem dL_law_299 : decode cL_law 299 = .ok (.invokevirtual 64, 3) := by decide +kernel
theorem dL_law_302 : decode cL_law 302 = .ok (.iload 5, 2) := by decide +kernel
theorem dL_law_304 : decode cL_law 304 = .ok (.invokestatic 86, 3) := by decide +kernel
theorem dL_law_307 : decode cL_law 307 = .ok (.if_icmp .ne 30, 3) := by decide +kernel
theorem dL_law_310 : decode cL_law 310 = .ok (.aload_n 2, 1) := by decide +kernel
theorem dL_law_311 : decode cL_law 311 = .ok (.iconst 0, 1) := by decide +kernel
theorem dL_law_312 : decode cL_law 312 = .ok (.iconst 3, 1) := by decide +kernel
theorem dL_law_313 : decode cL_law 313 = .ok (.invokevirtual 64, 3) := by decide +kernel
theorem dL_law_316 : decode cL_law 316 = .ok (.iload 6, 2) := by decide +kernel
theorem dL_law_318 : decode cL_law 318 = .ok (.if_icmp .ne 19, 3) := by decide +kernel
theorem dL_law_321 : decode cL_law 321 = .ok (.aload_n 2, 1) := by decide +kernel
theorem dL_law_322 : decode cL_law 322 = .ok (.iconst 0, 1) := by decide +kernel
theorem dL_law_323 : decode cL_law 323 = .ok (.invokestatic 135, 3) := by decide +kernel
theorem dL_law_326 : decode cL_law 326 = .ok (.ifCond .eq 11, 3) := by decide +kernel
theorem dL_law_329 : decode cL_law 329 = .ok (.aload_n 2, 1) := by decide +kernel
theorem dL_law_330 : decode cL_law 330 = .ok (.iconst 0, 1) := by decide +kernel
theorem dL_law_331 : decode cL_law 331 = .ok (.invokestatic 139, 3) := by decide +kernel
theorem dL_law_334 : decode cL_law 334 = .ok (.ifCond .ne 5, 3) := by decide +kernel
theorem dL_law_337 : decode cL_law 337 = .ok (.iconst 0, 1) := by decide +kernel
theorem dL_law_338 : decode cL_law 338 = .ok (.ireturn, 1) := by decide +kernel
theorem dL_law_339 : decode cL_law 339 = .ok (.aload_n 2, 1) := by decide +kernel
theorem dL_law_340 : decode cL_law 340 = .ok (.iconst 0, 1) := by decide +kernel
theorem dL_law_341 : decode cL_law 341 = .ok (.iconst 1, 1) := by decide +kernel
theorem dL_law_342 : decode cL_law 342 = .ok (.invokevirtual 141, 3) := by decide +kernel
theorem dL_law_345 : decode cL_law 345 = .ok (.iload_n 3, 1) := by decide +kernel
theorem dL_law_346 : decode cL_law 346 = .ok (.if_icmp .ne 34, 3) := by decide +kernel
theorem dL_law_349 : decode cL_law 349 = .ok (.aload_n 2, 1) := by decide +kernel
theorem dL_law_350 : decode cL_law 350 = .ok (.iconst 1, 1) := by decide +kernel
theorem dL_law_351 : decode cL_law 351 = .ok (.aload_n 1, 1) := by decide +kernel
theorem dL_law_352 : decode cL_law 352 = .ok (.iconst 1, 1) := by decide +kernel
theorem dL_law_353 : decode cL_law 353 = .ok (.ldc 144, 2) := by decide +kernel
theorem dL_law_355 : decode cL_law 355 = .ok (.invokevirtual 27, 3) := by decide +kernel
theorem dL_law_358 : decode cL_law 358 = .ok (.invokevirtual 145, 3) := by decide +kernel
theorem dL_law_361 : decode cL_law 361 = .ok (.ifCond .lt 19, 3) := by decide +kernel
theorem dL_law_364 : decode cL_law 364 = .ok (.aload_n 2, 1) := by decide +kernel
theorem dL_law_365 : decode cL_law 365 = .ok (.iconst 1, 1) := by decide +kernel
theorem dL_law_366 : decode cL_law 366 = .ok (.invokestatic 135, 3) := by decide +kernel
theorem dL_law_369 : decode cL_law 369 = .ok (.ifCond .eq 11, 3) := by decide +kernel
theorem dL_law_372 : decode cL_law 372 = .ok (.aload_n 2, 1) := by decide +kernel
theorem dL_law_373 : decode cL_law 373 = .ok (.iconst 1, 1) := by decide +kernel
theorem dL_law_374 : decode cL_law 374 = .ok (.invokestatic 139, 3) := by decide +kernel
theorem dL_law_377 : decode cL_law 377 = .ok (.ifCond .ne 5, 3) := by decide +kernel
theorem dL_law_380 : decode cL_law 380 = .ok (.iconst 0, 1) := by decide +kernel
theorem dL_law_381 : decode cL_law 381 = .ok (.ireturn, 1) := by decide +kernel
theorem dL_law_382 : decode cL_law 382 = .ok (.iload_n 3, 1) := by decide +kernel
theorem dL_law_383 : decode cL_law 383 = .ok (.iload_n 3, 1) := by decide +kernel
theorem dL_law_384 : decode cL_law 384 = .ok (.iload_n 3, 1) := by decide +kernel
theorem dL_law_385 : decode cL_law 385 = .ok (.iconst 1, 1) := by decide +kernel
theorem dL_law_386 : decode cL_law 386 = .ok (.isub, 1) := by decide +kernel
theorem dL_law_387 : decode cL_law 387 = .ok (.imul, 1) := by decide +kernel
theorem dL_law_388 : decode cL_law 388 = .ok (.iconst 2, 1) := by decide +kernel
theorem dL_law_389 : decode cL_law 389 = .ok (.idiv, 1) := by decide +kernel
theorem dL_law_390 : decode cL_law 390 = .ok (.iadd, 1) := by decide +kernel
theorem dL_law_391 : decode cL_law 391 = .ok (.istore 7, 2) := by decide +kernel
theorem dL_law_393 : decode cL_law 393 = .ok (.aload_n 2, 1) := by decide +kernel
theorem dL_law_394 : decode cL_law 394 = .ok (.iconst 0, 1) := by decide +kernel
theorem dL_law_395 : decode cL_law 395 = .ok (.iconst 0, 1) := by decide +kernel
theorem dL_law_396 : decode cL_law 396 = .ok (.invokevirtual 114, 3) := by decide +kernel
theorem dL_law_399 : decode cL_law 399 = .ok (.istore 8, 2) := by decide +kernel
theorem dL_law_401 : decode cL_law 401 = .ok (.iconst 0, 1) := by decide +kernel
theorem dL_law_402 : decode cL_law 402 = .ok (.istore 9, 2) := by decide +kernel
theorem dL_law_404 : decode cL_law 404 = .ok (.iconst 0, 1) := by decide +kernel
theorem dL_law_405 : decode cL_law 405 = .ok (.istore 10, 2) := by decide +kernel
theorem dL_law_407 : decode cL_law 407 = .ok (.iconst 0, 1) := by decide +kernel
theorem dL_law_408 : decode cL_law 408 = .ok (.istore 11, 2) := by decide +kernel
theorem dL_law_410 : decode cL_law 410 = .ok (.iload 11, 2) := by decide +kernel
theorem dL_law_412 : decode cL_law 412 = .ok (.iload 7, 2) := by decide +kernel
theorem dL_law_414 : decode cL_law 414 = .ok (.if_icmp .ge 28, 3) := by decide +kernel
theorem dL_law_417 : decode cL_law 417 = .ok (.aload_n 2, 1) := by decide +kernel
theorem dL_law_418 : decode cL_law 418 = .ok (.iconst 0, 1) := by decide +kernel
theorem dL_law_419 : decode cL_law 419 = .ok (.iload 11, 2) := by decide +kernel
theorem dL_law_421 : decode cL_law 421 = .ok (.invokevirtual 107, 3) := by decide +kernel
theorem dL_law_424 : decode cL_law 424 = .ok (.aload_n 2, 1) := by decide +kernel
theorem dL_law_425 : decode cL_law 425 = .ok (.iconst 1, 1) := by decide +kernel
theorem dL_law_426 : decode cL_law 426 = .ok (.iload 11, 2) := by decide +kernel
theorem dL_law_428 : decode cL_law 428 = .ok (.invokevirtual 107, 3) := by decide +kernel
theorem dL_law_431 : decode cL_law 431 = .ok (.if_icmp .eq 5, 3) := by decide +kernel
theorem dL_law_434 : decode cL_law 434 = .ok (.iconst 0, 1) := by decide +kernel
theorem dL_law_435 : decode cL_law 435 = .ok (.ireturn, 1) := by decide +kernel
theorem dL_law_436 : decode cL_law 436 = .ok (.iinc 11 1, 3) := by decide +kernel
theorem dL_law_439 : decode cL_law 439 = .ok (.goto (-29), 3) := by decide +kernel
theorem dL_law_442 : decode cL_law 442 = .ok (.aload_n 2, 1) := by decide +kernel
theorem dL_law_443 : decode cL_law 443 = .ok (.iconst 0, 1) := by decide +kernel
theorem dL_law_444 : decode cL_law 444 = .ok (.iconst 1, 1) := by decide +kernel
theorem dL_law_445 : decode cL_law 445 = .ok (.invokevirtual 148, 3) := by decide +kernel
theorem dL_law_448 : decode cL_law 448 = .ok (.iconst 2, 1) := by decide +kernel
theorem dL_law_449 : decode cL_law 449 = .ok (.if_icmp .ne 45, 3) := by decide +kernel
theorem dL_law_452 : decode cL_law 452 = .ok (.aload_n 2, 1) := by decide +kernel
theorem dL_law_453 : decode cL_law 453 = .ok (.iconst 0, 1) := by decide +kernel
theorem dL_law_454 : decode cL_law 454 = .ok (.iconst 1, 1) := by decide +kernel
theorem dL_law_455 : decode cL_law 455 = .ok (.invokevirtual 151, 3) := by decide +kernel
theorem dL_law_458 : decode cL_law 458 = .ok (.iload 8, 2) := by decide +kernel
theorem dL_law_460 : decode cL_law 460 = .ok (.if_icmp .ne 34, 3) := by decide +kernel
theorem dL_law_463 : decode cL_law 463 = .ok (.aload_n 2, 1) := by decide +kernel
theorem dL_law_464 : decode cL_law 464 = .ok (.iconst 1, 1) := by decide +kernel
theorem dL_law_465 : decode cL_law 465 = .ok (.iconst 0, 1) := by decide +kernel
theorem dL_law_466 : decode cL_law 466 = .ok (.invokevirtual 151, 3) := by decide +kernel
theorem dL_law_469 : decode cL_law 469 = .ok (.iload 8, 2) := by decide +kernel
theorem dL_law_471 : decode cL_law 471 = .ok (.if_icmp .ne 23, 3) := by decide +kernel
theorem dL_law_474 : decode cL_law 474 = .ok (.aload_n 2, 1) := by decide +kernel
theorem dL_law_475 : decode cL_law 475 = .ok (.iconst 0, 1) := by decide +kernel
theorem dL_law_476 : decode cL_law 476 = .ok (.iconst 1, 1) := by decide +kernel
theorem dL_law_477 : decode cL_law 477 = .ok (.invokevirtual 154, 3) := by decide +kernel
theorem dL_law_480 : decode cL_law 480 = .ok (.ifCond .ne 14, 3) := by decide +kernel
theorem dL_law_483 : decode cL_law 483 = .ok (.aload_n 2, 1) := by decide +kernel
theorem dL_law_484 : decode cL_law 484 = .ok (.iconst 0, 1) := by decide +kernel
theorem dL_law_485 : decode cL_law 485 = .ok (.iconst 1, 1) := by decide +kernel
theorem dL_law_486 : decode cL_law 486 = .ok (.invokevirtual 157, 3) := by decide +kernel
theorem dL_law_489 : decode cL_law 489 = .ok (.bipush (-2), 2) := by decide +kernel
theorem dL_law_491 : decode cL_law 491 = .ok (.if_icmp .eq 5, 3) := by decide +kernel
theorem dL_law_494 : decode cL_law 494 = .ok (.iconst 0, 1) := by decide +kernel
theorem dL_law_495 : decode cL_law 495 = .ok (.ireturn, 1) := by decide +kernel
theorem dL_law_496 : decode cL_law 496 = .ok (.iconst 0, 1) := by decide +kernel
theorem dL_law_497 : decode cL_law 497 = .ok (.istore 11, 2) := by decide +kernel
theorem dL_law_499 : decode cL_law 499 = .ok (.iload 11, 2) := by decide +kernel
theorem dL_law_501 : decode cL_law 501 = .ok (.iload_n 3, 1) := by decide +kernel
theorem dL_law_502 : decode cL_law 502 = .ok (.if_icmp .ge 153, 3) := by decide +kernel
theorem dL_law_505 : decode cL_law 505 = .ok (.aload_n 2, 1) := by decide +kernel
theorem dL_law_506 : decode cL_law 506 = .ok (.iconst 0, 1) := by decide +kernel
theorem dL_law_507 : decode cL_law 507 = .ok (.iconst 1, 1) := by decide +kernel
theorem dL_law_508 : decode cL_law 508 = .ok (.iload 11, 2) := by decide +kernel
theorem dL_law_510 : decode cL_law 510 = .ok (.invokevirtual 160, 3) := by decide +kernel
theorem dL_law_513 : decode cL_law 513 = .ok (.istore 12, 2) := by decide +kernel
theorem dL_law_515 : decode cL_law 515 = .ok (.aload_n 2, 1) := by decide +kernel
theorem dL_law_516 : decode cL_law 516 = .ok (.iconst 1, 1) := by decide +kernel
theorem dL_law_517 : decode cL_law 517 = .ok (.iload 12, 2) := by decide +kernel
theorem dL_law_519 : decode cL_law 519 = .ok (.invokevirtual 83, 3) := by decide +kernel
theorem dL_law_522 : decode cL_law 522 = .ok (.aload_n 2, 1) := by decide +kernel
theorem dL_law_523 : decode cL_law 523 = .ok (.iconst 0, 1) := by decide +kernel
theorem dL_law_524 : decode cL_law 524 = .ok (.iload 11, 2) := by decide +kernel
theorem dL_law_526 : decode cL_law 526 = .ok (.invokevirtual 83, 3) := by decide +kernel
theorem dL_law_529 : decode cL_law 529 = .ok (.if_icmp .eq 5, 3) := by decide +kernel
theorem dL_law_532 : decode cL_law 532 = .ok (.iconst 0, 1) := by decide +kernel
theorem dL_law_533 : decode cL_law 533 = .ok (.ireturn, 1) := by decide +kernel
theorem dL_law_534 : decode cL_law 534 = .ok (.iconst 0, 1) := by decide +kernel
theorem dL_law_535 : decode cL_law 535 = .ok (.istore 13, 2) := by decide +kernel
theorem dL_law_537 : decode cL_law 537 = .ok (.iload 13, 2) := by decide +kernel
theorem dL_law_539 : decode cL_law 539 = .ok (.iload 11, 2) := by decide +kernel
theorem dL_law_541 : decode cL_law 541 = .ok (.if_icmp .ge 38, 3) := by decide +kernel
theorem dL_law_544 : decode cL_law 544 = .ok (.aload_n 2, 1) := by decide +kernel
theorem dL_law_545 : decode cL_law 545 = .ok (.iconst 1, 1) := by decide +kernel
theorem dL_law_546 : decode cL_law 546 = .ok (.iload 12, 2) := by decide +kernel
theorem dL_law_548 : decode cL_law 548 = .ok (.aload_n 2, 1) := by decide +kernel
theorem dL_law_549 : decode cL_law 549 = .ok (.iconst 0, 1) := by decide +kernel
theorem dL_law_550 : decode cL_law 550 = .ok (.iconst 1, 1) := by decide +kernel
theorem dL_law_551 : decode cL_law 551 = .ok (.iload 13, 2) := by decide +kernel
theorem dL_law_553 : decode cL_law 553 = .ok (.invokevirtual 160, 3) := by decide +kernel
theorem dL_law_556 : decode cL_law 556 = .ok (.invokevirtual 67, 3) := by decide +kernel
theorem dL_law_559 : decode cL_law 559 = .ok (.aload_n 2, 1) := by decide +kernel
theorem dL_law_560 : decode cL_law 560 = .ok (.iconst 0, 1) := by decide +kernel
theorem dL_law_561 : decode cL_law 561 = .ok (.iload 11, 2) := by decide +kernel
theorem dL_law_563 : decode cL_law 563 = .ok (.iload 13, 2) := by decide +kernel
theorem dL_law_565 : decode cL_law 565 = .ok (.invokevirtual 67, 3) := by decide +kernel
theorem dL_law_568 : decode cL_law 568 = .ok (.if_icmp .eq 5, 3) := by decide +kernel
theorem dL_law_571 : decode cL_law 571 = .ok (.iconst 0, 1) := by decide +kernel
theorem dL_law_572 : decode cL_law 572 = .ok (.ireturn, 1) := by decide +kernel
theorem dL_law_573 : decode cL_law 573 = .ok (.iinc 13 1, 3) := by decide +kernel
theorem dL_law_576 : decode cL_law 576 = .ok (.goto (-39), 3) := by decide +kernel
theorem dL_law_579 : decode cL_law 579 = .ok (.aload_n 2, 1) := by decide +kernel
theorem dL_law_580 : decode cL_law 580 = .ok (.iconst 0, 1) := by decide +kernel
theorem dL_law_581 : decode cL_law 581 = .ok (.iload 11, 2) := by decide +kernel
theorem dL_law_583 : decode cL_law 583 = .ok (.invokevirtual 89, 3) := by decide +kernel
theorem dL_law_586 : decode cL_law 586 = .ok (.istore 13, 2) := by decide +kernel
theorem dL_law_588 : decode cL_law 588 = .ok (.iload 13, 2) := by decide +kernel
theorem dL_law_590 : decode cL_law 590 = .ok (.invokestatic 86, 3) := by decide +kernel
theorem dL_law_593 : decode cL_law 593 = .ok (.aload_n 2, 1) := by decide +kernel
theorem dL_law_594 : decode cL_law 594 = .ok (.iconst 0, 1) := by decide +kernel
theorem dL_law_595 : decode cL_law 595 = .ok (.iconst 1, 1) := by decide +kernel
theorem dL_law_596 : decode cL_law 596 = .ok (.iload 11, 2) := by decide +kernel
theorem dL_law_598 : decode cL_law 598 = .ok (.ishl, 1) := by decide +kernel
theorem dL_law_599 : decode cL_law 599 = .ok (.invokevirtual 163, 3) := by decide +kernel
theorem dL_law_602 : decode cL_law 602 = .ok (.imul, 1) := by decide +kernel
theorem dL_law_603 : decode cL_law 603 = .ok (.iload 8, 2) := by decide +kernel
theorem dL_law_605 : decode cL_law 605 = .ok (.if_icmp .eq 5, 3) := by decide +kernel
theorem dL_law_608 : decode cL_law 608 = .ok (.iconst 0, 1) := by decide +kernel
theorem dL_law_609 : decode cL_law 609 = .ok (.ireturn, 1) := by decide +kernel
theorem dL_law_610 : decode cL_law 610 = .ok (.iload 9, 2) := by decide +kernel
theorem dL_law_612 : decode cL_law 612 = .ok (.iload 13, 2) := by decide +kernel
theorem dL_law_614 : decode cL_law 614 = .ok (.iconst 1, 1) := by decide +kernel
theorem dL_law_615 : decode cL_law 615 = .ok (.iload 11, 2) := by decide +kernel
theorem dL_law_617 : decode cL_law 617 = .ok (.ishl, 1) := by decide +kernel
theorem dL_law_618 : decode cL_law 618 = .ok (.if_icmp .ne 7, 3) := by decide +kernel
theorem dL_law_621 : decode cL_law 621 = .ok (.iconst 1, 1) := by decide +kernel
theorem dL_law_622 : decode cL_law 622 = .ok (.goto 4, 3) := by decide +kernel
theorem dL_law_625 : decode cL_law 625 = .ok (.iconst 0, 1) := by decide +kernel
theorem dL_law_626 : decode cL_law 626 = .ok (.iadd, 1) := by decide +kernel
theorem dL_law_627 : decode cL_law 627 = .ok (.istore 9, 2) := by decide +kernel
theorem dL_law_629 : decode cL_law 629 = .ok (.iload 10, 2) := by decide +kernel
theorem dL_law_631 : decode cL_law 631 = .ok (.iload 13, 2) := by decide +kernel
theorem dL_law_633 : decode cL_law 633 = .ok (.invokestatic 77, 3) := by decide +kernel
theorem dL_law_636 : decode cL_law 636 = .ok (.iload 11, 2) := by decide +kernel
theorem dL_law_638 : decode cL_law 638 = .ok (.if_icmp .ne 7, 3) := by decide +kernel
theorem dL_law_641 : decode cL_law 641 = .ok (.iconst 1, 1) := by decide +kernel
theorem dL_law_642 : decode cL_law 642 = .ok (.goto 4, 3) := by decide +kernel
theorem dL_law_645 : decode cL_law 645 = .ok (.iconst 0, 1) := by decide +kernel
theorem dL_law_646 : decode cL_law 646 = .ok (.iadd, 1) := by decide +kernel
theorem dL_law_647 : decode cL_law 647 = .ok (.istore 10, 2) := by decide +kernel
theorem dL_law_649 : decode cL_law 649 = .ok (.iinc 11 1, 3) := by decide +kernel
theorem dL_law_652 : decode cL_law 652 = .ok (.goto (-153), 3) := by decide +kernel
theorem dL_law_655 : decode cL_law 655 = .ok (.aload_n 2, 1) := by decide +kernel
theorem dL_law_656 : decode cL_law 656 = .ok (.iconst 0, 1) := by decide +kernel
theorem dL_law_657 : decode cL_law 657 = .ok (.iconst 1, 1) := by decide +kernel
theorem dL_law_658 : decode cL_law 658 = .ok (.invokevirtual 114, 3) := by decide +kernel
theorem dL_law_661 : decode cL_law 661 = .ok (.iload 10, 2) := by decide +kernel
theorem dL_law_663 : decode cL_law 663 = .ok (.if_icmp .ne 39, 3) := by decide +kernel
theorem dL_law_666 : decode cL_law 666 = .ok (.aload_n 2, 1) := by decide +kernel
theorem dL_law_667 : decode cL_law 667 = .ok (.iconst 0, 1) := by decide +kernel
theorem dL_law_668 : decode cL_law 668 = .ok (.iconst 2, 1) := by decide +kernel
theorem dL_law_669 : decode cL_law 669 = .ok (.invokevirtual 114, 3) := by decide +kernel
theorem dL_law_672 : decode cL_law 672 = .ok (.iload 9, 2) := by decide +kernel
theorem dL_law_674 : decode cL_law 674 = .ok (.if_icmp .ne 28, 3) := by decide +kernel
theorem dL_law_677 : decode cL_law 677 = .ok (.aload_n 2, 1) := by decide +kernel
theorem dL_law_678 : decode cL_law 678 = .ok (.iconst 0, 1) := by decide +kernel
theorem dL_law_679 : decode cL_law 679 = .ok (.iconst 1, 1) := by decide +kernel
theorem dL_law_680 : decode cL_law 680 = .ok (.iload_n 3, 1) := by decide +kernel
theorem dL_law_681 : decode cL_law 681 = .ok (.ishl, 1) := by decide +kernel
theorem dL_law_682 : decode cL_law 682 = .ok (.iconst 1, 1) := by decide +kernel
theorem dL_law_683 : decode cL_law 683 = .ok (.isub, 1) := by decide +kernel
theorem dL_law_684 : decode cL_law 684 = .ok (.invokevirtual 163, 3) := by decide +kernel
theorem dL_law_687 : decode cL_law 687 = .ok (.iconst 1, 1) := by decide +kernel
theorem dL_law_688 : decode cL_law 688 = .ok (.if_icmp .ne 14, 3) := by decide +kernel
theorem dL_law_691 : decode cL_law 691 = .ok (.aload_n 2, 1) := by decide +kernel
theorem dL_law_692 : decode cL_law 692 = .ok (.iconst 0, 1) := by decide +kernel
theorem dL_law_693 : decode cL_law 693 = .ok (.iconst 0, 1) := by decide +kernel
theorem dL_law_694 : decode cL_law 694 = .ok (.invokevirtual 163, 3) := by decide +kernel
theorem dL_law_697 : decode cL_law 697 = .ok (.iload 8, 2) := by decide +kernel
theorem dL_law_699 : decode cL_law 699 = .ok (.if_icmp .eq 5, 3) := by decide +kernel
theorem dL_law_702 : decode cL_law 702 = .ok (.iconst 0, 1) := by decide +kernel
theorem dL_law_703 : decode cL_law 703 = .ok (.ireturn, 1) := by decide +kernel
theorem dL_law_704 : decode cL_law 704 = .ok (.iconst 0, 1) := by decide +kernel
theorem dL_law_705 : decode cL_law 705 = .ok (.istore 11, 2) := by decide +kernel
theorem dL_law_707 : decode cL_law 707 = .ok (.iload 11, 2) := by decide +kernel
theorem dL_law_709 : decode cL_law 709 = .ok (.iconst 2, 1) := by decide +kernel
theorem dL_law_710 : decode cL_law 710 = .ok (.if_icmp .ge 55, 3) := by decide +kernel
theorem dL_law_713 : decode cL_law 713 = .ok (.aload_n 2, 1) := by decide +kernel
theorem dL_law_714 : decode cL_law 714 = .ok (.iload 11, 2) := by decide +kernel
theorem dL_law_716 : decode cL_law 716 = .ok (.iconst 4, 1) := by decide +kernel
theorem dL_law_717 : decode cL_law 717 = .ok (.invokevirtual 166, 3) := by decide +kernel
theorem dL_law_720 : decode cL_law 720 = .ok (.iload 8, 2) := by decide +kernel
theorem dL_law_722 : decode cL_law 722 = .ok (.if_icmp .ne 35, 3) := by decide +kernel
theorem dL_law_725 : decode cL_law 725 = .ok (.aload_n 2, 1) := by decide +kernel
theorem dL_law_726 : decode cL_law 726 = .ok (.iload 11, 2) := by decide +kernel
theorem dL_law_728 : decode cL_law 728 = .ok (.iconst 0, 1) := by decide +kernel
theorem dL_law_729 : decode cL_law 729 = .ok (.invokevirtual 166, 3) := by decide +kernel
theorem dL_law_732 : decode cL_law 732 = .ok (.aload_n 2, 1) := by decide +kernel
theorem dL_law_733 : decode cL_law 733 = .ok (.iconst 0, 1) := by decide +kernel
theorem dL_law_734 : decode cL_law 734 = .ok (.iconst 0, 1) := by decide +kernel
theorem dL_law_735 : decode cL_law 735 = .ok (.invokevirtual 166, 3) := by decide +kernel
theorem dL_law_738 : decode cL_law 738 = .ok (.if_icmp .ne 19, 3) := by decide +kernel
theorem dL_law_741 : decode cL_law 741 = .ok (.aload_n 2, 1) := by decide +kernel
theorem dL_law_742 : decode cL_law 742 = .ok (.iload 11, 2) := by decide +kernel
theorem dL_law_744 : decode cL_law 744 = .ok (.iconst 3, 1) := by decide +kernel
theorem dL_law_745 : decode cL_law 745 = .ok (.invokevirtual 166, 3) := by decide +kernel
theorem dL_law_748 : decode cL_law 748 = .ok (.aload_n 2, 1) := by decide +kernel
theorem dL_law_749 : decode cL_law 749 = .ok (.iconst 0, 1) := by decide +kernel
theorem dL_law_750 : decode cL_law 750 = .ok (.iconst 3, 1) := by decide +kernel
theorem dL_law_751 : decode cL_law 751 = .ok (.invokevirtual 166, 3) := by decide +kernel
theorem dL_law_754 : decode cL_law 754 = .ok (.if_icmp .eq 5, 3) := by decide +kernel
theorem dL_law_757 : decode cL_law 757 = .ok (.iconst 0, 1) := by decide +kernel
theorem dL_law_758 : decode cL_law 758 = .ok (.ireturn, 1) := by decide +kernel
theorem dL_law_759 : decode cL_law 759 = .ok (.iinc 11 1, 3) := by decide +kernel
theorem dL_law_762 : decode cL_law 762 = .ok (.goto (-55), 3) := by decide +kernel
theorem dL_law_765 : decode cL_law 765 = .ok (.aload_n 2, 1) := by decide +kernel
theorem dL_law_766 : decode cL_law 766 = .ok (.iconst 0, 1) := by decide +kernel
theorem dL_law_767 : decode cL_law 767 = .ok (.iconst 0, 1) := by decide +kernel
theorem dL_law_768 : decode cL_law 768 = .ok (.invokevirtual 169, 3) := by decide +kernel
theorem dL_law_771 : decode cL_law 771 = .ok (.aload_n 2, 1) := by decide +kernel
theorem dL_law_772 : decode cL_law 772 = .ok (.iconst 0, 1) := by decide +kernel
theorem dL_law_773 : decode cL_law 773 = .ok (.iconst 0, 1) := by decide +kernel
theorem dL_law_774 : decode cL_law 774 = .ok (.invokevirtual 166, 3) := by decide +kernel
theorem dL_law_777 : decode cL_law 777 = .ok (.if_icmp .gt 43, 3) := by decide +kernel
theorem dL_law_780 : decode cL_law 780 = .ok (.aload_n 2, 1) := by decide +kernel
theorem dL_law_781 : decode cL_law 781 = .ok (.iconst 0, 1) := by decide +kernel
theorem dL_law_782 : decode cL_law 782 = .ok (.iconst 1, 1) := by decide +kernel
theorem dL_law_783 : decode cL_law 783 = .ok (.invokevirtual 169, 3) := by decide +kernel
theorem dL_law_786 : decode cL_law 786 = .ok (.aload_n 2, 1) := by decide +kernel
theorem dL_law_787 : decode cL_law 787 = .ok (.iconst 0, 1) := by decide +kernel
theorem dL_law_788 : decode cL_law 788 = .ok (.iconst 1, 1) := by decide +kernel
theorem dL_law_789 : decode cL_law 789 = .ok (.invokevirtual 166, 3) := by decide +kernel
theorem dL_law_792 : decode cL_law 792 = .ok (.if_icmp .gt 28, 3) := by decide +kernel
theorem dL_law_795 : decode cL_law 795 = .ok (.aload_n 2, 1) := by decide +kernel
theorem dL_law_796 : decode cL_law 796 = .ok (.iconst 0, 1) := by decide +kernel
theorem dL_law_797 : decode cL_law 797 = .ok (.iconst 5, 1) := by decide +kernel
theorem dL_law_798 : decode cL_law 798 = .ok (.invokevirtual 169, 3) := by decide +kernel
theorem dL_law_801 : decode cL_law 801 = .ok (.iconst 1, 1) := by decide +kernel
theorem dL_law_802 : decode cL_law 802 = .ok (.if_icmp .lt 18, 3) := by decide +kernel
theorem dL_law_805 : decode cL_law 805 = .ok (.aload_n 2, 1) := by decide +kernel
theorem dL_law_806 : decode cL_law 806 = .ok (.iconst 0, 1) := by decide +kernel
theorem dL_law_807 : decode cL_law 807 = .ok (.iconst 0, 1) := by decide +kernel
theorem dL_law_808 : decode cL_law 808 = .ok (.invokevirtual 169, 3) := by decide +kernel
theorem dL_law_811 : decode cL_law 811 = .ok (.aload_n 2, 1) := by decide +kernel
theorem dL_law_812 : decode cL_law 812 = .ok (.iconst 0, 1) := by decide +kernel
theorem dL_law_813 : decode cL_law 813 = .ok (.iconst 1, 1) := by decide +kernel
theorem dL_law_814 : decode cL_law 814 = .ok (.invokevirtual 169, 3) := by decide +kernel
theorem dL_law_817 : decode cL_law 817 = .ok (.if_icmp .ge 5, 3) := by decide +kernel
theorem dL_law_820 : decode cL_law 820 = .ok (.iconst 0, 1) := by decide +kernel
theorem dL_law_821 : decode cL_law 821 = .ok (.ireturn, 1) := by decide +kernel
theorem dL_law_822 : decode cL_law 822 = .ok (.aload_n 2, 1) := by decide +kernel
theorem dL_law_823 : decode cL_law 823 = .ok (.iconst 0, 1) := by decide +kernel
theorem dL_law_824 : decode cL_law 824 = .ok (.iconst 4, 1) := by decide +kernel
theorem dL_law_825 : decode cL_law 825 = .ok (.invokevirtual 169, 3) := by decide +kernel
theorem dL_law_828 : decode cL_law 828 = .ok (.istore 11, 2) := by decide +kernel
theorem dL_law_830 : decode cL_law 830 = .ok (.iconst 0, 1) := by decide +kernel
theorem dL_law_831 : decode cL_law 831 = .ok (.istore 12, 2) := by decide +kernel
theorem dL_law_833 : decode cL_law 833 = .ok (.iload 12, 2) := by decide +kernel
theorem dL_law_835 : decode cL_law 835 = .ok (.iload 11, 2) := by decide +kernel
theorem dL_law_837 : decode cL_law 837 = .ok (.if_icmp .ge 115, 3) := by decide +kernel
theorem dL_law_840 : decode cL_law 840 = .ok (.iconst 0, 1) := by decide +kernel
theorem dL_law_841 : decode cL_law 841 = .ok (.istore 13, 2) := by decide +kernel
theorem dL_law_843 : decode cL_law 843 = .ok (.iload 13, 2) := by decide +kernel
theorem dL_law_845 : decode cL_law 845 = .ok (.iload_n 3, 1) := by decide +kernel
theorem dL_law_846 : decode cL_law 846 = .ok (.if_icmp .ge 100, 3) := by decide +kernel
theorem dL_law_849 : decode cL_law 849 = .ok (.aload_n 2, 1) := by decide +kernel
theorem dL_law_850 : decode cL_law 850 = .ok (.iconst 0, 1) := by decide +kernel
theorem dL_law_851 : decode cL_law 851 = .ok (.iload 12, 2) := by decide +kernel
theorem dL_law_853 : decode cL_law 853 = .ok (.iload 13, 2) := by decide +kernel
theorem dL_law_855 : decode cL_law 855 = .ok (.invokevirtual 172, 3) := by decide +kernel
theorem dL_law_858 : decode cL_law 858 = .ok (.istore 14, 2) := by decide +kernel
theorem dL_law_860 : decode cL_law 860 = .ok (.aload_n 2, 1) := by decide +kernel
theorem dL_law_861 : decode cL_law 861 = .ok (.iconst 0, 1) := by decide +kernel
theorem dL_law_862 : decode cL_law 862 = .ok (.iload 14, 2) := by decide +kernel
theorem dL_law_864 : decode cL_law 864 = .ok (.invokevirtual 83, 3) := by decide +kernel
theorem dL_law_867 : decode cL_law 867 = .ok (.aload_n 2, 1) := by decide +kernel
theorem dL_law_868 : decode cL_law 868 = .ok (.iconst 0, 1) := by decide +kernel
theorem dL_law_869 : decode cL_law 869 = .ok (.iload 13, 2) := by decide +kernel
theorem dL_law_871 : decode cL_law 871 = .ok (.invokevirtual 83, 3) := by decide +kernel
theorem dL_law_874 : decode cL_law 874 = .ok (.if_icmp .ne 18, 3) := by decide +kernel
theorem dL_law_877 : decode cL_law 877 = .ok (.aload_n 2, 1) := by decide +kernel
theorem dL_law_878 : decode cL_law 878 = .ok (.iconst 0, 1) := by decide +kernel
theorem dL_law_879 : decode cL_law 879 = .ok (.iload 13, 2) := by decide +kernel
theorem dL_law_881 : decode cL_law 881 = .ok (.invokevirtual 89, 3) := by decide +kernel
theorem dL_law_884 : decode cL_law 884 = .ok (.iload 14, 2) := by decide +kernel
theorem dL_law_886 : decode cL_law 886 = .ok (.ishr, 1) := by decide +kernel
theorem dL_law_887 : decode cL_law 887 = .ok (.iconst 1, 1) := by decide +kernel
theorem dL_law_888 : decode cL_law 888 = .ok (.iand, 1) := by decide +kernel
theorem dL_law_889 : decode cL_law 889 = .ok (.ifCond .ne 5, 3) := by decide +kernel
theorem dL_law_892 : decode cL_law 892 = .ok (.iconst 0, 1) := by decide +kernel
theorem dL_law_893 : decode cL_law 893 = .ok (.ireturn, 1) := by decide +kernel
theorem dL_law_894 : decode cL_law 894 = .ok (.iconst 0, 1) := by decide +kernel
theorem dL_law_895 : decode cL_law 895 = .ok (.istore 15, 2) := by decide +kernel
theorem dL_law_897 : decode cL_law 897 = .ok (.iload 15, 2) := by decide +kernel
theorem dL_law_899 : decode cL_law 899 = .ok (.iload 13, 2) := by decide +kernel
theorem dL_law_901 : decode cL_law 901 = .ok (.if_icmp .ge 39, 3) := by decide +kernel
theorem dL_law_904 : decode cL_law 904 = .ok (.aload_n 2, 1) := by decide +kernel
theorem dL_law_905 : decode cL_law 905 = .ok (.iconst 0, 1) := by decide +kernel
theorem dL_law_906 : decode cL_law 906 = .ok (.iload 14, 2) := by decide +kernel
theorem dL_law_908 : decode cL_law 908 = .ok (.aload_n 2, 1) := by decide +kernel
theorem dL_law_909 : decode cL_law 909 = .ok (.iconst 0, 1) := by decide +kernel
theorem dL_law_910 : decode cL_law 910 = .ok (.iload 12, 2) := by decide +kernel
theorem dL_law_912 : decode cL_law 912 = .ok (.iload 15, 2) := by decide +kernel
theorem dL_law_914 : decode cL_law 914 = .ok (.invokevirtual 172, 3) := by decide +kernel
theorem dL_law_917 : decode cL_law 917 = .ok (.invokevirtual 67, 3) := by decide +kernel
theorem dL_law_920 : decode cL_law 920 = .ok (.aload_n 2, 1) := by decide +kernel
theorem dL_law_921 : decode cL_law 921 = .ok (.iconst 0, 1) := by decide +kernel
theorem dL_law_922 : decode cL_law 922 = .ok (.iload 13, 2) := by decide +kernel
theorem dL_law_924 : decode cL_law 924 = .ok (.iload 15, 2) := by decide +kernel
theorem dL_law_926 : decode cL_law 926 = .ok (.invokevirtual 67, 3) := by decide +kernel
theorem dL_law_929 : decode cL_law 929 = .ok (.if_icmp .eq 5, 3) := by decide +kernel
theorem dL_law_932 : decode cL_law 932 = .ok (.iconst 0, 1) := by decide +kernel
theorem dL_law_933 : decode cL_law 933 = .ok (.ireturn, 1) := by decide +kernel
theorem dL_law_934 : decode cL_law 934 = .ok (.iinc 15 1, 3) := by decide +kernel
theorem dL_law_937 : decode cL_law 937 = .ok (.goto (-40), 3) := by decide +kernel
theorem dL_law_940 : decode cL_law 940 = .ok (.iinc 13 1, 3) := by decide +kernel
theorem dL_law_943 : decode cL_law 943 = .ok (.goto (-100), 3) := by decide +kernel
theorem dL_law_946 : decode cL_law 946 = .ok (.iinc 12 1, 3) := by decide +kernel
theorem dL_law_949 : decode cL_law 949 = .ok (.goto (-116), 3) := by decide +kernel
theorem dL_law_952 : decode cL_law 952 = .ok (.iload 11, 2) := by decide +kernel
theorem dL_law_954 : decode cL_law 954 = .ok (.ifCond .le 9, 3) := by decide +kernel
theorem dL_law_957 : decode cL_law 957 = .ok (.iload 8, 2) := by decide +kernel
theorem dL_law_959 : decode cL_law 959 = .ok (.iconst 1, 1) := by decide +kernel
theorem dL_law_960 : decode cL_law 960 = .ok (.if_icmp .eq 24, 3) := by decide +kernel
theorem dL_law_963 : decode cL_law 963 = .ok (.aload_n 2, 1) := by decide +kernel
theorem dL_law_964 : decode cL_law 964 = .ok (.iconst 0, 1) := by decide +kernel
theorem dL_law_965 : decode cL_law 965 = .ok (.iload 11, 2) := by decide +kernel
theorem dL_law_967 : decode cL_law 967 = .ok (.iconst 0, 1) := by decide +kernel
theorem dL_law_968 : decode cL_law 968 = .ok (.invokevirtual 172, 3) := by decide +kernel
theorem dL_law_971 : decode cL_law 971 = .ok (.iconst (-1), 1) := by decide +kernel
theorem dL_law_972 : decode cL_law 972 = .ok (.if_icmp .ne 12, 3) := by decide +kernel
theorem dL_law_975 : decode cL_law 975 = .ok (.aload_n 2, 1) := by decide +kernel
theorem dL_law_976 : decode cL_law 976 = .ok (.invokevirtual 98, 3) := by decide +kernel
theorem dL_law_979 : decode cL_law 979 = .ok (.bipush 6, 2) := by decide +kernel
theorem dL_law_981 : decode cL_law 981 = .ok (.if_icmp .eq 5, 3) := by decide +kernel
theorem dL_law_984 : decode cL_law 984 = .ok (.iconst 0, 1) := by decide +kernel
theorem dL_law_985 : decode cL_law 985 = .ok (.ireturn, 1) := by decide +kernel
theorem dL_law_986 : decode cL_law 986 = .ok (.aload_n 2, 1) := by decide +kernel
theorem dL_law_987 : decode cL_law 987 = .ok (.iconst 0, 1) := by decide +kernel
theorem dL_law_988 : decode cL_law 988 = .ok (.iconst 0, 1) := by decide +kernel
theorem dL_law_989 : decode cL_law 989 = .ok (.iconst 0, 1) := by decide +kernel
theorem dL_law_990 : decode cL_law 990 = .ok (.invokevirtual 67, 3) := by decide +kernel
theorem dL_law_993 : decode cL_law 993 = .ok (.iconst (-1), 1) := by decide +kernel
theorem dL_law_994 : decode cL_law 994 = .ok (.if_icmp .ne 72, 3) := by decide +kernel
theorem dL_law_997 : decode cL_law 997 = .ok (.aload_n 2, 1) := by decide +kernel
theorem dL_law_998 : decode cL_law 998 = .ok (.invokevirtual 98, 3) := by decide +kernel
theorem dL_law_1001 : decode cL_law 1001 = .ok (.iconst 5, 1) := by decide +kernel
theorem dL_law_1002 : decode cL_law 1002 = .ok (.if_icmp .ne 64, 3) := by decide +kernel
theorem dL_law_1005 : decode cL_law 1005 = .ok (.aload_n 2, 1) := by decide +kernel
theorem dL_law_1006 : decode cL_law 1006 = .ok (.iconst 3, 1) := by decide +kernel
theorem dL_law_1007 : decode cL_law 1007 = .ok (.iconst 0, 1) := by decide +kernel
theorem dL_law_1008 : decode cL_law 1008 = .ok (.invokevirtual 64, 3) := by decide +kernel
theorem dL_law_1011 : decode cL_law 1011 = .ok (.iconst (-1), 1) := by decide +kernel
theorem dL_law_1012 : decode cL_law 1012 = .ok (.if_icmp .ne 54, 3) := by decide +kernel
theorem dL_law_1015 : decode cL_law 1015 = .ok (.aload_n 2, 1) := by decide +kernel
theorem dL_law_1016 : decode cL_law 1016 = .ok (.invokevirtual 98, 3) := by decide +kernel
theorem dL_law_1019 : decode cL_law 1019 = .ok (.iconst 1, 1) := by decide +kernel
theorem dL_law_1020 : decode cL_law 1020 = .ok (.if_icmp .ne 46, 3) := by decide +kernel
theorem dL_law_1023 : decode cL_law 1023 = .ok (.aload_n 2, 1) := by decide +kernel
theorem dL_law_1024 : decode cL_law 1024 = .ok (.iconst 0, 1) := by decide +kernel
theorem dL_law_1025 : decode cL_law 1025 = .ok (.iconst 1, 1) := by decide +kernel
theorem dL_law_1026 : decode cL_law 1026 = .ok (.iload_n 3, 1) := by decide +kernel
theorem dL_law_1027 : decode cL_law 1027 = .ok (.ishl, 1) := by decide +kernel
theorem dL_law_1028 : decode cL_law 1028 = .ok (.invokevirtual 163, 3) := by decide +kernel
theorem dL_law_1031 : decode cL_law 1031 = .ok (.iconst (-1), 1) := by decide +kernel
theorem dL_law_1032 : decode cL_law 1032 = .ok (.if_icmp .ne 34, 3) := by decide +kernel
theorem dL_law_1035 : decode cL_law 1035 = .ok (.aload_n 2, 1) := by decide +kernel
theorem dL_law_1036 : decode cL_law 1036 = .ok (.invokevirtual 98, 3) := by decide +kernel
theorem dL_law_1039 : decode cL_law 1039 = .ok (.iconst 2, 1) := by decide +kernel
theorem dL_law_1040 : decode cL_law 1040 = .ok (.if_icmp .ne 26, 3) := by decide +kernel
theorem dL_law_1043 : decode cL_law 1043 = .ok (.aload_n 2, 1) := by decide +kernel
theorem dL_law_1044 : decode cL_law 1044 = .ok (.iconst 0, 1) := by decide +kernel
theorem dL_law_1045 : decode cL_law 1045 = .ok (.iconst 0, 1) := by decide +kernel
theorem dL_law_1046 : decode cL_law 1046 = .ok (.iconst 4, 1) := by decide +kernel
theorem dL_law_1047 : decode cL_law 1047 = .ok (.invokevirtual 124, 3) := by decide +kernel
theorem dL_law_1050 : decode cL_law 1050 = .ok (.iconst (-1), 1) := by decide +kernel
theorem dL_law_1051 : decode cL_law 1051 = .ok (.if_icmp .ne 15, 3) := by decide +kernel
theorem dL_law_1054 : decode cL_law 1054 = .ok (.aload_n 2, 1) := by decide +kernel
theorem dL_law_1055 : decode cL_law 1055 = .ok (.invokevirtual 98, 3) := by decide +kernel
theorem dL_law_1058 : decode cL_law 1058 = .ok (.iconst 2, 1) := by decide +kernel
theorem dL_law_1059 : decode cL_law 1059 = .ok (.if_icmp .ne 7, 3) := by decide +kernel
theorem dL_law_1062 : decode cL_law 1062 = .ok (.iconst 1, 1) := by decide +kernel
theorem dL_law_1063 : decode cL_law 1063 = .ok (.goto 4, 3) := by decide +kernel
theorem dL_law_1066 : decode cL_law 1066 = .ok (.iconst 0, 1) := by decide +kernel
theorem dL_law_1067 : decode cL_law 1067 = .ok (.ireturn, 1) := by decide +kernel
